/-! reading the text: what comes out -/
def rsc (tx : Nat → Int) (len : Nat) : Nat := (dgt tx len 1).toNat
def rM (tx : Nat → Int) (len : Nat) : Nat := pf (gMo tx len (rsc tx len)) 3
def rps (tx : Nat → Int) (len : Nat) : Nat := PS (rsc tx len) (rM tx len)
def rit (tx : Nat → Int) (len : Nat) : Nat → Int := gI tx len (rsc tx len) (rM tx len) (rps tx len + 1)
def rk (tx : Nat → Int) (len : Nat) : Nat := pf (rit tx len) 40
def rn (tx : Nat → Int) (len : Nat) : Nat := if chr tx len (rps tx len) = 58 then rk tx len else 0
def rE (tx : Nat → Int) (len : Nat) : Int :=
  if chr tx len 0 ≠ 65 then 0 else if ¬ (2 ≤ dgt tx len 1 ∧ dgt tx len 1 ≤ 8) then 1
  else if rM tx len < 3 ∧ chr tx len (rps tx len) = 109 then (rps tx len : Int) + 1 + cfm tx len (rsc tx len) (rM tx len)
  else if rM tx len = 0 then (rps tx len : Int) else if chr tx len (rps tx len) = -1 then -9
  else if chr tx len (rps tx len) ≠ 58 then (rps tx len : Int)
  else if rk tx len = 0 ∨ chr tx len (rps tx len + 1 + rk tx len) ≠ -1 then (rps tx len : Int) + 1 + rk tx len else -9
theorem fz_ok {g : Nat → Int} : ∀ {n : Nat}, fz g n = -9 ∨ (0 ≤ fz g n ∧ fz g n < n) := by
  intro n
  induction n with
  | zero => exact Or.inl rfl
  | succ n ih =>
    by_cases e : fz g n = -9
    · by_cases e2 : g n = 0
      · have := fz_found e e2 (d := 0)
        rw [show n + 1 + 0 = n + 1 by omega] at this
        rw [this]
        omega
      · exact Or.inl (fz_none e e2)
    · have : fz g (n + 1) = fz g n := if_neg e
      rw [this]
      omega
/-- what was read, as a page -/
def rPage (tx : Nat → Int) (len : Nat) : zP := (tr 24 (cR tx len (rsc tx len) (rM tx len)), tr (rn tx len) (rit tx len), (rn tx len : Int), tr 0 (fun _ => 0), tr 0 (fun _ => 0), 0, 0, 512, 512)
theorem cf_dig {d : Nat → Int} {sc : Nat} (h : cf d sc = -9) : (∀ j, j < 2 * sc → d j ≠ -9) ∧ (1 ≤ sc → sm d (2 * sc) ≠ 0) := by
  have ha := fz_all h
  refine ⟨fun j hj e => ?_, fun hs e => ?_⟩
  · exact ha j hj (by unfold gk; rw [if_pos e])
  · have h1 := ha (2 * sc - 1) (by omega)
    apply h1
    have e2 : sm d (2 * sc - 1) + d (2 * sc - 1) = 0 := by
      rw [← e, show 2 * sc = 2 * sc - 1 + 1 by omega]
      rfl
    unfold gk
    split
    · rfl
    · rw [if_pos ⟨by omega, e2⟩]
theorem cnt_sum {d c : Nat → Int} {sc : Nat} (hd : ∀ j, j < 2 * sc → 0 ≤ d j) (hc : ∀ s, s < sc → c s = cnt d s) : ∀ {n : Nat}, n ≤ sc → 0 ≤ sm d (2 * n) ∧ sm d (2 * n) ≤ sm c n := by
  intro n
  induction n with
  | zero => intro _; exact ⟨Int.le_refl 0, Int.le_refl 0⟩
  | succ n ih =>
    intro hn
    have h1 := ih (by omega)
    have h2 := hd (2 * n) (by omega)
    have h3 := hd (2 * n + 1) (by omega)
    have h4 := hc n (by omega)
    rw [show 2 * (n + 1) = 2 * n + 1 + 1 by omega]
    show 0 ≤ sm d (2 * n) + d (2 * n) + d (2 * n + 1) ∧ sm d (2 * n) + d (2 * n) + d (2 * n + 1) ≤ sm c n + c n
    unfold cnt at h4
    omega
theorem gM_ok {tx : Nat → Int} {len sc m : Nat} (h : gMo tx len sc m ≠ -9) : chr tx len (PS sc m) = 109 ∧ cf (dm tx len sc m) sc = -9 := by
  unfold gMo at h
  by_cases e : chr tx len (PS sc m) = 109 ∧ cfm tx len sc m = -9
  · exact e
  · rw [if_neg e] at h; exact absurd rfl h
theorem rE_ok {tx : Nat → Int} {len : Nat} (h : rE tx len = -9) : (2 ≤ rsc tx len ∧ rsc tx len ≤ 8) ∧ (1 ≤ rM tx len ∧ rM tx len ≤ 3) ∧ rn tx len ≤ 40 := by
  have l3 : rM tx len ≤ 3 := pf_le
  have l40 : rk tx len ≤ 40 := pf_le
  have ln : rn tx len ≤ 40 := by unfold rn; split <;> omega
  unfold rE at h
  split at h
  · exact absurd h (by decide)
  split at h
  · exact absurd h (by decide)
  rename_i c2
  have hs : 2 ≤ rsc tx len ∧ rsc tx len ≤ 8 := by unfold rsc; omega
  split at h
  · rename_i c3
    have := fz_ok (g := gk (dm tx len (rsc tx len) (rM tx len)) (rsc tx len)) (n := 2 * rsc tx len)
    by_cases e : cfm tx len (rsc tx len) (rM tx len) = -9
    · have : gMo tx len (rsc tx len) (rM tx len) ≠ -9 := by
        unfold gMo
        rw [if_pos ⟨c3.2, e⟩]
        decide
      exfalso
      have e2 : pf (gMo tx len (rsc tx len)) (rM tx len) = rM tx len := by
        have hm : ∀ n, pf (gMo tx len (rsc tx len)) (pf (gMo tx len (rsc tx len)) n) = pf (gMo tx len (rsc tx len)) n := by
          intro n
          induction n with
          | zero => rfl
          | succ n ih =>
            by_cases q : pf (gMo tx len (rsc tx len)) n = n ∧ gMo tx len (rsc tx len) n ≠ -9
            · rw [show pf (gMo tx len (rsc tx len)) (n + 1) = n + 1 from if_pos q]
              exact if_pos q
            · rw [show pf (gMo tx len (rsc tx len)) (n + 1) = pf (gMo tx len (rsc tx len)) n from if_neg q]
              exact ih
        exact hm 3
      have e3 := pf_go e2 this
      have : ∀ n, n ≤ 3 → pf (gMo tx len (rsc tx len)) n ≤ rM tx len := by
        intro n hn
        have mono : ∀ a d, pf (gMo tx len (rsc tx len)) a ≤ pf (gMo tx len (rsc tx len)) (a + d) := by
          intro a d
          induction d with
          | zero => exact Nat.le_refl _
          | succ d ih =>
            have l1 : pf (gMo tx len (rsc tx len)) (a + d) ≤ a + d := pf_le
            show _ ≤ (if pf (gMo tx len (rsc tx len)) (a + d) = a + d ∧ gMo tx len (rsc tx len) (a + d) ≠ -9 then a + d + 1 else pf (gMo tx len (rsc tx len)) (a + d))
            split <;> omega
        have := mono n (3 - n)
        rw [show n + (3 - n) = 3 by omega] at this
        exact this
      have := this (rM tx len + 1) (by omega)
      omega
    · have e9 : cfm tx len (rsc tx len) (rM tx len) = fz (gk (dm tx len (rsc tx len) (rM tx len)) (rsc tx len)) (2 * rsc tx len) := rfl
      omega
  split at h
  · omega
  rename_i c4
  exact ⟨hs, ⟨by omega, l3⟩, ln⟩
theorem rPage_ok {tx : Nat → Int} {len : Nat} (h : rE tx len = -9) : VP (rsc tx len) (rM tx len) (rPage tx len) := by
  obtain ⟨hs, hm, hn⟩ := rE_ok h
  have hg : ∀ m, m < rM tx len → cf (dm tx len (rsc tx len) m) (rsc tx len) = -9 := fun m hm => (gM_ok (pf_all hm)).2
  have hd : ∀ m, m < rM tx len → ∀ j, j < 2 * rsc tx len → 0 ≤ dm tx len (rsc tx len) m j ∧ dm tx len (rsc tx len) m j ≤ 9 := by
    intro m hm j hj
    have h1 := (cf_dig (hg m hm)).1 j hj
    have h2 := dgt_ok (tx := tx) (len := len) (pos := PS (rsc tx len) m + 1 + j)
    have h3 : dm tx len (rsc tx len) m j = dgt tx len (PS (rsc tx len) m + 1 + j) := rfl
    omega
  have hcR : ∀ j, j < 24 → tr 24 (cR tx len (rsc tx len) (rM tx len)) j = cR tx len (rsc tx len) (rM tx len) j := fun j hj => tr_at hj
  refine ⟨⟨⟨by omega, hs.2, hm.1, hm.2⟩, fun j hj => ?_, fun m s h1 h2 h3 => ?_, fun m h1 => ?_⟩, ⟨show (0 : Int) ≤ (rn tx len : Int) by omega, show (rn tx len : Int) ≤ 40 by omega⟩, fun j hj => ?_, ⟨show (0 : Int) ≤ 0 by decide, show (0 : Int) ≤ 40 by decide⟩, ⟨show (0 : Int) ≤ 0 by decide, show (0 : Int) ≤ 80 by decide⟩, fun j hj => ?_, fun j hj => ?_, ⟨show (512 : Int) ≤ 512 by decide, show (512 : Int) ≤ 8191 by decide⟩, show (512 : Int) ≤ 512 by decide, show (512 : Int) ≤ 8191 by decide⟩
  · show 0 ≤ tr 24 (cR tx len (rsc tx len) (rM tx len)) j ∧ tr 24 (cR tx len (rsc tx len) (rM tx len)) j ≤ 99
    rw [hcR j hj]
    unfold cR
    split
    · rename_i q
      have a1 := hd (j / 8) q.1 (2 * (j % 8)) (by omega)
      have a2 := hd (j / 8) q.1 (2 * (j % 8) + 1) (by omega)
      unfold cnt
      omega
    · omega
  · show tr 24 (cR tx len (rsc tx len) (rM tx len)) (8 * m + s) = 0
    rw [hcR _ (by omega)]
    unfold cR
    rw [if_neg (by omega)]
  · have e1 : ∀ s, s < rsc tx len → cm (rPage tx len).1 m s = cnt (dm tx len (rsc tx len) m) s := by
      intro s hs1
      rw [cm_at (by omega)]
      show tr 24 (cR tx len (rsc tx len) (rM tx len)) (8 * m + s) = _
      rw [hcR _ (by omega)]
      unfold cR
      rw [if_pos (by omega), show (8 * m + s) / 8 = m by omega, show (8 * m + s) % 8 = s by omega]
    have e2 := cnt_sum (fun j hj => (hd m h1 j hj).1) e1 (Nat.le_refl _)
    have e3 := (cf_dig (hg m h1)).2 (by omega)
    have e4 : sm (cm (rPage tx len).1 m) (rsc tx len + (8 - rsc tx len)) = sm (cm (rPage tx len).1 m) (rsc tx len) := by
      refine sm_tail (fun j h2 h3 => ?_)
      rw [cm_at (by omega)]
      show tr 24 (cR tx len (rsc tx len) (rM tx len)) (8 * m + j) = _
      rw [hcR _ (by omega)]
      unfold cR
      rw [if_neg (by omega)]
    rw [show rsc tx len + (8 - rsc tx len) = 8 by omega] at e4
    omega
  · have hj' : j < rn tx len := by
      have : (j : Int) < (rn tx len : Int) := hj
      omega
    show (0 ≤ tr (rn tx len) (rit tx len) j ∧ _) ∨ _
    rw [show (rPage tx len).2.1 j = rit tx len j from tr_at hj', tr_at hj']
    have e : rit tx len j ≠ -9 := by
      unfold rn at hj'
      split at hj'
      · exact pf_all hj'
      · omega
    have := itc_ok (sc := rsc tx len) (mc := rM tx len) (c := chr tx len (rps tx len + 1 + j))
    have e2 : rit tx len j = itc (rsc tx len) (rM tx len) (chr tx len (rps tx len + 1 + j)) := rfl
    omega
  · have : (j : Int) < 0 := hj
    omega
  · have : (j : Int) < 0 := hj
    omega
/-- what the class holds of it -/
def TO (h : zH) (p : Nat) (tx : Nat → Int) (len : Nat) : Prop := h p 4 = (rsc tx len : Int) ∧ h p 5 = (rM tx len : Int) ∧ h p 6 = (rn tx len : Int) ∧ (∀ b, b < 24 → h (p + 2) b = cR tx len (rsc tx len) (rM tx len) b) ∧ ∀ j, j < rn tx len → h (p + 3) j = rit tx len j
theorem s_read {p len : Nat} {tx : Nat → Int} {h : zH} {K : Int → zH → Prop} (hT : Ct h p len tx)
    (hk : ∀ h', (∀ a b, ¬ (a = p ∧ 4 ≤ b) → a ≠ p + 2 → a ≠ p + 3 → h' a b = h a b) → (rE tx len = -9 → TO h' p tx len) → K (rE tx len) h') : M_Text_read p h K := by
  unfold M_Text_read
  rintro h1 rfl h2 rfl h3 rfl h4 rfl
  refine yp1 24 (fun i h' => (∀ b, b < i → h' (p + 2) b = 0) ∧ h' p 7 = 0 ∧ h' p 5 = 0 ∧ h' p 6 = 0 ∧ ∀ a b, ¬ (a = p ∧ 4 ≤ b) → a ≠ p + 2 → h' a b = h a b) ⟨fun b hb => by omega, ?_, ?_, ?_, fun a b q _ => ?_⟩ ?_
  · rw [zs_j (by omega), zs_j (by omega), zs_j (by omega), zs_eq]
  · rw [zs_j (by omega), zs_eq]
  · rw [zs_eq]
  · unfold zs
    rw [if_neg (by omega), if_neg (by omega), if_neg (by omega), if_neg (by omega)]
  rintro i h5 L hi ⟨g2, g7, g5, g6, hF⟩ hL
  show F_Text_read_22 K L p (i : Int) h5
  unfold F_Text_read_22
  refine ⟨fun c => ?_, fun c => ⟨by omega, ?_⟩⟩
  case refine_2 =>
    rw [Int.toNat_natCast]
    rintro h6 rfl
    refine ⟨by omega, hL _ (by omega) ⟨fun b hb => ?_, ?_, ?_, ?_, fun a b q1 q2 => ?_⟩⟩
    · by_cases e : b = i
      · rw [e, zs_eq]
      · rw [zs_j e, g2 b (by omega)]
    · rw [zs_k (by omega), g7]
    · rw [zs_k (by omega), g5]
    · rw [zs_k (by omega), g6]
    · rw [zs_k q2, hF a b q1 q2]
  have ei : i = 24 := by omega
  subst ei
  clear hL
  have hT5 : Ct h5 p len tx := Ct_keep hT (hF _ _ (by omega) (by omega)) (fun j => hF _ _ (by omega) (by omega))
  have eE : rE tx len = if chr tx len 0 ≠ 65 then 0 else if ¬ (2 ≤ dgt tx len 1 ∧ dgt tx len 1 ≤ 8) then 1
    else if rM tx len < 3 ∧ chr tx len (rps tx len) = 109 then (rps tx len : Int) + 1 + cfm tx len (rsc tx len) (rM tx len)
    else if rM tx len = 0 then (rps tx len : Int) else if chr tx len (rps tx len) = -1 then -9
    else if chr tx len (rps tx len) ≠ 58 then (rps tx len : Int)
    else if rk tx len = 0 ∨ chr tx len (rps tx len + 1 + rk tx len) ≠ -1 then (rps tx len : Int) + 1 + rk tx len else -9 := rfl
  have hk' : ∀ v h', v = rE tx len → (∀ a b, ¬ (a = p ∧ 4 ≤ b) → a ≠ p + 2 → a ≠ p + 3 → h' a b = h a b) → (rE tx len = -9 → TO h' p tx len) → K v h' := fun v h' e a b => e ▸ hk h' a b
  clear hk
  refine s_readSize hT5 g7 (fun r h6 fF out => ?_)
  have hF6 : ∀ a b, ¬ (a = p ∧ 4 ≤ b) → a ≠ p + 2 → h6 a b = h a b := fun a b q1 q2 => (fF a b (by omega)).trans (hF a b q1 q2)
  rcases out with ⟨o1, rfl, o3⟩ | ⟨o1, o2, rfl, o3⟩ | ⟨o1, o2, rfl, o3, o4⟩
  · refine ⟨fun _ => hk' _ _ ?_ (fun a b q1 q2 _ => hF6 a b q1 q2) (fun q => ?_), fun c => absurd rfl c⟩
    · rw [o3, eE, if_pos o1]
    · rw [eE, if_pos o1] at q; exact absurd q (by decide)
  · refine ⟨fun _ => hk' _ _ ?_ (fun a b q1 q2 _ => hF6 a b q1 q2) (fun q => ?_), fun c => absurd rfl c⟩
    · rw [o3, eE, if_neg (fun q => q o1), if_pos o2]
    · rw [eE, if_neg (fun q => q o1), if_pos o2] at q; exact absurd q (by decide)
  refine ⟨fun c => absurd c (by decide), fun _ => ?_⟩
  rw [if_neg (fun q => q o1), if_neg (fun q => q o2)] at eE
  have hs : (rsc tx len : Int) = dgt tx len 1 := by unfold rsc; omega
  have hT6 : Ct h6 p len tx := Ct_keep hT (hF6 _ _ (by omega) (by omega)) (fun j => hF6 _ _ (by omega) (by omega))
  refine s_readModels (sc := rsc tx len) hT6 o3 ((fF _ _ (by omega)).trans g5) (by omega) (o4.trans hs.symm) (fun b hb => (fF _ _ (by omega)).trans (g2 b hb)) (fun r h7 M eM fF7 out => ?_)
  have eM' : M = rM tx len := eM
  subst eM'
  have hF7 : ∀ a b, ¬ (a = p ∧ 4 ≤ b) → a ≠ p + 2 → h7 a b = h a b := fun a b q1 q2 => (fF7 a b (by omega) q2).trans (hF6 a b q1 q2)
  have eps : PS (rsc tx len) (rM tx len) = rps tx len := rfl
  rw [eps] at out
  have l3 : rM tx len ≤ 3 := pf_le
  have hPS := PS_le (show rsc tx len ≤ 8 by omega) (m := rM tx len)
  rw [eps] at hPS
  rcases out with ⟨o5, o6, rfl, o7⟩ | ⟨o5, o6, rfl, o7⟩ | ⟨o5, o6, rfl, o7, o8, o9⟩
  · rw [if_pos o5] at eE
    refine ⟨fun _ => hk' _ _ (by rw [o7, eE]) (fun a b q1 q2 _ => hF7 a b q1 q2) (fun q => ?_), fun c => absurd rfl c⟩
    have := fz_ok (g := gk (dm tx len (rsc tx len) (rM tx len)) (rsc tx len)) (n := 2 * rsc tx len)
    have e9 : cfm tx len (rsc tx len) (rM tx len) = fz (gk (dm tx len (rsc tx len) (rM tx len)) (rsc tx len)) (2 * rsc tx len) := rfl
    omega
  · rw [if_neg o5, if_pos o6] at eE
    refine ⟨fun _ => hk' _ _ (by rw [o7, eE]) (fun a b q1 q2 _ => hF7 a b q1 q2) (fun q => ?_), fun c => absurd rfl c⟩
    omega
  refine ⟨fun c => absurd c (by decide), fun _ => ?_⟩
  rw [if_neg o5, if_neg o6] at eE
  have hT7 : Ct h7 p len tx := Ct_keep hT (hF7 _ _ (by omega) (by omega)) (fun j => hF7 _ _ (by omega) (by omega))
  have e4 : h7 p 4 = (rsc tx len : Int) := by rw [fF7 _ _ (by omega) (by omega), o4, hs]
  refine s_readItems (sc := rsc tx len) (mc := rM tx len) hT7 (by omega) o7 ?_ (by omega) l3 e4 o8 (fun r h8 n en fF8 out => ?_)
  · rw [fF7 _ _ (by omega) (by omega), fF _ _ (by omega), g6]
  have en' : n = rk tx len := en
  rw [en'] at out

  have hF8 : ∀ a b, ¬ (a = p ∧ 4 ≤ b) → a ≠ p + 2 → a ≠ p + 3 → h8 a b = h a b := fun a b q1 q2 q3 => (fF8 a b (by omega) q3).trans (hF7 a b q1 q2)
  have f4 : h8 p 4 = (rsc tx len : Int) := (fF8 _ _ (by omega) (by omega)).trans e4
  have f5 : h8 p 5 = (rM tx len : Int) := (fF8 _ _ (by omega) (by omega)).trans o8
  have fc : ∀ b, b < 24 → h8 (p + 2) b = cR tx len (rsc tx len) (rM tx len) b := fun b hb => (fF8 _ _ (by omega) (by omega)).trans (o9 b hb)
  have ern : rn tx len = if chr tx len (rps tx len) = 58 then rk tx len else 0 := rfl
  rcases out with ⟨o10, rfl, o11⟩ | ⟨o10, o10', rfl, o11⟩ | ⟨o10, o11, rfl, o12⟩ | ⟨o10, o11, rfl, o12, o13⟩
  · rw [if_pos o10] at eE
    rw [if_neg (by omega)] at ern
    refine ⟨fun c => absurd c (by decide), fun _ => hk' _ _ eE.symm hF8 (fun _ => ⟨f4, f5, by rw [o11, ern]; rfl, fc, fun j hj => by omega⟩)⟩
  · rw [if_neg o10, if_pos o10'] at eE
    refine ⟨fun _ => hk' _ _ (by rw [o11, eE]) hF8 (fun q => by omega), fun c => absurd rfl c⟩
  · rw [if_neg (by omega), if_neg (by omega), if_pos o11] at eE
    refine ⟨fun _ => hk' _ _ (by rw [o12, eE]) hF8 (fun q => by omega), fun c => absurd rfl c⟩
  · rw [if_neg (by omega), if_neg (by omega), if_neg (by omega)] at eE
    rw [if_pos o10] at ern
    refine ⟨fun c => absurd c (by decide), fun _ => hk' _ _ eE.symm hF8 (fun _ => ⟨f4, f5, by rw [o12, ern], fc, fun j hj => o13 j (by omega)⟩)⟩

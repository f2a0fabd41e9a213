/-! reading the text: the reference -/
def Rt (h : zH) (p len : Nat) (tx : Nat → Int) : Prop := h p 2 = (len : Int) ∧ len ≤ 100 ∧ (∀ j, j < len → h (p + 1) j = tx j) ∧ ∀ j, j < len → 0 ≤ tx j ∧ tx j ≤ 255
theorem rchr_ok {h : zH} {p len : Nat} {tx : Nat → Int} (hT : Rt h p len tx) (pos : Nat) : (chr tx len pos = -1 ∧ len ≤ pos) ∨ (0 ≤ chr tx len pos ∧ chr tx len pos ≤ 255 ∧ pos < len) := by
  unfold chr
  split
  · have := hT.2.2.2 pos (by assumption); omega
  · omega
theorem Rt_keep {h h' : zH} {p len : Nat} {tx : Nat → Int} (hT : Rt h p len tx) (e : h' p 2 = h p 2) (e1 : ∀ j, h' (p + 1) j = h (p + 1) j) : Rt h' p len tx :=
  ⟨e.trans hT.1, hT.2.1, fun j hj => (e1 j).trans (hT.2.2.1 j hj), hT.2.2.2⟩
def nx (c b : Int) : Int := if c = -1 then -9 else c - b
theorem s_next {p len pos : Nat} {tx : Nat → Int} {h : zH} {K : Int → zH → Prop} {b : Int} (hb : 0 ≤ b ∧ b ≤ 255) (hT : Rt h p len tx) (ep : h p 3 = (pos : Int)) (hk : K (nx (chr tx len pos) b) h) : M_RM_next p b h K := by
  have hc := rchr_ok hT pos
  obtain ⟨e2, l100, hx, -⟩ := hT
  unfold M_RM_next
  rw [ep, e2]
  simp only [Int.toNat_natCast]
  refine ⟨fun c => ?_, fun c => ⟨by omega, ?_⟩⟩
  · rw [show nx (chr tx len pos) b = -9 from if_pos (by omega)] at hk; exact hk
  · rw [hx pos (by omega)]
    have e : chr tx len pos = tx pos := if_pos (by omega)
    rw [show nx (chr tx len pos) b = tx pos - b from (if_neg (by omega)).trans (by rw [e])] at hk
    rw [e] at hc
    exact ⟨by omega, hk⟩
theorem s_in {x lo hi : Int} {h : zH} {K : Int → zH → Prop} (h1 : lo ≤ x ∧ x ≤ hi → K 1 h) (h0 : ¬ (lo ≤ x ∧ x ≤ hi) → K 0 h) : M_RM_in x lo hi h K := by
  unfold M_RM_in
  exact ⟨fun c => h0 (by omega), fun c => ⟨fun c2 => h0 (by omega), fun c2 => h1 (by omega)⟩⟩
theorem s_accepts {p pos : Nat} {u : Int} {h : zH} {K : Int → zH → Prop} (hu : u = 0 ∨ u = 1) (hpos : pos ≤ 1000) (ep : h p 3 = (pos : Int)) (hk : K u (zs h p 3 ((pos : Int) + u))) : M_RM_accepts p u h K := by
  unfold M_RM_accepts
  rw [ep]
  refine ⟨fun c => ⟨by omega, ?_⟩, fun c => ⟨by omega, ?_⟩⟩
  · rintro h1 rfl
    rw [c] at hk ⊢
    exact ⟨by omega, hk⟩
  · have e : u = 1 := by omega
    rintro h1 rfl
    rw [e] at hk ⊢
    exact ⟨by omega, hk⟩
theorem s_refused {p : Nat} {u : Int} {h : zH} {K : Int → zH → Prop} (h1 : 0 < u → K 1 (zs h p 0 u)) (h0 : u ≤ 0 → K 0 (zs h p 0 u)) : M_RM_refused p u h K := by
  unfold M_RM_refused
  rintro h1 rfl
  exact ⟨h0, h1⟩
/-- a digit as the reference sees it -/
theorem nx_dgt {h : zH} {p len pos : Nat} {tx : Nat → Int} (hT : Rt h p len tx) : ((0 ≤ nx (chr tx len pos) 48 ∧ nx (chr tx len pos) 48 ≤ 9) ∧ dgt tx len pos = nx (chr tx len pos) 48 ∧ pos < len) ∨ (¬ (0 ≤ nx (chr tx len pos) 48 ∧ nx (chr tx len pos) 48 ≤ 9) ∧ dgt tx len pos = -9) := by
  have hc := rchr_ok hT pos
  unfold dgt nx
  split <;> split <;> omega
theorem s_RreadCounts {p len pos m sc : Nat} {tx : Nat → Int} {h : zH} {K : Int → zH → Prop} (hT : Rt h p len tx) (ep : h p 3 = (pos : Int)) (hpos : pos ≤ 900) (hm : m < 3) (hsc : 1 ≤ sc ∧ sc ≤ 8) (es : h p 6 = (sc : Int)) (em : h p 7 = (m : Int)) (hz : ∀ s, s < 8 → h (p + 2) (8 * m + s) = 0)
    (h1 : cf (fun j => dgt tx len (pos + j)) sc = -9 → pos + 2 * sc ≤ len → ∀ h', h' p 3 = (pos : Int) + 2 * sc → h' p 7 = (m : Int) + 1 → (∀ s, s < sc → h' (p + 2) (8 * m + s) = cnt (fun j => dgt tx len (pos + j)) s) → (∀ a b, ¬ (a = p ∧ (b = 3 ∨ b = 7)) → ¬ (a = p + 2 ∧ 8 * m ≤ b ∧ b < 8 * m + sc) → h' a b = h a b) → K 1 h')
    (h0 : cf (fun j => dgt tx len (pos + j)) sc ≠ -9 → ∀ h', h' p 3 = (pos : Int) + cf (fun j => dgt tx len (pos + j)) sc → (∀ a b, ¬ (a = p ∧ (b = 3 ∨ b = 7)) → a ≠ p + 2 → h' a b = h a b) → K 0 h') : M_RM_readCounts p h K := by
  unfold M_RM_readCounts
  generalize ed : (fun j => dgt tx len (pos + j)) = d at h1 h0
  have hd : ∀ j, d j = dgt tx len (pos + j) := fun j => by rw [← ed]
  clear ed
  refine yp2 (2 * sc) (fun i x h' => h' p 3 = (pos : Int) + i ∧ (x = sm d i ∧ 0 ≤ x ∧ x ≤ 9 * i) ∧ fz (gk d sc) i = -9 ∧ (i ≠ 0 → pos + i ≤ len) ∧ (∀ s, s < sc → h' (p + 2) (8 * m + s) = if 2 * s + 1 < i then cnt d s else if 2 * s < i then d (2 * s) else 0) ∧ (∀ a b, ¬ (a = p ∧ b = 3) → ¬ (a = p + 2 ∧ 8 * m ≤ b ∧ b < 8 * m + sc) → h' a b = h a b)) ⟨by rw [ep]; omega, ⟨rfl, by omega, by omega⟩, rfl, fun q => absurd rfl q, fun s hs => by rw [hz s (by omega), if_neg (by omega), if_neg (by omega)], fun a b _ _ => rfl⟩ ?_
  rintro i x h2 L hi ⟨g3, ⟨b0, b1, b2⟩, gz, gl, gc, hF⟩ hL
  show F_RM_readCounts_4 K L p x (i : Int) h2
  have hT2 : Rt h2 p len tx := Rt_keep hT (hF _ _ (by omega) (by omega)) (fun j => hF _ _ (by omega) (by omega))
  have es2 : h2 p 6 = (sc : Int) := (hF _ _ (by omega) (by omega)).trans es
  have em2 : h2 p 7 = (m : Int) := (hF _ _ (by omega) (by omega)).trans em
  unfold F_RM_readCounts_4
  rw [es2, em2]
  refine ⟨by omega, fun c => ⟨by omega, ?_⟩, fun c => ?_⟩
  · have ei : i = 2 * sc := by omega
    subst ei
    rintro h3 rfl
    refine h1 gz (gl (by omega)) _ ?_ zs_eq (fun s hs => ?_) (fun a b q1 q2 => ?_)
    · rw [zs_j (by omega), g3]; omega
    · rw [zs_k (by omega), gc s hs, if_pos (by omega)]
    · rw [← hF a b (by omega) q2]
      unfold zs
      rw [if_neg (by omega)]
  have g3' : h2 p 3 = ((pos + i : Nat) : Int) := by rw [g3]; omega
  refine s_next (by decide) hT2 g3' ?_
  have nd := nx_dgt (pos := pos + i) hT2
  rw [← hd i] at nd
  generalize nx (chr tx len (pos + i)) 48 = v at *
  have s1 : sm d (i + 1) = sm d i + d i := rfl
  rw [es2]
  refine ⟨by omega, by omega, ?_⟩
  have good : gk d sc i ≠ 0 → (0 ≤ v ∧ v ≤ 9) → B_RM_readCounts_69 K L p x (i : Int) v p 1 h2 := by
    intro gg hv
    unfold B_RM_readCounts_69
    refine s_accepts (pos := pos + i) (Or.inr rfl) (by omega) g3' ?_
    refine ⟨fun _ => ?_, fun c => absurd c (by decide)⟩
    rw [zs_j (show 7 ≠ 3 by decide), em2]
    refine ⟨by omega, by omega, by omega, ?_⟩
    rintro x5 rfl
    rw [show (8 * (m : Int) + (i : Int) / 2).toNat = 8 * m + i / 2 by omega, zs_k (show p + 2 ≠ p by omega)]
    have e0 := gc (i / 2) (by omega)
    have ev : 0 ≤ h2 (p + 2) (8 * m + i / 2) ∧ h2 (p + 2) (8 * m + i / 2) ≤ 9 ∧ (i % 2 = 0 → h2 (p + 2) (8 * m + i / 2) = 0) ∧ (i % 2 = 1 → h2 (p + 2) (8 * m + i / 2) = d (2 * (i / 2))) := by
      rw [e0, if_neg (by omega)]
      split
      · have h9 : gk d sc (2 * (i / 2)) ≠ 0 := fz_all gz _ (by omega)
        have h8 : d (2 * (i / 2)) ≠ -9 := fun e => h9 (by unfold gk; rw [if_pos e])
        have h7 := dgt_ok (tx := tx) (len := len) (pos := pos + 2 * (i / 2))
        rw [← hd] at h7
        omega
      · omega
    refine ⟨by omega, by omega, by omega, by omega, ?_⟩
    rintro h4 rfl
    refine ⟨by omega, ?_⟩
    rintro x1 rfl
    refine ⟨by omega, hL _ _ (by omega) ⟨?_, ⟨?_, by omega, by omega⟩, fz_none gz gg, fun _ => by omega, fun s hs => ?_, fun a b q1 q2 => ?_⟩⟩
    · rw [zs_k (by omega), zs_eq]; omega
    · rw [s1]; omega
    · by_cases e : s = i / 2
      · rw [e, zs_eq]
        by_cases e2 : i % 2 = 0
        · rw [if_neg (by omega), if_pos (by omega), show 2 * (i / 2) = i by omega]
          omega
        · rw [if_pos (by omega)]
          unfold cnt
          rw [show 2 * (i / 2) + 1 = i by omega]
          omega
      · rw [zs_j (by omega), zs_k (by omega), gc s hs]
        by_cases e2 : 2 * s + 1 < i
        · rw [if_pos e2, if_pos (by omega)]
        · rw [if_neg e2, if_neg (by omega), if_neg (by omega), if_neg (by omega)]
    · rw [← hF a b q1 q2]
      unfold zs
      rw [if_neg (by omega), if_neg (by omega)]
  have bad : gk d sc i = 0 → B_RM_readCounts_69 K L p x (i : Int) v p 0 h2 := by
    intro gg
    unfold B_RM_readCounts_69
    refine s_accepts (pos := pos + i) (Or.inl rfl) (by omega) g3' ?_
    refine ⟨fun c => absurd rfl c, fun _ => ?_⟩
    have efz : cf d sc = (i : Int) := fz_in gz gg (by omega)
    refine h0 (by omega) _ ?_ (fun a b q1 q2 => ?_)
    · rw [zs_eq, efz]; omega
    · rw [← hF a b (by omega) (by omega)]
      unfold zs
      rw [if_neg (by omega)]
  have all : ∀ u : Int, (u = 0 ∧ i + 1 ≠ 2 * sc) ∨ (u = 1 ∧ i + 1 = 2 * sc) → B_RM_readCounts_38 K L p x (i : Int) v u h2 := by
    intro u hu
    unfold B_RM_readCounts_38 B_RM_readCounts_68 B_RM_readCounts_64
    refine s_in (fun q => ⟨fun c => absurd c (by decide), fun _ => ⟨fun c => good ?_ q, fun c => ⟨by omega, fun c2 => bad ?_, fun c2 => good ?_ q⟩⟩⟩) (fun q => ⟨fun _ => bad ?_, fun c => absurd rfl c⟩)
    · unfold gk; rw [if_neg (by omega), if_neg (by omega)]; decide
    · unfold gk; rw [if_neg (by omega), if_pos (by omega)]
    · unfold gk; rw [if_neg (by omega), if_neg (by omega)]; decide
    · unfold gk; rw [if_pos (by omega)]
  exact ⟨fun c => all 0 (Or.inl ⟨rfl, by omega⟩), fun c => all 1 (Or.inr ⟨rfl, by omega⟩)⟩
theorem nx_item {h : zH} {p len pos sc mc : Nat} {tx : Nat → Int} (hT : Rt h p len tx) (hsc : sc ≤ 8) (hmc : mc ≤ 3) : ((0 ≤ nx (chr tx len pos) 97 ∧ nx (chr tx len pos) 97 ≤ (sc : Int) - 1) ∧ itc sc mc (chr tx len pos) = nx (chr tx len pos) 97 ∧ pos < len) ∨ (¬ (0 ≤ nx (chr tx len pos) 97 ∧ nx (chr tx len pos) 97 ≤ (sc : Int) - 1) ∧ (0 ≤ nx (chr tx len pos) 48 ∧ nx (chr tx len pos) 48 ≤ (mc : Int) - 1) ∧ itc sc mc (chr tx len pos) = 10 + nx (chr tx len pos) 48 ∧ pos < len) ∨ (¬ (0 ≤ nx (chr tx len pos) 97 ∧ nx (chr tx len pos) 97 ≤ (sc : Int) - 1) ∧ ¬ (0 ≤ nx (chr tx len pos) 48 ∧ nx (chr tx len pos) 48 ≤ (mc : Int) - 1) ∧ itc sc mc (chr tx len pos) = -9) := by
  have hc := rchr_ok hT pos
  unfold itc nx
  (repeat' split) <;> omega
theorem s_RreadItems {p len sc mc pos : Nat} (hzl : zln (p + 2) = 193) {tx : Nat → Int} {h : zH} {K : Int → zH → Prop} (hT : Rt h p len tx) (hpos : pos ≤ len) (ep : h p 3 = (pos : Int)) (e6 : h (p + 2) 188 = 0) (hsc : sc ≤ 8) (hmc : mc ≤ 3) (es : h p 6 = (sc : Int)) (em : h p 7 = (mc : Int))
    (hk : ∀ r h' n, n = pf (gI tx len sc mc pos) 40 → (∀ a b, ¬ (a = p ∧ b = 3) → ¬ (a = p + 2 ∧ (b = 188 ∨ (24 ≤ b ∧ b < 64))) → h' a b = h a b) → ((n = 0 ∨ chr tx len (pos + n) ≠ -1) ∧ r = 0 ∧ h' p 3 = (pos : Int) + n) ∨ ((n ≠ 0 ∧ chr tx len (pos + n) = -1) ∧ r = 1 ∧ h' (p + 2) 188 = (n : Int) ∧ ∀ j, j < n → h' (p + 2) (24 + j) = gI tx len sc mc pos j) → K r h') : M_RM_readItems p h K := by
  unfold M_RM_readItems
  refine ypG 40 (fun i h' => h' p 3 = (pos : Int) + i ∧ h' (p + 2) 188 = (i : Int) ∧ pos + i ≤ len ∧ pf (gI tx len sc mc pos) i = i ∧ (∀ j, j < i → h' (p + 2) (24 + j) = gI tx len sc mc pos j) ∧ (∀ a b, ¬ (a = p ∧ b = 3) → ¬ (a = p + 2 ∧ (b = 188 ∨ (24 ≤ b ∧ b < 64))) → h' a b = h a b)) ⟨by rw [ep]; omega, e6, hpos, rfl, fun j hj => by omega, fun a b _ _ => rfl⟩ ?_
  rintro i h2 L hi ⟨g3, g8, gl, gp, gc, hF⟩ hL
  show F_RM_readItems_0 K L p h2
  have hT2 : Rt h2 p len tx := Rt_keep hT (hF _ _ (by omega) (by omega)) (fun j => hF _ _ (by omega) (by omega))
  have es2 : h2 p 6 = (sc : Int) := (hF _ _ (by omega) (by omega)).trans es
  have em2 : h2 p 7 = (mc : Int) := (hF _ _ (by omega) (by omega)).trans em
  have g3' : h2 p 3 = ((pos + i : Nat) : Int) := by rw [g3]; omega
  have hl100 := hT.2.1
  have hch := rchr_ok hT2 (pos + i)
  have ni := nx_item (pos := pos + i) hT2 hsc hmc
  have egi : gI tx len sc mc pos i = itc sc mc (chr tx len (pos + i)) := rfl
  have go : (pos + i < len ∨ i = 0) → B_RM_readItems_22 K L p h2 := by
    intro hor
    have bad : (i = 40 ∨ itc sc mc (chr tx len (pos + i)) = -9) → ∀ r, B_RM_readItems_89 K L p (nx (chr tx len (pos + i)) 97) (nx (chr tx len (pos + i)) 48) r p 0 h2 := by
      intro hb r
      unfold B_RM_readItems_89
      refine s_accepts (pos := pos + i) (Or.inl rfl) (by omega) g3' ?_
      refine ⟨fun c => absurd rfl c, fun _ => ?_⟩
      have en : pf (gI tx len sc mc pos) 40 = i := by
        rcases hb with e | e
        · rw [e] at gp ⊢; exact gp
        · exact pf_at gp e hi
      refine hk 0 _ i en.symm (fun a b q1 q2 => ?_) (Or.inl ⟨by omega, rfl, ?_⟩)
      · rw [← hF a b q1 q2]; unfold zs; rw [if_neg q1]
      · rw [zs_eq]; omega
    have good : i < 40 → itc sc mc (chr tx len (pos + i)) ≠ -9 → ∀ r v, ((r ≠ 0 ∧ v = nx (chr tx len (pos + i)) 97) ∨ (r = 0 ∧ v = 10 + nx (chr tx len (pos + i)) 48)) → v = itc sc mc (chr tx len (pos + i)) → B_RM_readItems_89 K L p (nx (chr tx len (pos + i)) 97) (nx (chr tx len (pos + i)) 48) r p 1 h2 := by
      intro hi40 h9 r v hv hvi
      have hio := itc_ok (sc := sc) (mc := mc) (c := chr tx len (pos + i))
      have key : B_RM_readItems_124 K L p (p + 2) (24 + (i : Int)) v (zs h2 p 3 (((pos + i : Nat) : Int) + 1)) := by
        unfold B_RM_readItems_124
        rw [hzl, show (24 + (i : Int)).toNat = 24 + i by omega]
        refine ⟨by omega, ?_⟩
        rintro h3 rfl
        rw [zs_j (show 188 ≠ 24 + i by omega), zs_k (show p + 2 ≠ p by omega), g8]
        refine ⟨by omega, ?_⟩
        rintro h4 rfl
        refine hL _ (by omega) ⟨?_, ?_, by omega, pf_go gp (by rw [egi]; exact h9), fun j hj => ?_, fun a b q1 q2 => ?_⟩
        · rw [zs_k (by omega), zs_k (by omega), zs_eq]; omega
        · rw [zs_eq]; omega
        · rw [zs_j (by omega)]
          by_cases e : j = i
          · rw [e, zs_eq, hvi]; rfl
          · rw [zs_j (by omega), zs_k (by omega), gc j (by omega)]
        · rw [← hF a b q1 q2]
          unfold zs
          rw [if_neg (by omega), if_neg (by omega), if_neg q1]
      unfold B_RM_readItems_89
      refine s_accepts (pos := pos + i) (Or.inr rfl) (by omega) g3' ?_
      refine ⟨fun _ => ?_, fun c => absurd c (by decide)⟩
      rw [zs_k (show p + 2 ≠ p by omega), g8]
      refine ⟨by omega, fun c => ⟨by omega, ?_⟩, fun c => ?_⟩
      · rw [show 10 + nx (chr tx len (pos + i)) 48 = v by omega]; exact key
      · rw [show nx (chr tx len (pos + i)) 97 = v by omega]; exact key
    unfold B_RM_readItems_22 B_RM_readItems_88 B_RM_readItems_84
    refine s_next (by decide) hT2 g3' (s_next (by decide) hT2 g3' ?_)
    rw [es2]
    refine ⟨by omega, ?_⟩
    refine s_in (fun q => ?_) (fun q => ?_)
    · rw [g8]
      refine ⟨fun c => bad (by omega) _, fun c => ⟨fun _ => good (by omega) (by omega) 1 _ (Or.inl ⟨by decide, rfl⟩) (by omega), fun c2 => absurd c2 (by decide)⟩⟩
    · rw [g8, em2]
      refine ⟨fun c => bad (by omega) _, fun c => ⟨fun c2 => absurd rfl c2, fun _ => ⟨by omega, s_in (fun q2 => ⟨fun c2 => absurd c2 (by decide), fun _ => good (by omega) (by omega) 0 _ (Or.inr ⟨rfl, rfl⟩) (by omega)⟩) (fun q2 => ⟨fun _ => bad (by omega) _, fun c2 => absurd rfl c2⟩)⟩⟩⟩
  unfold F_RM_readItems_0
  rw [g3, g8, hT2.1]
  refine ⟨fun c => go (by omega), fun c => ⟨fun c2 => ?_, fun c2 => go (by omega)⟩⟩
  have c9 : itc sc mc (chr tx len (pos + i)) = -9 := by omega
  exact hk 1 h2 i (pf_at gp c9 hi).symm hF (Or.inr ⟨⟨by omega, by omega⟩, rfl, g8, gc⟩)
/-- what the reference holds of it -/
def TOR (h : zH) (p : Nat) (tx : Nat → Int) (len : Nat) : Prop := h p 6 = (rsc tx len : Int) ∧ h p 7 = (rM tx len : Int) ∧ h (p + 2) 188 = (rn tx len : Int) ∧ (∀ b, b < 24 → h (p + 2) b = cR tx len (rsc tx len) (rM tx len) b) ∧ (∀ j, j < rn tx len → h (p + 2) (24 + j) = rit tx len j) ∧ h (p + 2) 189 = 0 ∧ h (p + 2) 190 = 0
theorem s_readAll {p len : Nat} (hzl : zln (p + 2) = 193) {tx : Nat → Int} {h : zH} {K : Int → zH → Prop} (hT : Rt h p len tx)
    (hk : ∀ r h', (∀ a b, ¬ (a = p ∧ (b = 3 ∨ b = 6 ∨ b = 7)) → a ≠ p + 2 → h' a b = h a b) → (rE tx len = -9 → r = 1 ∧ TOR h' p tx len) → (rE tx len ≠ -9 → r = 0 ∧ h' p 3 = rE tx len) → K r h') : M_RM_readAll p h K := by
  unfold M_RM_readAll
  rintro h1 rfl h2 rfl
  refine yp1 193 (fun i h' => (∀ b, b < i → h' (p + 2) b = 0) ∧ h' p 3 = 0 ∧ h' p 7 = 0 ∧ ∀ a b, ¬ (a = p ∧ (b = 3 ∨ b = 6 ∨ b = 7)) → a ≠ p + 2 → h' a b = h a b) ⟨fun b hb => by omega, ?_, ?_, fun a b q _ => ?_⟩ ?_
  · rw [zs_j (by omega), zs_eq]
  · rw [zs_eq]
  · unfold zs
    rw [if_neg (by omega), if_neg (by omega)]
  rintro i h5 L hi ⟨g2, g3, g7, hF⟩ hL
  show F_RM_readAll_12 K L p (i : Int) h5
  unfold F_RM_readAll_12
  refine ⟨fun c => ?_, fun c => ⟨by omega, ?_⟩⟩
  case refine_2 =>
    rw [Int.toNat_natCast]
    rintro h6 rfl
    refine ⟨by omega, hL _ (by omega) ⟨fun b hb => ?_, ?_, ?_, fun a b q1 q2 => ?_⟩⟩
    · by_cases e : b = i
      · rw [e, zs_eq]
      · rw [zs_j e, g2 b (by omega)]
    · rw [zs_k (by omega), g3]
    · rw [zs_k (by omega), g7]
    · rw [zs_k q2, hF a b q1 q2]
  have ei : i = 193 := by omega
  subst ei
  clear hL
  have hl100 := hT.2.1
  have hT5 : Rt h5 p len tx := Rt_keep hT (hF _ _ (by omega) (by omega)) (fun j => hF _ _ (by omega) (by omega))
  have eE : rE tx len = if chr tx len 0 ≠ 65 then 0 else if ¬ (2 ≤ dgt tx len 1 ∧ dgt tx len 1 ≤ 8) then 1
    else if rM tx len < 3 ∧ chr tx len (rps tx len) = 109 then (rps tx len : Int) + 1 + cfm tx len (rsc tx len) (rM tx len)
    else if rM tx len = 0 then (rps tx len : Int) else if chr tx len (rps tx len) = -1 then -9
    else if chr tx len (rps tx len) ≠ 58 then (rps tx len : Int)
    else if rk tx len = 0 ∨ chr tx len (rps tx len + 1 + rk tx len) ≠ -1 then (rps tx len : Int) + 1 + rk tx len else -9 := rfl
  have hbad : ∀ h', 0 ≤ rE tx len → h' p 3 = rE tx len → (∀ a b, ¬ (a = p ∧ (b = 3 ∨ b = 6 ∨ b = 7)) → a ≠ p + 2 → h' a b = h a b) → K 0 h' := fun h' e e2 f => hk 0 h' f (fun q => by omega) (fun _ => ⟨rfl, e2⟩)
  have hgood : ∀ h', rE tx len = -9 → TOR h' p tx len → (∀ a b, ¬ (a = p ∧ (b = 3 ∨ b = 6 ∨ b = 7)) → a ≠ p + 2 → h' a b = h a b) → K 1 h' := fun h' e e2 f => hk 1 h' f (fun _ => ⟨rfl, e2⟩) (fun q => absurd e q)
  clear hk
  have hc0 := rchr_ok hT 0
  refine s_next (by decide) hT5 (pos := 0) g3 ⟨fun c1 => ?_, fun c1 => ?_⟩
  · have o1 : chr tx len 0 ≠ 65 := by unfold nx at c1; split at c1 <;> omega
    rw [if_pos o1] at eE
    unfold B_RM_readAll_47
    refine s_accepts (pos := 0) (Or.inl rfl) (by omega) g3 ⟨fun c => absurd rfl c, fun _ => hbad _ (by omega) ?_ (fun a b q1 q2 => ?_)⟩
    · rw [zs_eq, eE]; rfl
    · rw [← hF a b q1 q2]; unfold zs; rw [if_neg (by omega)]
  have o1 : chr tx len 0 = 65 := by unfold nx at c1; split at c1 <;> omega
  rw [if_neg (fun q => q o1)] at eE
  unfold B_RM_readAll_47
  refine s_accepts (pos := 0) (Or.inr rfl) (by omega) g3 ⟨fun _ => ?_, fun c => absurd c (by decide)⟩
  have hT6 : Rt (zs h5 p 3 (((0 : Nat) : Int) + 1)) p len tx := Rt_keep hT5 (zs_j (by omega)) (fun j => zs_k (by omega))
  refine s_next (by decide) hT6 (pos := 1) (by rw [zs_eq]; rfl) ?_
  rintro h7 rfl
  have nd := nx_dgt (pos := 1) hT6
  generalize nx (chr tx len 1) 48 = v at *
  rw [zs_eq]
  have e73 : zs (zs h5 p 3 (((0 : Nat) : Int) + 1)) p 6 v p 3 = ((1 : Nat) : Int) := by rw [zs_j (by omega), zs_eq]; rfl
  have hF7 : ∀ a b, ¬ (a = p ∧ (b = 3 ∨ b = 6 ∨ b = 7)) → a ≠ p + 2 → zs (zs h5 p 3 (((0 : Nat) : Int) + 1)) p 6 v a b = h a b := by
    intro a b q1 q2
    rw [← hF a b q1 q2]
    unfold zs
    rw [if_neg (by omega), if_neg (by omega)]
  refine s_in (fun q => ?_) (fun q => ?_)
  case refine_2 =>
    rw [if_pos (by omega)] at eE
    refine s_accepts (pos := 1) (Or.inl rfl) (by omega) e73 ⟨fun c => absurd rfl c, fun _ => hbad _ (by omega) (by rw [zs_eq, eE]; rfl) (fun a b q1 q2 => ?_)⟩
    rw [← hF7 a b q1 q2]
    unfold zs
    rw [if_neg (by omega)]
  rw [if_neg (by omega)] at eE
  have hs : (rsc tx len : Int) = v := by unfold rsc; omega
  refine s_accepts (pos := 1) (Or.inr rfl) (by omega) e73 ⟨fun _ => ?_, fun c => absurd c (by decide)⟩
  have l1 : 1 < len := by omega
  have l3 : rM tx len ≤ 3 := pf_le
  have hPSr := PS_le (show rsc tx len ≤ 8 by omega) (m := rM tx len)
  have eps : PS (rsc tx len) (rM tx len) = rps tx len := rfl
  rw [eps] at hPSr
  refine ypG 3 (fun i h' => h' p 3 = (PS (rsc tx len) i : Int) ∧ h' p 7 = (i : Int) ∧ h' p 6 = (rsc tx len : Int) ∧ PS (rsc tx len) i ≤ len ∧ pf (gMo tx len (rsc tx len)) i = i ∧ (∀ b, b < 24 → h' (p + 2) b = cR tx len (rsc tx len) i b) ∧ (∀ b, 24 ≤ b → b < 193 → h' (p + 2) b = 0) ∧ (∀ a b, ¬ (a = p ∧ (b = 3 ∨ b = 6 ∨ b = 7)) → a ≠ p + 2 → h' a b = h a b)) ⟨?_, ?_, ?_, ?_, rfl, fun b hb => ?_, fun b hb1 hb2 => ?_, fun a b q1 q2 => ?_⟩ ?_
  · rw [zs_eq]; rfl
  · rw [zs_j (by omega), zs_j (by omega), zs_j (by omega), g7]; rfl
  · rw [zs_j (by omega), zs_eq]; omega
  · show 2 ≤ len; omega
  · rw [zs_k (by omega), zs_k (by omega), zs_k (by omega), g2 b (by omega)]
    exact (if_neg (by omega)).symm
  · rw [zs_k (by omega), zs_k (by omega), zs_k (by omega), g2 b (by omega)]
  · rw [← hF7 a b q1 q2]
    unfold zs
    rw [if_neg (by omega)]
  clear hF7 e73 g2 g3 g7 hF hT5 hT6
  rintro i h2 L hi ⟨g3, g7, g6, gl, gp, gc, gz, hF⟩ hL
  show F_RM_readAll_88 K L p h2
  have hT2 : Rt h2 p len tx := Rt_keep hT (hF _ _ (by omega) (by omega)) (fun j => hF _ _ (by omega) (by omega))
  have hPS := PS_le (show rsc tx len ≤ 8 by omega) (m := i)
  have hch := rchr_ok hT2 (PS (rsc tx len) i)
  have go : (i = 0 ∨ (chr tx len (PS (rsc tx len) i) ≠ -1 ∧ chr tx len (PS (rsc tx len) i) ≠ 58)) → B_RM_readAll_120 K L p h2 := by
    intro hor
    have bad : ¬ (i < 3 ∧ chr tx len (PS (rsc tx len) i) = 109) → B_RM_readAll_143 K L p p 0 h2 := by
      intro q
      unfold B_RM_readAll_143
      refine s_accepts (pos := PS (rsc tx len) i) (Or.inl rfl) (by omega) g3 ⟨fun _ => ?_, fun c => absurd rfl c⟩
      have eM : rM tx len = i := by
        by_cases e : i = 3
        · rw [e] at gp ⊢; exact gp
        · exact pf_at gp (if_neg (fun q2 => q ⟨by omega, q2.1⟩)) hi
      have eps' : rps tx len = PS (rsc tx len) i := by rw [← eps, eM]
      rw [eM, eps', if_neg q] at eE
      have eE2 : rE tx len = (PS (rsc tx len) i : Int) := by
        rw [eE]
        rcases hor with e | e
        · rw [if_pos e]
        · split
          · rfl
          · rw [if_neg e.1, if_pos e.2]
      refine hbad _ (by omega) (by rw [zs_eq, eE2]; omega) (fun a b q1 q2 => ?_)
      rw [← hF a b q1 q2]
      unfold zs
      rw [if_neg (by omega)]
    unfold B_RM_readAll_120 B_RM_readAll_142
    refine s_next (by decide) hT2 g3 ⟨fun c => bad ?_, fun c => ?_⟩
    · unfold nx at c; split at c <;> omega
    have o109 : chr tx len (PS (rsc tx len) i) = 109 := by unfold nx at c; split at c <;> omega
    rw [g7]
    refine ⟨fun c2 => bad (by omega), fun c2 => ?_⟩
    unfold B_RM_readAll_143
    refine s_accepts (pos := PS (rsc tx len) i) (Or.inr rfl) (by omega) g3 ⟨fun c => absurd c (by decide), fun _ => ?_⟩
    have hT3 : Rt (zs h2 p 3 ((PS (rsc tx len) i : Int) + 1)) p len tx := Rt_keep hT2 (zs_j (by omega)) (fun j => zs_k (by omega))
    refine s_RreadCounts (pos := PS (rsc tx len) i + 1) (m := i) (sc := rsc tx len) hT3 (by rw [zs_eq]; omega) (by omega) (by omega) (by omega) (by rw [zs_j (by omega), g6]) (by rw [zs_j (by omega), g7]) (fun s hs => ?_) ?_ ?_
    · rw [zs_k (by omega), gc _ (by omega)]
      exact if_neg (by omega)
    · intro ec hle h4 f3 f7 fc fF
      refine ⟨fun _ => hL _ (by omega) ⟨?_, by rw [f7]; omega, ?_, ?_, pf_go gp ?_, fun b hb => ?_, fun b hb1 hb2 => ?_, fun a b q1 q2 => ?_⟩, fun c => absurd c (by decide)⟩
      · rw [f3]
        show _ = ((PS (rsc tx len) i + 1 + 2 * rsc tx len : Nat) : Int)
        omega
      · rw [fF _ _ (by omega) (by omega), zs_j (by omega), g6]
      · show PS (rsc tx len) i + 1 + 2 * rsc tx len ≤ len
        exact hle
      · unfold gMo
        rw [if_pos ⟨o109, ec⟩]
        decide
      · by_cases e : b / 8 = i ∧ b % 8 < rsc tx len
        · have := fc (b % 8) e.2
          rw [show 8 * i + b % 8 = b by omega] at this
          rw [this]
          unfold cR
          rw [if_pos (by omega), e.1]
          rfl
        · rw [fF _ _ (by omega) (by omega), zs_k (by omega), gc b hb]
          unfold cR
          by_cases e2 : b / 8 < i ∧ b % 8 < rsc tx len
          · rw [if_pos e2, if_pos (by omega)]
          · rw [if_neg e2, if_neg (by omega)]
      · rw [fF _ _ (by omega) (by omega), zs_k (by omega), gz b hb1 hb2]
      · rw [fF a b (by omega) (by omega), ← hF a b q1 q2]
        unfold zs
        rw [if_neg (by omega)]
    · intro ec h4 f3 fF
      refine ⟨fun c => absurd rfl c, fun _ => ?_⟩
      have eM : rM tx len = i := pf_at gp (if_neg (fun q => ec q.2)) hi
      have eps' : rps tx len = PS (rsc tx len) i := by rw [← eps, eM]
      rw [eM, eps', if_pos ⟨by omega, o109⟩] at eE
      have e9 : cfm tx len (rsc tx len) i = cf (fun j => dgt tx len (PS (rsc tx len) i + 1 + j)) (rsc tx len) := rfl
      have e8 := fz_ok (g := gk (fun j => dgt tx len (PS (rsc tx len) i + 1 + j)) (rsc tx len)) (n := 2 * rsc tx len)
      have e7 : cf (fun j => dgt tx len (PS (rsc tx len) i + 1 + j)) (rsc tx len) = fz (gk (fun j => dgt tx len (PS (rsc tx len) i + 1 + j)) (rsc tx len)) (2 * rsc tx len) := rfl
      refine hbad h4 (by omega) (by rw [f3, eE, e9]; omega) (fun a b q1 q2 => ?_)
      rw [fF a b (by omega) q2, ← hF a b q1 q2]
      unfold zs
      rw [if_neg (by omega)]
  have fin : i ≠ 0 → (chr tx len (PS (rsc tx len) i) = -1 ∨ chr tx len (PS (rsc tx len) i) = 58) → B_RM_readAll_158 K p h2 := by
    intro i0 hor
    have eM : rM tx len = i := by
      by_cases e : i = 3
      · rw [e] at gp ⊢; exact gp
      · exact pf_at gp (if_neg (fun q2 => by omega)) hi
    have eps' : rps tx len = PS (rsc tx len) i := by rw [← eps, eM]
    have ern : rn tx len = if chr tx len (rps tx len) = 58 then rk tx len else 0 := rfl
    rw [eM, eps', if_neg (by omega), if_neg i0] at eE
    rw [eps'] at ern
    unfold B_RM_readAll_158
    rw [g3, hT2.1]
    refine ⟨fun c => ?_, fun c => ?_⟩
    · rw [if_pos (by omega)] at eE
      rw [if_neg (by omega)] at ern
      refine hgood h2 eE ⟨g6, by rw [g7, eM], by rw [gz 188 (by omega) (by omega), ern]; rfl, by rw [eM]; exact gc, fun j hj => by omega, gz 189 (by omega) (by omega), gz 190 (by omega) (by omega)⟩ hF
    have o58 : chr tx len (PS (rsc tx len) i) = 58 := by omega
    rw [if_neg (by omega), if_neg (by omega)] at eE
    rw [if_pos o58] at ern
    refine s_next (by decide) hT2 g3 ⟨fun c2 => ?_, fun c2 => ?_⟩
    · exfalso
      rw [o58] at c2
      exact c2 rfl
    unfold B_RM_readAll_184
    refine s_accepts (pos := PS (rsc tx len) i) (Or.inr rfl) (by omega) g3 ⟨fun c => absurd c (by decide), fun _ => ?_⟩
    have hT3 : Rt (zs h2 p 3 ((PS (rsc tx len) i : Int) + 1)) p len tx := Rt_keep hT2 (zs_j (by omega)) (fun j => zs_k (by omega))
    refine s_RreadItems (pos := PS (rsc tx len) i + 1) (sc := rsc tx len) (mc := i) hzl hT3 (by omega) (by rw [zs_eq]; omega) (by rw [zs_k (by omega), gz 188 (by omega) (by omega)]) (by omega) hi (by rw [zs_j (by omega), g6]) (by rw [zs_j (by omega), g7]) (fun r h4 n en fF out => ?_)
    have ek : rk tx len = pf (gI tx len (rsc tx len) i (PS (rsc tx len) i + 1)) 40 := by
      unfold rk rit
      rw [eM, eps']
    have eit : rit tx len = gI tx len (rsc tx len) i (PS (rsc tx len) i + 1) := by
      unfold rit
      rw [eM, eps']
    rw [← ek] at en
    rw [en] at out
    have hF4 : ∀ a b, ¬ (a = p ∧ (b = 3 ∨ b = 6 ∨ b = 7)) → a ≠ p + 2 → h4 a b = h a b := by
      intro a b q1 q2
      rw [fF a b (by omega) (by omega), ← hF a b q1 q2]
      unfold zs
      rw [if_neg (by omega)]
    rcases out with ⟨o1, rfl, o3⟩ | ⟨o1, rfl, o3, o4⟩
    · rw [if_pos o1] at eE
      refine ⟨fun _ => hbad h4 (by omega) (by rw [o3, eE]; omega) hF4, fun c => absurd rfl c⟩
    · rw [if_neg (by omega)] at eE
      have fz' : ∀ b, b = 189 ∨ b = 190 → h4 (p + 2) b = 0 := by
        intro b hb
        rw [fF _ _ (by omega) (by omega), zs_k (by omega), gz b (by omega) (by omega)]
      refine ⟨fun c => absurd c (by decide), fun _ => hgood h4 eE ⟨?_, ?_, by rw [o3, ern], fun b hb => ?_, fun j hj => ?_, fz' _ (Or.inl rfl), fz' _ (Or.inr rfl)⟩ hF4⟩
      · rw [fF _ _ (by omega) (by omega), zs_j (by omega), g6]
      · rw [fF _ _ (by omega) (by omega), zs_j (by omega), g7, eM]
      · rw [fF _ _ (by omega) (by omega), zs_k (by omega), gc b hb, eM]
      · rw [o4 j (by omega), eit]
  unfold F_RM_readAll_88
  rw [g7, g3, hT2.1]
  refine ⟨fun c => go (by omega), fun c => ⟨fun c2 => fin (by omega) (by omega), fun c2 => ⟨by omega, ?_⟩⟩⟩
  rw [Int.toNat_natCast, hT2.2.2.1 _ (by omega), ← show chr tx len (PS (rsc tx len) i) = tx (PS (rsc tx len) i) from if_pos (by omega)]
  exact ⟨fun c3 => fin (by omega) (by omega), fun c3 => go (by omega)⟩

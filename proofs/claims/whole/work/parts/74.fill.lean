/-! filling a tape: class and reference -/
theorem s_fill {q t : Nat} (ht : 36 < t) (hqt : q + 2 < t ∨ t + 3 < q) {h : zH} {K : zH → Prop} {sc mc : Nat} {c : Nat → Int} (hv : VC sc mc c) (hC : TCs h c mc) {L : zL} (hL : LC h q L) (hV : VL sc mc L) (hu : uF c L = -9) (hk : ∀ h', cT h' t = enT c L → (∀ a b, a < t ∨ t + 3 < a → h' a b = h a b) → K h') : M_Tape_fill t q 5 h K := by
  have hmc := hv.1
  obtain ⟨e2, hA⟩ := hL
  have n40 := hV.1
  unfold M_Tape_fill M_Tape_becomeEmpty
  rintro h1 rfl h2 rfl h3 rfl h4 rfl
  have g0 : ∀ a b, a < t ∨ t + 3 < a → zs (zs (zs (zs h t 3 0) t 4 0) (t + 3) 0 512) (t + 3) 1 512 a b = h a b := fun a b hab => by
    rw [zs_k (by omega), zs_k (by omega), zs_k (by omega), zs_k (by omega)]
  rw [g0 q 2 (by omega), e2, if_neg (show ¬ (40 : Int) < ((L.1 : Nat) : Int) by omega)]
  refine ⟨by omega, ?_⟩
  rintro x3 rfl
  refine ypx L.1 (fun i => ((L.1 : Nat) : Int) - 1 - i) (fun i h' => h' (t + 3) 0 = (en c L i).1 ∧ h' (t + 3) 1 = (en c L i).2.1 ∧ h' t 4 = (en c L i).2.2.1 ∧ (∀ j : Nat, (j : Int) < (en c L i).2.2.1 → h' (t + 2) j = (en c L i).2.2.2 j) ∧ (∀ j, L.1 - i ≤ j → j < L.1 → h' (t + 1) j = L.2.2.2 j) ∧ ∀ a b, a < t ∨ t + 3 < a → h' a b = h a b) (by show _ = _ - 1 - 0; omega) ⟨?_, ?_, ?_, fun j hj => absurd hj (by show ¬ (j : Int) < 0; omega), fun j a b => by omega, g0⟩ ?_
  · rw [zs_j (by omega), zs_eq]; rfl
  · rw [zs_eq]; rfl
  · rw [zs_k (by omega), zs_k (by omega), zs_eq]; rfl
  rintro i x h5 L' hi ex ⟨r1, r2, r3, r4, r5, hF⟩ hL'
  have ex' : x = ((L.1 : Nat) : Int) - 1 - i := ex
  clear ex
  show F_Tape_fill_16 K L' t q 5 x h5
  unfold F_Tape_fill_16
  constructor
  · intro cx
    have ei : i = L.1 := by omega
    subst ei
    rintro h6 rfl
    rw [hF q 2 (by omega), e2]
    refine hk _ ?_ (fun a b hab => ?_)
    · have := cT_ext (h := zs h5 t 3 ((L.1 : Nat) : Int)) (t := t) (pl := L.2.2.2) (dg := (en c L L.1).2.2.2) (np := ((L.1 : Nat) : Int)) (nd := (en c L L.1).2.2.1) (a := (en c L L.1).1) (b := (en c L L.1).2.1) zs_eq (by rw [zs_j (by omega)]; exact r3) (by rw [zs_k (by omega)]; exact r1) (by rw [zs_k (by omega)]; exact r2) (fun j hj => by rw [zs_k (by omega)]; exact r5 j (by omega) (by omega)) (fun j hj => by rw [zs_k (by omega)]; exact r4 j hj)
      rw [Int.toNat_natCast] at this
      exact this
    · rw [zs_k (by omega)]; exact hF a b hab
  · intro cx
    obtain ⟨k, ek, hkL⟩ : ∃ k : Nat, x = (k : Int) ∧ k = L.1 - 1 - i := ⟨L.1 - 1 - i, by omega, rfl⟩
    subst ek
    simp only [Int.toNat_natCast]
    have ilt : i < L.1 := by omega
    obtain ⟨a1, a2⟩ := hA k (by omega)
    obtain ⟨b1, b2⟩ := hV.2 k (by omega)
    obtain ⟨f1, f2, f3⟩ := VC_f hv (show (L.2.2.2 k).toNat < mc by omega)
    have hw0 : gL c L k ≠ 0 := fz_all hu _ (by omega)
    obtain ⟨i1, i2, i3, i4⟩ := en_ok hv hV hu (i := i) (by omega)
    rw [hF (q + 2) k (by omega), a2]
    refine ⟨by omega, by omega, ?_⟩
    rintro h6 rfl
    refine ⟨by omega, ?_⟩
    rw [zs_k (show q + 2 ≠ t + 1 by omega), hF (q + 2) k (by omega), a2]
    apply s_of (by omega)
    refine ⟨by omega, by omega, ?_⟩
    rw [zs_k (show q + 1 ≠ t + 1 by omega), hF (q + 1) k (by omega), a1, show (k : Int) % 2 = ((k % 2 : Nat) : Int) by omega]
    have hC6 : TC (zs h5 (t + 1) k (L.2.2.2 k)) (7 + 10 * (L.2.2.2 k).toNat) (cm c (L.2.2.2 k).toNat) := by
      obtain ⟨y1, y2, y3⟩ := hC (L.2.2.2 k).toNat (by omega)
      refine ⟨fun s hs => ?_, fun b hb => ?_, fun k hk => ?_⟩
      · rw [zs_k (by omega), hF _ _ (by omega)]; exact y1 s hs
      · rw [zs_k (by omega), hF _ _ (by omega), zs_k (by omega), hF _ _ (by omega)]; exact y2 b hb
      · rw [zs_k (by omega), hF _ _ (by omega), zs_k (by omega), hF _ _ (by omega), zs_k (by omega), hF _ _ (by omega)]; exact y3 k hk
    have hh : 512 ≤ (if k % 2 = 0 then (en c L i).1 else (en c L i).2.1) ∧ (if k % 2 = 0 then (en c L i).1 else (en c L i).2.1) ≤ 8191 := by split <;> omega
    refine s_putSymbol (by omega) hC6 f1 f2 f3 (by omega) (by omega) hw0 hh (nd := (en c L i).2.2.1) (dg := (en c L i).2.2.2) (by omega) i4 ?_ ?_ (fun j hj => ?_) (fun h7 y1 y2 y3 y4 => ?_)
    · rw [zs_k (by omega)]
      by_cases z : k % 2 = 0
      · rw [if_pos z, z]; exact r1
      · rw [if_neg z, show k % 2 = 1 by omega]; exact r2
    · rw [zs_k (by omega)]; exact r3
    · rw [zs_k (by omega)]; exact r4 j hj
    · have een : en c L (i + 1) = (if k % 2 = 0 then eY c L (en c L i) k else (en c L i).1, if k % 2 = 0 then (en c L i).2.1 else eY c L (en c L i) k, (eV c L (en c L i) k).2.1, (eV c L (en c L i) k).2.2) := by rw [hkL]; rfl
      refine ⟨by omega, hL' _ _ ilt (by show _ + -1 = _ - 1 - ((i + 1 : Nat) : Int); omega) ⟨?_, ?_, ?_, fun j hj => ?_, fun j aj bj => ?_, fun a b hab => ?_⟩⟩
      · rw [een]
        show _ = if k % 2 = 0 then _ else _
        by_cases z : k % 2 = 0
        · rw [if_pos z]
          have y1' : h7 (t + 3) (k % 2) = eY c L (en c L i) k := y1
          rw [z] at y1'
          exact y1'
        · rw [if_neg z, y4 _ _ (by omega) (by omega) (by omega), zs_k (by omega)]; exact r1
      · rw [een]
        show _ = if k % 2 = 0 then _ else _
        by_cases z : k % 2 = 0
        · rw [if_pos z, y4 _ _ (by omega) (by omega) (by omega), zs_k (by omega)]; exact r2
        · rw [if_neg z]
          have : k % 2 = 1 := by omega
          have y1' : h7 (t + 3) (k % 2) = eY c L (en c L i) k := y1
          rw [this] at y1'
          exact y1'
      · rw [een]; exact y2
      · rw [een] at hj ⊢; exact y3 j hj
      · rw [y4 _ _ (by omega) (by omega) (by omega)]
        by_cases z : j = k
        · rw [z, zs_eq]
        · rw [zs_j z]; exact r5 j (by omega) bj
      · rw [y4 _ _ (by omega) (by omega) (by omega), zs_k (by omega)]; exact hF a b hab
theorem s_encodeTo {p p1 : Nat} (hl : zln p1 = 193) (hp : p < p1 ∧ p1 < p + 6) {h : zH} {K : zH → Prop} {sc mc : Nat} {c : Nat → Int} (hv : VC sc mc c) (hC : TR h p c mc) {L : zL} (hL : LR h p L) (hV : VL sc mc L) (hu : uF c L = -9) (hk : ∀ h', rT h' p1 0 = enT c L → (∀ a b, a ≠ p1 → h' a b = h a b) → (∀ b, b < 64 ∨ b = 188 → h' p1 b = h p1 b) → K h') : M_RM_encodeTo p p1 h K := by
  have hmc := hv.1
  obtain ⟨e2, hA⟩ := hL
  have n40 := hV.1
  unfold M_RM_encodeTo
  rw [hl]
  refine ⟨by omega, ?_⟩
  rintro h1 rfl
  refine ⟨by omega, ?_⟩
  rintro h2 rfl
  refine ⟨by omega, ?_⟩
  rintro h3 rfl
  refine ⟨by omega, ?_⟩
  rintro h4 rfl
  have g0 : ∀ a b, a ≠ p1 → zs (zs (zs h p1 190 0) p1 191 512) p1 192 512 a b = h a b := fun a b hab => by
    rw [zs_k hab, zs_k hab, zs_k hab]
  rw [g0 p 31 (by omega), e2, zs_k (show p ≠ p1 by omega), g0 p 31 (by omega), e2]
  refine ⟨by omega, ?_⟩
  rintro x3 rfl
  refine ypx L.1 (fun i => ((L.1 : Nat) : Int) - 1 - i) (fun i h' => h' p1 191 = (en c L i).1 ∧ h' p1 192 = (en c L i).2.1 ∧ h' p1 190 = (en c L i).2.2.1 ∧ (∀ j : Nat, (j : Int) < (en c L i).2.2.1 → h' p1 (104 + j) = (en c L i).2.2.2 j) ∧ (∀ j, L.1 - i ≤ j → j < L.1 → h' p1 (64 + j) = L.2.2.2 j) ∧ h' p1 189 = ((L.1 : Nat) : Int) ∧ (∀ a b, a ≠ p1 → h' a b = h a b) ∧ (∀ b, b < 64 ∨ b = 188 → h' p1 b = h p1 b)) (by show _ = _ - 1 - 0; omega) ⟨?_, ?_, ?_, fun j hj => absurd hj (by show ¬ (j : Int) < 0; omega), fun j a b => by omega, zs_eq, fun a b hab => by rw [zs_k hab]; exact g0 a b hab, fun b hb => by rw [zs_j (by omega), zs_j (by omega), zs_j (by omega), zs_j (by omega)]⟩ ?_
  · rw [zs_j (by omega), zs_j (by omega), zs_eq]; rfl
  · rw [zs_j (by omega), zs_eq]; rfl
  · rw [zs_j (by omega), zs_j (by omega), zs_j (by omega), zs_eq]; rfl
  rintro i x h5 L' hi ex ⟨r1, r2, r3, r4, r5, r6, hF, hG⟩ hL'
  have ex' : x = ((L.1 : Nat) : Int) - 1 - i := ex
  clear ex
  show F_RM_encodeTo_38 K L' p p1 x h5
  unfold F_RM_encodeTo_38
  rw [hl]
  constructor
  · intro cx
    have ei : i = L.1 := by omega
    subst ei
    refine hk _ ?_ hF hG
    have := rT_ext (h := h5) (c := p1) (o := 0) (pl := L.2.2.2) (dg := (en c L L.1).2.2.2) (np := ((L.1 : Nat) : Int)) (nd := (en c L L.1).2.2.1) (a := (en c L L.1).1) (b := (en c L L.1).2.1) r6 r3 r1 r2 (fun j hj => by rw [Nat.zero_add]; exact r5 j (by omega) (by omega)) (fun j hj => by rw [Nat.zero_add]; exact r4 j hj)
    rw [Int.toNat_natCast] at this
    exact this
  · intro cx
    obtain ⟨k, ek, hkL⟩ : ∃ k : Nat, x = (k : Int) ∧ k = L.1 - 1 - i := ⟨L.1 - 1 - i, by omega, rfl⟩
    subst ek
    simp only [Int.toNat_natCast]
    have ilt : i < L.1 := by omega
    obtain ⟨a1, a2⟩ := hA k (by omega)
    obtain ⟨b1, b2⟩ := hV.2 k (by omega)
    obtain ⟨f1, f2, f3⟩ := VC_f hv (show (L.2.2.2 k).toNat < mc by omega)
    obtain ⟨t1, -, t3⟩ := hC (L.2.2.2 k).toNat (by omega)
    have hw0 : gL c L k ≠ 0 := fz_all hu _ (by omega)
    have hw1 : 0 ≤ gL c L k := f1 _ (by omega)
    have hw2 : gL c L k ≤ 32 := f3 _ (by omega)
    obtain ⟨i1, i2, i3, i4⟩ := en_ok hv hV hu (i := i) (by omega)
    rw [hF (p + 22) k (by omega), a2, hF (p + 21) k (by omega), a1]
    refine ⟨by omega, ?_⟩
    rintro x3 rfl
    refine ⟨by omega, ?_⟩
    rintro x4 rfl
    rw [show (8 * L.2.2.2 k + L.2.2.1 k).toNat = 8 * (L.2.2.2 k).toNat + (L.2.2.1 k).toNat by omega, hF (p + 9) _ (by omega), t1 _ (by omega)]
    refine ⟨by omega, by omega, by omega, ?_⟩
    have eg : fF (cm c (L.2.2.2 k).toNat) (L.2.2.1 k).toNat = gL c L k := rfl
    rw [eg]
    rintro x5 rfl
    have hh : 512 ≤ (if k % 2 = 0 then (en c L i).1 else (en c L i).2.1) ∧ (if k % 2 = 0 then (en c L i).1 else (en c L i).2.1) ≤ 8191 := by split <;> omega
    have exh : h5 p1 (191 + (k : Int) % 2).toNat = if k % 2 = 0 then (en c L i).1 else (en c L i).2.1 := by
      by_cases z : k % 2 = 0
      · rw [if_pos z, show (191 + (k : Int) % 2).toNat = 191 by omega]; exact r1
      · rw [if_neg z, show (191 + (k : Int) % 2).toNat = 192 by omega]; exact r2
    rw [exh]
    refine ⟨by omega, by omega, by omega, ?_⟩
    rintro x6 rfl
    rw [show (64 + (k : Int)).toNat = 64 + k by omega]
    refine ⟨by omega, by omega, ?_⟩
    rintro h6 rfl
    have hU0 : UI (gL c L k) (2 * i) (if k % 2 = 0 then (en c L i).1 else (en c L i).2.1, (en c L i).2.2.1, (en c L i).2.2.2) := ⟨Int.le_trans (show 16 * gL c L k ≤ 512 by omega) hh.1, hh.2, i3.1, i3.2, i4⟩
    refine ypG 2 (fun n st => ∃ h' : zH, st = ((uN (gL c L k) (if k % 2 = 0 then (en c L i).1 else (en c L i).2.1, (en c L i).2.2.1, (en c L i).2.2.2) n).1, h') ∧ h' p1 190 = (uN (gL c L k) (if k % 2 = 0 then (en c L i).1 else (en c L i).2.1, (en c L i).2.2.1, (en c L i).2.2.2) n).2.1 ∧ (∀ j : Nat, (j : Int) < (uN (gL c L k) (if k % 2 = 0 then (en c L i).1 else (en c L i).2.1, (en c L i).2.2.1, (en c L i).2.2.2) n).2.1 → h' p1 (104 + j) = (uN (gL c L k) (if k % 2 = 0 then (en c L i).1 else (en c L i).2.1, (en c L i).2.2.1, (en c L i).2.2.2) n).2.2 j) ∧ (∀ a b, (a ≠ p1 ∨ b < 104 ∨ b = 188 ∨ b = 189 ∨ b = 191 ∨ b = 192) → h' a b = zs h5 p1 (64 + k) (L.2.2.2 k) a b)) ⟨_, rfl, by rw [zs_j (by omega)]; exact r3, fun j hj => by rw [zs_j (by omega)]; exact r4 j hj, fun a b _ => rfl⟩ ?_
    rintro n _ L9 hn ⟨h7, rfl, g2, g3, hF7⟩ hL9
    show F_RM_encodeTo_89 K L' L9 p p1 (k : Int) (L.2.2.2 k) (L.2.2.1 k) (gL c L k) (uN (gL c L k) (if k % 2 = 0 then (en c L i).1 else (en c L i).2.1, (en c L i).2.2.1, (en c L i).2.2.2) n).1 h7
    obtain ⟨u1', u2, u3, u4, u5⟩ := uN_ok (n := n) ⟨by omega, hw2⟩ hU0
    unfold F_RM_encodeTo_89
    rw [hl]
    refine ⟨by omega, fun c5 => ?_, fun c5 => ?_⟩
    · have eu : eV c L (en c L i) k = uN (gL c L k) (if k % 2 = 0 then (en c L i).1 else (en c L i).2.1, (en c L i).2.2.1, (en c L i).2.2.2) n := by
        have := uN_fix c5 (d := 2 - n)
        rw [show n + (2 - n) = 2 by omega] at this
        exact this
      rw [← eu] at g2 g3 c5 u1' u2 u3 u4 u5 ⊢
      obtain ⟨y1, y2, y3, y4, y5, y6⟩ := yV_ok f1 f2 (s := L.2.2.1 k) (by omega) (show 1 ≤ gL c L k by omega) ⟨u1', c5⟩
      have y3' : 16 ≤ (eV c L (en c L i) k).1 / gL c L k := y3
      have y4' : (eV c L (en c L i) k).1 / gL c L k ≤ 255 := y4
      have y5' : 0 ≤ (eV c L (en c L i) k).1 % gL c L k := y5
      have y6' : (eV c L (en c L i) k).1 % gL c L k < gL c L k := y6
      obtain ⟨k', hk32, k1, k2, k3⟩ := sO_ok f1 f2 (s := L.2.2.1 k) (by omega) ⟨y5, y6⟩
      have er : h7 (p + 14) (256 * L.2.2.2 k + 32 * L.2.2.1 k + (eV c L (en c L i) k).1 % gL c L k).toNat = (k' : Int) := by
        rw [hF7 _ _ (Or.inl (by omega)), zs_k (by omega), hF _ _ (by omega)]
        have := (t3 k' hk32).2.2
        rw [k1, k2, show (((L.2.2.2 k).toNat : Nat) : Int) = L.2.2.2 k by omega] at this
        exact this
      have ey : 32 * ((eV c L (en c L i) k).1 / gL c L k) + (k' : Int) = eY c L (en c L i) k := by unfold eY yV; rw [k3]; rfl
      have yb : 512 ≤ eY c L (en c L i) k ∧ eY c L (en c L i) k ≤ 8191 := ⟨y1, y2⟩
      rw [er, ey]
      refine ⟨by omega, by omega, by omega, by omega, by omega, by omega, by omega, by omega, by omega, by omega, by omega, by omega, ?_⟩
      rintro h8 rfl
      have een : en c L (i + 1) = (if k % 2 = 0 then eY c L (en c L i) k else (en c L i).1, if k % 2 = 0 then (en c L i).2.1 else eY c L (en c L i) k, (eV c L (en c L i) k).2.1, (eV c L (en c L i) k).2.2) := by rw [hkL]; rfl
      refine ⟨by omega, hL' _ _ ilt (by show _ + -1 = _ - 1 - ((i + 1 : Nat) : Int); omega) ⟨?_, ?_, ?_, fun j hj => ?_, fun j aj bj => ?_, ?_, fun a b hab => ?_, fun b hb => ?_⟩⟩
      · rw [een]
        show _ = if k % 2 = 0 then _ else _
        by_cases z : k % 2 = 0
        · rw [if_pos z, show (191 + (k : Int) % 2).toNat = 191 by omega, zs_eq]
        · rw [if_neg z, zs_j (by omega), hF7 _ _ (by omega), zs_j (by omega)]; exact r1
      · rw [een]
        show _ = if k % 2 = 0 then _ else _
        by_cases z : k % 2 = 0
        · rw [if_pos z, zs_j (by omega), hF7 _ _ (by omega), zs_j (by omega)]; exact r2
        · rw [if_neg z, show (191 + (k : Int) % 2).toNat = 192 by omega, zs_eq]
      · rw [een, zs_j (by omega)]; exact g2
      · rw [een] at hj ⊢
        have hj' : (j : Int) < (eV c L (en c L i) k).2.1 := hj
        have u4' : (eV c L (en c L i) k).2.1 ≤ 2 * (i : Int) + n := u4
        rw [zs_j (by omega)]; exact g3 j hj
      · rw [zs_j (by omega), hF7 _ _ (by omega)]
        by_cases z : j = k
        · rw [z, zs_eq]
        · rw [zs_j (by omega)]; exact r5 j (by omega) bj
      · rw [zs_j (by omega), hF7 _ _ (by omega), zs_j (by omega)]; exact r6
      · rw [zs_k hab, hF7 _ _ (Or.inl hab), zs_k hab]; exact hF a b hab
      · rw [zs_j (by omega), hF7 _ _ (by omega), zs_j (by omega)]; exact hG b hb
    · have hn2 : n ≠ 2 := fun e => by
        have := uN_two (w := gL c L k) ⟨by omega, hw2⟩ (q := (if k % 2 = 0 then (en c L i).1 else (en c L i).2.1, (en c L i).2.2.1, (en c L i).2.2.2)) hh.2
        rw [e] at c5
        omega
      have u4' : (uN (gL c L k) (if k % 2 = 0 then (en c L i).1 else (en c L i).2.1, (en c L i).2.2.1, (en c L i).2.2.2) n).2.1 ≤ 2 * (i : Int) + n := u4
      have eat : (104 + (uN (gL c L k) (if k % 2 = 0 then (en c L i).1 else (en c L i).2.1, (en c L i).2.2.1, (en c L i).2.2.2) n).2.1).toNat = 104 + (uN (gL c L k) (if k % 2 = 0 then (en c L i).1 else (en c L i).2.1, (en c L i).2.2.1, (en c L i).2.2.2) n).2.1.toNat := by omega
      rw [g2, eat]
      refine ⟨by omega, by omega, by omega, by omega, ?_⟩
      rintro h8 rfl
      rw [zs_j (show 190 ≠ 104 + (uN (gL c L k) (if k % 2 = 0 then (en c L i).1 else (en c L i).2.1, (en c L i).2.2.1, (en c L i).2.2.2) n).2.1.toNat by omega), g2]
      refine ⟨by omega, by omega, by omega, ?_⟩
      rintro h9 rfl
      refine ⟨by omega, ?_⟩
      rintro x6 rfl
      have enx : uN (gL c L k) (if k % 2 = 0 then (en c L i).1 else (en c L i).2.1, (en c L i).2.2.1, (en c L i).2.2.2) (n + 1) = ((uN (gL c L k) (if k % 2 = 0 then (en c L i).1 else (en c L i).2.1, (en c L i).2.2.1, (en c L i).2.2.2) n).1 / 16, (uN (gL c L k) (if k % 2 = 0 then (en c L i).1 else (en c L i).2.1, (en c L i).2.2.1, (en c L i).2.2.2) n).2.1 + 1, zup (uN (gL c L k) (if k % 2 = 0 then (en c L i).1 else (en c L i).2.1, (en c L i).2.2.1, (en c L i).2.2.2) n).2.2 (uN (gL c L k) (if k % 2 = 0 then (en c L i).1 else (en c L i).2.1, (en c L i).2.2.1, (en c L i).2.2.2) n).2.1.toNat ((uN (gL c L k) (if k % 2 = 0 then (en c L i).1 else (en c L i).2.1, (en c L i).2.2.1, (en c L i).2.2.2) n).1 % 16)) := if_pos c5
      refine hL9 _ (by omega) ?_
      rw [enx]
      refine ⟨_, rfl, ?_, fun j hj => ?_, fun a b hab => ?_⟩
      · rw [zs_eq]
      · have hj' : (j : Int) < (uN (gL c L k) (if k % 2 = 0 then (en c L i).1 else (en c L i).2.1, (en c L i).2.2.1, (en c L i).2.2.2) n).2.1 + 1 := hj
        show _ = zup _ _ _ j
        rw [zs_j (show 104 + j ≠ 190 by omega)]
        by_cases e : j = (uN (gL c L k) (if k % 2 = 0 then (en c L i).1 else (en c L i).2.1, (en c L i).2.2.1, (en c L i).2.2.2) n).2.1.toNat
        · rw [e, zup_self, zs_eq]
        · rw [zup_ne e, zs_j (by omega)]; exact g3 j (by omega)
      · rw [← hF7 a b hab]
        by_cases z : a = p1
        · rw [zs_j (by omega), zs_j (by omega)]
        · rw [zs_k z, zs_k z]

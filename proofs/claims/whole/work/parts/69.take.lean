/-! the class takes a tape; so does the reference -/
def TCs (h : zH) (c : Nat → Int) (mc : Nat) : Prop := ∀ m, m < mc → TC h (7 + 10 * m) (cm c m)
theorem s_hasDigit {t : Nat} {h : zH} {K : Int → zH → Prop} {x : Int} (hn : h t 4 ≤ 80) (h1 : 0 ≤ x ∧ x < h t 4 → K 1 h) (h0 : ¬ (0 ≤ x ∧ x < h t 4) → K 0 h) : M_Tape_hasDigit t x h K := by
  unfold M_Tape_hasDigit
  repeat' (first | with_reducible apply And.intro | (with_reducible intro hh ee; subst ee) | with_reducible intro cc)
  all_goals (try omega)
  · exact h0 (by omega)
  · exact h0 (by omega)
  · exact h1 (by omega)
theorem s_hasPlanned {t : Nat} {h : zH} {K : Int → zH → Prop} {x : Int} (hn : h t 3 ≤ 40) (h1 : 0 ≤ x ∧ x < h t 3 → K 1 h) (h0 : ¬ (0 ≤ x ∧ x < h t 3) → K 0 h) : M_Tape_hasPlanned t x h K := by
  unfold M_Tape_hasPlanned
  repeat' (first | with_reducible apply And.intro | (with_reducible intro hh ee; subst ee) | with_reducible intro cc)
  all_goals (try omega)
  · exact h0 (by omega)
  · exact h0 (by omega)
  · exact h1 (by omega)
theorem s_frequencyOf {p : Nat} {h : zH} {K : Int → zH → Prop} {x : Int} (hx : 0 ≤ x ∧ x < 8) (hk : K (h (p + 1) x.toNat) h) : M_Model_frequencyOf p x h K := by
  unfold M_Model_frequencyOf
  repeat' (first | with_reducible apply And.intro | (with_reducible intro hh ee; subst ee) | with_reducible intro cc)
  all_goals (try omega)
  all_goals exact hk
theorem s_of {h : zH} {K : Nat → zH → Prop} {x : Int} (hx : 0 ≤ x ∧ x < 3) (hk : K (7 + 10 * x.toNat) h) : M_Models_of 5 x h K := by
  unfold M_Models_of
  refine ⟨fun c => by omega, fun _ => ⟨fun c => by omega, fun _ => ⟨hx, ?_⟩⟩⟩
  rw [show 5 + 1 + 1 + 10 * x.toNat = 7 + 10 * x.toNat by omega]
  exact hk
theorem s_takeSymbol {q t pm k : Nat} (hk : k < 40) (hqt : t + 3 < q ∨ q + 5 < t) (hqm : pm + 9 < q) {h : zH} {K : zH → Prop} {c : Nat → Int} {dg : Nat → Int} {x l nd : Int} (hc : TC h pm c) (f1 : ∀ j, j < 8 → 0 ≤ fF c j) (f2 : sm (fF c) 8 = 32) (f3 : ∀ j, j < 8 → fF c j ≤ 32) (hx : 512 ≤ x ∧ x ≤ 8191) (hl : 0 ≤ l ∧ l ≤ nd) (hnd : nd ≤ 80) (e1 : h (q + 5) (k % 2) = x) (e2 : h q 5 = l) (e3 : h t 4 = nd) (e4 : ∀ j : Nat, (j : Int) < nd → h (t + 2) j = dg j) (hdg : ∀ j : Nat, (j : Int) < nd → 0 ≤ dg j ∧ dg j ≤ 15)
    (hA : (tW (fF c) dg x l).1 < 512 → ∀ h', h' q 6 = (k : Int) → h' (q + 2) k = x → h' (q + 3) k = l → (∀ a b, ¬ (a = q ∧ (b = 5 ∨ b = 6)) → ¬ (a = q + 2 ∧ b = k) → ¬ (a = q + 3 ∧ b = k) → h' a b = h a b) → K h')
    (hB : 512 ≤ (tW (fF c) dg x l).1 → ∀ h', h' q 5 = (tW (fF c) dg x l).2 → h' (q + 1) k = fS (fF c) (x % 32).toNat → h' (q + 2) k = x → h' (q + 3) k = l → h' (q + 4) k = l - (tW (fF c) dg x l).2 → h' (q + 5) (k % 2) = (tW (fF c) dg x l).1 → (∀ a b, ¬ (a = q ∧ b = 5) → ¬ (a = q + 1 ∧ b = k) → ¬ (a = q + 2 ∧ b = k) → ¬ (a = q + 3 ∧ b = k) → ¬ (a = q + 4 ∧ b = k) → ¬ (a = q + 5 ∧ b = k % 2) → h' a b = h a b) → K h') : M_Taking_takeSymbol q t pm (k : Int) h K := by
  obtain ⟨c1, -, c3⟩ := hc
  have e32 : (x % 32).toNat < 32 := by omega
  have r := fS_range f1 f2 e32
  have i := fI_range f1 f2 e32
  obtain ⟨x1, x2, x3, x4⟩ := tX_ok f1 f2 f3 hx
  unfold M_Taking_takeSymbol
  have m2 : ((k : Int) % 2).toNat = k % 2 := by omega
  rw [m2, e1]
  simp only [Int.toNat_natCast]
  refine ⟨fun c => by omega, fun _ => ⟨fun _ => ⟨by omega, by omega, ?_⟩, fun c => by omega⟩⟩
  intro x4' ex4
  subst x4'
  refine ⟨by omega, ?_⟩
  rintro h1 rfl
  refine ⟨by omega, ?_⟩
  rintro h2 rfl
  rw [zs_k (show q ≠ q + 2 by omega), e2]
  refine ⟨by omega, ?_⟩
  rintro x5 rfl
  refine ⟨fun _ => ⟨by omega, ?_⟩, fun c => by omega⟩
  have g0 : ∀ a b, a ≠ q + 2 → a ≠ q + 3 → zs (zs h (q + 2) k x) (q + 3) k l a b = h a b := fun a b y1 y2 => by rw [zs_k y2, zs_k y1]
  rw [g0 (pm + 6) _ (by omega) (by omega), (c3 _ e32).1]
  rintro x6 rfl
  apply s_frequencyOf r
  rw [g0 (pm + 1) _ (by omega) (by omega), c1 _ (by omega), g0 (pm + 7) _ (by omega) (by omega), (c3 _ e32).2.1]
  have etx : fF c (fS (fF c) (x % 32).toNat).toNat * (x / 32) + fI (fF c) (x % 32).toNat = tX (fF c) x := rfl
  rw [etx]
  refine ⟨by omega, by omega, by omega, by omega, ?_⟩
  rintro y rfl
  have hq1 : 16 ≤ (tX (fF c) x, l).1 ∧ (tX (fF c) x, l).1 ≤ 8191 := ⟨x1, x2⟩
  have etw : tW (fF c) dg x l = wN dg (tX (fF c) x, l) 2 := rfl
  refine yp2 2 (fun s y h' => y = (wN dg (tX (fF c) x, l) s).1 ∧ h' q 5 = (wN dg (tX (fF c) x, l) s).2 ∧ (s = 1 → 256 ≤ y) ∧ (s = 2 → 512 ≤ y) ∧ ∀ a b, ¬ (a = q ∧ b = 5) → h' a b = zs (zs h (q + 2) k x) (q + 3) k l a b) ⟨rfl, ?_, fun e => by omega, fun e => by omega, fun a b _ => rfl⟩ ?_
  · rw [g0 _ _ (by omega) (by omega), e2]; rfl
  rintro s y h3 L hs ⟨ey, e5, hy1, hy2, hF⟩ hL
  show F_Taking_takeSymbol_86 K L q t (k : Int) (fS (fF c) (x % 32).toNat) y (s : Int) h3
  obtain ⟨w2, w3⟩ := wN_ok hdg hq1 hl s
  have g3 : ∀ a b, a ≠ q → a ≠ q + 2 → a ≠ q + 3 → h3 a b = h a b := fun a b y1 y2 y3 => by rw [hF a b (by omega), g0 a b y2 y3]
  have fin : (512 ≤ (wN dg (tX (fF c) x, l) s).1 ∨ s = 2) → 512 ≤ y → B_Taking_takeSymbol_152 K q (k : Int) y (fS (fF c) (x % 32).toNat) h3 := by
    intro hor h512
    have ew : wN dg (tX (fF c) x, l) 2 = wN dg (tX (fF c) x, l) s := by
      rcases hor with q1 | q1
      · have := wN_fix (Or.inl q1) (d := 2 - s)
        rw [show s + (2 - s) = 2 by omega] at this
        exact this
      · rw [q1]
    unfold B_Taking_takeSymbol_152
    simp only [Int.toNat_natCast]
    rw [m2]
    refine ⟨by omega, ?_⟩
    rintro h4 rfl
    have y3 : zs h3 (q + 1) k (fS (fF c) (x % 32).toNat) (q + 3) k = l := by rw [zs_k (by omega), hF _ _ (by omega), zs_eq]
    have y5 : zs h3 (q + 1) k (fS (fF c) (x % 32).toNat) q 5 = (wN dg (tX (fF c) x, l) s).2 := by rw [zs_k (by omega), e5]
    rw [y3, y5]
    have w3' : (wN dg (tX (fF c) x, l) s).2 ≤ l := w3.2
    refine ⟨by omega, by omega, by omega, ?_⟩
    rintro h5 rfl
    refine ⟨by omega, by omega, ?_⟩
    rintro h6 rfl
    rw [etw, ew] at hB
    refine hB (by omega) _ ?_ ?_ ?_ ?_ ?_ ?_ ?_
    · rw [zs_k (by omega), zs_k (by omega), y5]
    · rw [zs_k (by omega), zs_k (by omega), zs_eq]
    · rw [zs_k (by omega), zs_k (by omega), zs_k (by omega), hF _ _ (by omega), zs_k (by omega), zs_eq]
    · rw [zs_k (by omega), zs_k (by omega), y3]
    · rw [zs_k (by omega), zs_eq]
    · rw [zs_eq]; exact ey
    · intro a b z1 z2 z3 z4 z5 z6
      have n1 : zs (zs (zs h3 (q + 1) k (fS (fF c) (x % 32).toNat)) (q + 4) k (l - (wN dg (tX (fF c) x, l) s).2)) (q + 5) (k % 2) y a b = h3 a b := by
        unfold zs
        rw [if_neg z6, if_neg z5, if_neg z2]
      rw [n1, hF a b z1]
      unfold zs
      rw [if_neg z4, if_neg z3]
  unfold F_Taking_takeSymbol_86
  have w2' : 16 ≤ y ∧ y ≤ 8191 := by rw [ey]; exact w2
  have w3' : (wN dg (tX (fF c) x, l) s).2 ≤ l := w3.2
  refine ⟨fun cs => fin (Or.inr (by omega)) (hy2 (by omega)), fun cs => ⟨fun c5 => fin (Or.inl (by omega)) c5, fun c5 => ⟨by omega, ?_⟩⟩⟩
  apply s_hasDigit
  · rw [g3 t 4 (by omega) (by omega) (by omega), e3]; exact hnd
  · rw [g3 t 4 (by omega) (by omega) (by omega), e3, e5]
    intro c6
    refine ⟨fun _ => ⟨by omega, ?_⟩, fun c => by omega⟩
    rintro h4 rfl
    have y5 : zs h3 q 5 ((wN dg (tX (fF c) x, l) s).2 - 1) q 5 = (wN dg (tX (fF c) x, l) s).2 - 1 := zs_eq
    rw [y5, zs_k (by omega), g3 (t + 2) _ (by omega) (by omega) (by omega), e4 _ (by omega)]
    have d15 := hdg ((wN dg (tX (fF c) x, l) s).2 - 1).toNat (by omega)
    refine ⟨by omega, by omega, by omega, ?_⟩
    rintro y' rfl
    have enx : wN dg (tX (fF c) x, l) (s + 1) = (16 * y + dg ((wN dg (tX (fF c) x, l) s).2 - 1).toNat, (wN dg (tX (fF c) x, l) s).2 - 1) := by
      rw [ey]
      exact if_pos ⟨by omega, by omega⟩
    refine ⟨by omega, hL _ _ (by omega) ⟨?_, ?_, fun e => ?_, fun e => ?_, fun a b z => ?_⟩⟩
    · rw [enx]
    · rw [enx, y5]
    · omega
    · have := hy1 (by omega); omega
    · rw [← hF a b z]
      unfold zs
      rw [if_neg z]
  · rw [g3 t 4 (by omega) (by omega) (by omega), e3, e5]
    intro c6
    have ew : wN dg (tX (fF c) x, l) 2 = wN dg (tX (fF c) x, l) s := by
      have := wN_fix (dg := dg) (q := (tX (fF c) x, l)) (i := s) (Or.inr (by omega)) (d := 2 - s)
      rw [show s + (2 - s) = 2 by omega] at this
      exact this
    refine ⟨fun c => absurd rfl c, fun _ => ?_⟩
    rintro h4 rfl
    refine hA (by rw [etw, ew]; omega) _ ?_ ?_ ?_ ?_
    · rw [zs_eq]
    · rw [zs_k (by omega), hF _ _ (by omega), zs_k (by omega), zs_eq]
    · rw [zs_k (by omega), hF _ _ (by omega), zs_eq]
    · intro a b z1 z2 z3
      have n1 : zs h3 q 6 (k : Int) a b = h3 a b := by
        unfold zs
        rw [if_neg (by omega)]
      rw [n1, hF a b (by omega)]
      unfold zs
      rw [if_neg z3, if_neg z2]

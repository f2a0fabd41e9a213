/-! the symbols of a message -/
abbrev zL : Type := Nat × Int × (Nat → Int) × (Nat → Int)
def ly (it : Nat → Int) : Nat → zL
  | 0 => (0, 0, fun _ => 0, fun _ => 0)
  | i + 1 => if it i < 10 then ((ly it i).1 + 1, (ly it i).2.1, zup (ly it i).2.2.1 (ly it i).1 (it i), zup (ly it i).2.2.2 (ly it i).1 (ly it i).2.1) else ((ly it i).1, it i - 10, (ly it i).2.2.1, (ly it i).2.2.2)
theorem ly_s {it : Nat → Int} {i : Nat} (h : it i < 10) : ly it (i + 1) = ((ly it i).1 + 1, (ly it i).2.1, zup (ly it i).2.2.1 (ly it i).1 (it i), zup (ly it i).2.2.2 (ly it i).1 (ly it i).2.1) := if_pos h
theorem ly_c {it : Nat → Int} {i : Nat} (h : ¬ it i < 10) : ly it (i + 1) = ((ly it i).1, it i - 10, (ly it i).2.2.1, (ly it i).2.2.2) := if_neg h
def VL (sc mc : Nat) (L : zL) : Prop := L.1 ≤ 40 ∧ ∀ j, j < L.1 → (0 ≤ L.2.2.1 j ∧ L.2.2.1 j < sc) ∧ (0 ≤ L.2.2.2 j ∧ L.2.2.2 j < mc)
theorem ly_ok {sc mc : Nat} (hsc : sc ≤ 8) (hmc : 1 ≤ mc) {it : Nat → Int} {ni : Int} (hv : ∀ j : Nat, (j : Int) < ni → (0 ≤ it j ∧ it j < sc) ∨ (10 ≤ it j ∧ it j < 10 + mc)) : ∀ {i : Nat}, (i : Int) ≤ ni → (ly it i).1 ≤ i ∧ (0 ≤ (ly it i).2.1 ∧ (ly it i).2.1 < mc) ∧ ∀ j, j < (ly it i).1 → (0 ≤ (ly it i).2.2.1 j ∧ (ly it i).2.2.1 j < sc) ∧ (0 ≤ (ly it i).2.2.2 j ∧ (ly it i).2.2.2 j < mc) := by
  intro i
  induction i with
  | zero => intro _; exact ⟨Nat.le_refl 0, ⟨Int.le_refl 0, by show (0 : Int) < mc; omega⟩, fun j hj => absurd hj (Nat.not_lt_zero j)⟩
  | succ i ih =>
    intro hi
    obtain ⟨i1, i2, i3⟩ := ih (by omega)
    have hvi := hv i (by omega)
    by_cases z : it i < 10
    · rw [ly_s z]
      refine ⟨by show (ly it i).1 + 1 ≤ _; omega, i2, fun j hj => ?_⟩
      have hj' : j < (ly it i).1 + 1 := hj
      show (0 ≤ zup _ _ _ j ∧ zup _ _ _ j < (sc : Int)) ∧ (0 ≤ zup _ _ _ j ∧ zup _ _ _ j < (mc : Int))
      by_cases e : j = (ly it i).1
      · rw [e, zup_self, zup_self]; exact ⟨by omega, i2⟩
      · rw [zup_ne e, zup_ne e]; exact i3 j (by omega)
    · rw [ly_c z]
      exact ⟨by show (ly it i).1 ≤ _; omega, by show 0 ≤ it i - 10 ∧ it i - 10 < (mc : Int); omega, i3⟩
theorem ly_VL {sc mc : Nat} {P : zP} (h : VP sc mc P) : VL sc mc (ly P.2.1 P.2.2.1.toNat) := by
  obtain ⟨hc, hn, hi, -⟩ := h
  have h1 := hc.1
  obtain ⟨i1, i2, i3⟩ := ly_ok (by omega) (by omega) hi (i := P.2.2.1.toNat) (by omega)
  exact ⟨by omega, i3⟩
def LC (h : zH) (q : Nat) (L : zL) : Prop := h q 2 = ((L.1 : Nat) : Int) ∧ ∀ j, j < L.1 → h (q + 1) j = L.2.2.1 j ∧ h (q + 2) j = L.2.2.2 j
def LR (h : zH) (p : Nat) (L : zL) : Prop := h p 31 = ((L.1 : Nat) : Int) ∧ ∀ j, j < L.1 → h (p + 21) j = L.2.2.1 j ∧ h (p + 22) j = L.2.2.2 j
theorem s_list {q a : Nat} (hqa : q + 2 < a ∨ a + 2 < q) {h : zH} {K : zH → Prop} {it : Nat → Int} {ni : Int} (e1 : h a 3 = ni) (hn : 0 ≤ ni ∧ ni ≤ 40) (e2 : ∀ j : Nat, (j : Int) < ni → h (a + 2) j = it j) (hi10 : ∀ j : Nat, (j : Int) < ni → 0 ≤ it j ∧ it j < 20) (hk : ∀ h', LC h' q (ly it ni.toNat) → (∀ k j, k < q ∨ q + 2 < k → h' k j = h k j) → K h') : M_Symbols_list q a h K := by
  have hle : ∀ i, (ly it i).1 ≤ i := by
    intro i
    induction i with
    | zero => exact Nat.le_refl 0
    | succ i ih =>
      by_cases z : it i < 10
      · rw [ly_s z]; show (ly it i).1 + 1 ≤ _; omega
      · rw [ly_c z]; show (ly it i).1 ≤ _; omega
  unfold M_Symbols_list
  rintro h1 rfl
  refine yp3 40 (fun i x y h' => (i : Int) ≤ ni ∧ x = (((ly it i).1 : Nat) : Int) ∧ y = (ly it i).2.1 ∧ (∀ j, j < (ly it i).1 → h' (q + 1) j = (ly it i).2.2.1 j ∧ h' (q + 2) j = (ly it i).2.2.2 j) ∧ ∀ k j, k < q ∨ q + 2 < k → h' k j = h k j) ⟨hn.1, rfl, rfl, fun j hj => absurd hj (Nat.not_lt_zero j), fun k j hkj => zs_k (by omega)⟩ ?_
  rintro i x y h2 L hi ⟨iN, rfl, rfl, hA, hF⟩ hL
  show F_Symbols_list_12 K L q a (((ly it i).1 : Nat) : Int) (ly it i).2.1 (i : Int) h2
  unfold F_Symbols_list_12
  rw [hF a 3 (by omega), e1]
  simp only [Int.toNat_natCast]
  have hl := hle i
  refine ⟨fun ci => ?_, fun ci => ⟨fun c2 => by omega, fun _ => ⟨by omega, ?_⟩⟩⟩
  · rintro h3 rfl
    have ei : ni.toNat = i := by omega
    refine hk _ ?_ (fun k j hkj => ?_)
    · rw [ei]
      exact ⟨zs_eq, fun j hj => by rw [zs_k (by omega), zs_k (show q + 2 ≠ q by omega)]; exact hA j hj⟩
    · rw [zs_k (by omega)]; exact hF k j hkj
  · rw [hF (a + 2) i (by omega), e2 i ci]
    have hb := hi10 i ci
    intro x5 ex5
    subst x5
    refine ⟨fun c3 => ⟨fun c4 => by omega, fun c4 => ⟨by omega, ?_⟩⟩, fun c3 => ⟨by omega, ?_⟩⟩
    · rintro h3 rfl
      refine ⟨by omega, ?_⟩
      rintro h4 rfl
      refine ⟨by omega, by omega, hL _ _ _ (by omega) ⟨by omega, ?_, ?_, fun j hj => ?_, fun k j hkj => ?_⟩⟩
      · rw [ly_s c3]; show _ = (((ly it i).1 + 1 : Nat) : Int); omega
      · rw [ly_s c3]
      · rw [ly_s c3] at hj ⊢
        have hj' : j < (ly it i).1 + 1 := hj
        show _ = zup _ _ _ j ∧ _ = zup _ _ _ j
        rw [zs_k (show q + 1 ≠ q + 2 by omega)]
        by_cases e : j = (ly it i).1
        · rw [e, zup_self, zup_self, zs_eq, zs_eq]; exact ⟨rfl, rfl⟩
        · rw [zup_ne e, zup_ne e, zs_j e, zs_j e, zs_k (by omega)]; exact hA j (by omega)
      · rw [zs_k (by omega), zs_k (by omega)]; exact hF k j hkj
    · rintro x3 rfl
      refine ⟨by omega, hL _ _ _ (by omega) ⟨by omega, ?_, ?_, fun j hj => ?_, hF⟩⟩
      · rw [ly_c (by omega)]
      · rw [ly_c (by omega)]
      · rw [ly_c (by omega)] at hj ⊢; exact hA j hj
theorem s_layMessage {p p1 : Nat} (hl : zln p1 = 193) (hp : p < p1 ∧ p1 < p + 6) {h : zH} {K : zH → Prop} {it : Nat → Int} {ni : Int} (e1 : h p1 188 = ni) (hn : 0 ≤ ni ∧ ni ≤ 40) (e2 : ∀ j : Nat, (j : Int) < ni → h p1 (24 + j) = it j) (hi10 : ∀ j : Nat, (j : Int) < ni → 0 ≤ it j ∧ it j < 20) (hk : ∀ h', LR h' p (ly it ni.toNat) → (∀ k j, ¬ (k = p ∧ j = 31) → k ≠ p + 21 → k ≠ p + 22 → h' k j = h k j) → K h') : M_RM_layMessage p p1 h K := by
  have hle : ∀ i, (ly it i).1 ≤ i := by
    intro i
    induction i with
    | zero => exact Nat.le_refl 0
    | succ i ih =>
      by_cases z : it i < 10
      · rw [ly_s z]; show (ly it i).1 + 1 ≤ _; omega
      · rw [ly_c z]; show (ly it i).1 ≤ _; omega
  unfold M_RM_layMessage
  rintro h1 rfl
  refine yp2 40 (fun i y h' => (i : Int) ≤ ni ∧ y = (ly it i).2.1 ∧ LR h' p (ly it i) ∧ ∀ k j, ¬ (k = p ∧ j = 31) → k ≠ p + 21 → k ≠ p + 22 → h' k j = h k j) ⟨hn.1, rfl, ⟨zs_eq, fun j hj => absurd hj (Nat.not_lt_zero j)⟩, fun k j z1 z2 z3 => by unfold zs; rw [if_neg z1]⟩ ?_
  rintro i y h2 L hi ⟨iN, rfl, ⟨e31, hA⟩, hF⟩ hL
  show F_RM_layMessage_9 K L p p1 (ly it i).2.1 (i : Int) h2
  unfold F_RM_layMessage_9
  rw [hl, hF p1 188 (by omega) (by omega) (by omega), e1]
  have hl' := hle i
  refine ⟨by omega, fun ci => ?_, fun ci => ⟨by omega, by omega, ?_⟩⟩
  · have ei : ni.toNat = i := by omega
    refine hk _ ?_ hF
    rw [ei]
    exact ⟨e31, hA⟩
  · rw [show (24 + (i : Int)).toNat = 24 + i by omega, hF p1 _ (by omega) (by omega) (by omega), e2 i ci]
    have hb := hi10 i ci
    intro x5 ex5
    subst x5
    rw [e31]
    simp only [Int.toNat_natCast]
    refine ⟨fun c3 => ⟨by omega, ?_⟩, fun c3 => ⟨by omega, ?_⟩⟩
    · rintro h3 rfl
      have y31 : zs h2 (p + 21) (ly it i).1 (it i) p 31 = (((ly it i).1 : Nat) : Int) := (zs_k (by omega)).trans e31
      rw [y31]
      simp only [Int.toNat_natCast]
      refine ⟨by omega, ?_⟩
      rintro h4 rfl
      rw [zs_k (show p ≠ p + 22 by omega), y31]
      refine ⟨by omega, ?_⟩
      rintro h5 rfl
      refine ⟨by omega, hL _ _ (by omega) ⟨by omega, ?_, ⟨?_, fun j hj => ?_⟩, fun k j z1 z2 z3 => ?_⟩⟩
      · rw [ly_s c3]
      · rw [ly_s c3, zs_eq]; show _ = (((ly it i).1 + 1 : Nat) : Int); omega
      · rw [ly_s c3] at hj ⊢
        have hj' : j < (ly it i).1 + 1 := hj
        show _ = zup _ _ _ j ∧ _ = zup _ _ _ j
        rw [zs_k (show p + 21 ≠ p by omega), zs_k (show p + 21 ≠ p + 22 by omega), zs_k (show p + 22 ≠ p by omega)]
        by_cases e : j = (ly it i).1
        · rw [e, zup_self, zup_self, zs_eq, zs_eq]; exact ⟨rfl, rfl⟩
        · rw [zup_ne e, zup_ne e, zs_j e, zs_j e, zs_k (by omega)]; exact hA j (by omega)
      · have : zs (zs (zs h2 (p + 21) (ly it i).1 (it i)) (p + 22) (ly it i).1 (ly it i).2.1) p 31 ((((ly it i).1 : Nat) : Int) + 1) k j = zs (zs h2 (p + 21) (ly it i).1 (it i)) (p + 22) (ly it i).1 (ly it i).2.1 k j := by
          unfold zs
          rw [if_neg z1]
        rw [this, zs_k z3, zs_k z2]; exact hF k j z1 z2 z3
    · rintro x3 rfl
      refine ⟨by omega, hL _ _ (by omega) ⟨by omega, ?_, ?_, hF⟩⟩
      · rw [ly_c (by omega)]
      · rw [ly_c (by omega)]; exact ⟨e31, hA⟩
/-- the first with nothing -/
def fz (g : Nat → Int) : Nat → Int
  | 0 => -9
  | n + 1 => if fz g n = -9 then (if g n = 0 then (n : Int) else -9) else fz g n
theorem fz_found {g : Nat → Int} {b : Nat} (h1 : fz g b = -9) (h2 : g b = 0) : ∀ {d : Nat}, fz g (b + 1 + d) = (b : Int) := by
  intro d
  induction d with
  | zero => show (if fz g b = -9 then (if g b = 0 then (b : Int) else -9) else fz g b) = b; rw [if_pos h1, if_pos h2]
  | succ d ih =>
    show (if fz g (b + 1 + d) = -9 then _ else fz g (b + 1 + d)) = (b : Int)
    rw [ih, if_neg (by omega)]
theorem fz_none {g : Nat → Int} {b : Nat} (h1 : fz g b = -9) (h2 : ¬ g b = 0) : fz g (b + 1) = -9 := by
  show (if fz g b = -9 then (if g b = 0 then (b : Int) else -9) else fz g b) = -9
  rw [if_pos h1, if_neg h2]
theorem fz_all {g : Nat → Int} : ∀ {n : Nat}, fz g n = -9 → ∀ j, j < n → g j ≠ 0 := by
  intro n
  induction n with
  | zero => intro _ j hj; omega
  | succ n ih =>
    intro h j hj e
    have h' : (if fz g n = -9 then (if g n = 0 then (n : Int) else -9) else fz g n) = -9 := h
    by_cases z : fz g n = -9
    · by_cases ej : j = n
      · subst ej; rw [if_pos z, if_pos e] at h'; omega
      · exact ih z j (by omega) e
    · rw [if_neg z] at h'; exact z h'
def gL (c : Nat → Int) (L : zL) (k : Nat) : Int := fF (cm c (L.2.2.2 k).toNat) (L.2.2.1 k).toNat
def uF (c : Nat → Int) (L : zL) : Int := fz (gL c L) L.1
theorem s_firstUnfit {q : Nat} {h : zH} {K : Int → zH → Prop} {sc mc : Nat} {c : Nat → Int} (hv : VC sc mc c) (hC : TCs h c mc) {L : zL} (hL : LC h q L) (hV : VL sc mc L) (hk : K (uF c L) h) : M_Symbols_firstUnfit q 5 h K := by
  have hmc := hv.1
  obtain ⟨e2, hA⟩ := hL
  obtain ⟨n40, hB⟩ := hV
  unfold M_Symbols_firstUnfit
  refine yp1 L.1 (fun i h' => h' = h ∧ fz (gL c L) i = -9) ⟨rfl, rfl⟩ ?_
  rintro i h' L' hi ⟨rfl, ez⟩ hL'
  show F_Symbols_firstUnfit_2 K L' q 5 (i : Int) h'
  unfold F_Symbols_firstUnfit_2
  rw [e2]
  simp only [Int.toNat_natCast]
  refine ⟨fun ci => ?_, fun ci => ⟨fun c2 => by omega, fun c2 => ⟨by omega, ?_⟩⟩⟩
  · have ei : i = L.1 := by omega
    unfold uF at hk
    rw [← ei, ez] at hk
    exact hk
  · obtain ⟨a1, a2⟩ := hA i (by omega)
    obtain ⟨b1, b2⟩ := hB i (by omega)
    rw [a2]
    apply s_of (by omega)
    refine ⟨by omega, ?_⟩
    rw [a1]
    apply s_frequencyOf (by omega)
    have eg : h' (7 + 10 * (L.2.2.2 i).toNat + 1) (L.2.2.1 i).toNat = gL c L i := (hC _ (by omega)).1 _ (by omega)
    rw [eg]
    refine ⟨fun c3 => ⟨by omega, hL' _ (by omega) ⟨rfl, fz_none ez c3⟩⟩, fun c3 => ?_⟩
    have := fz_found ez c3 (d := L.1 - (i + 1))
    rw [show i + 1 + (L.1 - (i + 1)) = L.1 by omega] at this
    unfold uF at hk
    rw [this] at hk
    exact hk
theorem s_unfitOf {p : Nat} {h : zH} {K : Int → zH → Prop} {sc mc : Nat} {c : Nat → Int} (hv : VC sc mc c) (hC : TR h p c mc) {L : zL} (hL : LR h p L) (hV : VL sc mc L) (hk : K (uF c L) h) : M_RM_unfitOf p h K := by
  have hmc := hv.1
  obtain ⟨e2, hA⟩ := hL
  obtain ⟨n40, hB⟩ := hV
  unfold M_RM_unfitOf
  refine yp1 L.1 (fun i h' => h' = h ∧ fz (gL c L) i = -9) ⟨rfl, rfl⟩ ?_
  rintro i h' L' hi ⟨rfl, ez⟩ hL'
  show F_RM_unfitOf_2 K L' p (i : Int) h'
  unfold F_RM_unfitOf_2
  rw [e2]
  simp only [Int.toNat_natCast]
  refine ⟨fun ci => ?_, fun ci => ?_⟩
  · have ei : i = L.1 := by omega
    unfold uF at hk
    rw [← ei, ez] at hk
    exact hk
  · obtain ⟨a1, a2⟩ := hA i (by omega)
    obtain ⟨b1, b2⟩ := hB i (by omega)
    rw [a1, a2]
    have eg : h' (p + 9) (8 * L.2.2.2 i + L.2.2.1 i).toNat = gL c L i := by
      rw [show (8 * L.2.2.2 i + L.2.2.1 i).toNat = 8 * (L.2.2.2 i).toNat + (L.2.2.1 i).toNat by omega]
      exact (hC _ (by omega)).1 _ (by omega)
    rw [eg]
    refine ⟨by omega, by omega, by omega, by omega, by omega, fun c3 => ⟨by omega, hL' _ (by omega) ⟨rfl, fz_none ez c3⟩⟩, fun c3 => ?_⟩
    have := fz_found ez c3 (d := L.1 - (i + 1))
    rw [show i + 1 + (L.1 - (i + 1)) = L.1 by omega] at this
    unfold uF at hk
    rw [this] at hk
    exact hk
theorem s_symHas {q : Nat} {h : zH} {K : Int → zH → Prop} {x : Int} (hn : h q 2 ≤ 40) (h1 : 0 ≤ x ∧ x < h q 2 → K 1 h) (h0 : ¬ (0 ≤ x ∧ x < h q 2) → K 0 h) : M_Symbols_has q x h K := by
  unfold M_Symbols_has
  repeat' (first | with_reducible apply And.intro | (with_reducible intro hh ee; subst ee) | with_reducible intro cc)
  all_goals (try omega)
  · exact h0 (by omega)
  · exact h0 (by omega)
  · exact h1 (by omega)
/-- the product of the frequencies -/
def pg (f : Nat → Int) (L : zL) (k i : Nat) : Int := if k + i < L.1 then f (L.2.2.1 (k + i)).toNat else 1
def pd (g : Nat → Int) : Nat → Int
  | 0 => 1
  | n + 1 => pd g n * g n
theorem pd_ok {g : Nat → Int} (hg : ∀ i, 0 ≤ g i ∧ g i ≤ 32) : ∀ {n : Nat}, 0 ≤ pd g n ∧ pd g n ≤ 32 ^ n := by
  intro n
  induction n with
  | zero => exact ⟨by show (0 : Int) ≤ 1; omega, by show (1 : Int) ≤ 1; omega⟩
  | succ n ih =>
    have h1 := Int.mul_nonneg ih.1 (hg n).1
    have h2 : pd g n * g n ≤ pd g n * 32 := Int.mul_le_mul_of_nonneg_left (hg n).2 ih.1
    refine ⟨h1, ?_⟩
    show pd g n * g n ≤ 32 ^ (n + 1)
    rw [Int.pow_succ]
    omega
theorem pd_le {g : Nat → Int} (hg : ∀ i, 0 ≤ g i ∧ g i ≤ 32) {n : Nat} (hn : n ≤ 12) : 0 ≤ pd g n ∧ pd g n ≤ 1152921504606846976 := by
  have := pd_ok hg (n := n)
  refine ⟨this.1, ?_⟩
  have h2 : (32 : Int) ^ n ≤ 32 ^ 12 := by
    have : ∀ d : Nat, (32 : Int) ^ n ≤ 32 ^ (n + d) := by
      intro d
      induction d with
      | zero => exact Int.le_refl _
      | succ d ih =>
        have h0 : (0 : Int) ≤ 32 ^ (n + d) := Int.pow_nonneg (by omega)
        rw [show n + (d + 1) = n + d + 1 by omega, Int.pow_succ]
        omega
    have := this (12 - n)
    rw [show n + (12 - n) = 12 by omega] at this
    exact this
  have h3 : (32 : Int) ^ 12 = 1152921504606846976 := by decide
  omega
theorem pg_ok {sc mc : Nat} {c : Nat → Int} (hv : VC sc mc c) {m : Nat} (hm : m < mc) {L : zL} (hV : VL sc mc L) {k : Nat} : ∀ i, 0 ≤ pg (fF (cm c m)) L k i ∧ pg (fF (cm c m)) L k i ≤ 32 := by
  intro i
  obtain ⟨f1, f2, f3⟩ := VC_f hv hm
  have := hv.1
  unfold pg
  split
  · have := hV.2 (k + i) (by omega)
    exact ⟨f1 _ (by omega), f3 _ (by omega)⟩
  · omega
theorem s_multiply {q : Nat} {h : zH} {K : Int → zH → Prop} {sc mc : Nat} {c : Nat → Int} (hv : VC sc mc c) (hC : TCs h c mc) {L : zL} (hL : LC h q L) (hV : VL sc mc L) {m k n : Nat} (hm : m < mc) (hn : n ≤ 12) (hkb : k < 40) (hk : K (pd (pg (fF (cm c m)) L k) n) h) : M_Symbols_multiply q (7 + 10 * m) (k : Int) (n : Int) h K := by
  have hmc := hv.1
  have hg := pg_ok hv hm hV (k := k)
  obtain ⟨e2, hA⟩ := hL
  obtain ⟨n40, hB⟩ := hV
  unfold M_Symbols_multiply
  refine yp2 n (fun i x h' => h' = h ∧ x = pd (pg (fF (cm c m)) L k) i) ⟨rfl, rfl⟩ ?_
  rintro i x h' L' hi ⟨rfl, rfl⟩ hL'
  show F_Symbols_multiply_6 K L' q (7 + 10 * m) (k : Int) (n : Int) (pd (pg (fF (cm c m)) L k) i) (i : Int) h'
  unfold F_Symbols_multiply_6
  refine ⟨fun ci => ?_, fun ci => ⟨fun c2 => by omega, fun c2 => ⟨by omega, ?_⟩⟩⟩
  · have ei : i = n := by omega
    rw [ei]
    exact hk
  · have pb := pd_le hg (n := i + 1) (by omega)
    have es : pd (pg (fF (cm c m)) L k) (i + 1) = pd (pg (fF (cm c m)) L k) i * pg (fF (cm c m)) L k i := rfl
    apply s_symHas
    · omega
    · intro c3
      rw [e2] at c3
      have ep : pg (fF (cm c m)) L k i = fF (cm c m) (L.2.2.1 (k + i)).toNat := if_pos (by omega)
      have hb := hB (k + i) (by omega)
      rw [show ((k : Int) + (i : Int)).toNat = k + i by omega, (hA (k + i) (by omega)).1]
      refine ⟨fun e => absurd e (by decide), fun _ => ⟨by omega, by omega, ?_⟩⟩
      apply s_frequencyOf (by omega)
      rw [(hC m hm).1 _ (by omega), ← ep, ← es]
      refine ⟨by omega, ?_⟩
      intro x4 ex4
      exact ⟨by omega, hL' _ _ (by omega) ⟨rfl, ex4⟩⟩
    · intro c3
      rw [e2] at c3
      have ep : pg (fF (cm c m)) L k i = 1 := if_neg (by omega)
      refine ⟨fun _ => ⟨by omega, hL' _ _ (by omega) ⟨rfl, ?_⟩⟩, fun e => absurd rfl e⟩
      rw [es, ep, Int.mul_one]
theorem s_productOf {p : Nat} {h : zH} {K : Int → zH → Prop} {sc mc : Nat} {c : Nat → Int} (hv : VC sc mc c) (hC : TR h p c mc) {L : zL} (hL : LR h p L) (hV : VL sc mc L) {m k n : Nat} (hm : m < mc) (hn : n ≤ 12) (hkb : k < L.1) (hk : K (pd (pg (fF (cm c m)) L k) n) h) : M_RM_productOf p (m : Int) (k : Int) (n : Int) h K := by
  have hmc := hv.1
  have hg := pg_ok hv hm hV (k := k)
  obtain ⟨e2, hA⟩ := hL
  obtain ⟨n40, hB⟩ := hV
  have stop : ∀ i, L.1 ≤ k + i → ∀ d, pd (pg (fF (cm c m)) L k) (i + d) = pd (pg (fF (cm c m)) L k) i := by
    intro i hi d
    induction d with
    | zero => rfl
    | succ d ih =>
      show pd (pg (fF (cm c m)) L k) (i + d) * pg (fF (cm c m)) L k (i + d) = _
      rw [ih, show pg (fF (cm c m)) L k (i + d) = 1 from if_neg (by omega), Int.mul_one]
  unfold M_RM_productOf
  refine ypG n (fun i s => s = (pd (pg (fF (cm c m)) L k) i, ((k + i : Nat) : Int), h)) rfl ?_
  rintro i _ L' hi rfl hL'
  show F_RM_productOf_6 K L' p (m : Int) (k : Int) (n : Int) (pd (pg (fF (cm c m)) L k) i) ((k + i : Nat) : Int) h
  unfold F_RM_productOf_6
  rw [e2]
  simp only [Int.toNat_natCast]
  refine ⟨by omega, fun ci => ?_, fun ci => ⟨fun c2 => ?_, fun c2 => ?_⟩⟩
  · have ei : i = n := by omega
    rw [ei]
    exact hk
  · have := stop i (by omega) (n - i)
    rw [show i + (n - i) = n by omega] at this
    rw [← this]
    exact hk
  · have pb := pd_le hg (n := i + 1) (by omega)
    have es : pd (pg (fF (cm c m)) L k) (i + 1) = pd (pg (fF (cm c m)) L k) i * pg (fF (cm c m)) L k i := rfl
    have ep : pg (fF (cm c m)) L k i = fF (cm c m) (L.2.2.1 (k + i)).toNat := if_pos (by omega)
    have hb := hB (k + i) (by omega)
    rw [(hA (k + i) (by omega)).1, show (8 * (m : Int) + L.2.2.1 (k + i)).toNat = 8 * m + (L.2.2.1 (k + i)).toNat by omega, (hC m hm).1 _ (by omega), ← ep, ← es]
    refine ⟨by omega, by omega, by omega, by omega, by omega, ?_⟩
    intro x4 ex4
    subst x4
    refine ⟨by omega, hL' _ (by omega) ?_⟩
    rw [show (((k + (i + 1) : Nat) : Int)) = ((k + i : Nat) : Int) + 1 by omega]

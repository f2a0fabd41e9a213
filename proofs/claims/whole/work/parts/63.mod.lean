/-! the class's Model: buckets, slots, make -/
def RB (h : zH) (p : Nat) (q : zB3) : Prop := ∀ j, j < 8 → h (p + 3) j = q.1 j ∧ h (p + 5) j = q.2.1 j ∧ h (p + 4) j = q.2.2 j
theorem s_closeOne {p : Nat} {h : zH} {K : zH → Prop} {f : Nat → Int} {n : Nat} (hn : n < 8) {q : zB3} (hI : IB f n q) (hf : sm f 8 = 32) (hr : RB h p q) (hk : ∀ h', RB h' p (cB q) → (∀ k j, k ≠ p + 3 → k ≠ p + 4 → k ≠ p + 5 → h' k j = h k j) → K h') : M_Model_closeOne p h K := by
  obtain ⟨b, g, hc⟩ := cB_some hn hI
  have hcq := cB_eq hc
  obtain ⟨hb, e1, e2, e3, e4, e5⟩ := hc
  have hpos := hI.1
  have f1 : fC (h (p + 3)) (h (p + 5)) 8 = (b : Int) := (fC_congr (fun j hj => ⟨(hr j hj).1, (hr j hj).2.1⟩)).trans e1
  unfold M_Model_closeOne
  apply s_firstToClose
  rw [f1]
  simp only [Int.toNat_natCast]
  refine ⟨fun c => ⟨by omega, ?_⟩, fun c => by omega⟩
  rintro h1 rfl
  have a3 : zs h (p + 5) b 0 (p + 3) = h (p + 3) := zs_row' (by omega)
  have a5 : zs h (p + 5) b 0 (p + 5) = zup (h (p + 5)) b 0 := zs_row
  have rb := (hr b hb).1
  have pb := hpos b hb
  rw [a3, rb]
  refine ⟨by omega, by omega, ?_⟩
  rintro x2 rfl
  apply s_fullestOpen
  · intro j hj
    rw [a3, (hr j hj).1]
    exact hpos j hj
  rw [a3, a5]
  have f2 : (aG (rO (h (p + 3)) (zup (h (p + 5)) b 0)) 8).1 = g := by
    rw [← e4]
    refine congrArg Prod.fst (aG_congr (fun j hj => ?_))
    unfold rO
    rw [(hr j hj).1]
    by_cases e : j = b
    · rw [e, zup_self, zup_self]
    · rw [zup_ne e, zup_ne e, (hr j hj).2.1]
  rw [f2]
  by_cases hlt : q.1 b < 4
  · rw [if_pos hlt] at hcq
    obtain ⟨g0, hg0, rfl, hgo, hg5⟩ := e5 hlt
    have rg := (hr g0 hg0).1
    have pg := hpos g0 hg0
    have hgb : g0 ≠ b := fun e => by rw [e, zup_self] at hgo; exact hgo rfl
    have gle : q.1 g0 ≤ 32 := by
      have e0 := hI.2.2.2.1
      have := sm_one (f := r0O q.1 q.2.1) (n := 8) (j := g0) (fun i hi => by unfold r0O; split; exact hpos i hi; omega) hg0
      have e9 : r0O q.1 q.2.1 g0 = q.1 g0 := if_pos (by rw [zup_ne hgb] at hgo; exact hgo)
      omega
    simp only [Int.toNat_natCast]
    rw [Int.toNat_natCast] at hcq
    refine ⟨fun c => by omega, fun c => ⟨fun c => by omega, fun c => ⟨by omega, ?_⟩⟩⟩
    rintro h2 rfl
    have b3 : zs (zs h (p + 5) b 0) (p + 4) b (g0 : Int) (p + 3) = h (p + 3) := (zs_row' (by omega)).trans a3
    rw [b3, rg]
    refine ⟨by omega, by omega, by omega, ?_⟩
    rintro h3 rfl
    refine hk _ ?_ ?_
    · intro j hj
      rw [hcq]
      refine ⟨?_, ?_, ?_⟩
      · rw [zs_row, b3]
        show zup (h (p + 3)) g0 _ j = zup q.1 g0 _ j
        by_cases e : j = g0
        · rw [e, zup_self, zup_self]
        · rw [zup_ne e, zup_ne e, (hr j hj).1]
      · rw [zs_row' (by omega), zs_row' (by omega), zs_row]
        show zup (h (p + 5)) b _ j = zup q.2.1 b _ j
        by_cases e : j = b
        · rw [e, zup_self, zup_self]
        · rw [zup_ne e, zup_ne e, (hr j hj).2.1]
      · rw [zs_row' (by omega), zs_row, zs_row' (by omega)]
        show zup (h (p + 4)) b _ j = zup q.2.2 b _ j
        by_cases e : j = b
        · rw [e, zup_self, zup_self]
        · rw [zup_ne e, zup_ne e, (hr j hj).2.2]
    · intro k j k3 k4 k5
      rw [zs_k k3, zs_k k4, zs_k k5]
  · rw [if_neg hlt] at hcq
    refine ⟨fun c => ?_, fun c => by omega⟩
    refine hk _ ?_ ?_
    · intro j hj
      rw [hcq]
      refine ⟨?_, ?_, ?_⟩
      · rw [a3, (hr j hj).1]
      · rw [zs_row]
        show zup (h (p + 5)) b _ j = zup q.2.1 b _ j
        by_cases e : j = b
        · rw [e, zup_self, zup_self]
        · rw [zup_ne e, zup_ne e, (hr j hj).2.1]
      · rw [zs_row' (by omega), (hr j hj).2.2]
    · intro k j k3 k4 k5
      rw [zs_k k5]
theorem s_closeBuckets {p : Nat} {h : zH} {K : zH → Prop} {f : Nat → Int} (hf0 : ∀ j, j < 8 → 0 ≤ f j) (hf : sm f 8 = 32) (hr : ∀ j, j < 8 → h (p + 1) j = f j) (hk : ∀ h', RB h' p (cBn f 8) → (∀ k j, k ≠ p + 3 → k ≠ p + 4 → k ≠ p + 5 → h' k j = h k j) → K h') : M_Model_closeBuckets p h K := by
  unfold M_Model_closeBuckets
  refine yp1 8 (fun i h' => (∀ j, j < i → h' (p + 3) j = f j ∧ h' (p + 5) j = 1 ∧ h' (p + 4) j = -9) ∧ ∀ k j, k ≠ p + 3 → k ≠ p + 4 → k ≠ p + 5 → h' k j = h k j) ⟨fun j hj => by omega, fun k j _ _ _ => rfl⟩ ?_
  rintro i h' L hi ⟨hA, hB⟩ hL
  show F_Model_closeBuckets_2 K L p (i : Int) h'
  unfold F_Model_closeBuckets_2
  simp only [Int.toNat_natCast]
  constructor
  · intro c
    have ei : i = 8 := by omega
    subst ei
    refine yp1 8 (fun i h'' => RB h'' p (cBn f i) ∧ ∀ k j, k ≠ p + 3 → k ≠ p + 4 → k ≠ p + 5 → h'' k j = h k j) ⟨fun j hj => hA j hj, hB⟩ ?_
    rintro i h'' L' hi' ⟨hR, hB'⟩ hL'
    show F_Model_closeBuckets_43 K L' p (i : Int) h''
    unfold F_Model_closeBuckets_43
    constructor
    · intro c
      have ei : i = 8 := by omega
      subst ei
      exact hk _ hR hB'
    · intro c
      refine s_closeOne (n := i) (by omega) (IB_n hf0 hf hi') hf hR (fun h3 hR3 hB3 => ⟨by omega, hL' _ (by omega) ⟨hR3, fun k j a b c => (hB3 k j a b c).trans (hB' k j a b c)⟩⟩)
  · intro c
    have e1 : h' (p + 1) i = f i := (hB _ _ (by omega) (by omega) (by omega)).trans (hr i (by omega))
    rw [e1]
    repeat' (first | with_reducible apply And.intro | (with_reducible intro hh ee; subst ee) | with_reducible intro cc)
    all_goals (try omega)
    refine hL _ (by omega) ⟨fun j hj => ?_, fun k j k3 k4 k5 => ?_⟩
    · by_cases e : j = i
      · subst e
        refine ⟨?_, ?_, ?_⟩
        · rw [zs_k (by omega), zs_k (by omega), zs_eq]
        · rw [zs_eq]
        · rw [zs_k (by omega), zs_eq]
      · obtain ⟨x1, x2, x3⟩ := hA j (by omega)
        refine ⟨?_, ?_, ?_⟩
        · rw [zs_k (by omega), zs_k (by omega), zs_j e, x1]
        · rw [zs_j e, zs_k (by omega), zs_k (by omega), x2]
        · rw [zs_k (by omega), zs_j e, zs_k (by omega), x3]
    · rw [zs_k k5, zs_k k4, zs_k k3, hB k j k3 k4 k5]

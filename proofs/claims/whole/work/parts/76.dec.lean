/-! taking a message out of a tape -/
abbrev zD : Type := Nat × Int × (Nat → Int)
def dc (pl s : Nat → Int) : Nat → zD
  | 0 => (0, 0, fun _ => 0)
  | k + 1 => if pl k = (dc pl s k).2.1 then ((dc pl s k).1 + 1, (dc pl s k).2.1, zup (dc pl s k).2.2 (dc pl s k).1 (s k)) else ((dc pl s k).1 + 2, pl k, zup (zup (dc pl s k).2.2 (dc pl s k).1 (10 + pl k)) ((dc pl s k).1 + 1) (s k))
theorem dc_e {pl s : Nat → Int} {k : Nat} (h : pl k = (dc pl s k).2.1) : dc pl s (k + 1) = ((dc pl s k).1 + 1, (dc pl s k).2.1, zup (dc pl s k).2.2 (dc pl s k).1 (s k)) := if_pos h
theorem dc_n {pl s : Nat → Int} {k : Nat} (h : ¬ pl k = (dc pl s k).2.1) : dc pl s (k + 1) = ((dc pl s k).1 + 2, pl k, zup (zup (dc pl s k).2.2 (dc pl s k).1 (10 + pl k)) ((dc pl s k).1 + 1) (s k)) := if_neg h
theorem dc_m {pl s : Nat → Int} {k : Nat} : (dc pl s (k + 1)).2.1 = pl k := by
  by_cases h : pl k = (dc pl s k).2.1
  · rw [dc_e h]; exact h.symm
  · rw [dc_n h]
theorem dc_mono {pl s : Nat → Int} {k : Nat} : ∀ {d : Nat}, (dc pl s k).1 + d ≤ (dc pl s (k + d)).1 := by
  intro d
  induction d with
  | zero => exact Nat.le_refl _
  | succ d ih =>
    rw [show k + (d + 1) = k + d + 1 by omega]
    by_cases h : pl (k + d) = (dc pl s (k + d)).2.1
    · rw [dc_e h]; show _ ≤ (dc pl s (k + d)).1 + 1; omega
    · rw [dc_n h]; show _ ≤ (dc pl s (k + d)).1 + 2; omega
theorem dc_le {pl s : Nat → Int} : ∀ {k : Nat}, (dc pl s k).1 ≤ 2 * k := by
  intro k
  induction k with
  | zero => exact Nat.le_refl _
  | succ k ih =>
    by_cases h : pl k = (dc pl s k).2.1
    · rw [dc_e h]; show (dc pl s k).1 + 1 ≤ _; omega
    · rw [dc_n h]; show (dc pl s k).1 + 2 ≤ _; omega
/-- the count does not look at the symbols -/
theorem dc_cnt {pl s s' : Nat → Int} : ∀ {k : Nat}, (dc pl s k).1 = (dc pl s' k).1 ∧ (dc pl s k).2.1 = (dc pl s' k).2.1 := by
  intro k
  induction k with
  | zero => exact ⟨rfl, rfl⟩
  | succ k ih =>
    by_cases h : pl k = (dc pl s k).2.1
    · rw [dc_e h, dc_e (s := s') (by rw [← ih.2]; exact h)]; exact ⟨by show (dc pl s k).1 + 1 = (dc pl s' k).1 + 1; rw [ih.1], ih.2⟩
    · rw [dc_n h, dc_n (s := s') (by rw [← ih.2]; exact h)]; exact ⟨by show (dc pl s k).1 + 2 = (dc pl s' k).1 + 2; rw [ih.1], rfl⟩
theorem dc_ok {sc mc : Nat} {pl s : Nat → Int} : ∀ {n : Nat}, (∀ j, j < n → 0 ≤ pl j ∧ pl j < mc) → (∀ j, j < n → 0 ≤ s j ∧ s j < sc) → ∀ j, j < (dc pl s n).1 → (0 ≤ (dc pl s n).2.2 j ∧ (dc pl s n).2.2 j < sc) ∨ (10 ≤ (dc pl s n).2.2 j ∧ (dc pl s n).2.2 j < 10 + mc) := by
  intro n
  induction n with
  | zero => intro _ _ j hj; exact absurd hj (Nat.not_lt_zero j)
  | succ n ih =>
    intro hp hs j hj
    have ih' := ih (fun j hj => hp j (by omega)) (fun j hj => hs j (by omega))
    have p1 := hp n (by omega)
    have s1 := hs n (by omega)
    by_cases h : pl n = (dc pl s n).2.1
    · rw [dc_e h] at hj ⊢
      have hj' : j < (dc pl s n).1 + 1 := hj
      show (0 ≤ zup _ _ _ j ∧ zup _ _ _ j < (sc : Int)) ∨ (10 ≤ zup _ _ _ j ∧ zup _ _ _ j < 10 + (mc : Int))
      by_cases e : j = (dc pl s n).1
      · rw [e, zup_self]; exact Or.inl s1
      · rw [zup_ne e]; exact ih' j (by omega)
    · rw [dc_n h] at hj ⊢
      have hj' : j < (dc pl s n).1 + 2 := hj
      show (0 ≤ zup _ _ _ j ∧ zup _ _ _ j < (sc : Int)) ∨ (10 ≤ zup _ _ _ j ∧ zup _ _ _ j < 10 + (mc : Int))
      by_cases e : j = (dc pl s n).1 + 1
      · rw [e, zup_self]; exact Or.inl s1
      · rw [zup_ne e]
        by_cases e2 : j = (dc pl s n).1
        · rw [e2, zup_self]; exact Or.inr (by omega)
        · rw [zup_ne e2]; exact ih' j (by omega)
theorem s_itemsNeeded {t : Nat} {h : zH} {K : Int → zH → Prop} {pl s : Nat → Int} {np : Nat} (hn : np ≤ 40) (e1 : h t 3 = (np : Int)) (e2 : ∀ j, j < np → h (t + 1) j = pl j) (hk : K (((dc pl s np).1 : Nat) : Int) h) : M_Tape_itemsNeeded t h K := by
  unfold M_Tape_itemsNeeded
  refine yp3 np (fun i x y h' => h' = h ∧ x = (((dc pl s i).1 : Nat) : Int) ∧ y = (dc pl s i).2.1) ⟨rfl, rfl, rfl⟩ ?_
  rintro i x y h' L hi ⟨rfl, rfl, rfl⟩ hL
  show F_Tape_itemsNeeded_6 K L t (((dc pl s i).1 : Nat) : Int) (dc pl s i).2.1 (i : Int) h'
  unfold F_Tape_itemsNeeded_6
  rw [e1]
  simp only [Int.toNat_natCast]
  have hle := dc_le (pl := pl) (s := s) (k := i)
  refine ⟨fun ci => ?_, fun ci => ⟨fun c2 => by omega, fun _ => ⟨by omega, ?_⟩⟩⟩
  · rw [show i = np by omega]; exact hk
  · rw [e2 i (by omega)]
    unfold B_Tape_itemsNeeded_36
    simp only [Int.toNat_natCast]
    rw [e2 i (by omega)]
    refine ⟨fun c3 => ⟨by omega, ?_⟩, fun c3 => ⟨by omega, ?_⟩⟩
    · rintro x1 rfl
      refine ⟨by omega, ?_⟩
      intro x2 ex2
      refine ⟨by omega, hL _ _ _ (by omega) ⟨rfl, ?_, ?_⟩⟩
      · rw [dc_n c3]; show _ = (((dc pl s i).1 + 2 : Nat) : Int); omega
      · rw [dc_n c3]; exact ex2
    · rintro x1 rfl
      refine ⟨by omega, ?_⟩
      intro x2 ex2
      refine ⟨by omega, hL _ _ _ (by omega) ⟨rfl, ?_, ?_⟩⟩
      · rw [dc_e c3]; show _ = (((dc pl s i).1 + 1 : Nat) : Int); omega
      · rw [dc_e c3]; exact ex2.trans c3
theorem s_itemsOf {p p1 : Nat} (hl : zln p1 = 193) {h : zH} {K : Int → zH → Prop} {pl s : Nat → Int} {np : Nat} (hn : np ≤ 40) (e1 : h p 27 = (np : Int)) (e2 : ∀ j, j < np → h p1 (64 + j) = pl j) (hk : K (((dc pl s np).1 : Nat) : Int) h) : M_RM_itemsOf p p1 h K := by
  unfold M_RM_itemsOf
  rw [e1]
  rintro x2 rfl
  refine yp2 np (fun i x h' => h' = h ∧ x = (np : Int) - i + (((dc pl s i).1 : Nat) : Int)) ⟨rfl, by show (np : Int) = (np : Int) - 0 + 0; omega⟩ ?_
  rintro i x h' L hi ⟨rfl, rfl⟩ hL
  show F_RM_itemsOf_7 K L p p1 ((np : Int) - i + (((dc pl s i).1 : Nat) : Int)) (i : Int) h'
  unfold F_RM_itemsOf_7
  rw [e1, hl]
  have hle := dc_le (pl := pl) (s := s) (k := i)
  refine ⟨fun ci => ?_, fun ci => ⟨by omega, by omega, ?_⟩⟩
  · have ei : i = np := by omega
    subst ei
    rw [show (i : Int) - i + (((dc pl s i).1 : Nat) : Int) = (((dc pl s i).1 : Nat) : Int) by omega]
    exact hk
  · have key : B_RM_itemsOf_38 K L p p1 (i : Int) ((np : Int) - i + (((dc pl s i).1 : Nat) : Int)) (pl i) (dc pl s i).2.1 h' := by
      unfold B_RM_itemsOf_38
      refine ⟨fun c3 => ⟨by omega, ?_⟩, fun c3 => ⟨by omega, ?_⟩⟩
      · intro x2 ex2
        refine ⟨by omega, hL _ _ (by omega) ⟨rfl, ?_⟩⟩
        rw [dc_n c3, ex2]
        show _ = (np : Int) - ((i + 1 : Nat) : Int) + (((dc pl s i).1 + 2 : Nat) : Int)
        omega
      · intro x2 ex2
        refine ⟨by omega, hL _ _ (by omega) ⟨rfl, ?_⟩⟩
        rw [dc_e c3, ex2]
        show _ = (np : Int) - ((i + 1 : Nat) : Int) + (((dc pl s i).1 + 1 : Nat) : Int)
        omega
    rw [show (64 + (i : Int)).toNat = 64 + i by omega, e2 i (by omega)]
    refine ⟨fun c3 => ⟨by omega, by omega, by omega, ?_⟩, fun c3 => ?_⟩
    · obtain ⟨j, rfl⟩ : ∃ j, i = j + 1 := ⟨i - 1, by omega⟩
      rw [show (64 + ((j + 1 : Nat) : Int) - 1).toNat = 64 + j by omega, e2 j (by omega)]
      rw [dc_m] at key
      exact key
    · have ei : i = 0 := by omega
      subst ei
      exact key
theorem s_takeMessage {a q : Nat} (hqa : q + 5 < a ∨ a + 6 < q) {h : zH} {K : zH → Prop} {pl s : Nat → Int} {np : Nat} (hn : np ≤ 40) (e1 : h (a + 3) 3 = (np : Int)) (e2 : ∀ j, j < np → h (a + 4) j = pl j) (hpl : ∀ j, j < np → 0 ≤ pl j ∧ pl j ≤ 100) (e3 : ∀ j, j < np → h (q + 1) j = s j) (h40 : (dc pl s np).1 ≤ 40) (hk : ∀ h', h' a 3 = (((dc pl s np).1 : Nat) : Int) → (∀ j, j < (dc pl s np).1 → h' (a + 2) j = (dc pl s np).2.2 j) → (∀ k j, ¬ (k = a ∧ j = 3) → k ≠ a + 2 → h' k j = h k j) → K h') : M_State_takeMessage a q h K := by
  unfold M_State_takeMessage
  rintro h1 rfl
  refine yp2 np (fun i x h' => x = (dc pl s i).2.1 ∧ h' a 3 = (((dc pl s i).1 : Nat) : Int) ∧ (∀ j, j < (dc pl s i).1 → h' (a + 2) j = (dc pl s i).2.2 j) ∧ ∀ k j, ¬ (k = a ∧ j = 3) → k ≠ a + 2 → h' k j = h k j) ⟨rfl, zs_eq, fun j hj => absurd hj (Nat.not_lt_zero j), fun k j q1 q2 => by unfold zs; rw [if_neg q1]⟩ ?_
  rintro i x h2 L hi ⟨rfl, g1, g2, hF⟩ hL
  show F_State_takeMessage_9 K L a q (dc pl s i).2.1 (i : Int) h2
  unfold F_State_takeMessage_9
  rw [hF (a + 3) 3 (by omega) (by omega), e1, show a + 3 + 1 = a + 4 from rfl]
  simp only [Int.toNat_natCast]
  refine ⟨fun ci => ?_, fun ci => ⟨fun c2 => by omega, fun _ => ⟨by omega, ?_⟩⟩⟩
  · have ei : i = np := by omega
    subst ei
    exact hk _ g1 g2 hF
  · rw [hF (a + 4) i (by omega) (by omega), e2 i (by omega)]
    have hp := hpl i (by omega)
    have hm := dc_mono (pl := pl) (s := s) (k := i + 1) (d := np - (i + 1))
    rw [show i + 1 + (np - (i + 1)) = np by omega] at hm
    have hm2 : (dc pl s (i + 1)).1 ≤ 40 := by omega
    -- the last step: the symbol
    have step : ∀ (h3 : zH) (mm : Int) (n : Nat) (row : Nat → Int), n < 40 → h3 a 3 = (n : Int) → (∀ j, j < n → h3 (a + 2) j = row j) → (∀ k j, ¬ (k = a ∧ j = 3) → k ≠ a + 2 → h3 k j = h k j) → dc pl s (i + 1) = (n + 1, mm, zup row n (s i)) → B_State_takeMessage_61 K L a q mm (i : Int) h3 := by
      intro h3 mm n row hn40 k1 k2 k3 k4
      unfold B_State_takeMessage_61
      simp only [Int.toNat_natCast]
      rw [k1]
      refine ⟨by omega, s_addItem (i := n) (n := n) (Nat.le_refl n) hn40 k1 (fun h4 j1 j2 j3 => ⟨by omega, hL _ _ (by omega) ⟨by rw [k4], ?_, fun j hj => ?_, fun k j q1 q2 => ?_⟩⟩) rfl⟩
      · rw [j1, k4]; show _ = ((n + 1 : Nat) : Int); omega
      · rw [k4] at hj ⊢
        have hj' : j < n + 1 := hj
        show _ = zup _ _ _ j
        rw [j2 j (by omega)]
        unfold ins
        by_cases e : j = n
        · rw [e, if_neg (by omega), if_pos rfl, zup_self, k3 _ _ (by omega) (by omega), e3 i (by omega)]
        · rw [if_pos (by omega), zup_ne e]; exact k2 j (by omega)
      · rw [j3 k j q1 q2]; exact k3 k j q1 q2
    refine ⟨fun c3 => ?_, fun c3 => ⟨by omega, ?_⟩⟩
    · have ed := dc_e c3
      have hm3 : (dc pl s i).1 + 1 ≤ 40 := by rw [ed] at hm2; exact hm2
      exact step h2 _ _ _ (by omega) g1 g2 hF ed
    · have ed := dc_n c3
      have hm3 : (dc pl s i).1 + 2 ≤ 40 := by rw [ed] at hm2; exact hm2
      rintro x2 rfl
      rw [g1]
      refine ⟨by omega, s_addItem (i := (dc pl s i).1) (n := (dc pl s i).1) (Nat.le_refl _) (by omega) g1 (fun h4 j1 j2 j3 => ?_) rfl⟩
      refine step h4 _ ((dc pl s i).1 + 1) (zup (dc pl s i).2.2 (dc pl s i).1 (10 + pl i)) (by omega) (by rw [j1]; omega) (fun j hj => ?_) (fun k j q1 q2 => by rw [j3 k j q1 q2]; exact hF k j q1 q2) ed
      rw [j2 j (by omega)]
      unfold ins
      by_cases e : j = (dc pl s i).1
      · rw [e, if_neg (by omega), if_pos rfl, zup_self]
      · rw [if_pos (by omega), zup_ne e]; exact g2 j (by omega)
theorem s_decodeTo {p p1 : Nat} (hl : zln p1 = 193) (hp : p < p1 ∧ p1 < p + 6) {h : zH} {K : zH → Prop} {pl s : Nat → Int} {np : Nat} (hn : np ≤ 40) (e1 : h p 27 = (np : Int)) (e2 : ∀ j, j < np → h p1 (64 + j) = pl j) (hpl : ∀ j, j < np → 0 ≤ pl j ∧ pl j ≤ 100) (e3 : ∀ j, j < np → h (p + 17) j = s j) (h40 : (dc pl s np).1 ≤ 40) (hk : ∀ h', h' p1 188 = (((dc pl s np).1 : Nat) : Int) → (∀ j, j < (dc pl s np).1 → h' p1 (24 + j) = (dc pl s np).2.2 j) → (∀ a b, ¬ (a = p1 ∧ (b = 188 ∨ (24 ≤ b ∧ b < 64))) → h' a b = h a b) → K h') : M_RM_decodeTo p p1 h K := by
  unfold M_RM_decodeTo
  rw [hl]
  refine ⟨by omega, ?_⟩
  rintro h1 rfl
  refine yp2 np (fun i x h' => x = (dc pl s i).2.1 ∧ h' p1 188 = (((dc pl s i).1 : Nat) : Int) ∧ (∀ j, j < (dc pl s i).1 → h' p1 (24 + j) = (dc pl s i).2.2 j) ∧ ∀ a b, ¬ (a = p1 ∧ (b = 188 ∨ (24 ≤ b ∧ b < 64))) → h' a b = h a b) ⟨rfl, zs_eq, fun j hj => absurd hj (Nat.not_lt_zero j), fun a b q1 => by unfold zs; rw [if_neg (by omega)]⟩ ?_
  rintro i x h2 L hi ⟨rfl, g1, g2, hF⟩ hL
  show F_RM_decodeTo_10 K L p p1 (dc pl s i).2.1 (i : Int) h2
  unfold F_RM_decodeTo_10
  rw [hF p 27 (by omega), e1, hl]
  refine ⟨fun ci => ?_, fun ci => ⟨by omega, by omega, ?_⟩⟩
  · have ei : i = np := by omega
    subst ei
    exact hk _ g1 g2 hF
  · rw [show (64 + (i : Int)).toNat = 64 + i by omega, hF p1 (64 + i) (by omega), e2 i (by omega)]
    have hp' := hpl i (by omega)
    have hm := dc_mono (pl := pl) (s := s) (k := i + 1) (d := np - (i + 1))
    rw [show i + 1 + (np - (i + 1)) = np by omega] at hm
    have hm2 : (dc pl s (i + 1)).1 ≤ 40 := by omega
    have step : ∀ (h3 : zH) (mm : Int) (n : Nat) (row : Nat → Int), n < 40 → h3 p1 188 = (n : Int) → (∀ j, j < n → h3 p1 (24 + j) = row j) → (∀ a b, ¬ (a = p1 ∧ (b = 188 ∨ (24 ≤ b ∧ b < 64))) → h3 a b = h a b) → dc pl s (i + 1) = (n + 1, mm, zup row n (s i)) → B_RM_decodeTo_48 K L p p1 mm (i : Int) h3 := by
      intro h3 mm n row hn40 k1 k2 k3 k4
      unfold B_RM_decodeTo_48
      simp only [Int.toNat_natCast]
      rw [k1, hl]
      refine ⟨by omega, by omega, s_put hl (i := n) (n := n) (Nat.le_refl n) hn40 k1 (fun h4 j1 j2 j3 => ⟨by omega, hL _ _ (by omega) ⟨by rw [k4], ?_, fun j hj => ?_, fun a b q => ?_⟩⟩) rfl⟩
      · rw [j1, k4]; show _ = ((n + 1 : Nat) : Int); omega
      · rw [k4] at hj ⊢
        have hj' : j < n + 1 := hj
        show _ = zup _ _ _ j
        rw [j2 j (by omega)]
        unfold ins
        by_cases e : j = n
        · rw [e, if_neg (by omega), if_pos rfl, zup_self, k3 _ _ (by omega), e3 i (by omega)]
        · rw [if_pos (by omega), zup_ne e]; exact k2 j (by omega)
      · rw [j3 a b q]; exact k3 a b q
    refine ⟨fun c3 => ?_, fun c3 => ⟨by omega, by omega, ?_⟩⟩
    · have ed := dc_e c3
      have hm3 : (dc pl s i).1 + 1 ≤ 40 := by rw [ed] at hm2; exact hm2
      exact step h2 _ _ _ (by omega) g1 g2 hF ed
    · have ed := dc_n c3
      have hm3 : (dc pl s i).1 + 2 ≤ 40 := by rw [ed] at hm2; exact hm2
      rintro x2 rfl
      rw [g1]
      refine ⟨by omega, by omega, s_put hl (i := (dc pl s i).1) (n := (dc pl s i).1) (Nat.le_refl _) (by omega) g1 (fun h4 j1 j2 j3 => ?_) rfl⟩
      refine step h4 _ ((dc pl s i).1 + 1) (zup (dc pl s i).2.2 (dc pl s i).1 (10 + pl i)) (by omega) (by rw [j1]; omega) (fun j hj => ?_) (fun a b q => by rw [j3 a b q]; exact hF a b q) ed
      rw [j2 j (by omega)]
      unfold ins
      by_cases e : j = (dc pl s i).1
      · rw [e, if_neg (by omega), if_pos rfl, zup_self]
      · rw [if_pos (by omega), zup_ne e]; exact g2 j (by omega)

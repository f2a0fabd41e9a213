theorem s_isCountPlace {h : zH} {K : Int → zH → Prop} {x0 x1 : Int} (h0 : 0 ≤ x0 ∧ x0 < 3) (h1 : 0 ≤ x1 ∧ x1 < 8) (hk : K 1 h) : M_AS_isCountPlace x0 x1 h K := by
  unfold M_AS_isCountPlace
  repeat' (first | with_reducible apply And.intro | (with_reducible intro hh ee; subst ee) | with_reducible intro cc)
  all_goals (try omega)
  all_goals exact hk
theorem s_countIn {p1 : Nat} (hl : zln p1 = 24) {h : zH} {K : Int → zH → Prop} {x0 x1 : Int} (h0 : 0 ≤ x0 ∧ x0 < 3) (h1 : 0 ≤ x1 ∧ x1 < 8) (hk : K (h p1 (x0 * 8 + x1).toNat) h) : M_AS_countIn p1 x0 x1 h K := by
  unfold M_AS_countIn
  rw [hl]
  refine ⟨by omega, by omega, ?_⟩
  rintro x3 rfl
  apply s_isCountPlace h0 h1
  refine ⟨fun c => absurd c (by decide), fun _ => ⟨fun c => by omega, fun _ => ⟨by omega, hk⟩⟩⟩
theorem f0_le {c : Nat → Int} {t : Int} (ht : 0 < t) {s : Nat} (hc : 0 ≤ c s ∧ c s ≤ 99) : f0 c t s ≤ 3168 := by
  unfold f0
  have := Int.ediv_le_self (a := 32 * c s) t (by omega)
  split
  · split <;> omega
  · omega
theorem f0_sm {c : Nat → Int} {t : Int} (ht : 0 < t) : ∀ {n : Nat}, (∀ s, s < n → 0 ≤ c s ∧ c s ≤ 99) → sm (f0 c t) n ≤ 3168 * n := by
  intro n
  induction n with
  | zero => intro _; show (0 : Int) ≤ _; omega
  | succ n ih =>
    intro h
    have h1 := ih (fun s hs => h s (by omega))
    have h2 := f0_le ht (h n (by omega))
    show sm (f0 c t) n + f0 c t n ≤ _
    omega
theorem s_shareOut {p p1 : Nat} (hl : zln p1 = 24) (hp : p1 < p + 1 ∨ p + 2 < p1) {h : zH} {K : Int → zH → Prop} {m : Nat} (hm : m < 3) {c : Nat → Int} {t : Int} (ht : 0 < t) (hc : ∀ s, s < 8 → h p1 (8 * m + s) = c s) (hc9 : ∀ s, s < 8 → 0 ≤ c s ∧ c s ≤ 99)
    (hk : ∀ h', (∀ j, j < 8 → h' (p + 1) j = f0 c t j ∧ h' (p + 2) j = r0 c t j) → (∀ k j, k < p + 1 ∨ p + 2 < k → h' k j = h k j) → K (sm (f0 c t) 8) h') : M_Model_shareOut p p1 (m : Int) t h K := by
  unfold M_Model_shareOut
  refine yp2 8 (fun i x h' => x = sm (f0 c t) i ∧ (∀ j, j < i → h' (p + 1) j = f0 c t j ∧ h' (p + 2) j = r0 c t j) ∧ ∀ k j, k < p + 1 ∨ p + 2 < k → h' k j = h k j) ⟨rfl, fun j hj => by omega, fun k j _ => rfl⟩ ?_
  rintro i x h' L hi ⟨rfl, hA, hB⟩ hL
  show F_Model_shareOut_6 K L p p1 (m : Int) t (sm (f0 c t) i) (i : Int) h'
  unfold F_Model_shareOut_6
  simp only [Int.toNat_natCast]
  constructor
  · intro c
    have ei : i = 8 := by omega
    subst ei
    exact hk _ hA hB
  · intro ci
    have b1 := f0_sm ht (c := c) (n := i) (fun s hs => hc9 s (by omega))
    have b0 : 0 ≤ sm (f0 c t) i := sm_nonneg (fun j _ => f0_nonneg ht j)
    have b2 := f0_le ht (hc9 i (by omega))
    have b3 := f0_nonneg ht (c := c) i
    have hci := hc9 i (by omega)
    refine ⟨by omega, ?_⟩
    rintro h1 rfl
    refine ⟨by omega, ?_⟩
    rintro h2 rfl
    refine s_countIn hl (by omega) (by omega) ?_
    have e1 : zs (zs h' (p + 1) i 0) (p + 2) i (-9) p1 ((m : Int) * 8 + (i : Int)).toNat = c i := by
      rw [zs_k (by omega), zs_k (by omega), hB _ _ hp, show ((m : Int) * 8 + (i : Int)).toNat = 8 * m + i by omega]
      exact hc i (by omega)
    rw [e1]
    refine ⟨by omega, ?_⟩
    rintro x6 rfl
    -- the row's end, for whatever was written
    have key : ∀ h3 : zH, h3 (p + 1) i = f0 c t i → h3 (p + 2) i = r0 c t i → (∀ k j, (k ≠ p + 1 ∧ k ≠ p + 2) ∨ j ≠ i → h3 k j = h' k j) → B_Model_shareOut_77 K L p p1 (m : Int) t (sm (f0 c t) i) (i : Int) h3 := by
      intro h3 y1 y2 y3
      unfold B_Model_shareOut_77
      simp only [Int.toNat_natCast]
      rw [y1]
      refine ⟨by omega, by omega, ?_⟩
      rintro x4 rfl
      refine ⟨by omega, hL _ _ (by omega) ⟨rfl, fun j hj => ?_, fun k j hkj => ?_⟩⟩
      · by_cases e : j = i
        · rw [e]; exact ⟨y1, y2⟩
        · rw [y3 _ _ (Or.inr e), y3 _ _ (Or.inr e)]; exact hA j (by omega)
      · rw [y3 _ _ (Or.inl (by omega))]; exact hB k j hkj
    have fr : ∀ k j, (k ≠ p + 1 ∧ k ≠ p + 2) ∨ j ≠ i → zs (zs h' (p + 1) i 0) (p + 2) i (-9) k j = h' k j := by
      intro k j q
      rcases q with ⟨q1, q2⟩ | q
      · rw [zs_k q2, zs_k q1]
      · rw [zs_j q, zs_j q]
    refine ⟨fun c1 => ?_, fun c1 => ⟨fun c2 => by omega, fun _ => ⟨by omega, by omega, ?_⟩⟩⟩
    · have z0 : ¬ 0 < c i := by omega
      refine key _ ?_ ?_ fr
      · rw [zs_k (by omega), zs_eq]; unfold f0; rw [if_neg z0]
      · rw [zs_eq]; unfold r0; rw [if_neg z0]
    · have z0 : 0 < c i := by omega
      rintro h3 rfl
      refine ⟨by omega, by omega, ?_⟩
      rintro h4 rfl
      refine key _ ?_ ?_ ?_
      · rw [zs_k (by omega), zs_eq]; unfold f0; rw [if_pos z0]
        by_cases e : 32 * c i / t < 1
        · rw [if_pos e, if_neg (by omega)]
        · rw [if_neg e]; split <;> omega
      · rw [zs_eq]; unfold r0; rw [if_pos z0]
      · intro k j q
        rw [← fr k j q]
        rcases q with ⟨q1, q2⟩ | q
        · rw [zs_k q2, zs_k q1]
        · rw [zs_j q, zs_j q]
/-- the rows of a model's tables stand -/
def TC (h : zH) (p : Nat) (c : Nat → Int) : Prop := (∀ s, s < 8 → h (p + 1) s = fF c s) ∧ (∀ b, b < 8 → h (p + 3) b = (cBn (fF c) 8).1 b ∧ h (p + 4) b = (cBn (fF c) 8).2.2 b) ∧ RS h p (fF c) 32
theorem g_some {c : Nat → Int} (hc : ∀ j, j < 8 → 0 ≤ c j) (ht : 0 < sm c 8) {n : Nat} (hn : (n : Int) < 32 - sm (f0 c (sm c 8)) 8) : ∃ b : Nat, b < 8 ∧ (aG (gN (f0 c (sm c 8), r0 c (sm c 8)) n).2 8).1 = (b : Int) := by
  have hf : ∀ j, j < 8 → 0 ≤ f0 c (sm c 8) j := fun j _ => f0_nonneg ht j
  have hr : ∀ j, j < 8 → -9 ≤ r0 c (sm c 8) j := fun j _ => (r0_ge ht j).1
  have he := share_enough hc ht
  obtain ⟨h1, h2, h3, h4, h5⟩ := gN_spec hf hr (n := n) (Or.inl (by omega))
  obtain ⟨j, hj, hjr⟩ := nP_some (r := (gN (f0 c (sm c 8), r0 c (sm c 8)) n).2) (n := 8) (by omega)
  rcases aG_spec h2 with ⟨-, -, hx⟩ | ⟨b, hb, e1, e2, e3, e4⟩
  · exact absurd (hx j hj) hjr
  · exact ⟨b, hb, e1⟩
theorem s_make {p p1 : Nat} (hl : zln p1 = 24) (hp : p1 < p + 1 ∨ p + 9 < p1) {h : zH} {K : zH → Prop} {m : Nat} (hm : m < 3) {c : Nat → Int} (hc : ∀ s, s < 8 → h p1 (8 * m + s) = c s) (hc9 : ∀ s, s < 8 → 0 ≤ c s ∧ c s ≤ 99)
    (hk : ∀ h', (0 < sm c 8 → TC h' p c) → (∀ k j, k < p + 1 ∨ p + 9 < k → h' k j = h k j) → K h') : M_Model_make p p1 (m : Int) h K := by
  have hc0 : ∀ j, j < 8 → 0 ≤ c j := fun j hj => (hc9 j hj).1
  have smle : ∀ n, n ≤ 8 → sm c n ≤ 99 * n := by
    intro n
    induction n with
    | zero => intro _; show (0 : Int) ≤ _; omega
    | succ n ih => intro hn; have := ih (by omega); have := hc9 n (by omega); show sm c n + c n ≤ _; omega
  unfold M_Model_make
  refine yp2 8 (fun i x h' => x = sm c i ∧ h' = h) ⟨rfl, rfl⟩ ?_
  rintro i x h' L hi ⟨rfl, rfl⟩ hL
  show F_Model_make_5 K L p p1 (m : Int) (sm c i) (i : Int) h'
  unfold F_Model_make_5
  constructor
  · intro ci
    have ei : i = 8 := by omega
    subst ei
    clear hL
    refine ⟨fun ht => ?_, fun ht => hk _ (fun q => by omega) (fun k j _ => rfl)⟩
    refine s_shareOut hl (by omega) hm ht hc hc9 (fun h1 hA1 hB1 => ?_)
    have hf : ∀ j, j < 8 → 0 ≤ f0 c (sm c 8) j := fun j _ => f0_nonneg ht j
    have hr : ∀ j, j < 8 → -9 ≤ r0 c (sm c 8) j := fun j _ => (r0_ge ht j).1
    have he := share_enough hc0 ht
    have hsm0 := sm_nonneg hf
    have hsm1 := f0_sm ht (c := c) (n := 8) hc9
    refine ypx (32 - sm (f0 c (sm c 8)) 8).toNat (fun i => sm (f0 c (sm c 8)) 8 + i) (fun i h2 => (∀ j, j < 8 → h2 (p + 1) j = (gN (f0 c (sm c 8), r0 c (sm c 8)) i).1 j ∧ h2 (p + 2) j = (gN (f0 c (sm c 8), r0 c (sm c 8)) i).2 j) ∧ ∀ k j, k < p + 1 ∨ p + 9 < k → h2 k j = h' k j) (by show sm _ 8 = sm _ 8 + 0; omega) ⟨hA1, fun k j hkj => hB1 k j (by omega)⟩ ?_
    rintro i x h2 L hi2 ex ⟨hA2, hB2⟩ hL
    have ex' : x = sm (f0 c (sm c 8)) 8 + i := ex
    subst ex'
    show F_Model_make_46 K L p (sm (f0 c (sm c 8)) 8) (sm (f0 c (sm c 8)) 8 + i) h2
    unfold F_Model_make_46
    constructor
    · intro c32
      clear hL
      have hin : i = (32 - sm (f0 c (sm c 8)) 8).toNat := by omega
      subst hin
      obtain ⟨g1, g2, g3, g4, g5⟩ := gN_spec hf hr (n := (32 - sm (f0 c (sm c 8)) 8).toNat) (by
        by_cases hx : 0 ≤ 32 - sm (f0 c (sm c 8)) 8
        · exact Or.inl (by omega)
        · by_cases hy : 0 < nP (r0 c (sm c 8)) 8
          · exact Or.inl (by omega)
          · have := (share_bound ht hc0).2.1
            exact Or.inr (by omega))
      refine ypx (sm (f0 c (sm c 8)) 8 - 32).toNat (fun i => sm (f0 c (sm c 8)) 8 - i) (fun i h3 => (∀ j, j < 8 → h3 (p + 1) j = tN (gN (f0 c (sm c 8), r0 c (sm c 8)) (32 - sm (f0 c (sm c 8)) 8).toNat).1 i j) ∧ ∀ k j, k < p + 1 ∨ p + 9 < k → h3 k j = h' k j) (by show sm _ 8 = sm _ 8 - 0; omega) ⟨fun j hj => (hA2 j hj).1, hB2⟩ ?_
      rintro i x h3 L hi3 ex ⟨hA3, hB3⟩ hL
      have ex' : x = sm (f0 c (sm c 8)) 8 - i := ex
      subst ex'
      show F_Model_make_67 K L p (sm (f0 c (sm c 8)) 8 - i) h3
      unfold F_Model_make_67
      obtain ⟨t1, t2, -⟩ := tN_spec g1 (n := i) (by omega)
      constructor
      · intro c32'
        clear hL
        have hin : i = (sm (f0 c (sm c 8)) 8 - 32).toNat := by omega
        subst hin
        obtain ⟨q1, q2⟩ := fF_spec hc0 ht
        refine s_closeBuckets q1 q2 hA3 (fun h4 hR4 hB4 => ?_)
        refine s_numberSlots q1 q2 hR4 (fun h5 hS5 hB5 => ?_)
        refine hk _ (fun _ => ⟨fun s hs => ?_, fun b hb => ⟨?_, ?_⟩, hS5⟩) (fun k j hkj => ?_)
        · rw [hB5 _ _ (by omega), hB4 _ _ (by omega) (by omega) (by omega)]
          exact hA3 s hs
        · rw [hB5 _ _ (by omega)]; exact (hR4 b hb).1
        · rw [hB5 _ _ (by omega)]; exact (hR4 b hb).2.2
        · rw [hB5 _ _ (by omega), hB4 _ _ (by omega) (by omega) (by omega), hB3 _ _ hkj]
      · intro c32'
        have elm : lM (h3 (p + 1)) 7 = lM (tN (gN (f0 c (sm c 8), r0 c (sm c 8)) (32 - sm (f0 c (sm c 8)) 8).toNat).1 i) 7 := (lM_congr (fun j hj => hA3 j (by omega))).1
        have ele : lM (h3 (p + 1)) 7 ≤ 7 := (lM_spec (f := h3 (p + 1)) (n := 7)).1
        have ev := hA3 _ (show lM (h3 (p + 1)) 7 < 8 by omega)
        have e0 := t1 _ (show lM (h3 (p + 1)) 7 < 8 by omega)
        have e1 := sm_one t1 (show lM (h3 (p + 1)) 7 < 8 by omega)
        refine s_takeOne (by omega) ⟨by omega, hL _ _ (by omega) (by show _ + -1 = _ - ((i + 1 : Nat) : Int); omega) ⟨fun j hj => ?_, fun k j hkj => ?_⟩⟩
        · show zs h3 (p + 1) _ _ (p + 1) j = zup _ _ _ j
          rw [zs_row, ev, elm]
          by_cases e : j = lM (tN (gN (f0 c (sm c 8), r0 c (sm c 8)) (32 - sm (f0 c (sm c 8)) 8).toNat).1 i) 7
          · rw [e, zup_self, zup_self]
          · rw [zup_ne e, zup_ne e, hA3 j hj]
        · show zs h3 (p + 1) _ _ k j = h' k j
          rw [zs_k (by omega), hB3 _ _ hkj]
    · intro c32
      obtain ⟨b, hb, eb⟩ := g_some hc0 ht (n := i) (by omega)
      obtain ⟨g1, g2, g3, g4, g5⟩ := gN_spec hf hr (n := i) (Or.inl (by omega))
      have eb' : (aG (h2 (p + 2)) 8).1 = (b : Int) := by rw [← eb]; exact congrArg Prod.fst (aG_congr (fun j hj => (hA2 j hj).2))
      have e0 := g1 b hb
      have e1 := sm_one g1 hb
      have e2 := (hA2 b hb).1
      refine s_giveOne hb eb' (by omega) ⟨by omega, hL _ _ (by omega) (by show _ + 1 = _ + ((i + 1 : Nat) : Int); omega) ⟨fun j hj => ?_, fun k j hkj => ?_⟩⟩
      · show zs (zs h2 (p + 1) b _) (p + 2) b (-9) (p + 1) j = zup _ _ _ j ∧ zs (zs h2 (p + 1) b _) (p + 2) b (-9) (p + 2) j = zup _ _ _ j
        rw [eb, Int.toNat_natCast, zs_row' (by omega), zs_row, zs_row, zs_row' (by omega), e2]
        by_cases e : j = b
        · rw [e, zup_self, zup_self, zup_self, zup_self]; exact ⟨rfl, rfl⟩
        · rw [zup_ne e, zup_ne e, zup_ne e, zup_ne e]; exact hA2 j hj
      · show zs (zs h2 (p + 1) b _) (p + 2) b (-9) k j = h' k j
        rw [zs_k (by omega), zs_k (by omega), hB2 _ _ hkj]
  · intro ci
    have hci := hc9 i (by omega)
    have b0 : 0 ≤ sm c i := sm_nonneg (fun j hj => hc0 j (by omega))
    have b1 := smle i hi
    refine s_countIn hl (by omega) (by omega) ?_
    rw [show ((m : Int) * 8 + (i : Int)).toNat = 8 * m + i by omega, hc i (by omega)]
    refine ⟨by omega, ?_⟩
    rintro x3 rfl
    exact ⟨by omega, hL _ _ (by omega) ⟨rfl, rfl⟩⟩
/-- the tables of all models, from the counts in cell 38 -/
def cm (c : Nat → Int) (m : Nat) : Nat → Int := tr 8 (fun s => c (8 * m + s))
theorem s_makeAll {h : zH} {K : zH → Prop} {c : Nat → Int} (hc : ∀ j, j < 24 → h 38 j = c j) (hc9 : ∀ j, j < 24 → 0 ≤ c j ∧ c j ≤ 99)
    (hk : ∀ h', (∀ m, m < 3 → 0 < sm (cm c m) 8 → TC h' (7 + 10 * m) (cm c m)) → (∀ k j, k < 7 ∨ 36 < k → h' k j = h k j) → K h') : M_Models_makeAll 5 38 h K := by
  unfold M_Models_makeAll
  refine yp1 3 (fun i h' => (∀ m, m < i → 0 < sm (cm c m) 8 → TC h' (7 + 10 * m) (cm c m)) ∧ ∀ k j, k < 7 ∨ 36 < k → h' k j = h k j) ⟨fun m hm => by omega, fun k j _ => rfl⟩ ?_
  rintro i h' L hi ⟨hA, hB⟩ hL
  show F_Models_makeAll_2 K L 5 38 (i : Int) h'
  unfold F_Models_makeAll_2
  simp only [Int.toNat_natCast]
  constructor
  · intro ci
    have ei : i = 3 := by omega
    subst ei
    exact hk _ hA hB
  · intro ci
    refine ⟨by omega, ?_⟩
    rw [show 5 + 1 + 1 + 10 * i = 7 + 10 * i by omega]
    refine s_make (by decide) (by omega) (by omega) (c := cm c i) (fun s hs => ?_) (fun s hs => ?_) (fun h1 hT hB1 => ⟨by omega, hL _ (by omega) ⟨fun m hm hs => ?_, fun k j hkj => ?_⟩⟩)
    · rw [hB _ _ (by omega), hc _ (by omega)]; exact (tr_at (f := fun s => c (8 * i + s)) hs).symm
    · unfold cm; rw [tr_at hs]; exact hc9 _ (by omega)
    · by_cases e : m = i
      · subst e; exact hT hs
      · obtain ⟨a1, a2, a3⟩ := hA m (by omega) hs
        refine ⟨fun s hs => ?_, fun b hb => ⟨?_, ?_⟩, fun k hk => ⟨?_, ?_, ?_⟩⟩
        · rw [hB1 _ _ (by omega)]; exact a1 s hs
        · rw [hB1 _ _ (by omega)]; exact (a2 b hb).1
        · rw [hB1 _ _ (by omega)]; exact (a2 b hb).2
        · rw [hB1 _ _ (by omega)]; exact (a3 k hk).1
        · rw [hB1 _ _ (by omega)]; exact (a3 k hk).2.1
        · rw [hB1 _ _ (by omega)]; exact (a3 k hk).2.2
    · rw [hB1 _ _ (by omega), hB _ _ hkj]

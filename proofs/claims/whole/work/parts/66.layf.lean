/-! the reference: frequencies -/
theorem sm_tail {c : Nat → Int} {n : Nat} : ∀ {d : Nat}, (∀ j, n ≤ j → j < n + d → c j = 0) → sm c (n + d) = sm c n := by
  intro d
  induction d with
  | zero => intro _; rfl
  | succ d ih =>
    intro h
    show sm c (n + d) + c (n + d) = sm c n
    rw [ih (fun j a b => h j a (by omega)), h (n + d) (by omega) (by omega)]
    omega
theorem aG_ge {r : Nat → Int} : ∀ {n : Nat}, -9 ≤ (aG r n).2 := by
  intro n
  induction n with
  | zero => exact Int.le_refl (-9)
  | succ n ih => rw [aG_step]; split <;> (try show -9 ≤ r n) <;> omega
theorem aG_tail {r : Nat → Int} {n : Nat} : ∀ {d : Nat}, (∀ j, n ≤ j → j < n + d → r j = -9) → aG r (n + d) = aG r n := by
  intro d
  induction d with
  | zero => intro _; rfl
  | succ d ih =>
    intro h
    have h1 := ih (fun j a b => h j a (by omega))
    have h2 := h (n + d) (by omega) (by omega)
    have h3 := aG_ge (r := r) (n := n + d)
    show aG r (n + d + 1) = aG r n
    rw [aG_step, if_neg (by omega), h1]
theorem s_layFreq {p p1 : Nat} (hz9 : zln (p + 9) = 24) (hl : 24 ≤ zln p1) (hp : p1 < p + 6 ∧ p < p1) {h : zH} {K : zH → Prop} {m : Nat} (hm : m < 3) {c : Nat → Int} {sc : Nat} (hsc : 1 ≤ sc ∧ sc ≤ 8) (es : h p 4 = (sc : Int)) (hc : ∀ s, s < sc → h p1 (8 * m + s) = c s) (hcz : ∀ s, sc ≤ s → s < 8 → c s = 0) (hc9 : ∀ s, s < 8 → 0 ≤ c s ∧ c s ≤ 99) (ht : 0 < sm c 8)
    (hk : ∀ h', (∀ s, s < 8 → h' (p + 9) (8 * m + s) = fF c s) → (∀ k j, k ≠ p + 15 → ¬ (k = p + 9 ∧ 8 * m ≤ j ∧ j < 8 * m + 8) → h' k j = h k j) → K h') : M_RM_layFrequencies p p1 (m : Int) h K := by
  have hc0 : ∀ j, j < 8 → 0 ≤ c j := fun j hj => (hc9 j hj).1
  have smle : ∀ n, n ≤ 8 → sm c n ≤ 99 * n := by
    intro n
    induction n with
    | zero => intro _; show (0 : Int) ≤ _; omega
    | succ n ih => intro hn; have := ih (by omega); have := hc9 n (by omega); show sm c n + c n ≤ _; omega
  have etot : sm c sc = sm c 8 := by
    have := sm_tail (c := c) (n := sc) (d := 8 - sc) (fun j a b => hcz j a (by omega))
    rw [show sc + (8 - sc) = 8 by omega] at this
    exact this.symm
  have h8 := smle 8 (Nat.le_refl 8)
  have hf : ∀ j, j < 8 → 0 ≤ f0 c (sm c 8) j := fun j _ => f0_nonneg ht j
  have hr : ∀ j, j < 8 → -9 ≤ r0 c (sm c 8) j := fun j _ => (r0_ge ht j).1
  have he := share_enough hc0 ht
  have hsm0 := sm_nonneg hf
  have hsm1 := f0_sm ht (c := c) (n := 8) hc9
  unfold M_RM_layFrequencies
  refine ⟨by omega, ?_⟩
  rintro x3 rfl
  refine yp2 sc (fun i x h' => x = sm c i ∧ h' = h) ⟨rfl, rfl⟩ ?_
  rintro i x h' L hi ⟨rfl, rfl⟩ hL
  show F_RM_layFrequencies_11 K L p p1 (8 * (m : Int)) (sm c i) (i : Int) h'
  unfold F_RM_layFrequencies_11
  have at8 : ∀ j : Nat, (8 * (m : Int) + (j : Int)).toNat = 8 * m + j := fun j => by omega
  rw [es, at8]
  constructor
  · intro ci
    have ei : i = sc := by omega
    subst ei
    clear hL
    rw [etot]
    refine yp2 8 (fun i x h2 => x = sm (f0 c (sm c 8)) i ∧ (∀ j, j < i → h2 (p + 9) (8 * m + j) = f0 c (sm c 8) j ∧ h2 (p + 15) j = r0 c (sm c 8) j) ∧ ∀ k j, k ≠ p + 15 → ¬ (k = p + 9 ∧ 8 * m ≤ j ∧ j < 8 * m + 8) → h2 k j = h' k j) ⟨rfl, fun j hj => by omega, fun k j _ _ => rfl⟩ ?_
    rintro s x h2 L hs ⟨rfl, hA2, hB2⟩ hL
    show F_RM_layFrequencies_43 K L p p1 (8 * (m : Int)) (sm c 8) (sm (f0 c (sm c 8)) s) (s : Int) h2
    unfold F_RM_layFrequencies_43
    have es2 : h2 p 4 = (i : Int) := (hB2 p 4 (by omega) (by omega)).trans es
    rw [es2, at8]
    constructor
    · intro cs
      have ei : s = 8 := by omega
      subst ei
      clear hL
      -- give
      refine ypx (32 - sm (f0 c (sm c 8)) 8).toNat (fun n => sm (f0 c (sm c 8)) 8 + n) (fun n h3 => (∀ j, j < 8 → h3 (p + 9) (8 * m + j) = (gN (f0 c (sm c 8), r0 c (sm c 8)) n).1 j ∧ h3 (p + 15) j = (gN (f0 c (sm c 8), r0 c (sm c 8)) n).2 j) ∧ ∀ k j, k ≠ p + 15 → ¬ (k = p + 9 ∧ 8 * m ≤ j ∧ j < 8 * m + 8) → h3 k j = h' k j) (by show sm _ 8 = sm _ 8 + 0; omega) ⟨hA2, hB2⟩ ?_
      rintro n x h3 L hn ex ⟨hA3, hB3⟩ hL
      have ex' : x = sm (f0 c (sm c 8)) 8 + n := ex
      subst ex'
      show F_RM_layFrequencies_151 K L p (8 * (m : Int)) (sm (f0 c (sm c 8)) 8 + n) h3
      unfold F_RM_layFrequencies_151
      constructor
      · intro c32
        clear hL
        have hin : n = (32 - sm (f0 c (sm c 8)) 8).toNat := by omega
        subst hin
        obtain ⟨g1, g2, g3, g4, g5⟩ := gN_spec hf hr (n := (32 - sm (f0 c (sm c 8)) 8).toNat) (by
          by_cases hx : 0 ≤ 32 - sm (f0 c (sm c 8)) 8
          · exact Or.inl (by omega)
          · by_cases hy : 0 < nP (r0 c (sm c 8)) 8
            · exact Or.inl (by omega)
            · have := (share_bound ht hc0).2.1
              exact Or.inr (by omega))
        -- take
        refine ypx (sm (f0 c (sm c 8)) 8 - 32).toNat (fun n => (sm (f0 c (sm c 8)) 8 + (32 - sm (f0 c (sm c 8)) 8).toNat) - n) (fun n h4 => (∀ j, j < 8 → h4 (p + 9) (8 * m + j) = tN (gN (f0 c (sm c 8), r0 c (sm c 8)) (32 - sm (f0 c (sm c 8)) 8).toNat).1 n j) ∧ ∀ k j, k ≠ p + 15 → ¬ (k = p + 9 ∧ 8 * m ≤ j ∧ j < 8 * m + 8) → h4 k j = h' k j) (by show _ = _ - 0; omega) ⟨fun j hj => (hA3 j hj).1, hB3⟩ ?_
        rintro n x h4 L hn ex ⟨hA4, hB4⟩ hL
        have ex' : x = (sm (f0 c (sm c 8)) 8 + (32 - sm (f0 c (sm c 8)) 8).toNat) - n := ex
        show F_RM_layFrequencies_253 K L p (8 * (m : Int)) x h4
        unfold F_RM_layFrequencies_253
        obtain ⟨t1, t2, t3⟩ := tN_spec g1 (n := n) (by omega)
        constructor
        · intro c32'
          have hin : n = (sm (f0 c (sm c 8)) 8 - 32).toNat := by omega
          subst hin
          exact hk _ hA4 hB4
        · intro c32'
          have es4 : h4 p 4 = (i : Int) := (hB4 p 4 (by omega) (by omega)).trans es
          have tz : ∀ j, i ≤ j → j < 8 → tN (gN (f0 c (sm c 8), r0 c (sm c 8)) (32 - sm (f0 c (sm c 8)) 8).toNat).1 n j = 0 := fun j a b => by
            have z := hcz j a b
            have z1 : r0 c (sm c 8) j = -9 := by unfold r0; rw [if_neg (by omega)]
            have z2 : f0 c (sm c 8) j = 0 := by unfold f0; rw [if_neg (by omega)]
            exact t3 j (by rw [(g5 j z1).2, z2])
          refine ypG (i - 1) (fun s q => q = (((lM (tN (gN (f0 c (sm c 8), r0 c (sm c 8)) (32 - sm (f0 c (sm c 8)) 8).toNat).1 n) s : Nat) : Int), (s : Int) + 1, h4)) rfl ?_
          rintro s q L' hs' rfl hL'
          show F_RM_layFrequencies_266 K L L' p (8 * (m : Int)) x ((lM (tN (gN (f0 c (sm c 8), r0 c (sm c 8)) (32 - sm (f0 c (sm c 8)) 8).toNat).1 n) s : Nat) : Int) ((s : Int) + 1) h4
          have hle := (lM_spec (f := tN (gN (f0 c (sm c 8), r0 c (sm c 8)) (32 - sm (f0 c (sm c 8)) 8).toNat).1 n) (n := s)).1
          unfold F_RM_layFrequencies_266
          rw [es4, at8, show (8 * (m : Int) + ((s : Int) + 1)).toNat = 8 * m + (s + 1) by omega, hA4 _ (show lM (tN (gN (f0 c (sm c 8), r0 c (sm c 8)) (32 - sm (f0 c (sm c 8)) 8).toNat).1 n) s < 8 by omega)]
          constructor
          · intro cs2
            have ei : s = i - 1 := by omega
            subst ei
            have hpos : 0 < tN (gN (f0 c (sm c 8), r0 c (sm c 8)) (32 - sm (f0 c (sm c 8)) 8).toNat).1 n (lM (tN (gN (f0 c (sm c 8), r0 c (sm c 8)) (32 - sm (f0 c (sm c 8)) 8).toNat).1 n) (i - 1)) := by
              by_cases hx : 0 < tN (gN (f0 c (sm c 8), r0 c (sm c 8)) (32 - sm (f0 c (sm c 8)) 8).toNat).1 n (lM (tN (gN (f0 c (sm c 8), r0 c (sm c 8)) (32 - sm (f0 c (sm c 8)) 8).toNat).1 n) (i - 1))
              · exact hx
              · exfalso
                have : sm (tN (gN (f0 c (sm c 8), r0 c (sm c 8)) (32 - sm (f0 c (sm c 8)) 8).toNat).1 n) 8 ≤ sm (fun _ => 0) 8 := sm_le (fun j hj => by
                  by_cases hj2 : j < i
                  · have := (lM_spec (f := tN (gN (f0 c (sm c 8), r0 c (sm c 8)) (32 - sm (f0 c (sm c 8)) 8).toNat).1 n) (n := i - 1)).2 j (by omega)
                    show tN _ n j ≤ 0
                    omega
                  · show tN _ n j ≤ 0
                    rw [tz j (by omega) hj]
                    exact Int.le_refl 0)
                rw [sm_zero] at this
                omega
            have elm : lM (tN (gN (f0 c (sm c 8), r0 c (sm c 8)) (32 - sm (f0 c (sm c 8)) 8).toNat).1 n) 7 = lM (tN (gN (f0 c (sm c 8), r0 c (sm c 8)) (32 - sm (f0 c (sm c 8)) 8).toNat).1 n) (i - 1) := by
              have := lM_stop hpos (d := 8 - i) (fun j a b => tz j (by omega) (by omega))
              rw [show i - 1 + (8 - i) = 7 by omega] at this
              exact this
            have e1 := sm_one t1 (show lM (tN (gN (f0 c (sm c 8), r0 c (sm c 8)) (32 - sm (f0 c (sm c 8)) 8).toNat).1 n) (i - 1) < 8 by omega)
            refine ⟨by omega, by omega, by omega, by omega, ?_⟩
            rintro h5 rfl
            refine ⟨by omega, hL _ _ (by omega) (by show _ + -1 = _ - ((n + 1 : Nat) : Int); omega) ⟨fun j hj => ?_, fun k j hk1 hk2 => ?_⟩⟩
            · show zs h4 (p + 9) _ _ (p + 9) (8 * m + j) = zup _ _ _ j
              rw [elm]
              by_cases e : j = lM (tN (gN (f0 c (sm c 8), r0 c (sm c 8)) (32 - sm (f0 c (sm c 8)) 8).toNat).1 n) (i - 1)
              · rw [e, zup_self, zs_eq]
              · rw [zup_ne e, zs_j (by omega), hA4 j hj]
            · rw [show zs h4 (p + 9) _ _ k j = h4 k j by
                by_cases e : k = p + 9
                · exact zs_j (by omega)
                · exact zs_k e]
              exact hB4 k j hk1 hk2
          · intro cs2
            rw [hA4 (s + 1) (by omega)]
            refine ⟨by omega, by omega, by omega, by omega, fun c5 => ⟨by omega, hL' _ (by omega) ?_⟩, fun c5 => ⟨by omega, hL' _ (by omega) ?_⟩⟩
            · rw [show lM (tN (gN (f0 c (sm c 8), r0 c (sm c 8)) (32 - sm (f0 c (sm c 8)) 8).toNat).1 n) (s + 1) = lM (tN (gN (f0 c (sm c 8), r0 c (sm c 8)) (32 - sm (f0 c (sm c 8)) 8).toNat).1 n) s from if_neg (by omega)]
              rfl
            · rw [show lM (tN (gN (f0 c (sm c 8), r0 c (sm c 8)) (32 - sm (f0 c (sm c 8)) 8).toNat).1 n) (s + 1) = s + 1 from if_pos (by omega)]
              rfl
      · intro c32
        obtain ⟨b, hb, eb⟩ := g_some hc0 ht (n := n) (by omega)
        obtain ⟨g1, g2, g3, g4, g5⟩ := gN_spec hf hr (n := n) (Or.inl (by omega))
        have es3 : h3 p 4 = (i : Int) := (hB3 p 4 (by omega) (by omega)).trans es
        have tz : ∀ j, i ≤ j → j < i + (8 - i) → (gN (f0 c (sm c 8), r0 c (sm c 8)) n).2 j = -9 := fun j a b => by
          have z := hcz j a (by omega)
          have z1 : r0 c (sm c 8) j = -9 := by unfold r0; rw [if_neg (by omega)]
          exact (g5 j z1).1
        have etl : aG (gN (f0 c (sm c 8), r0 c (sm c 8)) n).2 8 = aG (gN (f0 c (sm c 8), r0 c (sm c 8)) n).2 i := by
          have := aG_tail tz
          rw [show i + (8 - i) = 8 by omega] at this
          exact this
        refine yp2 i (fun s x h4 => h4 = h3 ∧ x = (aG (gN (f0 c (sm c 8), r0 c (sm c 8)) n).2 s).1) ⟨rfl, rfl⟩ ?_
        rintro s x h4 L' hs' ⟨rfl, rfl⟩ hL'
        show F_RM_layFrequencies_165 K L L' p (8 * (m : Int)) (sm (f0 c (sm c 8)) 8 + n) ((aG (gN (f0 c (sm c 8), r0 c (sm c 8)) n).2 s).1) (s : Int) h4
        unfold F_RM_layFrequencies_165
        rw [es3]
        simp only [Int.toNat_natCast]
        constructor
        · intro cs2
          have ei : s = i := by omega
          subst ei
          rw [← etl, eb, at8]
          simp only [Int.toNat_natCast]
          have e0 := g1 b hb
          have e1 := sm_one g1 hb
          have e2 := (hA3 b hb).1
          rw [e2]
          refine ⟨by omega, by omega, by omega, by omega, ?_⟩
          rintro h5 rfl
          refine ⟨by omega, ?_⟩
          rintro h6 rfl
          refine ⟨by omega, hL _ _ (by omega) (by show _ + 1 = _ + ((n + 1 : Nat) : Int); omega) ⟨fun j hj => ?_, fun k j hk1 hk2 => ?_⟩⟩
          · show zs (zs h4 (p + 9) (8 * m + b) _) (p + 15) b (-9) (p + 9) (8 * m + j) = zup _ _ _ j ∧ zs (zs h4 (p + 9) (8 * m + b) _) (p + 15) b (-9) (p + 15) j = zup _ _ _ j
            rw [eb, Int.toNat_natCast, zs_k (show p + 9 ≠ p + 15 by omega)]
            by_cases e : j = b
            · rw [e, zup_self, zup_self, zs_eq, zs_eq]; exact ⟨rfl, rfl⟩
            · rw [zup_ne e, zup_ne e, zs_j (by omega), zs_j e, zs_k (by omega)]; exact hA3 j hj
          · rw [zs_k hk1, show zs h4 (p + 9) _ _ k j = h4 k j by
                by_cases e : k = p + 9
                · exact zs_j (by omega)
                · exact zs_k e]
            exact hB3 k j hk1 hk2
        · intro cs2
          have e2 := (hA3 s (by omega)).2
          rw [e2]
          have hst := aG_step (r := (gN (f0 c (sm c 8), r0 c (sm c 8)) n).2) (n := s)
          have r9 := g2 s (by omega)
          refine ⟨by omega, fun c5 => ⟨by omega, hL' _ _ (by omega) ⟨rfl, ?_⟩⟩, fun c5 => ?_⟩
          · have := aG_ge (r := (gN (f0 c (sm c 8), r0 c (sm c 8)) n).2) (n := s)
            rw [hst, if_neg (by omega)]
          · rcases aG_spec (n := s) (fun j hj => g2 j (by omega)) with ⟨z1, z2, -⟩ | ⟨b', hb', z1, z2, z3, -⟩
            · rw [z1]
              refine ⟨fun _ => ⟨by omega, hL' _ _ (by omega) ⟨rfl, ?_⟩⟩, fun c6 => absurd rfl c6⟩
              rw [hst, if_pos (by omega)]
            · rw [z1]
              simp only [Int.toNat_natCast]
              rw [(hA3 b' (by omega)).2]
              refine ⟨fun c6 => by omega, fun _ => ⟨by omega, by omega, fun c7 => ⟨by omega, hL' _ _ (by omega) ⟨rfl, ?_⟩⟩, fun c7 => ⟨by omega, hL' _ _ (by omega) ⟨rfl, ?_⟩⟩⟩⟩
              · rw [hst, if_neg (by omega), z1]
              · rw [hst, if_pos (by omega)]
    · intro cs
      have b1 := f0_sm ht (c := c) (n := s) (fun s' hs' => hc9 s' (by omega))
      have b0 : 0 ≤ sm (f0 c (sm c 8)) s := sm_nonneg (fun j hj => f0_nonneg ht j)
      have b2 := f0_le ht (hc9 s (by omega))
      have b3 := f0_nonneg ht (c := c) s
      have hcs := hc9 s (by omega)
      have key : B_RM_layFrequencies_69 K L p p1 (8 * (m : Int)) (sm c 8) (sm (f0 c (sm c 8)) s) (s : Int) (c s) h2 := by
        have key2 : ∀ v, v = f0 c (sm c 8) s → B_RM_layFrequencies_105 K L p p1 (8 * (m : Int)) (sm c 8) (sm (f0 c (sm c 8)) s) (s : Int) (c s) (p + 9) (8 * (m : Int) + (s : Int)) v h2 := by
          rintro v rfl
          unfold B_RM_layFrequencies_105
          rw [at8]
          refine ⟨?_, ?_⟩
          · rw [hz9]
            omega
          rintro h4 rfl
          rw [zs_eq]
          refine ⟨by omega, by omega, by omega, ?_⟩
          rintro x5 rfl
          simp only [Int.toNat_natCast]
          refine ⟨fun c5 => ⟨by omega, ?_⟩, fun c5 => ⟨by omega, by omega, by omega, ?_⟩⟩
          · rintro h5 rfl
            refine ⟨by omega, hL _ _ (by omega) ⟨rfl, fun j hj => ?_, fun k j hk1 hk2 => ?_⟩⟩
            · rw [zs_k (show p + 9 ≠ p + 15 by omega)]
              by_cases e : j = s
              · rw [e, zs_eq, zs_eq]; refine ⟨rfl, ?_⟩; unfold r0; rw [if_neg (by omega)]
              · rw [zs_j (by omega), zs_j e, zs_k (by omega)]; exact hA2 j (by omega)
            · rw [zs_k hk1, show zs h2 (p + 9) _ _ k j = h2 k j by
                by_cases e : k = p + 9
                · exact zs_j (by omega)
                · exact zs_k e]
              exact hB2 k j hk1 hk2
          · rintro h5 rfl
            refine ⟨by omega, hL _ _ (by omega) ⟨rfl, fun j hj => ?_, fun k j hk1 hk2 => ?_⟩⟩
            · rw [zs_k (show p + 9 ≠ p + 15 by omega)]
              by_cases e : j = s
              · rw [e, zs_eq, zs_eq]; refine ⟨rfl, ?_⟩; unfold r0; rw [if_pos (by omega)]
              · rw [zs_j (by omega), zs_j e, zs_k (by omega)]; exact hA2 j (by omega)
            · rw [zs_k hk1, show zs h2 (p + 9) _ _ k j = h2 k j by
                by_cases e : k = p + 9
                · exact zs_j (by omega)
                · exact zs_k e]
              exact hB2 k j hk1 hk2
        unfold B_RM_layFrequencies_69
        refine ⟨by omega, by omega, ?_⟩
        rintro x8 rfl
        unfold B_RM_layFrequencies_103
        have d0 := Int.ediv_nonneg (show 0 ≤ 32 * c s by omega) (show 0 ≤ sm c 8 by omega)
        refine ⟨by omega, fun c5 => key2 _ ?_, fun c5 => ⟨fun c6 => key2 _ ?_, fun c6 => key2 _ ?_⟩⟩
        · unfold f0; rw [if_neg (by omega), show c s = 0 by omega]; exact Int.zero_ediv _
        · unfold f0; rw [if_pos c5, if_neg (by omega)]
        · unfold f0; rw [if_pos c5, if_pos (by omega)]
      refine ⟨fun c5 => ?_, fun c5 => ⟨by omega, by omega, ?_⟩⟩
      · rw [hcz s (by omega) (by omega)] at key
        exact key
      · rw [hB2 p1 (8 * m + s) (by omega) (by omega), hc s (by omega)]
        exact key
  · intro ci
    have hci := hc9 i (by omega)
    have b0 : 0 ≤ sm c i := sm_nonneg (fun j hj => hc0 j (by omega))
    have b1 := smle i (by omega)
    rw [hc i (by omega)]
    refine ⟨by omega, by omega, by omega, ?_⟩
    rintro x3 rfl
    exact ⟨by omega, hL _ _ (by omega) ⟨rfl, rfl⟩⟩

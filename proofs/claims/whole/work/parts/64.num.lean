theorem ct_step {y : Nat → Int} {s : Int} {n : Nat} : ct y s (n + 1) = ct y s n + if y n = s then 1 else 0 := rfl
theorem fI_lt {f : Nat → Int} {k k' : Nat} (h : k < k') (e : fS f k = fS f k') : fI f k < fI f k' := by
  unfold fI
  rw [← e]
  have h4 := ct_mono (y := fS f) (s := fS f k) (n := k + 1) (d := k' - (k + 1))
  rw [show k + 1 + (k' - (k + 1)) = k' by omega, ct_step, if_pos rfl] at h4
  omega
theorem s_enterSlot {p : Nat} {h : zH} {K : zH → Prop} {x1 x2 x3 : Int} (h1 : 0 ≤ x1 ∧ x1 < 8) (h2 : 0 ≤ x2 ∧ x2 < 32) (hk : K (zs h (p + 8) (x1 * 32 + x2).toNat x3)) : M_Model_enterSlot p x1 x2 x3 h K := by
  unfold M_Model_enterSlot
  repeat' (first | with_reducible apply And.intro | (with_reducible intro hh ee; subst ee) | with_reducible intro cc)
  all_goals (try omega)
  all_goals exact hk
/-- the rows of a model's slots stand -/
def RS (h : zH) (p : Nat) (f : Nat → Int) (n : Nat) : Prop := ∀ k, k < n → h (p + 6) k = fS f k ∧ h (p + 7) k = fI f k ∧ h (p + 8) ((fS f k) * 32 + fI f k).toNat = (k : Int)
theorem s_numberSlots {p : Nat} {h : zH} {K : zH → Prop} {f : Nat → Int} (hf0 : ∀ j, j < 8 → 0 ≤ f j) (hf : sm f 8 = 32) (hr : RB h p (cBn f 8)) (hk : ∀ h', RS h' p f 32 → (∀ k j, k < p + 6 ∨ p + 9 < k → h' k j = h k j) → K h') : M_Model_numberSlots p h K := by
  unfold M_Model_numberSlots
  refine yp1 8 (fun i h' => (∀ j, j < i → h' (p + 9) j = 0) ∧ ∀ k j, k < p + 6 ∨ p + 9 < k → h' k j = h k j) ⟨fun j hj => by omega, fun k j _ => rfl⟩ ?_
  rintro i h' L hi ⟨hA, hB⟩ hL
  show F_Model_numberSlots_2 K L p (i : Int) h'
  unfold F_Model_numberSlots_2
  simp only [Int.toNat_natCast]
  constructor
  · intro c
    have ei : i = 8 := by omega
    subst ei
    clear hL
    refine yp1 32 (fun i h' => (∀ s : Nat, s < 8 → h' (p + 9) s = ct (fS f) (s : Int) i) ∧ RS h' p f i ∧ ∀ k j, k < p + 6 ∨ p + 9 < k → h' k j = h k j) ⟨fun s hs => hA s hs, fun k hk => by omega, hB⟩ ?_
    rintro i h'' L hi' ⟨hC, hS, hB'⟩ hL
    show F_Model_numberSlots_23 K L p (i : Int) h''
    unfold F_Model_numberSlots_23
    constructor
    · intro c
      have ei : i = 32 := by omega
      subst ei
      exact hk _ hS hB'
    · intro c
      refine ⟨by omega, ?_⟩
      rintro x2 rfl
      have e4 : ((i : Int) / 4).toNat = i / 4 := by omega
      rw [e4]
      obtain ⟨r1, r2, r3⟩ := hr (i / 4) (by omega)
      rw [← hB' (p + 3) (i / 4) (by omega)] at r1
      rw [← hB' (p + 4) (i / 4) (by omega)] at r3
      have hfs := fS_range hf0 hf (k := i) (by omega)
      have hfi := fI_range hf0 hf (k := i) (by omega)
      have key : B_Model_numberSlots_55 K L p (i : Int) (fS f i) h'' := by
        unfold B_Model_numberSlots_55
        have e9 : h'' (p + 9) (fS f i).toNat = fI f i := by
          rw [hC _ (by omega), show (((fS f i).toNat : Nat) : Int) = fS f i by omega]
          rfl
        rw [e9]
        simp only [Int.toNat_natCast]
        refine ⟨fun c => by omega, fun _ => ⟨fun c => by omega, fun _ => ⟨by omega, ?_⟩⟩⟩
        rintro x4 rfl
        refine ⟨by omega, ?_⟩
        rintro h1 rfl
        refine ⟨by omega, ?_⟩
        rintro h2 rfl
        refine ⟨by omega, ?_⟩
        rw [zs_k (by omega), zs_k (by omega), e9]
        refine ⟨by omega, by omega, ?_⟩
        rintro h3 rfl
        apply s_enterSlot (by omega) (by omega)
        refine ⟨by omega, hL _ (by omega) ⟨fun s hs => ?_, fun k hk => ?_, fun k j hkj => ?_⟩⟩
        · rw [zs_k (by omega), ct_step]
          by_cases e : s = (fS f i).toNat
          · subst e
            rw [zs_eq, if_pos (by omega), show (((fS f i).toNat : Nat) : Int) = fS f i by omega]
            rfl
          · rw [zs_j e, zs_k (by omega), zs_k (by omega), hC s hs, if_neg (by omega)]
            omega
        · by_cases e : k = i
          · subst e
            refine ⟨?_, ?_, ?_⟩
            · rw [zs_k (by omega), zs_k (by omega), zs_k (by omega), zs_eq]
            · rw [zs_k (by omega), zs_k (by omega), zs_eq]
            · rw [zs_eq]
          · obtain ⟨y1, y2, y3⟩ := hS k (by omega)
            have hfs' := fS_range hf0 hf (k := k) (by omega)
            have hfi' := fI_range hf0 hf (k := k) (by omega)
            have hne : ((fS f k) * 32 + fI f k).toNat ≠ ((fS f i) * 32 + fI f i).toNat := by
              intro e6
              have e7 : fS f k = fS f i := by omega
              have := fI_lt (f := f) (show k < i by omega) e7
              omega
            refine ⟨?_, ?_, ?_⟩
            · rw [zs_k (by omega), zs_k (by omega), zs_k (by omega), zs_j e, y1]
            · rw [zs_k (by omega), zs_k (by omega), zs_j e, zs_k (by omega), y2]
            · rw [zs_j hne, zs_k (by omega), zs_k (by omega), zs_k (by omega), y3]
        · rw [zs_k (by omega), zs_k (by omega), zs_k (by omega), zs_k (by omega), hB' k j hkj]
      have efs : fS f i = if ((i % 4 : Nat) : Int) < (cBn f 8).1 (i / 4) then ((i / 4 : Nat) : Int) else (cBn f 8).2.2 (i / 4) := rfl
      refine ⟨by omega, by omega, fun c2 => ⟨by omega, ?_⟩, fun c2 => ?_⟩
      · rw [if_neg (by omega)] at efs
        rw [r3, ← efs]
        exact key
      · rw [if_pos (by omega)] at efs
        rw [show (i : Int) / 4 = fS f i by omega]
        exact key
  · intro c
    repeat' (first | with_reducible apply And.intro | (with_reducible intro hh ee; subst ee) | with_reducible intro cc)
    all_goals (try omega)
    refine hL _ (by omega) ⟨fun j hj => ?_, fun k j hkj => ?_⟩
    · by_cases e : j = i
      · subst e; rw [zs_eq]
      · rw [zs_j e, hA j (by omega)]
    · rw [zs_k (by omega), hB k j hkj]

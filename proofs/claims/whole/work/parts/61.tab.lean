/-! THE PURE SIDE: rows as functions, sums, the greatest, the tables of one model as functions of its counts. -/
def zup (r : Nat → Int) (j : Nat) (v : Int) : Nat → Int := fun i => if i = j then v else r i
theorem zup_self {r : Nat → Int} {j : Nat} {v : Int} : zup r j v j = v := if_pos rfl
theorem zup_ne {r : Nat → Int} {j i : Nat} {v : Int} (h : i ≠ j) : zup r j v i = r i := if_neg h
def sm (f : Nat → Int) : Nat → Int
  | 0 => 0
  | n + 1 => sm f n + f n
theorem sm_congr {f g : Nat → Int} : ∀ {n : Nat}, (∀ j, j < n → f j = g j) → sm f n = sm g n := by
  intro n
  induction n with
  | zero => intro _; rfl
  | succ n ih => intro h; show sm f n + f n = sm g n + g n; rw [ih (fun j hj => h j (by omega)), h n (by omega)]
theorem sm_up {f : Nat → Int} {j : Nat} {v : Int} : ∀ {n : Nat}, j < n → sm (zup f j v) n = sm f n - f j + v := by
  intro n
  induction n with
  | zero => intro h; omega
  | succ n ih =>
    intro h
    show sm (zup f j v) n + zup f j v n = sm f n + f n - f j + v
    by_cases hj : j = n
    · subst hj
      rw [sm_congr (g := f) (fun i hi => zup_ne (by omega)), zup_self]
      omega
    · rw [ih (by omega), zup_ne (by omega)]
      omega
theorem sm_nonneg {f : Nat → Int} : ∀ {n : Nat}, (∀ j, j < n → 0 ≤ f j) → 0 ≤ sm f n := by
  intro n
  induction n with
  | zero => intro _; exact Int.le_refl 0
  | succ n ih => intro h; show 0 ≤ sm f n + f n; have := ih (fun j hj => h j (by omega)); have := h n (by omega); omega
theorem sm_le {f g : Nat → Int} : ∀ {n : Nat}, (∀ j, j < n → f j ≤ g j) → sm f n ≤ sm g n := by
  intro n
  induction n with
  | zero => intro _; exact Int.le_refl 0
  | succ n ih => intro h; show sm f n + f n ≤ sm g n + g n; have := ih (fun j hj => h j (by omega)); have := h n (by omega); omega
theorem sm_one {f : Nat → Int} {j : Nat} : ∀ {n : Nat}, (∀ i, i < n → 0 ≤ f i) → j < n → f j ≤ sm f n := by
  intro n
  induction n with
  | zero => intro _ h; omega
  | succ n ih =>
    intro h hj
    show f j ≤ sm f n + f n
    have h1 := sm_nonneg (fun i (hi : i < n) => h i (by omega))
    have h2 := h n (by omega)
    by_cases e : j = n
    · subst e; omega
    · have := ih (fun i hi => h i (by omega)) (by omega); omega
theorem sm_add {f g : Nat → Int} : ∀ {n : Nat}, sm (fun j => f j + g j) n = sm f n + sm g n := by
  intro n
  induction n with
  | zero => rfl
  | succ n ih => show sm _ n + (f n + g n) = sm f n + f n + (sm g n + g n); rw [ih]; omega
theorem sm_mul {f : Nat → Int} {t : Int} : ∀ {n : Nat}, sm (fun j => t * f j) n = t * sm f n := by
  intro n
  induction n with
  | zero => show (0 : Int) = t * 0; rw [Int.mul_zero]
  | succ n ih => show sm _ n + t * f n = t * (sm f n + f n); rw [ih, Int.mul_add]
/-- the first of the greatest above -9, and it -/
def aG (r : Nat → Int) : Nat → Int × Int
  | 0 => (-9, -9)
  | n + 1 => if (aG r n).2 < r n then ((n : Int), r n) else aG r n
theorem aG_congr {r r' : Nat → Int} : ∀ {n : Nat}, (∀ j, j < n → r j = r' j) → aG r n = aG r' n := by
  intro n
  induction n with
  | zero => intro _; rfl
  | succ n ih =>
    intro h
    unfold aG
    rw [ih (fun j hj => h j (by omega)), h n (by omega)]
theorem aG_spec {r : Nat → Int} : ∀ {n : Nat}, (∀ j, j < n → -9 ≤ r j) → ((aG r n).1 = -9 ∧ (aG r n).2 = -9 ∧ ∀ j, j < n → r j = -9) ∨ ∃ b : Nat, b < n ∧ (aG r n).1 = (b : Int) ∧ (aG r n).2 = r b ∧ -9 < r b ∧ ∀ j, j < n → r j ≤ r b := by
  intro n
  induction n with
  | zero => intro _; exact Or.inl ⟨rfl, rfl, fun j hj => by omega⟩
  | succ n ih =>
    intro h
    have hn := h n (by omega)
    rcases ih (fun j hj => h j (by omega)) with ⟨h1, h2, h3⟩ | ⟨b, hb, h1, h2, h3, h4⟩
    · by_cases hc : (aG r n).2 < r n
      · refine Or.inr ⟨n, by omega, ?_, ?_, by omega, fun j hj => ?_⟩
        · unfold aG; rw [if_pos hc]
        · unfold aG; rw [if_pos hc]
        · by_cases e : j = n
          · subst e; omega
          · have := h3 j (by omega); omega
      · refine Or.inl ⟨?_, ?_, fun j hj => ?_⟩
        · unfold aG; rw [if_neg hc]; exact h1
        · unfold aG; rw [if_neg hc]; exact h2
        · by_cases e : j = n
          · subst e; omega
          · exact h3 j (by omega)
    · by_cases hc : (aG r n).2 < r n
      · refine Or.inr ⟨n, by omega, ?_, ?_, by omega, fun j hj => ?_⟩
        · unfold aG; rw [if_pos hc]
        · unfold aG; rw [if_pos hc]
        · by_cases e : j = n
          · subst e; omega
          · have := h4 j (by omega); omega
      · refine Or.inr ⟨b, by omega, ?_, ?_, by omega, fun j hj => ?_⟩
        · unfold aG; rw [if_neg hc]; exact h1
        · unfold aG; rw [if_neg hc]; exact h2
        · by_cases e : j = n
          · subst e; omega
          · exact h4 j (by omega)
/-- the last of the greatest of 0 .. n -/
def lM (f : Nat → Int) : Nat → Nat
  | 0 => 0
  | n + 1 => if f (lM f n) ≤ f (n + 1) then n + 1 else lM f n
theorem lM_congr {f f' : Nat → Int} : ∀ {n : Nat}, (∀ j, j ≤ n → f j = f' j) → lM f n = lM f' n ∧ lM f n ≤ n := by
  intro n
  induction n with
  | zero => intro _; exact ⟨rfl, Nat.le_refl 0⟩
  | succ n ih =>
    intro h
    obtain ⟨h1, h2⟩ := ih (fun j hj => h j (by omega))
    unfold lM
    rw [← h1, h (n + 1) (by omega), h (lM f n) (by omega)]
    refine ⟨rfl, ?_⟩
    split <;> omega
theorem lM_spec {f : Nat → Int} : ∀ {n : Nat}, lM f n ≤ n ∧ ∀ j, j ≤ n → f j ≤ f (lM f n) := by
  intro n
  induction n with
  | zero => exact ⟨Nat.le_refl 0, fun j hj => by
    have e : j = 0 := by omega
    rw [e]
    exact Int.le_refl _⟩
  | succ n ih =>
    obtain ⟨h1, h2⟩ := ih
    unfold lM
    split
    · rename_i hc
      refine ⟨by omega, fun j hj => ?_⟩
      by_cases e : j = n + 1
      · subst e; omega
      · have := h2 j (by omega); omega
    · rename_i hc
      refine ⟨by omega, fun j hj => ?_⟩
      by_cases e : j = n + 1
      · subst e; omega
      · exact h2 j (by omega)
theorem lM_stop {f : Nat → Int} {n : Nat} (hp : 0 < f (lM f n)) : ∀ {d : Nat}, (∀ j, n < j → j ≤ n + d → f j = 0) → lM f (n + d) = lM f n := by
  intro d
  induction d with
  | zero => intro _; rfl
  | succ d ih =>
    intro h
    have h1 := ih (fun j a b => h j a (by omega))
    have h2 := h (n + d + 1) (by omega) (by omega)
    show (if f (lM f (n + d)) ≤ f (n + d + 1) then n + d + 1 else lM f (n + d)) = lM f n
    rw [h1, if_neg (by omega)]
/-- of a model's counts: the first shares, what remains -/
def f0 (c : Nat → Int) (t : Int) (s : Nat) : Int := if 0 < c s then (if 32 * c s / t < 1 then 1 else 32 * c s / t) else 0
def r0 (c : Nat → Int) (t : Int) (s : Nat) : Int := if 0 < c s then 32 * c s % t else -9
def gSt (q : (Nat → Int) × (Nat → Int)) : (Nat → Int) × (Nat → Int) := (zup q.1 (aG q.2 8).1.toNat (q.1 (aG q.2 8).1.toNat + 1), zup q.2 (aG q.2 8).1.toNat (-9))
def gN (q : (Nat → Int) × (Nat → Int)) : Nat → (Nat → Int) × (Nat → Int)
  | 0 => q
  | n + 1 => gSt (gN q n)
def tS (f : Nat → Int) : Nat → Int := zup f (lM f 7) (f (lM f 7) - 1)
def tN (f : Nat → Int) : Nat → Nat → Int
  | 0 => f
  | n + 1 => tS (tN f n)
/-- the frequencies -/
def fF (c : Nat → Int) : Nat → Int := tN (gN (f0 c (sm c 8), r0 c (sm c 8)) (32 - sm (f0 c (sm c 8)) 8).toNat).1 (sm (f0 c (sm c 8)) 8 - 32).toNat
/-- how many are not -9 -/
def nP (r : Nat → Int) : Nat → Int
  | 0 => 0
  | n + 1 => nP r n + if r n = -9 then 0 else 1
theorem nP_up {r : Nat → Int} {j : Nat} (hr : r j ≠ -9) : ∀ {n : Nat}, j < n → nP (zup r j (-9)) n = nP r n - 1 := by
  intro n
  induction n with
  | zero => intro h; omega
  | succ n ih =>
    intro h
    show nP (zup r j (-9)) n + (if zup r j (-9) n = -9 then 0 else 1) = nP r n + (if r n = -9 then 0 else 1) - 1
    by_cases hj : j = n
    · subst hj
      have e : nP (zup r j (-9)) j = nP r j := by
        have : ∀ m, m ≤ j → nP (zup r j (-9)) m = nP r m := by
          intro m
          induction m with
          | zero => intro _; rfl
          | succ m ihm => intro hm; show nP _ m + _ = nP r m + _; rw [ihm (by omega), zup_ne (by omega)]
        exact this j (Nat.le_refl j)
      rw [e, zup_self, if_pos rfl, if_neg hr]
      omega
    · rw [ih (by omega), zup_ne (by omega)]
      omega
theorem nP_some {r : Nat → Int} : ∀ {n : Nat}, 0 < nP r n → ∃ j, j < n ∧ r j ≠ -9 := by
  intro n
  induction n with
  | zero => intro h; exact absurd h (show ¬ (0 : Int) < 0 by decide)
  | succ n ih =>
    intro h
    by_cases e : r n = -9
    · have h' : 0 < nP r n := by
        have : nP r (n + 1) = nP r n + if r n = -9 then 0 else 1 := rfl
        rw [if_pos e] at this
        omega
      obtain ⟨j, hj, hr⟩ := ih h'
      exact ⟨j, by omega, hr⟩
    · exact ⟨n, by omega, e⟩
theorem share_bound {c : Nat → Int} {t : Int} (ht : 0 < t) : ∀ {n : Nat}, (∀ j, j < n → 0 ≤ c j) → 32 * sm c n ≤ t * sm (f0 c t) n + t * nP (r0 c t) n - nP (r0 c t) n ∧ 0 ≤ nP (r0 c t) n ∧ (0 < sm c n → 0 < nP (r0 c t) n) := by
  intro n
  induction n with
  | zero => intro _; exact ⟨by show 32 * (0 : Int) ≤ t * 0 + t * 0 - 0; omega, by show (0 : Int) ≤ 0; omega, fun h => absurd h (by show ¬ (0 : Int) < 0; omega)⟩
  | succ n ih =>
    intro h
    obtain ⟨h1, h2, h3⟩ := ih (fun j hj => h j (by omega))
    have hc := h n (by omega)
    have e1 : sm c (n + 1) = sm c n + c n := rfl
    have e2 : sm (f0 c t) (n + 1) = sm (f0 c t) n + f0 c t n := rfl
    have e3 : nP (r0 c t) (n + 1) = nP (r0 c t) n + if r0 c t n = -9 then 0 else 1 := rfl
    rw [e1, e2, e3, Int.mul_add, Int.mul_add, Int.mul_add]
    by_cases hp : 0 < c n
    · have m1 := Int.emod_nonneg (32 * c n) (by omega : t ≠ 0)
      have m2 := Int.emod_lt_of_pos (32 * c n) ht
      have m3 := Int.mul_ediv_add_emod (32 * c n) t
      have er : r0 c t n = 32 * c n % t := if_pos hp
      rw [er, if_neg (by omega), Int.mul_one]
      have ef : 32 * c n / t ≤ f0 c t n := by
        unfold f0
        rw [if_pos hp]
        split <;> omega
      have m4 : t * (32 * c n / t) ≤ t * f0 c t n := Int.mul_le_mul_of_nonneg_left ef (by omega)
      refine ⟨by omega, by omega, fun _ => by omega⟩
    · have er : r0 c t n = -9 := if_neg hp
      have ef : f0 c t n = 0 := if_neg hp
      rw [er, if_pos rfl, ef, Int.mul_zero]
      refine ⟨by omega, by omega, fun z => by have := h3 (by omega); omega⟩
/-- there are more to give to than there is to give -/
theorem share_enough {c : Nat → Int} (hc : ∀ j, j < 8 → 0 ≤ c j) (ht : 0 < sm c 8) : 32 - sm (f0 c (sm c 8)) 8 < nP (r0 c (sm c 8)) 8 := by
  obtain ⟨h1, h2, h3⟩ := share_bound ht hc
  have h4 := h3 ht
  by_cases h : 32 - sm (f0 c (sm c 8)) 8 < nP (r0 c (sm c 8)) 8
  · exact h
  · exfalso
    have h5 : sm (f0 c (sm c 8)) 8 + nP (r0 c (sm c 8)) 8 ≤ 32 := by omega
    have h6 : sm c 8 * (sm (f0 c (sm c 8)) 8 + nP (r0 c (sm c 8)) 8) ≤ sm c 8 * 32 := Int.mul_le_mul_of_nonneg_left h5 (by omega)
    rw [Int.mul_add] at h6
    omega
theorem f0_nonneg {c : Nat → Int} {t : Int} (ht : 0 < t) (s : Nat) : 0 ≤ f0 c t s := by
  unfold f0
  split
  · split
    · omega
    · omega
  · omega
theorem r0_ge {c : Nat → Int} {t : Int} (ht : 0 < t) (s : Nat) : -9 ≤ r0 c t s ∧ (0 < c s → 0 ≤ r0 c t s) := by
  unfold r0
  split
  · have := Int.emod_nonneg (32 * c s) (by omega : t ≠ 0)
    exact ⟨by omega, fun _ => this⟩
  · exact ⟨by omega, fun h => by omega⟩
/-- n gives have been made: what stands -/
theorem gN_spec {f r : Nat → Int} (hf : ∀ j, j < 8 → 0 ≤ f j) (hr : ∀ j, j < 8 → -9 ≤ r j) : ∀ {n : Nat}, (n : Int) < nP r 8 ∨ (n : Int) = nP r 8 → (∀ j, j < 8 → 0 ≤ (gN (f, r) n).1 j) ∧ (∀ j, j < 8 → -9 ≤ (gN (f, r) n).2 j) ∧ sm (gN (f, r) n).1 8 = sm f 8 + n ∧ nP (gN (f, r) n).2 8 = nP r 8 - n ∧ ∀ j, r j = -9 → (gN (f, r) n).2 j = -9 ∧ (gN (f, r) n).1 j = f j := by
  intro n
  induction n with
  | zero => intro _; exact ⟨hf, hr, by show sm f 8 = sm f 8 + 0; omega, by show nP r 8 = nP r 8 - 0; omega, fun j hj => ⟨hj, rfl⟩⟩
  | succ n ih =>
    intro hn
    obtain ⟨h1, h2, h3, h4, h5⟩ := ih (Or.inl (by omega))
    obtain ⟨j, hj, hjr⟩ := nP_some (r := (gN (f, r) n).2) (n := 8) (by omega)
    rcases aG_spec h2 with ⟨-, -, hx⟩ | ⟨b, hb, e1, e2, e3, e4⟩
    · exact absurd (hx j hj) hjr
    · have eq : gN (f, r) (n + 1) = (zup (gN (f, r) n).1 b ((gN (f, r) n).1 b + 1), zup (gN (f, r) n).2 b (-9)) := by
        show gSt (gN (f, r) n) = _
        unfold gSt
        rw [e1, Int.toNat_natCast]
      rw [eq]
      refine ⟨fun i hi => ?_, fun i hi => ?_, ?_, ?_, fun i hi => ?_⟩
      · by_cases e : i = b
        · subst e; show 0 ≤ zup _ i _ i; rw [zup_self]; have := h1 i hi; omega
        · show 0 ≤ zup _ b _ i; rw [zup_ne e]; exact h1 i hi
      · by_cases e : i = b
        · subst e; show -9 ≤ zup _ i _ i; rw [zup_self]; omega
        · show -9 ≤ zup _ b _ i; rw [zup_ne e]; exact h2 i hi
      · show sm (zup _ b _) 8 = _
        rw [sm_up hb, h3]
        omega
      · show nP (zup _ b _) 8 = _
        rw [nP_up (by omega) hb, h4]
        omega
      · have ne : i ≠ b := fun e => by subst e; have := (h5 i hi).1; omega
        exact ⟨(zup_ne ne).trans (h5 i hi).1, (zup_ne ne).trans (h5 i hi).2⟩
theorem tN_spec {f : Nat → Int} (hf : ∀ j, j < 8 → 0 ≤ f j) : ∀ {n : Nat}, (n : Int) ≤ sm f 8 → (∀ j, j < 8 → 0 ≤ tN f n j) ∧ sm (tN f n) 8 = sm f 8 - n ∧ ∀ j, f j = 0 → tN f n j = 0 := by
  intro n
  induction n with
  | zero => intro _; exact ⟨hf, by show sm f 8 = sm f 8 - 0; omega, fun j hj => hj⟩
  | succ n ih =>
    intro hn
    obtain ⟨h1, h2, h3⟩ := ih (by omega)
    have hp : 0 < tN f n (lM (tN f n) 7) := by
      by_cases hx : 0 < tN f n (lM (tN f n) 7)
      · exact hx
      · exfalso
        have : sm (tN f n) 8 ≤ sm (fun _ => 0) 8 := sm_le (fun j hj => by have := (lM_spec (f := tN f n) (n := 7)).2 j (by omega); show tN f n j ≤ 0; omega)
        have e0 : sm (fun _ => (0 : Int)) 8 = 0 := rfl
        omega
    have hb : lM (tN f n) 7 < 8 := by have := (lM_spec (f := tN f n) (n := 7)).1; omega
    refine ⟨fun j hj => ?_, ?_, fun j hj => ?_⟩
    · show 0 ≤ zup _ _ _ j
      by_cases e : j = lM (tN f n) 7
      · rw [e, zup_self]; omega
      · rw [zup_ne e]; exact h1 j hj
    · show sm (zup _ _ _) 8 = _
      rw [sm_up hb, h2]
      omega
    · have hz := h3 j hj
      show zup _ _ _ j = 0
      by_cases e : j = lM (tN f n) 7
      · rw [← e] at hp; omega
      · rw [zup_ne e]; exact hz
theorem fF_spec {c : Nat → Int} (hc : ∀ j, j < 8 → 0 ≤ c j) (ht : 0 < sm c 8) : (∀ j, j < 8 → 0 ≤ fF c j) ∧ sm (fF c) 8 = 32 := by
  have hf : ∀ j, j < 8 → 0 ≤ f0 c (sm c 8) j := fun j _ => f0_nonneg ht j
  have hr : ∀ j, j < 8 → -9 ≤ r0 c (sm c 8) j := fun j _ => (r0_ge ht j).1
  have he := share_enough hc ht
  have h0 := sm_nonneg hf
  obtain ⟨g1, g2, g3, g4, g5⟩ := gN_spec hf hr (n := (32 - sm (f0 c (sm c 8)) 8).toNat) (by
    by_cases hx : 0 ≤ 32 - sm (f0 c (sm c 8)) 8
    · exact Or.inl (by omega)
    · by_cases hy : 0 < nP (r0 c (sm c 8)) 8
      · exact Or.inl (by omega)
      · have := (share_bound ht hc).2.1
        exact Or.inr (by omega))
  obtain ⟨t1, t2, -⟩ := tN_spec g1 (n := (sm (f0 c (sm c 8)) 8 - 32).toNat) (by omega)
  exact ⟨t1, by show sm (tN _ _) 8 = 32; rw [t2]; omega⟩
/-- the first open one with at most 4 -/
def fC (rest op : Nat → Int) : Nat → Int
  | 0 => -9
  | n + 1 => if fC rest op n = -9 then (if op n ≠ 0 ∧ rest n ≤ 4 then (n : Int) else -9) else fC rest op n
theorem fC_congr {rest op rest' op' : Nat → Int} : ∀ {n : Nat}, (∀ j, j < n → rest j = rest' j ∧ op j = op' j) → fC rest op n = fC rest' op' n := by
  intro n
  induction n with
  | zero => intro _; rfl
  | succ n ih => intro h; unfold fC; rw [ih (fun j hj => h j (by omega)), (h n (by omega)).1, (h n (by omega)).2]
theorem fC_found {rest op : Nat → Int} {b : Nat} (h1 : fC rest op b = -9) (h2 : op b ≠ 0 ∧ rest b ≤ 4) : ∀ {d : Nat}, fC rest op (b + 1 + d) = (b : Int) := by
  intro d
  induction d with
  | zero => show (if fC rest op b = -9 then (if op b ≠ 0 ∧ rest b ≤ 4 then (b : Int) else -9) else fC rest op b) = b; rw [if_pos h1, if_pos h2]
  | succ d ih =>
    show (if fC rest op (b + 1 + d) = -9 then _ else fC rest op (b + 1 + d)) = (b : Int)
    rw [ih, if_neg (by omega)]
theorem fC_none {rest op : Nat → Int} {b : Nat} (h1 : fC rest op b = -9) (h2 : ¬ (op b ≠ 0 ∧ rest b ≤ 4)) : fC rest op (b + 1) = -9 := by
  show (if fC rest op b = -9 then (if op b ≠ 0 ∧ rest b ≤ 4 then (b : Int) else -9) else fC rest op b) = -9
  rw [if_pos h1, if_neg h2]
theorem fC_spec {rest op : Nat → Int} : ∀ {n : Nat}, (fC rest op n = -9 ∧ ∀ j, j < n → ¬ (op j ≠ 0 ∧ rest j ≤ 4)) ∨ ∃ b : Nat, b < n ∧ fC rest op n = (b : Int) ∧ op b ≠ 0 ∧ rest b ≤ 4 := by
  intro n
  induction n with
  | zero => exact Or.inl ⟨rfl, fun j hj => by omega⟩
  | succ n ih =>
    rcases ih with ⟨h1, h2⟩ | ⟨b, hb, h1, h2, h3⟩
    · by_cases hc : op n ≠ 0 ∧ rest n ≤ 4
      · exact Or.inr ⟨n, by omega, fC_found h1 hc (d := 0), hc.1, hc.2⟩
      · refine Or.inl ⟨fC_none h1 hc, fun j hj => ?_⟩
        by_cases e : j = n
        · subst e; exact hc
        · exact h2 j (by omega)
    · refine Or.inr ⟨b, by omega, ?_, h2, h3⟩
      show (if fC rest op n = -9 then _ else fC rest op n) = (b : Int)
      rw [h1, if_neg (by omega)]
/-- what is open, by its rest -/
def rO (rest op : Nat → Int) : Nat → Int := fun b => if op b ≠ 0 then rest b else -9
def r0O (rest op : Nat → Int) : Nat → Int := fun b => if op b ≠ 0 then rest b else 0
abbrev zB3 : Type := (Nat → Int) × (Nat → Int) × (Nat → Int)
/-- one bucket is closed: rests, what is open, aliases -/
def cB (q : zB3) : zB3 :=
  if q.1 (fC q.1 q.2.1 8).toNat < 4 then
    (zup q.1 (aG (rO q.1 (zup q.2.1 (fC q.1 q.2.1 8).toNat 0)) 8).1.toNat (q.1 (aG (rO q.1 (zup q.2.1 (fC q.1 q.2.1 8).toNat 0)) 8).1.toNat - (4 - q.1 (fC q.1 q.2.1 8).toNat)), zup q.2.1 (fC q.1 q.2.1 8).toNat 0, zup q.2.2 (fC q.1 q.2.1 8).toNat (aG (rO q.1 (zup q.2.1 (fC q.1 q.2.1 8).toNat 0)) 8).1)
  else (q.1, zup q.2.1 (fC q.1 q.2.1 8).toNat 0, q.2.2)
def cBn (f : Nat → Int) : Nat → zB3
  | 0 => (f, fun _ => 1, fun _ => -9)
  | n + 1 => cB (cBn f n)
theorem open_many {rest op : Nat → Int} : ∀ {n : Nat}, (∀ j, j < n → op j = 0 ∨ op j = 1) → (∀ j, j < n → op j ≠ 0 → 5 ≤ rest j) → 5 * sm op n ≤ sm (r0O rest op) n := by
  intro n
  induction n with
  | zero => intro _ _; show 5 * (0 : Int) ≤ 0; omega
  | succ n ih =>
    intro h0 h
    have h1 := ih (fun j hj => h0 j (by omega)) (fun j hj => h j (by omega))
    have h2 := h0 n (by omega)
    have h3 := h n (by omega)
    show 5 * (sm op n + op n) ≤ sm (r0O rest op) n + r0O rest op n
    unfold r0O at h1 ⊢
    by_cases e : op n ≠ 0
    · rw [if_pos e]; have := h3 e; omega
    · rw [if_neg e]; omega
theorem open_few {rest op : Nat → Int} : ∀ {n : Nat}, (∀ j, j < n → op j = 0 ∨ op j = 1) → (∀ j, j < n → op j ≠ 0 → rest j ≤ 4) → sm (r0O rest op) n ≤ 4 * sm op n := by
  intro n
  induction n with
  | zero => intro _ _; show (0 : Int) ≤ 4 * 0; omega
  | succ n ih =>
    intro h0 h
    have h1 := ih (fun j hj => h0 j (by omega)) (fun j hj => h j (by omega))
    have h2 := h0 n (by omega)
    have h3 := h n (by omega)
    show sm (r0O rest op) n + r0O rest op n ≤ 4 * (sm op n + op n)
    unfold r0O at h1 ⊢
    by_cases e : op n ≠ 0
    · rw [if_pos e]; have := h3 e; omega
    · rw [if_neg e]; omega
theorem sm_zero : ∀ {n : Nat}, sm (fun _ => 0) n = 0 := by
  intro n
  induction n with
  | zero => rfl
  | succ n ih => show sm (fun _ => 0) n + 0 = 0; rw [ih]; rfl
/-- what stands after n closings -/
def IB (f : Nat → Int) (n : Nat) (q : zB3) : Prop :=
  (∀ j, j < 8 → 0 ≤ q.1 j) ∧ (∀ j, j < 8 → q.2.1 j = 0 ∨ q.2.1 j = 1) ∧ sm q.2.1 8 = 8 - n ∧ sm (r0O q.1 q.2.1) 8 = 4 * (8 - n) ∧ (∀ j, j < 8 → q.2.1 j = 0 → q.1 j ≤ 4 ∧ (q.1 j < 4 → 0 ≤ q.2.2 j ∧ q.2.2 j < 8)) ∧ (∀ j, j < 8 → q.2.1 j ≠ 0 → q.2.2 j = -9) ∧ (∀ j, j < 8 → q.1 j = 4 → q.2.1 j = 0 → q.2.2 j = -9) ∧ ∀ s : Nat, s < 8 → f s = q.1 s + sm (fun b => if q.2.2 b = (s : Int) then 4 - q.1 b else 0) 8
/-- which bucket is closed, who gives -/
def cO (q : zB3) (b : Nat) (g : Int) : Prop := b < 8 ∧ fC q.1 q.2.1 8 = (b : Int) ∧ q.2.1 b ≠ 0 ∧ q.1 b ≤ 4 ∧ (aG (rO q.1 (zup q.2.1 b 0)) 8).1 = g ∧ (q.1 b < 4 → ∃ g0 : Nat, g0 < 8 ∧ g = (g0 : Int) ∧ zup q.2.1 b 0 g0 ≠ 0 ∧ 5 ≤ q.1 g0)
theorem cB_some {f : Nat → Int} {n : Nat} (hn : n < 8) {q : zB3} (h : IB f n q) : ∃ b g, cO q b g := by
  obtain ⟨h1, h2, h3, h4, h5, h6, h6', h7⟩ := h
  rcases fC_spec (rest := q.1) (op := q.2.1) (n := 8) with ⟨-, hx⟩ | ⟨b, hb, e1, e2, e3⟩
  · exfalso
    have := open_many h2 (fun j hj ho => by have := hx j hj; by_cases h9 : 5 ≤ q.1 j; exact h9; exact absurd ⟨ho, by omega⟩ this)
    omega
  · refine ⟨b, _, hb, e1, e2, e3, rfl, fun hlt => ?_⟩
    have hop : ∀ j, j < 8 → zup q.2.1 b 0 j = 0 ∨ zup q.2.1 b 0 j = 1 := by
      intro j hj
      by_cases e : j = b
      · rw [e, zup_self]; exact Or.inl rfl
      · rw [zup_ne e]; exact h2 j hj
    have hb1 : q.2.1 b = 1 := by have := h2 b hb; omega
    have s1 : sm (zup q.2.1 b 0) 8 = 8 - n - 1 := by rw [sm_up hb, h3, hb1]; omega
    have s2 : sm (r0O q.1 (zup q.2.1 b 0)) 8 = 4 * (8 - n) - q.1 b := by
      have e : sm (r0O q.1 (zup q.2.1 b 0)) 8 = sm (zup (r0O q.1 q.2.1) b 0) 8 := by
        refine sm_congr (fun j hj => ?_)
        unfold r0O
        by_cases e : j = b
        · rw [e, zup_self, zup_self, if_neg (by omega)]
        · rw [zup_ne e, zup_ne e]
      rw [e, sm_up hb, h4]
      unfold r0O
      rw [if_pos e2]
      omega
    have hg : ∀ j, j < 8 → -9 ≤ rO q.1 (zup q.2.1 b 0) j := by
      intro j hj
      unfold rO
      have := h1 j hj
      split <;> omega
    have hbig : ∃ j, j < 8 ∧ 5 ≤ rO q.1 (zup q.2.1 b 0) j := by
      by_cases hex : ∃ j, j < 8 ∧ 5 ≤ rO q.1 (zup q.2.1 b 0) j
      · exact hex
      · exfalso
        have := open_few (rest := q.1) hop (fun j hj ho => by
          by_cases h9 : q.1 j ≤ 4
          · exact h9
          · exact absurd ⟨j, hj, by unfold rO; rw [if_pos ho]; omega⟩ hex)
        omega
    obtain ⟨j, hj, hjb⟩ := hbig
    rcases aG_spec hg with ⟨-, -, hx⟩ | ⟨g0, hg0, a1, a2, a3, a4⟩
    · have := hx j hj; omega
    · have hm := a4 j hj
      have hne : zup q.2.1 b 0 g0 ≠ 0 := by
        intro e
        unfold rO at hm hjb
        rw [if_neg (show ¬ (zup q.2.1 b 0 g0 ≠ 0) by omega)] at hm
        omega
      refine ⟨g0, hg0, a1, hne, ?_⟩
      have e5 : rO q.1 (zup q.2.1 b 0) g0 = q.1 g0 := by unfold rO; rw [if_pos hne]
      omega
theorem cB_eq {q : zB3} {b : Nat} {g : Int} (h : cO q b g) : cB q = if q.1 b < 4 then (zup q.1 g.toNat (q.1 g.toNat - (4 - q.1 b)), zup q.2.1 b 0, zup q.2.2 b g) else (q.1, zup q.2.1 b 0, q.2.2) := by
  obtain ⟨h1, h2, h3, h4, h5, -⟩ := h
  unfold cB
  rw [h2, Int.toNat_natCast, h5]
theorem IB_step {f : Nat → Int} {n : Nat} (hn : n < 8) {q : zB3} (h : IB f n q) : IB f (n + 1) (cB q) := by
  obtain ⟨b, g, hc⟩ := cB_some hn h
  rw [cB_eq hc]
  obtain ⟨h1, h2, h3, h4, h5, h6, h6', h7⟩ := h
  obtain ⟨hb, e1, e2, e3, e4, e5⟩ := hc
  have hb1 : q.2.1 b = 1 := by have := h2 b hb; omega
  have hop : ∀ j, j < 8 → zup q.2.1 b 0 j = 0 ∨ zup q.2.1 b 0 j = 1 := by
    intro j hj
    by_cases e : j = b
    · rw [e, zup_self]; exact Or.inl rfl
    · rw [zup_ne e]; exact h2 j hj
  have s1 : sm (zup q.2.1 b 0) 8 = 8 - (n + 1 : Nat) := by rw [sm_up hb, h3, hb1]; omega
  have s2 : sm (r0O q.1 (zup q.2.1 b 0)) 8 = 4 * (8 - n) - q.1 b := by
    have e : sm (r0O q.1 (zup q.2.1 b 0)) 8 = sm (zup (r0O q.1 q.2.1) b 0) 8 := by
      refine sm_congr (fun j hj => ?_)
      unfold r0O
      by_cases e : j = b
      · rw [e, zup_self, zup_self, if_neg (by omega)]
      · rw [zup_ne e, zup_ne e]
    rw [e, sm_up hb, h4]
    unfold r0O
    rw [if_pos e2]
    omega
  by_cases hlt : q.1 b < 4
  · rw [if_pos hlt]
    obtain ⟨g0, hg0, rfl, hgo, hg5⟩ := e5 hlt
    rw [Int.toNat_natCast]
    have hgb : g0 ≠ b := fun e => by rw [e, zup_self] at hgo; exact hgo rfl
    have hgo' : q.2.1 g0 ≠ 0 := by rw [zup_ne hgb] at hgo; exact hgo
    refine ⟨fun j hj => ?_, hop, s1, ?_, fun j hj ho => ?_, fun j hj ho => ?_, fun j hj hr ho => ?_, fun s hs => ?_⟩
    · show 0 ≤ zup q.1 g0 _ j
      by_cases e : j = g0
      · rw [e, zup_self]; have := h1 b hb; omega
      · rw [zup_ne e]; exact h1 j hj
    · show sm (r0O (zup q.1 g0 (q.1 g0 - (4 - q.1 b))) (zup q.2.1 b 0)) 8 = _
      have e : sm (r0O (zup q.1 g0 (q.1 g0 - (4 - q.1 b))) (zup q.2.1 b 0)) 8 = sm (zup (r0O q.1 (zup q.2.1 b 0)) g0 (q.1 g0 - (4 - q.1 b))) 8 := by
        refine sm_congr (fun j hj => ?_)
        by_cases e : j = g0
        · subst e
          unfold r0O
          rw [if_pos hgo, zup_self, zup_self]
        · rw [zup_ne e]
          unfold r0O
          rw [zup_ne e]
      rw [e, sm_up hg0, s2]
      have e8 : r0O q.1 (zup q.2.1 b 0) g0 = q.1 g0 := by unfold r0O; rw [if_pos hgo]
      rw [e8]
      omega
    · show zup q.1 g0 _ j ≤ 4 ∧ (zup q.1 g0 _ j < 4 → 0 ≤ zup q.2.2 b _ j ∧ zup q.2.2 b _ j < 8)
      have ho' : zup q.2.1 b 0 j = 0 := ho
      by_cases e : j = b
      · subst e
        rw [zup_ne (by omega), zup_self]
        exact ⟨e3, fun _ => by omega⟩
      · rw [zup_ne e] at ho'
        have hjg : j ≠ g0 := fun e => by subst e; exact hgo' ho'
        rw [zup_ne hjg, zup_ne e]
        exact h5 j hj ho'
    · show zup q.2.2 b _ j = -9
      have ho' : zup q.2.1 b 0 j ≠ 0 := ho
      have e : j ≠ b := fun e => by rw [e, zup_self] at ho'; exact ho' rfl
      rw [zup_ne e] at ho' ⊢
      exact h6 j hj ho'
    · show zup q.2.2 b _ j = -9
      have ho' : zup q.2.1 b 0 j = 0 := ho
      have hr' : zup q.1 g0 _ j = 4 := hr
      by_cases e : j = b
      · subst e
        rw [zup_ne (by omega)] at hr'
        omega
      · rw [zup_ne e] at ho'
        have hjg : j ≠ g0 := fun e => by subst e; exact hgo' ho'
        rw [zup_ne hjg] at hr'
        rw [zup_ne e]
        exact h6' j hj hr' ho'
    · show f s = zup q.1 g0 _ s + sm (fun x => if zup q.2.2 b (g0 : Int) x = (s : Int) then 4 - zup q.1 g0 (q.1 g0 - (4 - q.1 b)) x else 0) 8
      have key : sm (fun x => if zup q.2.2 b (g0 : Int) x = (s : Int) then 4 - zup q.1 g0 (q.1 g0 - (4 - q.1 b)) x else 0) 8 = sm (zup (fun x => if q.2.2 x = (s : Int) then 4 - q.1 x else 0) b (if (g0 : Int) = (s : Int) then 4 - q.1 b else 0)) 8 := by
        refine sm_congr (fun j hj => ?_)
        by_cases e : j = b
        · subst e
          rw [zup_self, zup_self, zup_ne (show j ≠ g0 by omega)]
        · rw [zup_ne e, zup_ne e]
          by_cases e9 : j = g0
          · subst e9
            have := h6 j hj hgo'
            rw [if_neg (by omega), if_neg (by omega)]
          · rw [zup_ne e9]
      rw [key, sm_up hb]
      have hbal := h6 b hb e2
      rw [if_neg (show ¬ q.2.2 b = (s : Int) by omega)]
      have h8 := h7 s hs
      by_cases e : s = g0
      · subst e
        rw [zup_self, if_pos rfl]
        omega
      · rw [zup_ne e, if_neg (by omega)]
        omega
  · rw [if_neg hlt]
    have h4b : q.1 b = 4 := by omega
    refine ⟨h1, hop, s1, by rw [s2, h4b]; omega, fun j hj ho => ?_, fun j hj ho => ?_, fun j hj hr ho => ?_, h7⟩
    · have ho' : zup q.2.1 b 0 j = 0 := ho
      by_cases e : j = b
      · subst e
        exact ⟨e3, fun hx => absurd hx hlt⟩
      · rw [zup_ne e] at ho'
        exact h5 j hj ho'
    · have ho' : zup q.2.1 b 0 j ≠ 0 := ho
      have e : j ≠ b := fun e => by rw [e, zup_self] at ho'; exact ho' rfl
      rw [zup_ne e] at ho'
      exact h6 j hj ho'
    · have ho' : zup q.2.1 b 0 j = 0 := ho
      by_cases e : j = b
      · subst e
        exact h6 j hj e2
      · rw [zup_ne e] at ho'
        exact h6' j hj hr ho'
theorem IB_0 {f : Nat → Int} (hf : ∀ j, j < 8 → 0 ≤ f j) (hs : sm f 8 = 32) : IB f 0 (cBn f 0) := by
  refine ⟨hf, fun j _ => Or.inr rfl, rfl, ?_, fun j _ h => absurd h (show ¬ (1 : Int) = 0 by decide), fun j _ _ => rfl, fun j _ _ _ => rfl, fun s hs => ?_⟩
  · show sm (r0O f (fun _ => 1)) 8 = _
    have e : sm (r0O f (fun _ => 1)) 8 = sm f 8 := sm_congr (fun j _ => if_pos (show (1 : Int) ≠ 0 by decide))
    rw [e, hs]
    omega
  · show f s = f s + sm (fun b => if (-9 : Int) = (s : Int) then 4 - f b else 0) 8
    rw [sm_congr (g := fun _ => 0) (fun j _ => if_neg (by omega)), sm_zero]
    omega
theorem IB_n {f : Nat → Int} (hf : ∀ j, j < 8 → 0 ≤ f j) (hs : sm f 8 = 32) : ∀ {n : Nat}, n ≤ 8 → IB f n (cBn f n) := by
  intro n
  induction n with
  | zero => intro _; exact IB_0 hf hs
  | succ n ih => intro hn; exact IB_step (by omega) (ih (by omega))
/-- the symbol of a slot, its number among the slots of its symbol -/
def fS (f : Nat → Int) (k : Nat) : Int := if ((k % 4 : Nat) : Int) < (cBn f 8).1 (k / 4) then ((k / 4 : Nat) : Int) else (cBn f 8).2.2 (k / 4)
def ct (y : Nat → Int) (s : Int) : Nat → Int
  | 0 => 0
  | n + 1 => ct y s n + if y n = s then 1 else 0
def fI (f : Nat → Int) (k : Nat) : Int := ct (fS f) (fS f k) k
theorem ct_congr {y y' : Nat → Int} {s : Int} : ∀ {n : Nat}, (∀ j, j < n → y j = y' j) → ct y s n = ct y' s n := by
  intro n
  induction n with
  | zero => intro _; rfl
  | succ n ih => intro h; unfold ct; rw [ih (fun j hj => h j (by omega)), h n (by omega)]
theorem ct_mono {y : Nat → Int} {s : Int} {n : Nat} : ∀ {d : Nat}, ct y s n ≤ ct y s (n + d) := by
  intro d
  induction d with
  | zero => exact Int.le_refl _
  | succ d ih => show ct y s n ≤ ct y s (n + d) + _; split <;> omega
theorem ct_nonneg {y : Nat → Int} {s : Int} {n : Nat} : 0 ≤ ct y s n := by
  have := ct_mono (y := y) (s := s) (n := 0) (d := n)
  rw [Nat.zero_add] at this
  exact this
theorem ct_le {y : Nat → Int} {s : Int} : ∀ {n : Nat}, ct y s n ≤ n := by
  intro n
  induction n with
  | zero => exact Int.le_refl 0
  | succ n ih => show ct y s n + _ ≤ _; split <;> omega
theorem ct_find {y : Nat → Int} {s i : Int} : ∀ {n : Nat}, 0 ≤ i → i < ct y s n → ∃ k, k < n ∧ y k = s ∧ ct y s k = i := by
  intro n
  induction n with
  | zero => intro h1 h2; exact absurd h2 (show ¬ i < 0 by omega)
  | succ n ih =>
    intro h1 h2
    by_cases hlt : i < ct y s n
    · obtain ⟨k, hk, e1, e2⟩ := ih h1 hlt
      exact ⟨k, by omega, e1, e2⟩
    · have h3 : i < ct y s n + if y n = s then 1 else 0 := h2
      by_cases e : y n = s
      · rw [if_pos e] at h3
        exact ⟨n, by omega, e, by omega⟩
      · rw [if_neg e] at h3
        omega
theorem sm_single {R : Nat → Int} {s : Nat} : ∀ {n : Nat}, sm (fun b => if (b : Int) = (s : Int) then R b else 0) n = if s < n then R s else 0 := by
  intro n
  induction n with
  | zero => rfl
  | succ n ih =>
    show sm _ n + (if (n : Int) = (s : Int) then R n else 0) = _
    rw [ih]
    by_cases e : n = s
    · subst e
      rw [if_neg (by omega), if_pos rfl, if_pos (by omega)]
      omega
    · by_cases h : s < n
      · rw [if_pos h, if_neg (by omega), if_pos (by omega)]
        omega
      · rw [if_neg h, if_neg (by omega), if_neg (by omega)]
        omega
theorem IB_end {f : Nat → Int} (hf : ∀ j, j < 8 → 0 ≤ f j) (hs : sm f 8 = 32) (b : Nat) (hb : b < 8) : 0 ≤ (cBn f 8).1 b ∧ (cBn f 8).1 b ≤ 4 ∧ ((cBn f 8).1 b < 4 → 0 ≤ (cBn f 8).2.2 b ∧ (cBn f 8).2.2 b < 8) ∧ ((cBn f 8).1 b = 4 → (cBn f 8).2.2 b = -9) := by
  obtain ⟨h1, h2, h3, h4, h5, h6, h6', h7⟩ := IB_n hf hs (Nat.le_refl 8)
  have ho : (cBn f 8).2.1 b = 0 := by
    have := sm_one (f := (cBn f 8).2.1) (n := 8) (fun i hi => by have := h2 i hi; omega) hb
    have := h2 b hb
    omega
  exact ⟨h1 b hb, (h5 b hb ho).1, (h5 b hb ho).2, fun e => h6' b hb e ho⟩
theorem ct_four {y : Nat → Int} {s : Int} {n : Nat} {R a : Int} (hR : 0 ≤ R ∧ R ≤ 4) (hy : ∀ i : Nat, i < 4 → y (4 * n + i) = if (i : Int) < R then (n : Int) else a) : ct y s (4 * n + 4) = ct y s (4 * n) + ((if (n : Int) = s then R else 0) + if a = s then 4 - R else 0) := by
  show ct y s (4 * n) + (if y (4 * n) = s then 1 else 0) + (if y (4 * n + 1) = s then 1 else 0) + (if y (4 * n + 2) = s then 1 else 0) + (if y (4 * n + 3) = s then 1 else 0) = _
  have y0 := hy 0 (by decide)
  have y1 := hy 1 (by decide)
  have y2 := hy 2 (by decide)
  have y3 := hy 3 (by decide)
  rw [show 4 * n + 0 = 4 * n from rfl] at y0
  rw [y0, y1, y2, y3]
  by_cases e1 : (n : Int) = s <;> by_cases e2 : a = s <;> (by_cases c0 : ((0 : Nat) : Int) < R <;> by_cases c1 : ((1 : Nat) : Int) < R <;> by_cases c2 : ((2 : Nat) : Int) < R <;> by_cases c3 : ((3 : Nat) : Int) < R <;> simp only [c0, c1, c2, c3, e1, e2, if_true, if_false] <;> omega)
theorem slots_count {f : Nat → Int} (hf : ∀ j, j < 8 → 0 ≤ f j) (hs : sm f 8 = 32) {s : Nat} (hs8 : s < 8) : ct (fS f) (s : Int) 32 = f s := by
  have key : ∀ n, n ≤ 8 → ct (fS f) (s : Int) (4 * n) = sm (fun b => (if (b : Int) = (s : Int) then (cBn f 8).1 b else 0) + if (cBn f 8).2.2 b = (s : Int) then 4 - (cBn f 8).1 b else 0) n := by
    intro n
    induction n with
    | zero => intro _; rfl
    | succ n ih =>
      intro hn
      obtain ⟨b1, b2, -, -⟩ := IB_end hf hs n (by omega)
      show ct (fS f) (s : Int) (4 * n + 4) = sm _ n + _
      rw [ct_four (R := (cBn f 8).1 n) (a := (cBn f 8).2.2 n) ⟨b1, b2⟩ (fun i hi => by
        unfold fS
        rw [show (4 * n + i) % 4 = i by omega, show (4 * n + i) / 4 = n by omega]), ih (by omega)]
  have h := key 8 (Nat.le_refl 8)
  rw [show 4 * 8 = 32 from rfl] at h
  rw [h, sm_add, sm_single, if_pos hs8]
  exact ((IB_n hf hs (Nat.le_refl 8)).2.2.2.2.2.2.2 s hs8).symm
theorem fS_range {f : Nat → Int} (hf : ∀ j, j < 8 → 0 ≤ f j) (hs : sm f 8 = 32) {k : Nat} (hk : k < 32) : 0 ≤ fS f k ∧ fS f k < 8 := by
  obtain ⟨b1, b2, b3, -⟩ := IB_end hf hs (k / 4) (by omega)
  unfold fS
  split
  · omega
  · exact b3 (by omega)
theorem fI_range {f : Nat → Int} (hf : ∀ j, j < 8 → 0 ≤ f j) (hs : sm f 8 = 32) {k : Nat} (hk : k < 32) : 0 ≤ fI f k ∧ fI f k < f (fS f k).toNat ∧ fI f k ≤ k := by
  obtain ⟨h1, h2⟩ := fS_range hf hs hk
  have h3 := slots_count hf hs (s := (fS f k).toNat) (by omega)
  rw [show (((fS f k).toNat : Nat) : Int) = fS f k by omega] at h3
  have h4 := ct_mono (y := fS f) (s := fS f k) (n := k + 1) (d := 32 - (k + 1))
  rw [show k + 1 + (32 - (k + 1)) = 32 by omega] at h4
  have h5 : ct (fS f) (fS f k) (k + 1) = ct (fS f) (fS f k) k + 1 := by
    show _ + (if fS f k = fS f k then 1 else 0) = _
    rw [if_pos rfl]
  have h6 := ct_le (y := fS f) (s := fS f k) (n := k)
  exact ⟨ct_nonneg, by unfold fI; omega, h6⟩
theorem slot_find {f : Nat → Int} (hf : ∀ j, j < 8 → 0 ≤ f j) (hs : sm f 8 = 32) {s : Nat} (hs8 : s < 8) {i : Int} (h0 : 0 ≤ i) (h1 : i < f s) : ∃ k, k < 32 ∧ fS f k = (s : Int) ∧ fI f k = i := by
  rw [← slots_count hf hs hs8] at h1
  obtain ⟨k, hk, e1, e2⟩ := ct_find h0 h1
  exact ⟨k, hk, e1, by unfold fI; rw [e1]; exact e2⟩
theorem cBn_congr {f f' : Nat → Int} (h : ∀ j, j < 8 → f j = f' j) : ∀ {n : Nat}, (n ≤ 8 → (∀ j, j < 8 → 0 ≤ f j) → sm f 8 = 32 → (∀ j, j < 8 → (cBn f n).1 j = (cBn f' n).1 j ∧ (cBn f n).2.1 j = (cBn f' n).2.1 j ∧ (cBn f n).2.2 j = (cBn f' n).2.2 j)) := by
  intro n
  induction n with
  | zero => intro _ _ _ j hj; exact ⟨h j hj, rfl, rfl⟩
  | succ n ih =>
    intro hn hf hs
    have ih' := ih (by omega) hf hs
    obtain ⟨b, g, hc⟩ := cB_some (by omega) (IB_n hf hs (show n ≤ 8 by omega))
    have hc' : cO (cBn f' n) b g := by
      obtain ⟨c1, c2, c3, c4, c5, c6⟩ := hc
      refine ⟨c1, ?_, ?_, ?_, ?_, fun hlt => ?_⟩
      · rw [← c2]; exact (fC_congr (fun j hj => ⟨(ih' j hj).1, (ih' j hj).2.1⟩)).symm
      · rw [← (ih' b c1).2.1]; exact c3
      · rw [← (ih' b c1).1]; exact c4
      · rw [← c5]
        refine congrArg Prod.fst (aG_congr (fun j hj => ?_)).symm
        unfold rO
        rw [(ih' j hj).1]
        by_cases e : j = b
        · rw [e, zup_self, zup_self]
        · rw [zup_ne e, zup_ne e, (ih' j hj).2.1]
      · rw [← (ih' b c1).1] at hlt
        obtain ⟨g0, g1, g2, g3, g4⟩ := c6 hlt
        refine ⟨g0, g1, g2, ?_, by rw [← (ih' g0 g1).1]; exact g4⟩
        intro e9
        by_cases e : g0 = b
        · rw [e, zup_self] at g3; exact g3 rfl
        · rw [zup_ne e] at g3 e9; rw [(ih' g0 g1).2.1] at g3; exact g3 e9
    intro j hj
    show (cB (cBn f n)).1 j = (cB (cBn f' n)).1 j ∧ (cB (cBn f n)).2.1 j = (cB (cBn f' n)).2.1 j ∧ (cB (cBn f n)).2.2 j = (cB (cBn f' n)).2.2 j
    rw [cB_eq hc, cB_eq hc', ← (ih' b hc.1).1]
    by_cases hlt : (cBn f n).1 b < 4
    · rw [if_pos hlt, if_pos hlt]
      obtain ⟨g0, g1, rfl, g3, g4⟩ := hc.2.2.2.2.2 hlt
      rw [Int.toNat_natCast, ← (ih' g0 g1).1]
      refine ⟨?_, ?_, ?_⟩
      · show zup _ g0 _ j = zup _ g0 _ j
        by_cases e : j = g0
        · rw [e, zup_self, zup_self]
        · rw [zup_ne e, zup_ne e]; exact (ih' j hj).1
      · show zup _ b _ j = zup _ b _ j
        by_cases e : j = b
        · rw [e, zup_self, zup_self]
        · rw [zup_ne e, zup_ne e]; exact (ih' j hj).2.1
      · show zup _ b _ j = zup _ b _ j
        by_cases e : j = b
        · rw [e, zup_self, zup_self]
        · rw [zup_ne e, zup_ne e]; exact (ih' j hj).2.2
    · rw [if_neg hlt, if_neg hlt]
      refine ⟨(ih' j hj).1, ?_, (ih' j hj).2.2⟩
      show zup _ b _ j = zup _ b _ j
      by_cases e : j = b
      · rw [e, zup_self, zup_self]
      · rw [zup_ne e, zup_ne e]; exact (ih' j hj).2.1

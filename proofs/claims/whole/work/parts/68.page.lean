/-! pages, tapes; what taking a tape gives -/
abbrev zT : Type := (Nat → Int) × (Nat → Int) × Int × Int × Int × Int
abbrev zP : Type := (Nat → Int) × (Nat → Int) × Int × zT
def cT (h : zH) (t : Nat) : zT := (tr (h t 3).toNat (h (t + 1)), tr (h t 4).toNat (h (t + 2)), h t 3, h t 4, h (t + 3) 0, h (t + 3) 1)
def cPg (h : zH) (a : Nat) : zP := (tr 24 (h (a + 1)), tr (h a 3).toNat (h (a + 2)), h a 3, cT h (a + 3))
def rT (h : zH) (c o : Nat) : zT := (tr (h c (o + 189)).toNat (fun j => h c (o + 64 + j)), tr (h c (o + 190)).toNat (fun j => h c (o + 104 + j)), h c (o + 189), h c (o + 190), h c (o + 191), h c (o + 192))
def rPg (h : zH) (c o : Nat) : zP := (tr 24 (fun j => h c (o + j)), tr (h c (o + 188)).toNat (fun j => h c (o + 24 + j)), h c (o + 188), rT h c o)
/-- a tape is sound -/
def VT (mc : Nat) (T : zT) : Prop := (0 ≤ T.2.2.1 ∧ T.2.2.1 ≤ 40) ∧ (0 ≤ T.2.2.2.1 ∧ T.2.2.2.1 ≤ 80) ∧ (∀ j : Nat, (j : Int) < T.2.2.1 → 0 ≤ T.1 j ∧ T.1 j < mc) ∧ (∀ j : Nat, (j : Int) < T.2.2.2.1 → 0 ≤ T.2.1 j ∧ T.2.1 j ≤ 15) ∧ (512 ≤ T.2.2.2.2.1 ∧ T.2.2.2.2.1 ≤ 8191) ∧ (512 ≤ T.2.2.2.2.2 ∧ T.2.2.2.2.2 ≤ 8191)
/-- counts are sound -/
def VC (sc mc : Nat) (c : Nat → Int) : Prop := (1 ≤ sc ∧ sc ≤ 8 ∧ 1 ≤ mc ∧ mc ≤ 3) ∧ (∀ j, j < 24 → 0 ≤ c j ∧ c j ≤ 99) ∧ (∀ m s, m < mc → sc ≤ s → s < 8 → c (8 * m + s) = 0) ∧ ∀ m, m < mc → 0 < sm (cm c m) 8
def VP (sc mc : Nat) (P : zP) : Prop := VC sc mc P.1 ∧ (0 ≤ P.2.2.1 ∧ P.2.2.1 ≤ 40) ∧ (∀ j : Nat, (j : Int) < P.2.2.1 → (0 ≤ P.2.1 j ∧ P.2.1 j < sc) ∨ (10 ≤ P.2.1 j ∧ P.2.1 j < 10 + mc)) ∧ VT mc P.2.2.2
theorem cm_at {c : Nat → Int} {m s : Nat} (h : s < 8) : cm c m s = c (8 * m + s) := tr_at h
theorem VC_f {sc mc : Nat} {c : Nat → Int} (h : VC sc mc c) {m : Nat} (hm : m < mc) : (∀ j, j < 8 → 0 ≤ fF (cm c m) j) ∧ sm (fF (cm c m)) 8 = 32 ∧ ∀ j, j < 8 → fF (cm c m) j ≤ 32 := by
  obtain ⟨⟨-, -, -, h3⟩, h9, -, ht⟩ := h
  obtain ⟨f1, f2⟩ := fF_spec (c := cm c m) (fun j hj => by unfold cm; rw [tr_at hj]; exact (h9 _ (by omega)).1) (ht m hm)
  exact ⟨f1, f2, fun j hj => by have := sm_one f1 hj; omega⟩
theorem fF_zero {c : Nat → Int} (hc : ∀ j, j < 8 → 0 ≤ c j) (ht : 0 < sm c 8) {j : Nat} (hz : c j = 0) : fF c j = 0 := by
  have hf : ∀ j, j < 8 → 0 ≤ f0 c (sm c 8) j := fun j _ => f0_nonneg ht j
  have hr : ∀ j, j < 8 → -9 ≤ r0 c (sm c 8) j := fun j _ => (r0_ge ht j).1
  have he := share_enough hc ht
  have h0 := sm_nonneg hf
  obtain ⟨g1, g2, g3, g4, g5⟩ := gN_spec hf hr (n := (32 - sm (f0 c (sm c 8)) 8).toNat) (by
    by_cases hx : 0 ≤ 32 - sm (f0 c (sm c 8)) 8
    · exact Or.inl (by omega)
    · by_cases hy : 0 < nP (r0 c (sm c 8)) 8
      · exact Or.inl (by omega)
      · have := (share_bound ht hc).2.1
        exact Or.inr (by omega))
  obtain ⟨t1, t2, t3⟩ := tN_spec g1 (n := (sm (f0 c (sm c 8)) 8 - 32).toNat) (by omega)
  have z1 : r0 c (sm c 8) j = -9 := by unfold r0; rw [if_neg (by omega)]
  have z2 : f0 c (sm c 8) j = 0 := by unfold f0; rw [if_neg (by omega)]
  exact t3 j (by rw [(g5 j z1).2, z2])
/-- the symbol of a slot is one that there is -/
theorem fS_sc {sc mc : Nat} {c : Nat → Int} (h : VC sc mc c) {m : Nat} (hm : m < mc) {k : Nat} (hk : k < 32) : 0 ≤ fS (fF (cm c m)) k ∧ fS (fF (cm c m)) k < sc := by
  obtain ⟨f1, f2, f3⟩ := VC_f h hm
  have r := fS_range f1 f2 hk
  have i := fI_range f1 f2 hk
  refine ⟨r.1, ?_⟩
  by_cases q : fS (fF (cm c m)) k < sc
  · exact q
  · exfalso
    have z := fF_zero (c := cm c m) (j := (fS (fF (cm c m)) k).toNat) (fun j hj => by rw [cm_at hj]; exact (h.2.1 _ (by have := h.1; omega)).1) (h.2.2.2 m hm) (by rw [cm_at (by omega)]; exact h.2.2.1 m _ hm (by omega) (by omega))
    omega
/-- pulling a digit -/
def w1 (dg : Nat → Int) (q : Int × Int) : Int × Int := if q.1 < 512 ∧ 0 < q.2 then (16 * q.1 + dg (q.2 - 1).toNat, q.2 - 1) else q
def wN (dg : Nat → Int) (q : Int × Int) : Nat → Int × Int
  | 0 => q
  | n + 1 => w1 dg (wN dg q n)
def tX (f : Nat → Int) (x : Int) : Int := f (fS f (x % 32).toNat).toNat * (x / 32) + fI f (x % 32).toNat
def tW (f dg : Nat → Int) (x l : Int) : Int × Int := wN dg (tX f x, l) 2
theorem w1_fix {dg : Nat → Int} {q : Int × Int} (h : 512 ≤ q.1 ∨ q.2 ≤ 0) : w1 dg q = q := if_neg (by omega)
theorem wN_fix {dg : Nat → Int} {q : Int × Int} {i : Nat} (h : 512 ≤ (wN dg q i).1 ∨ (wN dg q i).2 ≤ 0) : ∀ {d : Nat}, wN dg q (i + d) = wN dg q i := by
  intro d
  induction d with
  | zero => rfl
  | succ d ih => show w1 dg (wN dg q (i + d)) = _; rw [ih, w1_fix h]
theorem w1_ok {dg : Nat → Int} {nd : Int} (hd : ∀ j : Nat, (j : Int) < nd → 0 ≤ dg j ∧ dg j ≤ 15) {q : Int × Int} (h1 : 16 ≤ q.1 ∧ q.1 ≤ 8191) (h2 : 0 ≤ q.2 ∧ q.2 ≤ nd) : (16 ≤ (w1 dg q).1 ∧ (w1 dg q).1 ≤ 8191) ∧ (0 ≤ (w1 dg q).2 ∧ (w1 dg q).2 ≤ q.2) ∧ (q.1 < 512 → 0 < q.2 → 16 * q.1 ≤ (w1 dg q).1) := by
  unfold w1
  split
  · rename_i c
    have := hd (q.2 - 1).toNat (by omega)
    exact ⟨⟨by omega, by show 16 * q.1 + _ ≤ 8191; omega⟩, ⟨by show 0 ≤ q.2 - 1; omega, by show q.2 - 1 ≤ q.2; omega⟩, fun _ _ => by show _ ≤ 16 * q.1 + _; omega⟩
  · exact ⟨h1, ⟨h2.1, Int.le_refl _⟩, fun a b => by omega⟩
theorem tX_ok {f : Nat → Int} (f1 : ∀ j, j < 8 → 0 ≤ f j) (f2 : sm f 8 = 32) (f3 : ∀ j, j < 8 → f j ≤ 32) {x : Int} (hx : 512 ≤ x ∧ x ≤ 8191) : 16 ≤ tX f x ∧ tX f x ≤ 8191 ∧ 0 ≤ f (fS f (x % 32).toNat).toNat * (x / 32) ∧ f (fS f (x % 32).toNat).toNat * (x / 32) ≤ 8191 := by
  have r := fS_range f1 f2 (k := (x % 32).toNat) (by omega)
  have i := fI_range f1 f2 (k := (x % 32).toNat) (by omega)
  have l := f3 (fS f (x % 32).toNat).toNat (by omega)
  have m1 : f (fS f (x % 32).toNat).toNat * 16 ≤ f (fS f (x % 32).toNat).toNat * (x / 32) := Int.mul_le_mul_of_nonneg_left (by omega) (by omega)
  have m2 : f (fS f (x % 32).toNat).toNat * (x / 32) ≤ f (fS f (x % 32).toNat).toNat * 255 := Int.mul_le_mul_of_nonneg_left (by omega) (by omega)
  unfold tX
  refine ⟨by omega, by omega, by omega, by omega⟩
theorem wN_ok {dg : Nat → Int} {nd : Int} (hd : ∀ j : Nat, (j : Int) < nd → 0 ≤ dg j ∧ dg j ≤ 15) {q : Int × Int} (h1 : 16 ≤ q.1 ∧ q.1 ≤ 8191) (h2 : 0 ≤ q.2 ∧ q.2 ≤ nd) : ∀ i, (16 ≤ (wN dg q i).1 ∧ (wN dg q i).1 ≤ 8191) ∧ (0 ≤ (wN dg q i).2 ∧ (wN dg q i).2 ≤ q.2) := by
  intro i
  induction i with
  | zero => exact ⟨h1, h2.1, Int.le_refl _⟩
  | succ i ih =>
    obtain ⟨a, b, -⟩ := w1_ok hd (q := wN dg q i) ih.1 ⟨ih.2.1, by omega⟩
    exact ⟨a, b.1, by show (w1 dg (wN dg q i)).2 ≤ _; omega⟩
theorem wN_two {dg : Nat → Int} {nd : Int} (hd : ∀ j : Nat, (j : Int) < nd → 0 ≤ dg j ∧ dg j ≤ 15) {q : Int × Int} (h1 : 16 ≤ q.1 ∧ q.1 ≤ 8191) (h2 : 0 ≤ q.2 ∧ q.2 ≤ nd) : 512 ≤ (wN dg q 2).1 ∨ (wN dg q 2).2 ≤ 0 := by
  obtain ⟨a1, a2⟩ := wN_ok hd h1 h2 1
  obtain ⟨b1, b2⟩ := wN_ok hd h1 h2 2
  obtain ⟨-, -, c1⟩ := w1_ok hd (q := q) h1 h2
  obtain ⟨-, c2, c3⟩ := w1_ok hd (q := wN dg q 1) a1 ⟨a2.1, by omega⟩
  have e1 : wN dg q 1 = w1 dg q := rfl
  have e2 : wN dg q 2 = w1 dg (wN dg q 1) := rfl
  by_cases x1 : 512 ≤ q.1 ∨ q.2 ≤ 0
  · have := w1_fix (dg := dg) x1
    rw [e2, e1, this, this]
    exact x1
  · by_cases x2 : 512 ≤ (wN dg q 1).1 ∨ (wN dg q 1).2 ≤ 0
    · rw [e2, w1_fix x2]; exact x2
    · rw [← e1] at c1
      rw [← e2] at c3
      exact Or.inl (by have := c1 (by omega) (by omega); have := c3 (by omega) (by omega); omega)
/-- after k symbols: digits left, heads, how many were taken -/
def tk (c : Nat → Int) (T : zT) : Nat → Int × Int × Int × Nat
  | 0 => (T.2.2.2.1, T.2.2.2.2.1, T.2.2.2.2.2, 0)
  | k + 1 =>
    if (tk c T k).2.2.2 = k then
      (if (tW (fF (cm c (T.1 k).toNat)) T.2.1 (if k % 2 = 0 then (tk c T k).2.1 else (tk c T k).2.2.1) (tk c T k).1).1 < 512 then tk c T k
       else ((tW (fF (cm c (T.1 k).toNat)) T.2.1 (if k % 2 = 0 then (tk c T k).2.1 else (tk c T k).2.2.1) (tk c T k).1).2,
         (if k % 2 = 0 then (tW (fF (cm c (T.1 k).toNat)) T.2.1 (if k % 2 = 0 then (tk c T k).2.1 else (tk c T k).2.2.1) (tk c T k).1).1 else (tk c T k).2.1),
         (if k % 2 = 0 then (tk c T k).2.2.1 else (tW (fF (cm c (T.1 k).toNat)) T.2.1 (if k % 2 = 0 then (tk c T k).2.1 else (tk c T k).2.2.1) (tk c T k).1).1), k + 1))
    else tk c T k
def hd (c : Nat → Int) (T : zT) (k : Nat) : Int := if k % 2 = 0 then (tk c T k).2.1 else (tk c T k).2.2.1
def tV (c : Nat → Int) (T : zT) (k : Nat) : Int × Int := tW (fF (cm c (T.1 k).toNat)) T.2.1 (hd c T k) (tk c T k).1
def sy (c : Nat → Int) (T : zT) (k : Nat) : Int := fS (fF (cm c (T.1 k).toNat)) (hd c T k % 32).toNat
theorem tk_go {c : Nat → Int} {T : zT} {k : Nat} (h1 : (tk c T k).2.2.2 = k) (h2 : 512 ≤ (tV c T k).1) : tk c T (k + 1) = ((tV c T k).2, (if k % 2 = 0 then (tV c T k).1 else (tk c T k).2.1), (if k % 2 = 0 then (tk c T k).2.2.1 else (tV c T k).1), k + 1) := by
  exact (if_pos h1).trans (if_neg (show ¬ (tV c T k).1 < 512 by omega))
theorem tk_fail {c : Nat → Int} {T : zT} {k : Nat} (h1 : (tk c T k).2.2.2 = k) (h2 : (tV c T k).1 < 512) : tk c T (k + 1) = tk c T k := by
  exact (if_pos h1).trans (if_pos h2)
theorem tk_past {c : Nat → Int} {T : zT} {k : Nat} (h1 : (tk c T k).2.2.2 ≠ k) : tk c T (k + 1) = tk c T k := if_neg h1
theorem tk_le {c : Nat → Int} {T : zT} : ∀ {k : Nat}, (tk c T k).2.2.2 ≤ k := by
  intro k
  induction k with
  | zero => exact Nat.le_refl 0
  | succ k ih =>
    by_cases h1 : (tk c T k).2.2.2 = k
    · by_cases h2 : (tV c T k).1 < 512
      · rw [tk_fail h1 h2]; omega
      · rw [tk_go h1 (by omega)]; exact Nat.le_refl _
    · rw [tk_past h1]; omega
theorem tk_stay {c : Nat → Int} {T : zT} {k : Nat} (h : (tk c T k).2.2.2 < k) : ∀ {d : Nat}, tk c T (k + d) = tk c T k := by
  intro d
  induction d with
  | zero => rfl
  | succ d ih => rw [show k + (d + 1) = k + d + 1 by omega, tk_past (by rw [ih]; omega), ih]
theorem tk_ok {sc mc : Nat} {c : Nat → Int} (hv : VC sc mc c) {T : zT} (hT : VT mc T) : ∀ {k : Nat}, (k : Int) ≤ T.2.2.1 → (0 ≤ (tk c T k).1 ∧ (tk c T k).1 ≤ T.2.2.2.1) ∧ (512 ≤ (tk c T k).2.1 ∧ (tk c T k).2.1 ≤ 8191) ∧ (512 ≤ (tk c T k).2.2.1 ∧ (tk c T k).2.2.1 ≤ 8191) := by
  intro k
  induction k with
  | zero => intro _; exact ⟨⟨hT.2.1.1, Int.le_refl _⟩, hT.2.2.2.2.1, hT.2.2.2.2.2⟩
  | succ k ih =>
    intro hk
    obtain ⟨i1, i2, i3⟩ := ih (by omega)
    by_cases h1 : (tk c T k).2.2.2 = k
    · by_cases h2 : (tV c T k).1 < 512
      · rw [tk_fail h1 h2]; exact ⟨i1, i2, i3⟩
      · have hp := hT.2.2.1 k (by omega)
        obtain ⟨f1, f2, f3⟩ := VC_f hv (show (T.1 k).toNat < mc by omega)
        have hh : 512 ≤ hd c T k ∧ hd c T k ≤ 8191 := by unfold hd; split <;> omega
        obtain ⟨x1, x2, -, -⟩ := tX_ok f1 f2 f3 hh
        obtain ⟨y1, y2⟩ := wN_ok hT.2.2.2.1 (q := (tX (fF (cm c (T.1 k).toNat)) (hd c T k), (tk c T k).1)) ⟨x1, x2⟩ i1 2
        have y1' : 16 ≤ (tV c T k).1 ∧ (tV c T k).1 ≤ 8191 := y1
        have y2' : 0 ≤ (tV c T k).2 ∧ (tV c T k).2 ≤ (tk c T k).1 := y2
        rw [tk_go h1 (by omega)]
        refine ⟨⟨y2'.1, by show (tV c T k).2 ≤ _; omega⟩, ?_, ?_⟩
        · show 512 ≤ (if k % 2 = 0 then _ else _) ∧ (if k % 2 = 0 then _ else _) ≤ (8191 : Int)
          split <;> omega
        · show 512 ≤ (if k % 2 = 0 then _ else _) ∧ (if k % 2 = 0 then _ else _) ≤ (8191 : Int)
          split <;> omega
    · rw [tk_past h1]; exact ⟨i1, i2, i3⟩
theorem hd_ok {sc mc : Nat} {c : Nat → Int} (hv : VC sc mc c) {T : zT} (hT : VT mc T) {k : Nat} (hk : (k : Int) ≤ T.2.2.1) : 512 ≤ hd c T k ∧ hd c T k ≤ 8191 := by
  obtain ⟨i1, i2, i3⟩ := tk_ok hv hT hk
  unfold hd
  split <;> omega

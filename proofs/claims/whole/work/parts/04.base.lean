/-! THE SMALL PICTURE: every cell of the system by a number k, what it holds by h k j : Int. -/
abbrev zH : Type := Nat → Nat → Int
abbrev zG : Type := va_G × (Nat → ClassId) × (Nat → Nat)
abbrev zr (x : Int) : Prop := -2147483648 ≤ x ∧ x ≤ 2147483647
abbrev zrl (x : Int) : Prop := -9223372036854775808 ≤ x ∧ x ≤ 9223372036854775807
abbrev zi (x : Int) : Value := .int (Int32.ofInt x)
abbrev zj (x : Int) : Value := .long (Int64.ofInt x)
def zs (h : zH) (k j : Nat) (v : Int) : zH := fun a b => if a = k ∧ b = j then v else h a b
def zcp (h : zH) (s sp d dp len : Nat) : zH := fun a b => if a = d ∧ dp ≤ b ∧ b < dp + len then h s (sp + (b - dp)) else h a b
/-- the kinds of the cells (a class of zCl; 12 int[], 13 boolean[], 14 Model[], 15 State[], 16 long[]) and lengths -/
def zshState : List (Nat × Nat) := [(5, 4), (12, 24), (12, 40), (8, 5), (12, 40), (12, 80), (12, 2)]
def zshModel : List (Nat × Nat) := [(1, 9), (12, 8), (12, 8), (12, 8), (12, 8), (13, 8), (12, 32), (12, 32), (12, 256), (12, 8)]
def zshTaking : List (Nat × Nat) := [(7, 8), (12, 40), (12, 40), (12, 40), (12, 40), (12, 2)]
def zshSymbols : List (Nat × Nat) := [(6, 3), (12, 40), (12, 40)]
def zshRef : List (Nat × Nat) := [(11, 32), (12, 100), (12, 193), (12, 193), (12, 193), (12, 193), (12, 2702), (12, 386), (13, 2), (12, 24), (12, 24), (12, 24), (12, 96), (12, 96), (12, 768), (12, 8), (13, 8), (12, 40), (12, 40), (12, 41), (12, 40), (12, 40), (12, 40)]
def zsh : List (Nat × Nat) :=
  [(10, 10), (9, 8), (12, 100), (12, 24), (12, 40), (2, 3), (14, 3)] ++ zshModel ++ zshModel ++ zshModel ++ zshState ++ [(0, 3), (15, 14)]
  ++ zshState ++ zshState ++ zshState ++ zshState ++ zshState ++ zshState ++ zshState ++ zshState ++ zshState ++ zshState ++ zshState ++ zshState ++ zshState ++ zshState
  ++ [(3, 2), (15, 2)] ++ zshState ++ zshState ++ [(13, 2)] ++ zshSymbols ++ zshTaking ++ zshTaking ++ [(8, 5), (12, 40), (12, 80), (12, 2)]
  ++ [(4, 3)] ++ zshState ++ zshSymbols ++ zshTaking ++ zshRef ++ [(16, 1)]
def zkd (k : Nat) : Nat := (zsh.getD k (99, 0)).1
def zln (k : Nat) : Nat := (zsh.getD k (99, 0)).2
theorem zsh_len : zsh.length = 221 := by decide +kernel
/-- an object's fields: where a reference points (so many cells on), or a number -/
def zfd (c : Nat) : List (Option Nat) := match c with
  | 0 => [some 1, none, none]
  | 1 => [some 1, some 2, some 3, some 4, some 5, some 6, some 7, some 8, some 9]
  | 2 => [some 1, none, none]
  | 3 => [some 1, some 16]
  | 4 => [some 1, some 8, some 11]
  | 5 => [some 1, some 2, some 3, none]
  | 6 => [some 1, some 2, none]
  | 7 => [some 1, some 2, some 3, some 4, some 5, none, none, none]
  | 8 => [some 1, some 2, some 3, none, none]
  | 9 => [some 1, some 2, some 3, none, none, none, none, none]
  | 10 => [some 1, some 5, some 37, some 44, some 144, some 161, some 164, some 170, some 176, some 180]
  | _ => [none, some 1, none, none, none, none, none, none, some 2, some 3, some 4, some 5, some 6, none, some 7, some 8, some 9, some 10, some 11, some 12, some 13, some 14, some 15, some 16, some 17, some 18, some 19, none, some 20, some 21, some 22, none]
def zfv (ad : Nat → Nat) (h : zH) (k : Nat) (j : Nat) (o : Option Nat) : Value := match o with
  | some d => .ref (ad (k + d))
  | none => zi (h k j)
def zfl (ad : Nat → Nat) (h : zH) (k : Nat) (os : List (Option Nat)) : List Value := os.mapIdx (zfv ad h k)
def zE (g : zG) (h : zH) (k : Nat) : va_E :=
  if zkd k < 12 then .inr (zkd k, zfl g.2.2 h k (zfd (zkd k)))
  else if zkd k = 14 then .inl (g.2.1 14, zln k, .inr (.inr (.inr (.inr (fun i => some (g.2.2 (k + 1 + 10 * i)))))))
  else if zkd k = 15 then .inl (g.2.1 15, zln k, .inr (.inr (.inr (.inr (fun i => some (g.2.2 (k + 1 + 7 * i)))))))
  else if zkd k = 16 then .inl (g.2.1 16, zln k, .inr (.inl (fun j => Int64.ofInt (h k j))))
  else .inl (g.2.1 (zkd k), zln k, .inl (fun j => Int32.ofInt (h k j)))
def zws (g : zG) (n : Nat) (h : zH) : va_W := (List.range n).map (fun k => (g.2.2 k, zE g h k))
def ztys (g : zG) : List (ClassId × FieldType) := [(g.2.1 12, .int), (g.2.1 13, .boolean), (g.2.1 14, .object "AliasStreams$Model"), (g.2.1 15, .object "AliasStreams$State"), (g.2.1 16, .long)]
/-- the numbers of cells there may be: the class's alone, or all -/
def zN (n : Nat) : Prop := n = 197 ∨ n = 221
/-- cell k is there, and of kind c -/
def zO (n k c : Nat) : Prop := zN n ∧ k < n ∧ zkd k = c
/-- every number in its range (220 is the law's long[]) -/
def zh (h : zH) : Prop := (∀ k j, k ≠ 220 → zr (h k j)) ∧ ∀ j, zrl (h 220 j)
theorem zws_at {g : zG} {n : Nat} {h : zH} {k : Nat} (hk : k < n) : (zws g n h)[k]? = some (g.2.2 k, zE g h k) := by
  simp [zws, hk]
theorem zws_set {g : zG} {n : Nat} {h h' : zH} {k : Nat} {e : va_E} (he : zE g h' k = e) (ho : ∀ a, a ≠ k → zE g h' a = zE g h a) : (zws g n h).set k (g.2.2 k, e) = zws g n h' := by
  apply List.ext_getElem?
  intro i
  subst he
  by_cases hi : i = k
  · subst hi
    by_cases hn : i < n
    · rw [List.getElem?_set_self (by simp [zws, hn]), zws_at hn]
    · rw [List.getElem?_eq_none (by simp [zws]; omega), List.getElem?_eq_none (by simp [zws]; omega)]
  · rw [List.getElem?_set_ne (fun q => hi q.symm)]
    by_cases hn : i < n
    · rw [zws_at hn, zws_at hn, ho i hi]
    · rw [List.getElem?_eq_none (by simp [zws]; omega), List.getElem?_eq_none (by simp [zws]; omega)]
theorem zE_ne {g : zG} {h : zH} {k j a : Nat} {v : Int} (ha : a ≠ k) : zE g (zs h k j v) a = zE g h a := by
  have e : ∀ b, zs h k j v a b = h a b := fun b => by simp [zs, ha]
  have e2 : zfl g.2.2 (zs h k j v) a (zfd (zkd a)) = zfl g.2.2 h a (zfd (zkd a)) := by
    unfold zfl
    congr 1
    funext i o
    unfold zfv
    cases o <;> simp [e]
  unfold zE
  simp only [e, e2]
theorem zE_neC {g : zG} {h : zH} {s sp d dp len a : Nat} (ha : a ≠ d) : zE g (zcp h s sp d dp len) a = zE g h a := by
  have e : ∀ b, zcp h s sp d dp len a b = h a b := fun b => by simp [zcp, ha]
  have e2 : zfl g.2.2 (zcp h s sp d dp len) a (zfd (zkd a)) = zfl g.2.2 h a (zfd (zkd a)) := by
    unfold zfl
    congr 1
    funext i o
    unfold zfv
    cases o <;> simp [e]
  unfold zE
  simp only [e, e2]
theorem zE_obj {g : zG} {h : zH} {k c : Nat} (hk : zkd k = c) (hc : c < 12) : zE g h k = .inr (c, zfl g.2.2 h k (zfd c)) := by
  unfold zE
  rw [hk, if_pos hc]
theorem zE_int {g : zG} {h : zH} {k : Nat} (hk : zkd k = 12) : zE g h k = .inl (g.2.1 12, zln k, .inl (fun j => Int32.ofInt (h k j))) := by
  unfold zE
  rw [hk]
  rfl
theorem zE_bool {g : zG} {h : zH} {k : Nat} (hk : zkd k = 13) : zE g h k = .inl (g.2.1 13, zln k, .inl (fun j => Int32.ofInt (h k j))) := by
  unfold zE
  rw [hk]
  rfl
theorem zE_model {g : zG} {h : zH} {k : Nat} (hk : zkd k = 14) : zE g h k = .inl (g.2.1 14, zln k, .inr (.inr (.inr (.inr (fun i => some (g.2.2 (k + 1 + 10 * i))))))) := by
  unfold zE
  rw [hk]
  rfl
theorem zE_state {g : zG} {h : zH} {k : Nat} (hk : zkd k = 15) : zE g h k = .inl (g.2.1 15, zln k, .inr (.inr (.inr (.inr (fun i => some (g.2.2 (k + 1 + 7 * i))))))) := by
  unfold zE
  rw [hk]
  rfl
theorem zE_long {g : zG} {h : zH} {k : Nat} (hk : zkd k = 16) : zE g h k = .inl (g.2.1 16, zln k, .inr (.inl (fun j => Int64.ofInt (h k j)))) := by
  unfold zE
  rw [hk]
  rfl
theorem zfl_at {ad : Nat → Nat} {h : zH} {k j : Nat} {os : List (Option Nat)} {o : Option Nat} (ho : os[j]? = some o) : (zfl ad h k os)[j]? = some (zfv ad h k j o) := by
  unfold zfl
  rw [List.getElem?_mapIdx, ho]
  rfl
theorem zfl_len {ad : Nat → Nat} {h : zH} {k : Nat} {os : List (Option Nat)} : (zfl ad h k os).length = os.length := by
  unfold zfl
  exact List.length_mapIdx
theorem zfl_set {ad : Nat → Nat} {h : zH} {k j : Nat} {os : List (Option Nat)} {v : Int} (ho : os[j]? = some none) : (zfl ad h k os).set j (zi v) = zfl ad (zs h k j v) k os := by
  apply List.ext_getElem?
  intro i
  by_cases hi : i = j
  · subst hi
    have hl := (List.getElem?_eq_some_iff.mp ho).1
    rw [List.getElem?_set_self (by rw [zfl_len]; exact hl), zfl_at ho]
    simp [zfv, zs]
  · rw [List.getElem?_set_ne (fun q => hi q.symm)]
    unfold zfl
    rw [List.getElem?_mapIdx, List.getElem?_mapIdx]
    congr 1
    funext o
    unfold zfv
    cases o <;> simp [zs, hi]
/-! numbers -/
theorem zi_int {x : Int} (h : zr x) : (Int32.ofInt x).toInt = x := Int32.toInt_ofInt_of_le (by omega) (by omega)
theorem zj_int {x : Int} (h : zrl x) : (Int64.ofInt x).toInt = x := Int64.toInt_ofInt_of_le (by omega) (by omega)
theorem zi_lt {x y : Int} (hx : zr x) (hy : zr y) : Int32.ofInt x < Int32.ofInt y ↔ x < y := by rw [Int32.lt_iff_toInt_lt, zi_int hx, zi_int hy]
theorem zi_le {x y : Int} (hx : zr x) (hy : zr y) : Int32.ofInt x ≤ Int32.ofInt y ↔ x ≤ y := by rw [Int32.le_iff_toInt_le, zi_int hx, zi_int hy]
theorem zi_eq {x y : Int} (hx : zr x) (hy : zr y) : Int32.ofInt x = Int32.ofInt y ↔ x = y := by rw [← Int32.toInt_inj, zi_int hx, zi_int hy]
theorem zj_lt {x y : Int} (hx : zrl x) (hy : zrl y) : Int64.ofInt x < Int64.ofInt y ↔ x < y := by rw [Int64.lt_iff_toInt_lt, zj_int hx, zj_int hy]
theorem zj_le {x y : Int} (hx : zrl x) (hy : zrl y) : Int64.ofInt x ≤ Int64.ofInt y ↔ x ≤ y := by rw [Int64.le_iff_toInt_le, zj_int hx, zj_int hy]
theorem zj_eq {x y : Int} (hx : zrl x) (hy : zrl y) : Int64.ofInt x = Int64.ofInt y ↔ x = y := by rw [← Int64.toInt_inj, zj_int hx, zj_int hy]
theorem zi_0 : Int32.ofInt 0 = 0 := by decide
theorem zr_0 : zr 0 := by omega
theorem zi_lt0 {x : Int} (hx : zr x) : Int32.ofInt x < 0 ↔ x < 0 := zi_lt hx zr_0
theorem zi_le0 {x : Int} (hx : zr x) : Int32.ofInt x ≤ 0 ↔ x ≤ 0 := zi_le hx zr_0
theorem zi_ge0 {x : Int} (hx : zr x) : 0 ≤ Int32.ofInt x ↔ 0 ≤ x := zi_le zr_0 hx
theorem zi_gt0 {x : Int} (hx : zr x) : 0 < Int32.ofInt x ↔ 0 < x := zi_lt zr_0 hx
theorem zi_eq0 {x : Int} (hx : zr x) : Int32.ofInt x = 0 ↔ x = 0 := zi_eq hx zr_0
theorem zi_in {x : Int} {n : Nat} (hx : zr x) (h0 : 0 ≤ x) (h1 : x < n) : vp_in (Int32.ofInt x) n := vp_in_iff.mpr (by rw [zi_int hx]; exact ⟨h0, h1⟩)
theorem zi_nat {x : Int} (hx : zr x) : (Int32.ofInt x).toNatClampNeg = x.toNat := by
  show (Int32.ofInt x).toInt.toNat = _
  rw [zi_int hx]
theorem zi_div {x y : Int} (hx : zr x) (hy : zr y) (h0 : 0 ≤ x) : Int32.ofInt x / Int32.ofInt y = Int32.ofInt (x / y) := by
  have m1 : Int32.minValue.toInt = -2147483648 := by decide
  have m2 : Int32.maxValue.toInt = 2147483647 := by decide
  rw [← Int.tdiv_eq_ediv_of_nonneg h0, Int32.ofInt_tdiv (by omega) (by omega) (by omega) (by omega)]
theorem zi_rem {x y : Int} (hx : zr x) (hy : zr y) (h0 : 0 ≤ x) : Int32.ofInt x - Int32.ofInt x / Int32.ofInt y * Int32.ofInt y = Int32.ofInt (x % y) := by
  have m1 : Int32.minValue.toInt = -2147483648 := by decide
  have m2 : Int32.maxValue.toInt = 2147483647 := by decide
  rw [irem_eq_mod, ← Int.tmod_eq_emod_of_nonneg h0, Int32.ofInt_tmod (by omega) (by omega) (by omega) (by omega)]
theorem zj_div {x y : Int} (hx : zrl x) (hy : zrl y) (h0 : 0 ≤ x) : Int64.ofInt x / Int64.ofInt y = Int64.ofInt (x / y) := by
  have m1 : Int64.minValue.toInt = -9223372036854775808 := by decide
  have m2 : Int64.maxValue.toInt = 9223372036854775807 := by decide
  rw [← Int.tdiv_eq_ediv_of_nonneg h0, Int64.ofInt_tdiv (by omega) (by omega) (by omega) (by omega)]
theorem zj_remE (x y : Int64) : x - x / y * y = x % y := by
  apply Int64.toInt_inj.mp
  have h1 := Int64.le_toInt (x % y)
  have h2 := Int64.toInt_lt (x % y)
  rw [Int64.toInt_sub, Int64.toInt_mul, Int64.toInt_div, Int.bmod_mul_bmod, Int.sub_bmod_bmod, Int.mul_comm (x.toInt.tdiv y.toInt), ← Int.tmod_def, ← Int64.toInt_mod]
  exact Int.bmod_eq_of_le_mul_two (by omega) (by omega)
theorem zj_rem {x y : Int} (hx : zrl x) (hy : zrl y) (h0 : 0 ≤ x) : Int64.ofInt x - Int64.ofInt x / Int64.ofInt y * Int64.ofInt y = Int64.ofInt (x % y) := by
  have m1 : Int64.minValue.toInt = -9223372036854775808 := by decide
  have m2 : Int64.maxValue.toInt = 9223372036854775807 := by decide
  rw [zj_remE, ← Int.tmod_eq_emod_of_nonneg h0, Int64.ofInt_tmod (by omega) (by omega) (by omega) (by omega)]
theorem zr_div {x y : Int} (hx : zr x) (h0 : 0 ≤ x) (hy : 0 < y) : zr (x / y) := by
  have a := Int.ediv_nonneg h0 (Int.le_of_lt hy)
  have b := Int.ediv_le_self y h0
  omega
theorem zr_rem {x y : Int} (hy0 : zr y) (hy : 0 < y) : zr (x % y) := by
  have a := Int.emod_nonneg x (by omega : y ≠ 0)
  have b := Int.emod_lt_of_pos x hy
  omega
theorem zrl_div {x y : Int} (hx : zrl x) (h0 : 0 ≤ x) (hy : 0 < y) : zrl (x / y) := by
  have a := Int.ediv_nonneg h0 (Int.le_of_lt hy)
  have b := Int.ediv_le_self y h0
  omega
theorem zrl_rem {x y : Int} (hy0 : zrl y) (hy : 0 < y) : zrl (x % y) := by
  have a := Int.emod_nonneg x (by omega : y ≠ 0)
  have b := Int.emod_lt_of_pos x hy
  omega
/-- what is left of a number in an int, in a long -/
def zw (x : Int) : Int := (Int32.ofInt x).toInt
def zwl (x : Int) : Int := (Int64.ofInt x).toInt
theorem zr_w (x : Int) : zr (zw x) := by
  have a := Int32.le_toInt (Int32.ofInt x)
  have b := Int32.toInt_lt (Int32.ofInt x)
  unfold zw
  omega
theorem zrl_w (x : Int) : zrl (zwl x) := by
  have a := Int64.le_toInt (Int64.ofInt x)
  have b := Int64.toInt_lt (Int64.ofInt x)
  unfold zwl
  omega
theorem zi_w (x : Int) : zi (zw x) = zi x := by
  unfold zw zi
  rw [Int32.ofInt_toInt]
theorem zj_w (x : Int) : zj (zwl x) = zj x := by
  unfold zwl zj
  rw [Int64.ofInt_toInt]
theorem zw_id {x : Int} (h : zr x) : zw x = x := zi_int h
theorem zwl_id {x : Int} (h : zrl x) : zwl x = x := zj_int h
/-- a loop: there is an invariant and a number that falls -/
def zLoop {σ : Type} (F : (σ → Prop) → σ → Prop) (s : σ) : Prop := ∃ (P : σ → Prop) (μ : σ → Nat), P s ∧ ∀ s, P s → F (fun s' => P s' ∧ μ s' < μ s) s
theorem zLoop_use {σ : Type} {F : (σ → Prop) → σ → Prop} {G : σ → Prop} (hF : ∀ (L : σ → Prop) (s : σ), (∀ s', L s' → G s') → F L s → G s) {s : σ} (h : zLoop F s) : G s := by
  obtain ⟨P, μ, hP, hstep⟩ := h
  have key : ∀ (N : Nat) (s : σ), μ s < N → P s → G s := by
    intro N
    induction N with
    | zero => intro s h; omega
    | succ N ih => intro s hN hs; exact hF _ s (fun s' hs' => ih s' (by have := hs'.2; omega) hs'.1) (hstep s hs)
  exact key _ s (Nat.lt_succ_self _) hP
theorem zh_set {h : zH} {k j : Nat} {v : Int} (hh : zh h) (hk : k ≠ 220) (hv : zr v) : zh (zs h k j v) := by
  refine ⟨fun a b ha => ?_, fun b => ?_⟩
  · unfold zs
    split
    · exact hv
    · exact hh.1 a b ha
  · unfold zs
    rw [if_neg (fun q => hk q.1.symm)]
    exact hh.2 b
theorem zh_cp {h : zH} {s sp d dp len : Nat} (hh : zh h) (hs : s ≠ 220) (hd : d ≠ 220) : zh (zcp h s sp d dp len) := by
  refine ⟨fun a b ha => ?_, fun b => ?_⟩
  · unfold zcp
    split
    · exact hh.1 _ _ hs
    · exact hh.1 a b ha
  · unfold zcp
    rw [if_neg (fun q => hd q.1.symm)]
    exact hh.2 b
theorem zO.ne {n k c : Nat} (h : zO n k c) (hc : c ≠ 16) : k ≠ 220 := by
  intro q
  subst q
  have : zkd 220 = 16 := by decide +kernel
  exact hc (h.2.2.symm.trans this)
theorem zO.lt {n k c : Nat} (h : zO n k c) : k < 221 := by
  obtain ⟨h1, h2, -⟩ := h
  unfold zN at h1
  omega
/-- from a fact about all cells of a kind, checked cell by cell: k + d is there, of kind c', with length len -/
theorem zO.go {n k c d c' : Nat} (h : zO n k c) (hd : (List.range 221).all (fun k => !(zkd k == c) || ((zkd (k + d) == c') && (decide (k + d < 197) || (decide (197 ≤ k) && decide (k + d < 221))))) = true) : zO n (k + d) c' := by
  have hl := h.lt
  obtain ⟨h1, h2, h3⟩ := h
  have := List.all_eq_true.mp hd k (List.mem_range.mpr hl)
  simp only [Bool.or_eq_true, Bool.and_eq_true, Bool.not_eq_true', beq_eq_false_iff_ne, ne_eq, beq_iff_eq, decide_eq_true_eq] at this
  rcases this with q | ⟨q1, q2⟩
  · exact absurd h3 q
  · refine ⟨h1, ?_, q1⟩
    unfold zN at h1
    omega
theorem zO.len {n k c d len : Nat} (h : zO n k c) (hd : (List.range 221).all (fun k => !(zkd k == c) || (zln (k + d) == len)) = true) : zln (k + d) = len := by
  have hl := h.lt
  obtain ⟨h1, h2, h3⟩ := h
  have := List.all_eq_true.mp hd k (List.mem_range.mpr hl)
  simp only [Bool.or_eq_true, Bool.not_eq_true', beq_eq_false_iff_ne, ne_eq, beq_iff_eq] at this
  rcases this with q | q
  · exact absurd h3 q
  · exact q

/-! the start's picture, and rows for a constructor of the object at a: the cells behind it are as the picture has them -/
def zhd (k : Nat) : Bool := decide (3 ≤ k) && (zkd (k - 3) == 8)
def h00 : zH := fun k j => if zhd k = true then (if j < 2 then 512 else 0) else if k = 5 then (if j = 1 then 2 else if j = 2 then 1 else 0) else if k = 197 then (if j = 4 then 2 else if j = 5 then 1 else 0) else if k = 200 then (if j = 0 ∨ j = 1 then 1 else if j = 191 ∨ j = 192 then 512 else 0) else 0
def zz0 (k : Nat) : Bool := !zhd k && (k != 5) && (k != 197) && (k != 200)
theorem h00_z {k : Nat} (h : zz0 k = true) (j : Nat) : h00 k j = 0 := by
  simp only [zz0, Bool.and_eq_true, Bool.not_eq_true', bne_iff_ne, ne_eq] at h
  unfold h00
  rw [if_neg (by rw [h.1.1.1]; decide), if_neg h.1.1.2, if_neg h.1.2, if_neg h.2]
theorem h00_hd {k : Nat} (h : zhd k = true) (j : Nat) : h00 k j = if j < 2 then 512 else 0 := by
  unfold h00
  rw [if_pos h]
def dF (g : zG) (f0 : Nat → va_E) (a ci : Nat) (fs : List Value) : Nat → va_E := fun k => if k < a then f0 k else if k = a then .inr (ci, fs) else zE g h00 k
theorem dF_a {g : zG} {f0 : Nat → va_E} {a ci : Nat} {fs : List Value} : dF g f0 a ci fs a = .inr (ci, fs) := by
  unfold dF
  rw [if_neg (Nat.lt_irrefl a), if_pos rfl]
theorem dF_gt {g : zG} {f0 : Nat → va_E} {a ci : Nat} {fs : List Value} {k : Nat} (h : a < k) : dF g f0 a ci fs k = zE g h00 k := by
  unfold dF
  rw [if_neg (by omega), if_neg (by omega)]
theorem dF_lt {g : zG} {f0 : Nat → va_E} {a ci : Nat} {fs : List Value} {k : Nat} (h : k < a) : dF g f0 a ci fs k = f0 k := by
  unfold dF
  rw [if_pos h]
/-- a cell of the kind c and length len, all zero at the start -/
def zA0 (k c len : Nat) : Bool := (zkd k == c) && (zln k == len) && zz0 k
section CR
variable {Wf : Nat → Nat → Heap → List Loc → JFrame → Prop} {m : MethodId} {R : Room} {cc : ByteArray} {own : String} {nL : Nat} {g : zG} {H0 : Heap} {ini : Prop} {cells slots pc n : Nat} {lv lv' : List (Nat × Value)} {rest st : List Value} {f0 : Nat → va_E} {a ci : Nat} {fs : List Value}
theorem c_start {f : Nat → va_E} {e : va_E} (he : e = .inr (ci, fs)) (k : dW Wf m nL g H0 cells slots pc lv st (a + 1) (dF g f a ci fs)) : dW Wf m nL g H0 cells slots pc lv st (a + 1) (dU1 f a e) := by
  refine d_congr (fun k hk => ?_) k
  subst he
  unfold dU1
  by_cases h : k = a
  · subst h
    rw [if_pos rfl, dF_a]
  · rw [if_neg h, dF_lt (by omega)]
theorem c_newI (X : dX Wf m R cc own nL g H0 ini) {len : Nat} {x : Int} (hn : a < n) (ck : zA0 n 12 len = true) (w : Cond.arrayClass .int ∈ zWd) (hx1 : zr x) (hx2 : x = (len : Int)) (hl : len ≤ 100000) (hR : cells + 1 ≤ R.cells ∧ slots + len ≤ R.slots) (d : decode cc pc = .ok (.newarray .int, 2)) (k : dW Wf m nL g H0 (cells + 1) (slots + len) (pc + 2) lv (.ref (g.2.2 n) :: rest) (n + 1) (dF g f0 a ci fs)) : dW Wf m nL g H0 cells slots pc lv (zi x :: rest) n (dF g f0 a ci fs) := by
  refine d_newI X w hx1 hx2 hl hR d (d_congr (fun k hk => ?_) k)
  simp only [zA0, Bool.and_eq_true, beq_iff_eq] at ck
  unfold dU1
  by_cases h : k = n
  · subst h
    rw [if_pos rfl, dF_gt hn, zE_int ck.1.1, ck.1.2]
    simp only [h00_z ck.2]
    rfl
  · rw [if_neg h]
theorem c_newZ (X : dX Wf m R cc own nL g H0 ini) {len : Nat} {x : Int} (hn : a < n) (ck : zA0 n 13 len = true) (w : Cond.arrayClass .boolean ∈ zWd) (hx1 : zr x) (hx2 : x = (len : Int)) (hl : len ≤ 100000) (hR : cells + 1 ≤ R.cells ∧ slots + len ≤ R.slots) (d : decode cc pc = .ok (.newarray .boolean, 2)) (k : dW Wf m nL g H0 (cells + 1) (slots + len) (pc + 2) lv (.ref (g.2.2 n) :: rest) (n + 1) (dF g f0 a ci fs)) : dW Wf m nL g H0 cells slots pc lv (zi x :: rest) n (dF g f0 a ci fs) := by
  refine d_newZ X w hx1 hx2 hl hR d (d_congr (fun k hk => ?_) k)
  simp only [zA0, Bool.and_eq_true, beq_iff_eq] at ck
  unfold dU1
  by_cases h : k = n
  · subst h
    rw [if_pos rfl, dF_gt hn, zE_bool ck.1.1, ck.1.2]
    simp only [h00_z ck.2]
    rfl
  · rw [if_neg h]
theorem dF_set {v : Value} {j : Nat} : ∀ k, dU1 (dF g f0 a ci fs) a (.inr (ci, fs.set j v)) k = dF g f0 a ci (fs.set j v) k := by
  intro k
  unfold dU1
  by_cases h : k = a
  · subst h
    rw [if_pos rfl, dF_a]
  · rw [if_neg h]
    by_cases h2 : k < a
    · rw [dF_lt h2, dF_lt h2]
    · rw [dF_gt (by omega), dF_gt (by omega)]
theorem c_putF (X : dX Wf m R cc own nL g H0 True) {j idx N : Nat} {v : Value} {C : String} {T : u_T} {ty : Nat → FieldType} (hn : a < n) (cf : zCF ci C T ty N) (hj : j < N) (w : Cond.fieldLink own idx C (T j).2.1 (T j).2.2.1 ∈ zWd) (hT : (T j).1 = C) (hown2 : (T j).1 = own) (hfin : (T j).2.2.2 = true) (hnf : narrow (ty j) v = v ∧ fits (ty j) v = true) (hl : j < fs.length) (d : decode cc pc = .ok (.putfield idx, 3)) (k : dW Wf m nL g H0 cells slots (pc + 3) lv rest n (dF g f0 a ci (fs.set j v))) : dW Wf m nL g H0 cells slots pc lv (v :: .ref (g.2.2 a) :: rest) n (dF g f0 a ci fs) :=
  d_putF X trivial cf hn dF_a hj w hT hown2 hfin hnf hl d (d_congr (fun k _ => dF_set k) k)
theorem c_put (X : dX Wf m R cc own nL g H0 ini) {j idx N : Nat} {v : Value} {C : String} {T : u_T} {ty : Nat → FieldType} (hn : a < n) (cf : zCF ci C T ty N) (hj : j < N) (w : Cond.fieldLink own idx C (T j).2.1 (T j).2.2.1 ∈ zWd) (hT : (T j).1 = C) (hfin : (T j).2.2.2 = false) (hnf : narrow (ty j) v = v ∧ fits (ty j) v = true) (hl : j < fs.length) (d : decode cc pc = .ok (.putfield idx, 3)) (k : dW Wf m nL g H0 cells slots (pc + 3) lv rest n (dF g f0 a ci (fs.set j v))) : dW Wf m nL g H0 cells slots pc lv (v :: .ref (g.2.2 a) :: rest) n (dF g f0 a ci fs) :=
  d_put X cf hn dF_a hj w hT hfin hnf hl d (d_congr (fun k _ => dF_set k) k)
/-- what a constructor at a owes -/
abbrev dPo (g : zG) (f : Nat → va_E) (a size : Nat) : Nat → (Nat → va_E) → Prop := fun n' f' => n' = a + size ∧ ∀ k, k < n' → f' k = if k < a then f k else zE g h00 k
theorem c_end {size : Nat} (hn : n = a + size) (hfs : zE g h00 a = .inr (ci, fs)) : dPo g f0 a size n (dF g f0 a ci fs) := by
  refine ⟨hn, fun k hk => ?_⟩
  by_cases h : k < a
  · rw [if_pos h, dF_lt h]
  · rw [if_neg h]
    by_cases h2 : k = a
    · subst h2
      rw [dF_a, hfs]
    · rw [dF_gt (by omega)]
/-- new C; dup; C.<init> -/
theorem c_sub (X : dX Wf m R cc own nL g H0 ini) {ci' ix N : Nat} {C : String} {T : u_T} {ty : Nat → FieldType} {y : MethodName} {bytes : ByteArray} {maxL idx mc ms size : Nat} {rm : Room} {host : String} (hn : a < n) (cf : zCF ci' C T ty N) (w1 : Cond.classLink own ix C ∈ zWd) (w2 : Cond.instantiable C N ∈ zWd) (w3 : Cond.initialized C ∈ zWd) (hfs : ∀ j, j < N → defaultValue (ty j) = vp_V (zf0 ci') j)
    (hM : ∀ (l : Launch) (f : Nat → va_E), l.flags = flags0 → dMet l y bytes maxL rm g [.ref (g.2.2 n)] (n + 1) (dU1 f n (.inr (ci', zf0 ci'))) (dPo g f n size) mc ms) (mf : zMI y bytes maxL 0) (wl : Cond.methodLinkNest own idx y host ∈ zNs) (hR : (rm.frames + 1 ≤ R.frames ∧ 8 + (maxL + 11) + rm.locals ≤ R.locals) ∧ rm.cells = mc ∧ rm.slots = ms) (hcs : cells + 1 + mc ≤ R.cells ∧ slots + N + ms ≤ R.slots) (hW : (rest.map fun v => v.category).sum ≤ 7) (d1 : decode cc pc = .ok (.new ix, 3)) (d2 : decode cc (pc + 3) = .ok (.dup, 1)) (d3 : decode cc (pc + 3 + 1) = .ok (.invokespecial idx, 3))
    (k : dW Wf m nL g H0 (cells + 1 + mc) (slots + N + ms) (pc + 3 + 1 + 3) lv (.ref (g.2.2 n) :: rest) (n + size) (dF g f0 a ci fs)) : dW Wf m nL g H0 cells slots pc lv rest n (dF g f0 a ci fs) := by
  refine d_new X cf w1 w2 w3 hfs ⟨by omega, by omega⟩ d1 ?_
  refine d_dup X d2 rfl ?_
  refine d_callIN (a := n) (As := []) (rest := .ref (g.2.2 n) :: rest) X (fun l hl => hM l (dF g f0 a ci fs) hl) mf wl hR hcs rfl d3 rfl (by show 1 + (rest.map fun v => v.category).sum ≤ 8; omega) (fun n' f' hp => ?_)
  obtain ⟨rfl, hp⟩ := hp
  refine d_congr (fun k hk => ?_) k
  rw [hp k hk]
  by_cases h : k < n
  · rw [if_pos h]
  · rw [if_neg h, dF_gt (by omega)]
end CR

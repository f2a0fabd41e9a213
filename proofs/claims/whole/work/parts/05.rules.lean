/-! ONE ROW AN INSTRUCTION, over the small picture -/
def zA (g : zG) (n sz : Nat) : Nat → Prop := fun q => (∃ k, k < n ∧ q = g.2.2 k) ∨ sz ≤ q
/-- the heap H holds the picture h; since H0 nothing else has changed -/
def zQ (g : zG) (n : Nat) (h : zH) (H0 H : Heap) (locs : List Loc) : Prop := va_P g.1 zCl (zws g n h) H ∧ va_D (zA g n H0.size) (zws g n h) ∧ va_S (zA g n H0.size) H0 H locs
/-- what there was at the law's start is there still, and the cells of the picture are newer -/
def zOld (g : zG) (U : State) : Prop := ∃ (s0 : State) (a0 : Array Value), (∀ w ∈ lw_tbl, w.before a0 s0 = true) ∧ (Jvm.Cond.and given_1 narrow_1).before a0 s0 = true ∧ s0.WarmedH U.vm ∧ s0.heap.size ≤ U.heap.size ∧ (∀ q : Nat, q < s0.heap.size → U.heap[q]? = s0.heap[q]?) ∧ ∀ k : Nat, s0.heap.size ≤ g.2.2 k
theorem zOld.move {g : zG} {n : Nat} {s U : State} {H : Heap} {locs : List Loc} (h : zOld g s) (hS : va_S (zA g n s.heap.size) s.heap H locs) (hU : U.heap = H) (hW : s.WarmedH U.vm) : zOld g U := by
  obtain ⟨s0, a0, h1, h2, h3, h4, h5, h6⟩ := h
  refine ⟨s0, a0, h1, h2, State.WarmedH.trans h3 hW, by rw [hU]; exact Nat.le_trans h4 hS.1, fun q hq => ?_, h6⟩
  rw [hU, hS.2.1 q (Nat.lt_of_lt_of_le hq h4) (fun z => ?_)]
  · exact h5 q hq
  · rcases z with ⟨k, -, e⟩ | z
    · have := h6 k
      omega
    · omega
/-- the world at a method's start or end -/
def zU (g : zG) (n : Nat) (h : zH) (U : State) : Prop := va_P g.1 zCl (zws g n h) U.heap ∧ va_K g.1 zCl (ztys g) U ∧ (∀ w ∈ zNs, va_Nw w U) ∧ va_D (fun _ => True) (zws g n h) ∧ zOld g U
/-- where a method runs: Wf is the machine's 'comes to its end' -/
def zX (Wf : Heap → List Loc → JFrame → Prop) (m : MethodId) (R : Room) (cc : ByteArray) (own : String) (nL : Nat) (g : zG) (n : Nat) (H0 : Heap) : Prop :=
  ∃ (p : Program) (l : Launch) (e : Env) (s : State) (args : Array Value) (below : List Frame) (meth : Method) (c : Code) (cells slots : Nat) (Q : State → Prop),
    (l.flags = flags0) ∧ s.heap = H0 ∧ Wf = (fun H locs gg => W p l e R s m args below meth c H locs cells slots Q gg) ∧ p.tables.exec = Jvm.exec ∧ c.code = cc ∧ c.maxLocals = nL ∧ s.vm.findClass own = some m.cls ∧ (∀ w ∈ zWd, w.before args s = true) ∧ (∀ w ∈ zNs, va_Nw w s) ∧ va_K g.1 zCl (ztys g) s ∧ cells ≤ R.cells ∧ slots ≤ R.slots ∧ zOld g s
def zW (Wf : Heap → List Loc → JFrame → Prop) (m : MethodId) (nL : Nat) (g : zG) (n : Nat) (H0 : Heap) (pc : Nat) (lv : List (Nat × Value)) (st : List Value) (h : zH) : Prop :=
  ∀ (H : Heap) (locs : List Loc) (ls : Array Slot), zQ g n h H0 H locs → lv_has ls nL lv → Wf H locs (F0 m pc ls st)
section ZR
variable {Wf : Heap → List Loc → JFrame → Prop} {m : MethodId} {R : Room} {cc : ByteArray} {own : String} {nL : Nat} {g : zG} {n : Nat} {H0 : Heap} {pc : Nat} {lv lv' : List (Nat × Value)} {rest : List Value} {h : zH}
theorem z_perm (ks : List Nat) (hl : lv_pick lv ks = lv') (k : zW Wf m nL g n H0 pc lv' rest h) : zW Wf m nL g n H0 pc lv rest h := fun H locs ls hq hv => k H locs ls hq (lv_sub hv ks hl)
theorem z_iconst (X : zX Wf m R cc own nL g n H0) {x : Int} (d : decode cc pc = .ok (.iconst x, 1)) (k : zW Wf m nL g n H0 (pc + 1) lv (zi x :: rest) h) : zW Wf m nL g n H0 pc lv rest h := by
  obtain ⟨p, l, e, s, args, below, meth, c, cells, slots, Q, hfl, rfl, rfl, hx, hb, -⟩ := X
  exact fun H locs ls hq hv => lv_iconst hx hb d rfl (k H locs ls hq hv)
theorem z_bipush (X : zX Wf m R cc own nL g n H0) {x : Int} (d : decode cc pc = .ok (.bipush x, 2)) (hx0 : (Int8.ofInt x).toInt32 = Int32.ofInt x) (k : zW Wf m nL g n H0 (pc + 2) lv (zi x :: rest) h) : zW Wf m nL g n H0 pc lv rest h := by
  obtain ⟨p, l, e, s, args, below, meth, c, cells, slots, Q, hfl, rfl, rfl, hx, hb, -⟩ := X
  exact fun H locs ls hq hv => lv_bipush hx hb d hx0 (k H locs ls hq hv)
theorem z_sipush (X : zX Wf m R cc own nL g n H0) {x : Int} (d : decode cc pc = .ok (.sipush x, 3)) (hx0 : (Int16.ofInt x).toInt32 = Int32.ofInt x) (k : zW Wf m nL g n H0 (pc + 3) lv (zi x :: rest) h) : zW Wf m nL g n H0 pc lv rest h := by
  obtain ⟨p, l, e, s, args, below, meth, c, cells, slots, Q, hfl, rfl, rfl, hx, hb, -⟩ := X
  exact fun H locs ls hq hv => lv_sipush hx hb d hx0 (k H locs ls hq hv)
theorem z_lconst (X : zX Wf m R cc own nL g n H0) {q : Fin 2} {x : Int} (d : decode cc pc = .ok (.lconst q, 1)) (hx0 : Int64.ofNat (q : Nat) = Int64.ofInt x) (k : zW Wf m nL g n H0 (pc + 1) lv (zj x :: rest) h) : zW Wf m nL g n H0 pc lv rest h := by
  obtain ⟨p, l, e, s, args, below, meth, c, cells, slots, Q, hfl, rfl, rfl, hx, hb, -⟩ := X
  exact fun H locs ls hq hv => lv_lconst hx hb d hx0 (k H locs ls hq hv)
theorem z_ldc2 (X : zX Wf m R cc own nL g n H0) {i : Nat} {v : Int64} {x : Int} (d : decode cc pc = .ok (.ldc2_w i, 3)) (w : Cond.constantLong own i v ∈ zWd) (hx0 : v = Int64.ofInt x) (k : zW Wf m nL g n H0 (pc + 3) lv (zj x :: rest) h) : zW Wf m nL g n H0 pc lv rest h := by
  obtain ⟨p, l, e, s, args, below, meth, c, cells, slots, Q, hfl, rfl, rfl, hx, hb, hml, ho, hts, -⟩ := X
  subst hx0
  exact fun H locs ls hq hv => lv_ldc2 hx hb ho (hts _ w) d (k H locs ls hq hv)
theorem z_iload_n (X : zX Wf m R cc own nL g n H0) {i : Fin 4} {q : Nat} {x : Int} (d : decode cc pc = .ok (.iload_n i, 1)) (hq0 : lv[q]? = some ((i : Nat), zi x)) (k : zW Wf m nL g n H0 (pc + 1) lv (zi x :: rest) h) : zW Wf m nL g n H0 pc lv rest h := by
  obtain ⟨p, l, e, s, args, below, meth, c, cells, slots, Q, hfl, rfl, rfl, hx, hb, -⟩ := X
  exact fun H locs ls hq hv => lv_iload_n hx hb d rfl (lv_at hv q hq0) (k H locs ls hq hv)
theorem z_iload (X : zX Wf m R cc own nL g n H0) {i q : Nat} {x : Int} (d : decode cc pc = .ok (.iload i, 2)) (hq0 : lv[q]? = some (i, zi x)) (k : zW Wf m nL g n H0 (pc + 2) lv (zi x :: rest) h) : zW Wf m nL g n H0 pc lv rest h := by
  obtain ⟨p, l, e, s, args, below, meth, c, cells, slots, Q, hfl, rfl, rfl, hx, hb, -⟩ := X
  exact fun H locs ls hq hv => lv_iload hx hb d (lv_at hv q hq0) (k H locs ls hq hv)
theorem z_lload_n (X : zX Wf m R cc own nL g n H0) {i : Fin 4} {q : Nat} {x : Int} (d : decode cc pc = .ok (.lload_n i, 1)) (hq0 : lv[q]? = some ((i : Nat), zj x)) (k : zW Wf m nL g n H0 (pc + 1) lv (zj x :: rest) h) : zW Wf m nL g n H0 pc lv rest h := by
  obtain ⟨p, l, e, s, args, below, meth, c, cells, slots, Q, hfl, rfl, rfl, hx, hb, -⟩ := X
  exact fun H locs ls hq hv => lv_lload_n hx hb d rfl (lv_at hv q hq0) (k H locs ls hq hv)
theorem z_lload (X : zX Wf m R cc own nL g n H0) {i q : Nat} {x : Int} (d : decode cc pc = .ok (.lload i, 2)) (hq0 : lv[q]? = some (i, zj x)) (k : zW Wf m nL g n H0 (pc + 2) lv (zj x :: rest) h) : zW Wf m nL g n H0 pc lv rest h := by
  obtain ⟨p, l, e, s, args, below, meth, c, cells, slots, Q, hfl, rfl, rfl, hx, hb, -⟩ := X
  exact fun H locs ls hq hv => lv_lload hx hb d (lv_at hv q hq0) (k H locs ls hq hv)
theorem z_aload_n (X : zX Wf m R cc own nL g n H0) {i : Fin 4} {q : Nat} {a : Nat} (d : decode cc pc = .ok (.aload_n i, 1)) (hq0 : lv[q]? = some ((i : Nat), .ref a)) (k : zW Wf m nL g n H0 (pc + 1) lv (.ref a :: rest) h) : zW Wf m nL g n H0 pc lv rest h := by
  obtain ⟨p, l, e, s, args, below, meth, c, cells, slots, Q, hfl, rfl, rfl, hx, hb, -⟩ := X
  exact fun H locs ls hq hv => lv_aload_n hx hb d rfl (lv_at hv q hq0) (k H locs ls hq hv)
theorem z_aload (X : zX Wf m R cc own nL g n H0) {i q : Nat} {a : Nat} (d : decode cc pc = .ok (.aload i, 2)) (hq0 : lv[q]? = some (i, .ref a)) (k : zW Wf m nL g n H0 (pc + 2) lv (.ref a :: rest) h) : zW Wf m nL g n H0 pc lv rest h := by
  obtain ⟨p, l, e, s, args, below, meth, c, cells, slots, Q, hfl, rfl, rfl, hx, hb, -⟩ := X
  exact fun H locs ls hq hv => lv_aload hx hb d (lv_at hv q hq0) (k H locs ls hq hv)
theorem z_istore_n (X : zX Wf m R cc own nL g n H0) {i : Fin 4} {x : Int} (d : decode cc pc = .ok (.istore_n i, 1)) (hn : (i : Nat) < nL) (hl : ((i : Nat), zi x) :: lv.filter (fun q => !(q.1 == (i : Nat)) && !(q.1 + 1 == (i : Nat) && q.2.category == 2)) = lv') (k : zW Wf m nL g n H0 (pc + 1) lv' rest h) : zW Wf m nL g n H0 pc lv (zi x :: rest) h := by
  obtain ⟨p, l, e, s, args, below, meth, c, cells, slots, Q, hfl, rfl, rfl, hx, hb, -⟩ := X
  exact fun H locs ls hq hv => lv_istore_n hx hb d rfl hv hn hl (fun ls' hv' => k H locs ls' hq hv')
theorem z_istore (X : zX Wf m R cc own nL g n H0) {i : Nat} {x : Int} (d : decode cc pc = .ok (.istore i, 2)) (hn : i < nL) (hl : (i, zi x) :: lv.filter (fun q => !(q.1 == i) && !(q.1 + 1 == i && q.2.category == 2)) = lv') (k : zW Wf m nL g n H0 (pc + 2) lv' rest h) : zW Wf m nL g n H0 pc lv (zi x :: rest) h := by
  obtain ⟨p, l, e, s, args, below, meth, c, cells, slots, Q, hfl, rfl, rfl, hx, hb, -⟩ := X
  exact fun H locs ls hq hv => lv_istore hx hb d hv hn hl (fun ls' hv' => k H locs ls' hq hv')
theorem z_lstore_n (X : zX Wf m R cc own nL g n H0) {i : Fin 4} {x : Int} (d : decode cc pc = .ok (.lstore_n i, 1)) (hn : (i : Nat) + 1 < nL) (hl : ((i : Nat), zj x) :: lv.filter (fun q => !(q.1 == (i : Nat)) && (!(q.1 == (i : Nat) + 1) && !(q.1 + 1 == (i : Nat) && q.2.category == 2))) = lv') (k : zW Wf m nL g n H0 (pc + 1) lv' rest h) : zW Wf m nL g n H0 pc lv (zj x :: rest) h := by
  obtain ⟨p, l, e, s, args, below, meth, c, cells, slots, Q, hfl, rfl, rfl, hx, hb, -⟩ := X
  exact fun H locs ls hq hv => lv_lstore_n hx hb d rfl hv hn hl (fun ls' hv' => k H locs ls' hq hv')
theorem z_lstore (X : zX Wf m R cc own nL g n H0) {i : Nat} {x : Int} (d : decode cc pc = .ok (.lstore i, 2)) (hn : i + 1 < nL) (hl : (i, zj x) :: lv.filter (fun q => !(q.1 == i) && (!(q.1 == i + 1) && !(q.1 + 1 == i && q.2.category == 2))) = lv') (k : zW Wf m nL g n H0 (pc + 2) lv' rest h) : zW Wf m nL g n H0 pc lv (zj x :: rest) h := by
  obtain ⟨p, l, e, s, args, below, meth, c, cells, slots, Q, hfl, rfl, rfl, hx, hb, -⟩ := X
  exact fun H locs ls hq hv => lv_lstore hx hb d hv hn hl (fun ls' hv' => k H locs ls' hq hv')
theorem z_astore_n (X : zX Wf m R cc own nL g n H0) {i : Fin 4} {a : Nat} (d : decode cc pc = .ok (.astore_n i, 1)) (hn : (i : Nat) < nL) (hl : ((i : Nat), Value.ref a) :: lv.filter (fun q => !(q.1 == (i : Nat)) && !(q.1 + 1 == (i : Nat) && q.2.category == 2)) = lv') (k : zW Wf m nL g n H0 (pc + 1) lv' rest h) : zW Wf m nL g n H0 pc lv (.ref a :: rest) h := by
  obtain ⟨p, l, e, s, args, below, meth, c, cells, slots, Q, hfl, rfl, rfl, hx, hb, -⟩ := X
  exact fun H locs ls hq hv => lv_astore_n hx hb d rfl hv hn hl (fun ls' hv' => k H locs ls' hq hv')
theorem z_astore (X : zX Wf m R cc own nL g n H0) {i : Nat} {a : Nat} (d : decode cc pc = .ok (.astore i, 2)) (hn : i < nL) (hl : (i, Value.ref a) :: lv.filter (fun q => !(q.1 == i) && !(q.1 + 1 == i && q.2.category == 2)) = lv') (k : zW Wf m nL g n H0 (pc + 2) lv' rest h) : zW Wf m nL g n H0 pc lv (.ref a :: rest) h := by
  obtain ⟨p, l, e, s, args, below, meth, c, cells, slots, Q, hfl, rfl, rfl, hx, hb, -⟩ := X
  exact fun H locs ls hq hv => lv_astore hx hb d hv hn hl (fun ls' hv' => k H locs ls' hq hv')
theorem z_iinc (X : zX Wf m R cc own nL g n H0) {i q : Nat} {a x : Int} (d : decode cc pc = .ok (.iinc i a, 3)) (hq0 : lv[q]? = some (i, zi x)) (hn : i < nL) (hl : (i, zi (x + a)) :: lv.filter (fun q => !(q.1 == i) && !(q.1 + 1 == i && q.2.category == 2)) = lv') (k : zW Wf m nL g n H0 (pc + 3) lv' rest h) : zW Wf m nL g n H0 pc lv rest h := by
  obtain ⟨p, l, e, s, args, below, meth, c, cells, slots, Q, hfl, rfl, rfl, hx, hb, -⟩ := X
  exact fun H locs ls hq hv => lv_iinc hx hb d hv hq0 (Int32.ofInt_add x a).symm hn hl (fun ls' hv' => k H locs ls' hq hv')
theorem z_iadd (X : zX Wf m R cc own nL g n H0) {x y : Int} (d : decode cc pc = .ok (.iadd, 1)) (k : zW Wf m nL g n H0 (pc + 1) lv (zi (x + y) :: rest) h) : zW Wf m nL g n H0 pc lv (zi y :: zi x :: rest) h := by
  obtain ⟨p, l, e, s, args, below, meth, c, cells, slots, Q, hfl, rfl, rfl, hx, hb, -⟩ := X
  exact fun H locs ls hq hv => lv_iadd hx hb d (by rw [← Int32.ofInt_add]; exact k H locs ls hq hv)
theorem z_isub (X : zX Wf m R cc own nL g n H0) {x y : Int} (d : decode cc pc = .ok (.isub, 1)) (k : zW Wf m nL g n H0 (pc + 1) lv (zi (x - y) :: rest) h) : zW Wf m nL g n H0 pc lv (zi y :: zi x :: rest) h := by
  obtain ⟨p, l, e, s, args, below, meth, c, cells, slots, Q, hfl, rfl, rfl, hx, hb, -⟩ := X
  exact fun H locs ls hq hv => lv_isub hx hb d (by rw [← Int32.ofInt_sub]; exact k H locs ls hq hv)
theorem z_imul (X : zX Wf m R cc own nL g n H0) {x y : Int} (d : decode cc pc = .ok (.imul, 1)) (k : zW Wf m nL g n H0 (pc + 1) lv (zi (x * y) :: rest) h) : zW Wf m nL g n H0 pc lv (zi y :: zi x :: rest) h := by
  obtain ⟨p, l, e, s, args, below, meth, c, cells, slots, Q, hfl, rfl, rfl, hx, hb, -⟩ := X
  exact fun H locs ls hq hv => lv_imul hx hb d (by rw [← Int32.ofInt_mul]; exact k H locs ls hq hv)
theorem z_ladd (X : zX Wf m R cc own nL g n H0) {x y : Int} (d : decode cc pc = .ok (.ladd, 1)) (k : zW Wf m nL g n H0 (pc + 1) lv (zj (x + y) :: rest) h) : zW Wf m nL g n H0 pc lv (zj y :: zj x :: rest) h := by
  obtain ⟨p, l, e, s, args, below, meth, c, cells, slots, Q, hfl, rfl, rfl, hx, hb, -⟩ := X
  exact fun H locs ls hq hv => lv_ladd hx hb d (by rw [← Int64.ofInt_add]; exact k H locs ls hq hv)
theorem z_lsub (X : zX Wf m R cc own nL g n H0) {x y : Int} (d : decode cc pc = .ok (.lsub, 1)) (k : zW Wf m nL g n H0 (pc + 1) lv (zj (x - y) :: rest) h) : zW Wf m nL g n H0 pc lv (zj y :: zj x :: rest) h := by
  obtain ⟨p, l, e, s, args, below, meth, c, cells, slots, Q, hfl, rfl, rfl, hx, hb, -⟩ := X
  exact fun H locs ls hq hv => lv_lsub hx hb d (by rw [← Int64.ofInt_sub]; exact k H locs ls hq hv)
theorem z_lmul (X : zX Wf m R cc own nL g n H0) {x y : Int} (d : decode cc pc = .ok (.lmul, 1)) (k : zW Wf m nL g n H0 (pc + 1) lv (zj (x * y) :: rest) h) : zW Wf m nL g n H0 pc lv (zj y :: zj x :: rest) h := by
  obtain ⟨p, l, e, s, args, below, meth, c, cells, slots, Q, hfl, rfl, rfl, hx, hb, -⟩ := X
  exact fun H locs ls hq hv => lv_lmul hx hb d (by rw [← Int64.ofInt_mul]; exact k H locs ls hq hv)
theorem z_idiv (X : zX Wf m R cc own nL g n H0) {x y : Int} (hx1 : zr x) (hy1 : zr y) (hx0 : 0 ≤ x) (hy0 : 0 < y) (d : decode cc pc = .ok (.idiv, 1)) (k : zW Wf m nL g n H0 (pc + 1) lv (zi (x / y) :: rest) h) : zW Wf m nL g n H0 pc lv (zi y :: zi x :: rest) h := by
  obtain ⟨p, l, e, s, args, below, meth, c, cells, slots, Q, hfl, rfl, rfl, hx, hb, -⟩ := X
  exact fun H locs ls hq hv => lv_idiv hx hb d (fun q => by have := (zi_eq0 hy1).mp q; omega) (by rw [zi_div hx1 hy1 hx0]; exact k H locs ls hq hv)
theorem z_irem (X : zX Wf m R cc own nL g n H0) {x y : Int} (hx1 : zr x) (hy1 : zr y) (hx0 : 0 ≤ x) (hy0 : 0 < y) (d : decode cc pc = .ok (.irem, 1)) (k : zW Wf m nL g n H0 (pc + 1) lv (zi (x % y) :: rest) h) : zW Wf m nL g n H0 pc lv (zi y :: zi x :: rest) h := by
  obtain ⟨p, l, e, s, args, below, meth, c, cells, slots, Q, hfl, rfl, rfl, hx, hb, -⟩ := X
  exact fun H locs ls hq hv => lv_irem hx hb d (fun q => by have := (zi_eq0 hy1).mp q; omega) (by rw [zi_rem hx1 hy1 hx0]; exact k H locs ls hq hv)
theorem z_ldiv (X : zX Wf m R cc own nL g n H0) {x y : Int} (hx1 : zrl x) (hy1 : zrl y) (hx0 : 0 ≤ x) (hy0 : 0 < y) (d : decode cc pc = .ok (.ldiv, 1)) (k : zW Wf m nL g n H0 (pc + 1) lv (zj (x / y) :: rest) h) : zW Wf m nL g n H0 pc lv (zj y :: zj x :: rest) h := by
  obtain ⟨p, l, e, s, args, below, meth, c, cells, slots, Q, hfl, rfl, rfl, hx, hb, -⟩ := X
  exact fun H locs ls hq hv => lv_ldiv hx hb d (fun q => by have := (zj_eq hy1 (by omega : zrl 0)).mp q; omega) (by rw [zj_div hx1 hy1 hx0]; exact k H locs ls hq hv)
theorem z_lrem (X : zX Wf m R cc own nL g n H0) {x y : Int} (hx1 : zrl x) (hy1 : zrl y) (hx0 : 0 ≤ x) (hy0 : 0 < y) (d : decode cc pc = .ok (.lrem, 1)) (k : zW Wf m nL g n H0 (pc + 1) lv (zj (x % y) :: rest) h) : zW Wf m nL g n H0 pc lv (zj y :: zj x :: rest) h := by
  obtain ⟨p, l, e, s, args, below, meth, c, cells, slots, Q, hfl, rfl, rfl, hx, hb, -⟩ := X
  exact fun H locs ls hq hv => lv_lrem hx hb d (fun q => by have := (zj_eq hy1 (by omega : zrl 0)).mp q; omega) (by rw [zj_rem hx1 hy1 hx0]; exact k H locs ls hq hv)
theorem z_i2l (X : zX Wf m R cc own nL g n H0) {x : Int} (hx1 : zr x) (d : decode cc pc = .ok (.i2l, 1)) (k : zW Wf m nL g n H0 (pc + 1) lv (zj x :: rest) h) : zW Wf m nL g n H0 pc lv (zi x :: rest) h := by
  obtain ⟨p, l, e, s, args, below, meth, c, cells, slots, Q, hfl, rfl, rfl, hx, hb, -⟩ := X
  exact fun H locs ls hq hv => lv_i2l hx hb d (Int64.toInt_inj.mp (by rw [Int32.toInt_toInt64, zi_int hx1, zj_int (by omega)])) (k H locs ls hq hv)
theorem z_l2i (X : zX Wf m R cc own nL g n H0) {x : Int} (hx1 : zrl x) (d : decode cc pc = .ok (.l2i, 1)) (k : zW Wf m nL g n H0 (pc + 1) lv (zi (zw x) :: rest) h) : zW Wf m nL g n H0 pc lv (zj x :: rest) h := by
  obtain ⟨p, l, e, s, args, below, meth, c, cells, slots, Q, hfl, rfl, rfl, hx, hb, -⟩ := X
  refine fun H locs ls hq hv => lv_l2i hx hb d ?_ (k H locs ls hq hv)
  apply Int32.toInt_inj.mp
  rw [Int64.toInt_toInt32, zj_int hx1, zi_int (zr_w x)]
  unfold zw
  rw [Int32.toInt_ofInt]
theorem z_dup (X : zX Wf m R cc own nL g n H0) {va : Value} (d : decode cc pc = .ok (.dup, 1)) (hva : va.category = 1) (k : zW Wf m nL g n H0 (pc + 1) lv (va :: va :: rest) h) : zW Wf m nL g n H0 pc lv (va :: rest) h := by
  obtain ⟨p, l, e, s, args, below, meth, c, cells, slots, Q, hfl, rfl, rfl, hx, hb, -⟩ := X
  exact fun H locs ls hq hv => lv_dup hx hb d hva (k H locs ls hq hv)
theorem z_pop (X : zX Wf m R cc own nL g n H0) {va : Value} (d : decode cc pc = .ok (.pop, 1)) (hva : va.category = 1) (k : zW Wf m nL g n H0 (pc + 1) lv rest h) : zW Wf m nL g n H0 pc lv (va :: rest) h := by
  obtain ⟨p, l, e, s, args, below, meth, c, cells, slots, Q, hfl, rfl, rfl, hx, hb, -⟩ := X
  exact fun H locs ls hq hv => lv_pop hx hb d hva (k H locs ls hq hv)
theorem z_dup2 (X : zX Wf m R cc own nL g n H0) {va vb : Value} (d : decode cc pc = .ok (.dup2, 1)) (hva : va.category = 1) (hvb : vb.category = 1) (k : zW Wf m nL g n H0 (pc + 1) lv (va :: vb :: va :: vb :: rest) h) : zW Wf m nL g n H0 pc lv (va :: vb :: rest) h := by
  obtain ⟨p, l, e, s, args, below, meth, c, cells, slots, Q, hfl, rfl, rfl, hx, hb, -⟩ := X
  exact fun H locs ls hq hv => lv_dup2_11 hx hb d hva hvb (k H locs ls hq hv)
theorem z_goto (X : zX Wf m R cc own nL g n H0) {off : Int} {tgt : Nat} (d : decode cc pc = .ok (.goto off, 3)) (ht : (pc : Int) + off = (tgt : Int)) (k : zW Wf m nL g n H0 tgt lv rest h) : zW Wf m nL g n H0 pc lv rest h := by
  obtain ⟨p, l, e, s, args, below, meth, c, cells, slots, Q, hfl, rfl, rfl, hx, hb, -⟩ := X
  exact fun H locs ls hq hv => lv_goto hx hb d ht (k H locs ls hq hv)
theorem z_if_eq (X : zX Wf m R cc own nL g n H0) {x off : Int} {tgt : Nat} (hx1 : zr x) (d : decode cc pc = .ok (.ifCond .eq off, 3)) (ht : (pc : Int) + off = (tgt : Int)) (kt : x = 0 → zW Wf m nL g n H0 tgt lv rest h) (kf : x ≠ 0 → zW Wf m nL g n H0 (pc + 3) lv rest h) : zW Wf m nL g n H0 pc lv (zi x :: rest) h := by
  obtain ⟨p, l, e, s, args, below, meth, c, cells, slots, Q, hfl, rfl, rfl, hx, hb, -⟩ := X
  exact fun H locs ls hq hv => lv_if_eq hx hb d ht (fun q => kt ((zi_eq0 hx1).mp q) H locs ls hq hv) (fun q => kf (fun z => q ((zi_eq0 hx1).mpr z)) H locs ls hq hv)
theorem z_if_ne (X : zX Wf m R cc own nL g n H0) {x off : Int} {tgt : Nat} (hx1 : zr x) (d : decode cc pc = .ok (.ifCond .ne off, 3)) (ht : (pc : Int) + off = (tgt : Int)) (kt : x ≠ 0 → zW Wf m nL g n H0 tgt lv rest h) (kf : x = 0 → zW Wf m nL g n H0 (pc + 3) lv rest h) : zW Wf m nL g n H0 pc lv (zi x :: rest) h := by
  obtain ⟨p, l, e, s, args, below, meth, c, cells, slots, Q, hfl, rfl, rfl, hx, hb, -⟩ := X
  exact fun H locs ls hq hv => lv_if_ne hx hb d ht (fun q => kt (fun z => q ((zi_eq0 hx1).mpr z)) H locs ls hq hv) (fun q => kf ((zi_eq0 hx1).mp q) H locs ls hq hv)
theorem z_if_lt (X : zX Wf m R cc own nL g n H0) {x off : Int} {tgt : Nat} (hx1 : zr x) (d : decode cc pc = .ok (.ifCond .lt off, 3)) (ht : (pc : Int) + off = (tgt : Int)) (kt : x < 0 → zW Wf m nL g n H0 tgt lv rest h) (kf : 0 ≤ x → zW Wf m nL g n H0 (pc + 3) lv rest h) : zW Wf m nL g n H0 pc lv (zi x :: rest) h := by
  obtain ⟨p, l, e, s, args, below, meth, c, cells, slots, Q, hfl, rfl, rfl, hx, hb, -⟩ := X
  exact fun H locs ls hq hv => lv_if_lt hx hb d ht (fun q => kt ((zi_lt0 hx1).mp q) H locs ls hq hv) (fun q => kf (Int.not_lt.mp fun z => q ((zi_lt0 hx1).mpr z)) H locs ls hq hv)
theorem z_if_ge (X : zX Wf m R cc own nL g n H0) {x off : Int} {tgt : Nat} (hx1 : zr x) (d : decode cc pc = .ok (.ifCond .ge off, 3)) (ht : (pc : Int) + off = (tgt : Int)) (kt : 0 ≤ x → zW Wf m nL g n H0 tgt lv rest h) (kf : x < 0 → zW Wf m nL g n H0 (pc + 3) lv rest h) : zW Wf m nL g n H0 pc lv (zi x :: rest) h := by
  obtain ⟨p, l, e, s, args, below, meth, c, cells, slots, Q, hfl, rfl, rfl, hx, hb, -⟩ := X
  exact fun H locs ls hq hv => lv_if_ge hx hb d ht (fun q => kt ((zi_ge0 hx1).mp q) H locs ls hq hv) (fun q => kf (Int.not_le.mp fun z => q ((zi_ge0 hx1).mpr z)) H locs ls hq hv)
theorem z_if_gt (X : zX Wf m R cc own nL g n H0) {x off : Int} {tgt : Nat} (hx1 : zr x) (d : decode cc pc = .ok (.ifCond .gt off, 3)) (ht : (pc : Int) + off = (tgt : Int)) (kt : 0 < x → zW Wf m nL g n H0 tgt lv rest h) (kf : x ≤ 0 → zW Wf m nL g n H0 (pc + 3) lv rest h) : zW Wf m nL g n H0 pc lv (zi x :: rest) h := by
  obtain ⟨p, l, e, s, args, below, meth, c, cells, slots, Q, hfl, rfl, rfl, hx, hb, -⟩ := X
  exact fun H locs ls hq hv => lv_if_gt hx hb d ht (fun q => kt ((zi_gt0 hx1).mp q) H locs ls hq hv) (fun q => kf (Int.not_lt.mp fun z => q ((zi_gt0 hx1).mpr z)) H locs ls hq hv)
theorem z_if_le (X : zX Wf m R cc own nL g n H0) {x off : Int} {tgt : Nat} (hx1 : zr x) (d : decode cc pc = .ok (.ifCond .le off, 3)) (ht : (pc : Int) + off = (tgt : Int)) (kt : x ≤ 0 → zW Wf m nL g n H0 tgt lv rest h) (kf : 0 < x → zW Wf m nL g n H0 (pc + 3) lv rest h) : zW Wf m nL g n H0 pc lv (zi x :: rest) h := by
  obtain ⟨p, l, e, s, args, below, meth, c, cells, slots, Q, hfl, rfl, rfl, hx, hb, -⟩ := X
  exact fun H locs ls hq hv => lv_if_le hx hb d ht (fun q => kt ((zi_le0 hx1).mp q) H locs ls hq hv) (fun q => kf (Int.not_le.mp fun z => q ((zi_le0 hx1).mpr z)) H locs ls hq hv)
theorem z_icmp_eq (X : zX Wf m R cc own nL g n H0) {x y off : Int} {tgt : Nat} (hx1 : zr x) (hy1 : zr y) (d : decode cc pc = .ok (.if_icmp .eq off, 3)) (ht : (pc : Int) + off = (tgt : Int)) (kt : x = y → zW Wf m nL g n H0 tgt lv rest h) (kf : x ≠ y → zW Wf m nL g n H0 (pc + 3) lv rest h) : zW Wf m nL g n H0 pc lv (zi y :: zi x :: rest) h := by
  obtain ⟨p, l, e, s, args, below, meth, c, cells, slots, Q, hfl, rfl, rfl, hx, hb, -⟩ := X
  exact fun H locs ls hq hv => lv_icmp_eq hx hb d ht (fun q => kt ((zi_eq hx1 hy1).mp q) H locs ls hq hv) (fun q => kf (fun z => q ((zi_eq hx1 hy1).mpr z)) H locs ls hq hv)
theorem z_icmp_ne (X : zX Wf m R cc own nL g n H0) {x y off : Int} {tgt : Nat} (hx1 : zr x) (hy1 : zr y) (d : decode cc pc = .ok (.if_icmp .ne off, 3)) (ht : (pc : Int) + off = (tgt : Int)) (kt : x ≠ y → zW Wf m nL g n H0 tgt lv rest h) (kf : x = y → zW Wf m nL g n H0 (pc + 3) lv rest h) : zW Wf m nL g n H0 pc lv (zi y :: zi x :: rest) h := by
  obtain ⟨p, l, e, s, args, below, meth, c, cells, slots, Q, hfl, rfl, rfl, hx, hb, -⟩ := X
  exact fun H locs ls hq hv => lv_icmp_ne hx hb d ht (fun q => kt (fun z => q ((zi_eq hx1 hy1).mpr z)) H locs ls hq hv) (fun q => kf ((zi_eq hx1 hy1).mp q) H locs ls hq hv)
theorem z_icmp_lt (X : zX Wf m R cc own nL g n H0) {x y off : Int} {tgt : Nat} (hx1 : zr x) (hy1 : zr y) (d : decode cc pc = .ok (.if_icmp .lt off, 3)) (ht : (pc : Int) + off = (tgt : Int)) (kt : x < y → zW Wf m nL g n H0 tgt lv rest h) (kf : y ≤ x → zW Wf m nL g n H0 (pc + 3) lv rest h) : zW Wf m nL g n H0 pc lv (zi y :: zi x :: rest) h := by
  obtain ⟨p, l, e, s, args, below, meth, c, cells, slots, Q, hfl, rfl, rfl, hx, hb, -⟩ := X
  exact fun H locs ls hq hv => lv_icmp_lt hx hb d ht (fun q => kt ((zi_lt hx1 hy1).mp q) H locs ls hq hv) (fun q => kf (Int.not_lt.mp fun z => q ((zi_lt hx1 hy1).mpr z)) H locs ls hq hv)
theorem z_icmp_ge (X : zX Wf m R cc own nL g n H0) {x y off : Int} {tgt : Nat} (hx1 : zr x) (hy1 : zr y) (d : decode cc pc = .ok (.if_icmp .ge off, 3)) (ht : (pc : Int) + off = (tgt : Int)) (kt : y ≤ x → zW Wf m nL g n H0 tgt lv rest h) (kf : x < y → zW Wf m nL g n H0 (pc + 3) lv rest h) : zW Wf m nL g n H0 pc lv (zi y :: zi x :: rest) h := by
  obtain ⟨p, l, e, s, args, below, meth, c, cells, slots, Q, hfl, rfl, rfl, hx, hb, -⟩ := X
  exact fun H locs ls hq hv => lv_icmp_ge hx hb d ht (fun q => kt ((zi_le hy1 hx1).mp q) H locs ls hq hv) (fun q => kf (Int.not_le.mp fun z => q ((zi_le hy1 hx1).mpr z)) H locs ls hq hv)
theorem z_icmp_gt (X : zX Wf m R cc own nL g n H0) {x y off : Int} {tgt : Nat} (hx1 : zr x) (hy1 : zr y) (d : decode cc pc = .ok (.if_icmp .gt off, 3)) (ht : (pc : Int) + off = (tgt : Int)) (kt : y < x → zW Wf m nL g n H0 tgt lv rest h) (kf : x ≤ y → zW Wf m nL g n H0 (pc + 3) lv rest h) : zW Wf m nL g n H0 pc lv (zi y :: zi x :: rest) h := by
  obtain ⟨p, l, e, s, args, below, meth, c, cells, slots, Q, hfl, rfl, rfl, hx, hb, -⟩ := X
  exact fun H locs ls hq hv => lv_icmp_gt hx hb d ht (fun q => kt ((zi_lt hy1 hx1).mp q) H locs ls hq hv) (fun q => kf (Int.not_lt.mp fun z => q ((zi_lt hy1 hx1).mpr z)) H locs ls hq hv)
theorem z_icmp_le (X : zX Wf m R cc own nL g n H0) {x y off : Int} {tgt : Nat} (hx1 : zr x) (hy1 : zr y) (d : decode cc pc = .ok (.if_icmp .le off, 3)) (ht : (pc : Int) + off = (tgt : Int)) (kt : x ≤ y → zW Wf m nL g n H0 tgt lv rest h) (kf : y < x → zW Wf m nL g n H0 (pc + 3) lv rest h) : zW Wf m nL g n H0 pc lv (zi y :: zi x :: rest) h := by
  obtain ⟨p, l, e, s, args, below, meth, c, cells, slots, Q, hfl, rfl, rfl, hx, hb, -⟩ := X
  exact fun H locs ls hq hv => lv_icmp_le hx hb d ht (fun q => kt ((zi_le hx1 hy1).mp q) H locs ls hq hv) (fun q => kf (Int.not_le.mp fun z => q ((zi_le hx1 hy1).mpr z)) H locs ls hq hv)
/-- what lcmp leaves, as a number -/
def zcmp (x y : Int) : Int := if y < x then 1 else if x = y then 0 else -1
theorem zr_cmp (x y : Int) : zr (zcmp x y) := by
  unfold zcmp
  split
  · omega
  · split <;> omega
theorem z_lcmp (X : zX Wf m R cc own nL g n H0) {x y : Int} (hx1 : zrl x) (hy1 : zrl y) (d : decode cc pc = .ok (.lcmp, 1)) (k : zW Wf m nL g n H0 (pc + 1) lv (zi (zcmp x y) :: rest) h) : zW Wf m nL g n H0 pc lv (zj y :: zj x :: rest) h := by
  obtain ⟨p, l, e, s, args, below, meth, c, cells, slots, Q, hfl, rfl, rfl, hx, hb, -⟩ := X
  refine fun H locs ls hq hv => W.lcmp hx hb d ?_
  have e : lg_cmp (Int64.ofInt x) (Int64.ofInt y) = Int32.ofInt (zcmp x y) := by
    unfold lg_cmp zcmp
    by_cases h1 : y < x
    · rw [if_pos ((zj_lt hy1 hx1).mpr h1), if_pos h1]; rfl
    · rw [if_neg (fun q => h1 ((zj_lt hy1 hx1).mp q)), if_neg h1]
      by_cases h2 : x = y
      · rw [if_pos ((zj_eq hx1 hy1).mpr h2), if_pos h2]; rfl
      · rw [if_neg (fun q => h2 ((zj_eq hx1 hy1).mp q)), if_neg h2]; rfl
  rw [e]
  exact k H locs ls hq hv
theorem z_tableOut (X : zX Wf m R cc own nL g n H0) {x dflt lo hi : Int} {offs : Array Int} {len tgt : Nat} (hx1 : zr x) (d : decode cc pc = .ok (.tableswitch dflt lo hi offs, len)) (hr : x < lo ∨ hi < x) (ht : (pc : Int) + dflt = (tgt : Int)) (k : zW Wf m nL g n H0 tgt lv rest h) : zW Wf m nL g n H0 pc lv (zi x :: rest) h := by
  obtain ⟨p, l, e, s, args, below, meth, c, cells, slots, Q, hfl, rfl, rfl, hx, hb, -⟩ := X
  exact fun H locs ls hq hv => lv_tableOut hx hb d (by rw [zi_int hx1]; exact hr) ht (k H locs ls hq hv)
theorem z_tableIn (X : zX Wf m R cc own nL g n H0) {x dflt lo hi off : Int} {offs : Array Int} {len tgt : Nat} (hx1 : zr x) (d : decode cc pc = .ok (.tableswitch dflt lo hi offs, len)) (h1 : lo ≤ x) (h2 : x ≤ hi) (ho : offs[(x - lo).toNat]? = some off) (ht : (pc : Int) + off = (tgt : Int)) (k : zW Wf m nL g n H0 tgt lv rest h) : zW Wf m nL g n H0 pc lv (zi x :: rest) h := by
  obtain ⟨p, l, e, s, args, below, meth, c, cells, slots, Q, hfl, rfl, rfl, hx, hb, -⟩ := X
  exact fun H locs ls hq hv => lv_tableIn hx hb d (by rw [zi_int hx1]; exact Int.not_lt.mpr h1) (by rw [zi_int hx1]; exact Int.not_lt.mpr h2) (by rw [zi_int hx1]; exact ho) ht (k H locs ls hq hv)
end ZR

/-! CONSTRUCTORS: the picture grows. The cells 0 .. n-1 hold f; the next one lies at the heap's end. -/
def zwf (g : zG) (n : Nat) (f : Nat → va_E) : va_W := (List.range n).map (fun k => (g.2.2 k, f k))
def dU1 (f : Nat → va_E) (a : Nat) (e : va_E) : Nat → va_E := fun k => if k = a then e else f k
theorem zwf_at {g : zG} {n : Nat} {f : Nat → va_E} {k : Nat} (hk : k < n) : (zwf g n f)[k]? = some (g.2.2 k, f k) := by
  simp [zwf, hk]
theorem zwf_lt {g : zG} {n : Nat} {f : Nat → va_E} {k : Nat} {q : Nat × va_E} (h : (zwf g n f)[k]? = some q) : k < n ∧ q = (g.2.2 k, f k) := by
  have hl := (List.getElem?_eq_some_iff.mp h).1
  have hn : k < n := by simpa [zwf] using hl
  rw [zwf_at hn] at h
  exact ⟨hn, (Option.some.inj h).symm⟩
theorem zwf_congr {g : zG} {n : Nat} {f f' : Nat → va_E} (h : ∀ k, k < n → f k = f' k) : zwf g n f = zwf g n f' := by
  apply List.ext_getElem?
  intro i
  by_cases hn : i < n
  · rw [zwf_at hn, zwf_at hn, h i hn]
  · rw [List.getElem?_eq_none (by simp [zwf]; omega), List.getElem?_eq_none (by simp [zwf]; omega)]
theorem zwf_set {g : zG} {n : Nat} {f : Nat → va_E} {a : Nat} {e : va_E} : (zwf g n f).set a (g.2.2 a, e) = zwf g n (dU1 f a e) := by
  apply List.ext_getElem?
  intro i
  by_cases hi : i = a
  · subst hi
    by_cases hn : i < n
    · rw [List.getElem?_set_self (by simp [zwf, hn]), zwf_at hn]
      simp [dU1]
    · rw [List.getElem?_eq_none (by simp [zwf]; omega), List.getElem?_eq_none (by simp [zwf]; omega)]
  · rw [List.getElem?_set_ne (fun q => hi q.symm)]
    by_cases hn : i < n
    · rw [zwf_at hn, zwf_at hn]
      simp [dU1, hi]
    · rw [List.getElem?_eq_none (by simp [zwf]; omega), List.getElem?_eq_none (by simp [zwf]; omega)]
def dA (g : zG) : Nat → Prop := fun q => g.2.2 0 ≤ q
/-- the addresses follow each other -/
def dB (g : zG) : Prop := ∀ k : Nat, g.2.2 k = g.2.2 0 + k
theorem dD {g : zG} (hB : dB g) {n : Nat} {f : Nat → va_E} : va_D (dA g) (zwf g n f) := by
  refine ⟨fun i j p q hp hq e => ?_, fun k q hq => ?_⟩
  · obtain ⟨hi, rfl⟩ := zwf_lt hp
    obtain ⟨hj, rfl⟩ := zwf_lt hq
    have h1 := hB i
    have h2 := hB j
    have e' : g.2.2 i = g.2.2 j := e
    omega
  · obtain ⟨hk, rfl⟩ := zwf_lt hq
    have h1 := hB k
    show g.2.2 0 ≤ g.2.2 k
    omega
def dQ (g : zG) (n : Nat) (f : Nat → va_E) (H0 H : Heap) (locs : List Loc) : Prop := va_P g.1 zCl (zwf g n f) H ∧ H.size = g.2.2 n ∧ va_S (dA g) H0 H locs
def dUw (g : zG) (n : Nat) (f : Nat → va_E) (U : State) : Prop := va_P g.1 zCl (zwf g n f) U.heap ∧ va_K g.1 zCl (ztys g) U ∧ (∀ w ∈ zNs, va_Nw w U) ∧ zOld g U ∧ U.heap.size = g.2.2 n
def dX (Wf : Nat → Nat → Heap → List Loc → JFrame → Prop) (m : MethodId) (R : Room) (cc : ByteArray) (own : String) (nL : Nat) (g : zG) (H0 : Heap) (ini : Prop) : Prop :=
  ∃ (p : Program) (l : Launch) (e : Env) (s : State) (args : Array Value) (below : List Frame) (meth : Method) (c : Code) (Q : State → Prop),
    l.flags = flags0 ∧ s.heap = H0 ∧ Wf = (fun cells slots H locs gg => W p l e R s m args below meth c H locs cells slots Q gg) ∧ p.tables.exec = Jvm.exec ∧ c.code = cc ∧ c.maxLocals = nL ∧ s.vm.findClass own = some m.cls ∧ (∀ w ∈ zWd, w.before args s = true) ∧ (∀ w ∈ zNs, va_Nw w s) ∧ va_K g.1 zCl (ztys g) s ∧ zOld g s ∧ dB g ∧ g.2.2 0 ≤ s.heap.size ∧ (ini → meth.name = "<init>")
def dW (Wf : Nat → Nat → Heap → List Loc → JFrame → Prop) (m : MethodId) (nL : Nat) (g : zG) (H0 : Heap) (cells slots : Nat) (pc : Nat) (lv : List (Nat × Value)) (st : List Value) (n : Nat) (f : Nat → va_E) : Prop :=
  ∀ (H : Heap) (locs : List Loc) (ls : Array Slot), dQ g n f H0 H locs → lv_has ls nL lv → Wf cells slots H locs (F0 m pc ls st)
/-- an object's fields when it has been made -/
def zf0 (ci : Nat) : List Value := (zfd ci).map (fun o => match o with
  | some _ => Value.null
  | none => Value.int 0)
theorem zOld.moveD {g : zG} {s U : State} {H : Heap} {locs : List Loc} (h : zOld g s) (hS : va_S (dA g) s.heap H locs) (hU : U.heap = H) (hW : s.WarmedH U.vm) : zOld g U := by
  obtain ⟨s0, a0, h1, h2, h3, h4, h5, h6⟩ := h
  refine ⟨s0, a0, h1, h2, State.WarmedH.trans h3 hW, by rw [hU]; exact Nat.le_trans h4 hS.1, fun q hq => ?_, h6⟩
  rw [hU, hS.2.1 q (Nat.lt_of_lt_of_le hq h4) (fun z => ?_)]
  · exact h5 q hq
  · have z' : g.2.2 0 ≤ q := z
    have := h6 0
    omega
section DR
variable {Wf : Nat → Nat → Heap → List Loc → JFrame → Prop} {m : MethodId} {R : Room} {cc : ByteArray} {own : String} {nL : Nat} {g : zG} {H0 : Heap} {ini : Prop} {cells slots pc n : Nat} {lv lv' : List (Nat × Value)} {rest st : List Value} {f : Nat → va_E}
theorem d_aload_n (X : dX Wf m R cc own nL g H0 ini) {i : Fin 4} {q a : Nat} (d : decode cc pc = .ok (.aload_n i, 1)) (hq0 : lv[q]? = some ((i : Nat), .ref a)) (k : dW Wf m nL g H0 cells slots (pc + 1) lv (.ref a :: rest) n f) : dW Wf m nL g H0 cells slots pc lv rest n f := by
  obtain ⟨p, l, e, s, args, below, meth, c, Q, hfl, rfl, rfl, hx, hb, -⟩ := X
  exact fun H locs ls hq hv => lv_aload_n hx hb d rfl (lv_at hv q hq0) (k H locs ls hq hv)
theorem d_iconst (X : dX Wf m R cc own nL g H0 ini) {x : Int} (d : decode cc pc = .ok (.iconst x, 1)) (k : dW Wf m nL g H0 cells slots (pc + 1) lv (zi x :: rest) n f) : dW Wf m nL g H0 cells slots pc lv rest n f := by
  obtain ⟨p, l, e, s, args, below, meth, c, Q, hfl, rfl, rfl, hx, hb, -⟩ := X
  exact fun H locs ls hq hv => lv_iconst hx hb d rfl (k H locs ls hq hv)
theorem d_bipush (X : dX Wf m R cc own nL g H0 ini) {x : Int} (d : decode cc pc = .ok (.bipush x, 2)) (hx0 : (Int8.ofInt x).toInt32 = Int32.ofInt x) (k : dW Wf m nL g H0 cells slots (pc + 2) lv (zi x :: rest) n f) : dW Wf m nL g H0 cells slots pc lv rest n f := by
  obtain ⟨p, l, e, s, args, below, meth, c, Q, hfl, rfl, rfl, hx, hb, -⟩ := X
  exact fun H locs ls hq hv => lv_bipush hx hb d hx0 (k H locs ls hq hv)
theorem d_sipush (X : dX Wf m R cc own nL g H0 ini) {x : Int} (d : decode cc pc = .ok (.sipush x, 3)) (hx0 : (Int16.ofInt x).toInt32 = Int32.ofInt x) (k : dW Wf m nL g H0 cells slots (pc + 3) lv (zi x :: rest) n f) : dW Wf m nL g H0 cells slots pc lv rest n f := by
  obtain ⟨p, l, e, s, args, below, meth, c, Q, hfl, rfl, rfl, hx, hb, -⟩ := X
  exact fun H locs ls hq hv => lv_sipush hx hb d hx0 (k H locs ls hq hv)
theorem d_dup (X : dX Wf m R cc own nL g H0 ini) {va : Value} (d : decode cc pc = .ok (.dup, 1)) (hva : va.category = 1) (k : dW Wf m nL g H0 cells slots (pc + 1) lv (va :: va :: rest) n f) : dW Wf m nL g H0 cells slots pc lv (va :: rest) n f := by
  obtain ⟨p, l, e, s, args, below, meth, c, Q, hfl, rfl, rfl, hx, hb, -⟩ := X
  exact fun H locs ls hq hv => lv_dup hx hb d hva (k H locs ls hq hv)
theorem d_istore_n (X : dX Wf m R cc own nL g H0 ini) {i : Fin 4} {x : Int} (d : decode cc pc = .ok (.istore_n i, 1)) (hn : (i : Nat) < nL) (hl : ((i : Nat), zi x) :: lv.filter (fun q => !(q.1 == (i : Nat)) && !(q.1 + 1 == (i : Nat) && q.2.category == 2)) = lv') (k : dW Wf m nL g H0 cells slots (pc + 1) lv' rest n f) : dW Wf m nL g H0 cells slots pc lv (zi x :: rest) n f := by
  obtain ⟨p, l, e, s, args, below, meth, c, Q, hfl, rfl, rfl, hx, hb, -⟩ := X
  exact fun H locs ls hq hv => lv_istore_n hx hb d rfl hv hn hl (fun ls' hv' => k H locs ls' hq hv')
theorem d_istore (X : dX Wf m R cc own nL g H0 ini) {i : Nat} {x : Int} (d : decode cc pc = .ok (.istore i, 2)) (hn : i < nL) (hl : (i, zi x) :: lv.filter (fun q => !(q.1 == i) && !(q.1 + 1 == i && q.2.category == 2)) = lv') (k : dW Wf m nL g H0 cells slots (pc + 2) lv' rest n f) : dW Wf m nL g H0 cells slots pc lv (zi x :: rest) n f := by
  obtain ⟨p, l, e, s, args, below, meth, c, Q, hfl, rfl, rfl, hx, hb, -⟩ := X
  exact fun H locs ls hq hv => lv_istore hx hb d hv hn hl (fun ls' hv' => k H locs ls' hq hv')
theorem d_astore_n (X : dX Wf m R cc own nL g H0 ini) {i : Fin 4} {a : Nat} (d : decode cc pc = .ok (.astore_n i, 1)) (hn : (i : Nat) < nL) (hl : ((i : Nat), Value.ref a) :: lv.filter (fun q => !(q.1 == (i : Nat)) && !(q.1 + 1 == (i : Nat) && q.2.category == 2)) = lv') (k : dW Wf m nL g H0 cells slots (pc + 1) lv' rest n f) : dW Wf m nL g H0 cells slots pc lv (.ref a :: rest) n f := by
  obtain ⟨p, l, e, s, args, below, meth, c, Q, hfl, rfl, rfl, hx, hb, -⟩ := X
  exact fun H locs ls hq hv => lv_astore_n hx hb d rfl hv hn hl (fun ls' hv' => k H locs ls' hq hv')
theorem d_iload_n (X : dX Wf m R cc own nL g H0 ini) {i : Fin 4} {q : Nat} {x : Int} (d : decode cc pc = .ok (.iload_n i, 1)) (hq0 : lv[q]? = some ((i : Nat), zi x)) (k : dW Wf m nL g H0 cells slots (pc + 1) lv (zi x :: rest) n f) : dW Wf m nL g H0 cells slots pc lv rest n f := by
  obtain ⟨p, l, e, s, args, below, meth, c, Q, hfl, rfl, rfl, hx, hb, -⟩ := X
  exact fun H locs ls hq hv => lv_iload_n hx hb d rfl (lv_at hv q hq0) (k H locs ls hq hv)
theorem d_iinc (X : dX Wf m R cc own nL g H0 ini) {i q : Nat} {a x : Int} (d : decode cc pc = .ok (.iinc i a, 3)) (hq0 : lv[q]? = some (i, zi x)) (hn : i < nL) (hl : (i, zi (x + a)) :: lv.filter (fun q => !(q.1 == i) && !(q.1 + 1 == i && q.2.category == 2)) = lv') (k : dW Wf m nL g H0 cells slots (pc + 3) lv' rest n f) : dW Wf m nL g H0 cells slots pc lv rest n f := by
  obtain ⟨p, l, e, s, args, below, meth, c, Q, hfl, rfl, rfl, hx, hb, -⟩ := X
  exact fun H locs ls hq hv => lv_iinc hx hb d hv hq0 (Int32.ofInt_add x a).symm hn hl (fun ls' hv' => k H locs ls' hq hv')
theorem d_goto (X : dX Wf m R cc own nL g H0 ini) {off : Int} {tgt : Nat} (d : decode cc pc = .ok (.goto off, 3)) (ht : (pc : Int) + off = (tgt : Int)) (k : dW Wf m nL g H0 cells slots tgt lv rest n f) : dW Wf m nL g H0 cells slots pc lv rest n f := by
  obtain ⟨p, l, e, s, args, below, meth, c, Q, hfl, rfl, rfl, hx, hb, -⟩ := X
  exact fun H locs ls hq hv => lv_goto hx hb d ht (k H locs ls hq hv)
theorem d_icmp_ge (X : dX Wf m R cc own nL g H0 ini) {x y off : Int} {tgt : Nat} (hx1 : zr x) (hy1 : zr y) (d : decode cc pc = .ok (.if_icmp .ge off, 3)) (ht : (pc : Int) + off = (tgt : Int)) (kt : y ≤ x → dW Wf m nL g H0 cells slots tgt lv rest n f) (kf : x < y → dW Wf m nL g H0 cells slots (pc + 3) lv rest n f) : dW Wf m nL g H0 cells slots pc lv (zi y :: zi x :: rest) n f := by
  obtain ⟨p, l, e, s, args, below, meth, c, Q, hfl, rfl, rfl, hx, hb, -⟩ := X
  exact fun H locs ls hq hv => lv_icmp_ge hx hb d ht (fun q => kt ((zi_le hy1 hx1).mp q) H locs ls hq hv) (fun q => kf (Int.not_le.mp fun z => q ((zi_le hy1 hx1).mpr z)) H locs ls hq hv)
theorem d_perm (ks : List Nat) (hl : lv_pick lv ks = lv') (k : dW Wf m nL g H0 cells slots pc lv' rest n f) : dW Wf m nL g H0 cells slots pc lv rest n f := fun H locs ls hq hv => k H locs ls hq (lv_sub hv ks hl)
theorem d_congr {f' : Nat → va_E} (h : ∀ k, k < n → f k = f' k) (k : dW Wf m nL g H0 cells slots pc lv rest n f') : dW Wf m nL g H0 cells slots pc lv rest n f := fun H locs ls hq hv => k H locs ls ⟨by rw [← zwf_congr h]; exact hq.1, hq.2⟩ hv
theorem d_objInit (X : dX Wf m R cc own nL g H0 ini) {idx a : Nat} (w1 : Cond.methodLink own idx Lib.objectInit ∈ zWd) (w2 : Cond.instanceMethod Lib.objectInit ∈ zWd) (w3 : Cond.code Lib.objectInit ⟨#[0xb1]⟩ 1 none ∈ zWd) (d : decode cc pc = .ok (.invokespecial idx, 3)) (hR : 1 ≤ R.frames ∧ (rest.map fun v => v.category).sum + 12 ≤ R.locals) (k : dW Wf m nL g H0 cells slots (pc + 3) lv rest n f) : dW Wf m nL g H0 cells slots pc lv (.ref a :: rest) n f := by
  obtain ⟨p, l, e, s, args, below, meth, c, Q, hfl, rfl, rfl, hx, hb, hml, hown, hts, hns, hK, hold, hB, hB0, hi⟩ := X
  refine fun H locs ls hq hv => W.objInit hx hb hown (hts _ w1) (hts _ w2) (hts _ w3) rfl (hv.1.trans hml.symm) rfl d hR.1 ?_ (k H locs ls hq hv)
  show 2 * 0 + _ + 12 ≤ _
  have := hR.2
  omega
theorem dQ_push {n : Nat} {f : Nat → va_E} {e : va_E} {H H1 : Heap} {locs : List Loc} (hB : dB g) (hq : dQ g n f H0 H locs) (z1 : H1.size = g.2.2 n + 1) (o1 : ∀ q, q < g.2.2 n → H1[q]? = H[q]?) (he : va_at g.1 zCl (g.2.2 n, e) H1) : dQ g (n + 1) (dU1 f n e) H0 H1 locs := by
  obtain ⟨hP, hz, hS⟩ := hq
  refine ⟨fun k q hk => ?_, ?_, ?_, fun q h1 h2 => ?_, hS.2.2⟩
  · obtain ⟨hk1, rfl⟩ := zwf_lt hk
    by_cases hkn : k = n
    · subst hkn
      have : dU1 f k e k = e := by simp [dU1]
      rw [this]
      exact he
    · have e2 : dU1 f n e k = f k := by simp [dU1, hkn]
      rw [e2]
      have hat := hP k (g.2.2 k, f k) (zwf_at (by omega))
      have h1 := hB k
      have h2 := hB n
      exact hat.kept (o1 _ (show g.2.2 k < g.2.2 n by omega))
  · have h1 := hB n
    have h2 := hB (n + 1)
    omega
  · exact Nat.le_trans hS.1 (by omega)
  · have hs := hS.1
    rw [o1 q (by omega)]
    exact hS.2.1 q h1 h2
theorem d_new (X : dX Wf m R cc own nL g H0 ini) {ci idx N : Nat} {C : String} {T : u_T} {ty : Nat → FieldType} (cf : zCF ci C T ty N) (w1 : Cond.classLink own idx C ∈ zWd) (w2 : Cond.instantiable C N ∈ zWd) (w3 : Cond.initialized C ∈ zWd) (hfs : ∀ j, j < N → defaultValue (ty j) = vp_V (zf0 ci) j) (hR : cells + 1 ≤ R.cells ∧ slots + N ≤ R.slots) (d : decode cc pc = .ok (.new idx, 3)) (k : dW Wf m nL g H0 (cells + 1) (slots + N) (pc + 3) lv (.ref (g.2.2 n) :: rest) (n + 1) (dU1 f n (.inr (ci, zf0 ci)))) : dW Wf m nL g H0 cells slots pc lv rest n f := by
  obtain ⟨p, l, e, s, args, below, meth, c, Q, hfl, rfl, rfl, hx, hb, hml, hown, hts, hns, hK, hold, hB, hB0, hi⟩ := X
  obtain ⟨f1, f2, f3, f4, f5, f6⟩ := cf
  have hKn := hK.1 ci _ f2
  intro H locs ls hq hv
  refine W.newcK hx hb hown (hts _ w1) (hts _ w2) (hts _ w3) rfl d hR.1 hR.2 hKn.2.1 (h := g.2.2 n) hq.2.1 fun H1 kC hkC e1 z1 o1 => ?_
  refine k H1 locs ls (dQ_push hB hq z1 (fun q hq1 => o1 q hq1) ?_) hv
  exact ⟨_, f2, (u_born ty hts f3 hKn hkC e1 f4).to hfs⟩
theorem d_newI (X : dX Wf m R cc own nL g H0 ini) {len : Nat} {x : Int} (w : Cond.arrayClass .int ∈ zWd) (hx1 : zr x) (hx2 : x = (len : Int)) (hl : len ≤ 100000) (hR : cells + 1 ≤ R.cells ∧ slots + len ≤ R.slots) (d : decode cc pc = .ok (.newarray .int, 2)) (k : dW Wf m nL g H0 (cells + 1) (slots + len) (pc + 2) lv (.ref (g.2.2 n) :: rest) (n + 1) (dU1 f n (.inl (g.2.1 12, len, .inl (fun _ => 0))))) : dW Wf m nL g H0 cells slots pc lv (zi x :: rest) n f := by
  obtain ⟨p, l, e, s, args, below, meth, c, Q, hfl, rfl, rfl, hx, hb, hml, hown, hts, hns, hK, hold, hB, hB0, hi⟩ := X
  intro H locs ls hq hv
  have e0 : (Int32.ofInt x).toNatClampNeg = len := by rw [zi_nat hx1, hx2]; rfl
  refine va_newaK (atype := .int) hx hb (hts _ w) rfl d rfl (fun q => by have := (zi_lt0 hx1).mp q; omega) e0 (by show len * 4 ≤ 536870912; omega) hR.1 hR.2 (h := g.2.2 n) hq.2.1 fun H1 cA e1 z1 o1 hAr hNm => ?_
  have hc : cA = g.2.1 12 := Option.some.inj (hNm.symm.trans ((hK.2 0 _ rfl).2))
  subst hc
  exact k H1 locs ls (dQ_push hB hq z1 o1 e1) hv
theorem d_newZ (X : dX Wf m R cc own nL g H0 ini) {len : Nat} {x : Int} (w : Cond.arrayClass .boolean ∈ zWd) (hx1 : zr x) (hx2 : x = (len : Int)) (hl : len ≤ 100000) (hR : cells + 1 ≤ R.cells ∧ slots + len ≤ R.slots) (d : decode cc pc = .ok (.newarray .boolean, 2)) (k : dW Wf m nL g H0 (cells + 1) (slots + len) (pc + 2) lv (.ref (g.2.2 n) :: rest) (n + 1) (dU1 f n (.inl (g.2.1 13, len, .inl (fun _ => 0))))) : dW Wf m nL g H0 cells slots pc lv (zi x :: rest) n f := by
  obtain ⟨p, l, e, s, args, below, meth, c, Q, hfl, rfl, rfl, hx, hb, hml, hown, hts, hns, hK, hold, hB, hB0, hi⟩ := X
  intro H locs ls hq hv
  have e0 : (Int32.ofInt x).toNatClampNeg = len := by rw [zi_nat hx1, hx2]; rfl
  refine va_newaK (atype := .boolean) hx hb (hts _ w) rfl d rfl (fun q => by have := (zi_lt0 hx1).mp q; omega) e0 (by show len * 1 ≤ 536870912; omega) hR.1 hR.2 (h := g.2.2 n) hq.2.1 fun H1 cA e1 z1 o1 hAr hNm => ?_
  have hc : cA = g.2.1 13 := Option.some.inj (hNm.symm.trans ((hK.2 1 _ rfl).2))
  subst hc
  exact k H1 locs ls (dQ_push hB hq z1 o1 e1) hv
theorem d_newJ (X : dX Wf m R cc own nL g H0 ini) {len : Nat} {x : Int} (w : Cond.arrayClass .long ∈ zWd) (hx1 : zr x) (hx2 : x = (len : Int)) (hl : len ≤ 100000) (hR : cells + 1 ≤ R.cells ∧ slots + len ≤ R.slots) (d : decode cc pc = .ok (.newarray .long, 2)) (k : dW Wf m nL g H0 (cells + 1) (slots + len) (pc + 2) lv (.ref (g.2.2 n) :: rest) (n + 1) (dU1 f n (.inl (g.2.1 16, len, .inr (.inl (fun _ => 0)))))) : dW Wf m nL g H0 cells slots pc lv (zi x :: rest) n f := by
  obtain ⟨p, l, e, s, args, below, meth, c, Q, hfl, rfl, rfl, hx, hb, hml, hown, hts, hns, hK, hold, hB, hB0, hi⟩ := X
  intro H locs ls hq hv
  have e0 : (Int32.ofInt x).toNatClampNeg = len := by rw [zi_nat hx1, hx2]; rfl
  refine va_newaK (atype := .long) hx hb (hts _ w) rfl d rfl (fun q => by have := (zi_lt0 hx1).mp q; omega) e0 (by show len * 8 ≤ 536870912; omega) hR.1 hR.2 (h := g.2.2 n) hq.2.1 fun H1 cA e1 z1 o1 hAr hNm => ?_
  have hc : cA = g.2.1 16 := Option.some.inj (hNm.symm.trans ((hK.2 4 _ rfl).2))
  subst hc
  exact k H1 locs ls (dQ_push hB hq z1 o1 e1) hv
end DR
section DR2
variable {Wf : Nat → Nat → Heap → List Loc → JFrame → Prop} {m : MethodId} {R : Room} {cc : ByteArray} {own : String} {nL : Nat} {g : zG} {H0 : Heap} {ini : Prop} {cells slots pc n : Nat} {lv lv' : List (Nat × Value)} {rest st : List Value} {f : Nat → va_E}
theorem zAO {C : String} {s : State} (hold : zOld g s) (w : Cond.arrayOver (.object C) ∈ lw_tbl) : va_AO C s := by
  obtain ⟨s0, a0, o1, o2, o3, -⟩ := hold
  exact va_AO.moved o3.alike (va_AO.of (o1 _ w))
theorem d_newQ (X : dX Wf m R cc own nL g H0 ini) {kd t0 idx len : Nat} {C : String} {x : Int} (w1 : Cond.classLink own idx C ∈ zWd) (w2 : Cond.arrayOver (.object C) ∈ lw_tbl) (ht : (ztys g)[t0]? = some (g.2.1 kd, .object C)) (hx1 : zr x) (hx2 : x = (len : Int)) (hl : len ≤ 100000) (hR : cells + 1 ≤ R.cells ∧ slots + len ≤ R.slots) (d : decode cc pc = .ok (.anewarray idx, 3)) (k : dW Wf m nL g H0 (cells + 1) (slots + len) (pc + 3) lv (.ref (g.2.2 n) :: rest) (n + 1) (dU1 f n (.inl (g.2.1 kd, len, .inr (.inr (.inr (.inr (fun _ => none)))))))) : dW Wf m nL g H0 cells slots pc lv (zi x :: rest) n f := by
  obtain ⟨p, l, e, s, args, below, meth, c, Q, hfl, rfl, rfl, hx, hb, hml, hown, hts, hns, hK, hold, hB, hB0, hi⟩ := X
  intro H locs ls hq hv
  have e0 : (Int32.ofInt x).toNatClampNeg = len := by rw [zi_nat hx1, hx2]; rfl
  refine W.anew hx hb hown (hts _ w1) (va_AO.use (zAO hold w2)) rfl d rfl (fun q => by have := (zi_lt0 hx1).mp q; omega) (by rw [e0]; show len * 4 ≤ 536870912; omega) hR.1 (by rw [e0]; exact hR.2) fun cA kA comp f1 f2 f3 f4 => ?_
  obtain ⟨kA', comp', g1, g2, g3, g4⟩ := (hK.2 t0 _ ht).2
  have hc : cA = g.2.1 kd := Option.some.inj (f1.symm.trans g4)
  subst hc
  have hk := k (H.push ({ cls := g.2.1 kd, slots := Array.replicate (Int32.ofInt x).toNatClampNeg .null, vm := .none } : Cell)) locs ls (dQ_push hB hq (by rw [Array.size_push, hq.2.1]) (fun q hq1 => by rw [Array.getElem?_push, if_neg (by have := hq.2.1; omega)]) (by
    show (H.push _)[g.2.2 n]? = some (vp_cell _ _)
    rw [vp_cell_q, ← hq.2.1, Array.getElem?_push_size, e0]
    exact congrArg some (arrV_new ..))) hv
  have hz := hq.2.1
  rw [← hz] at hk
  rw [e0] at hk ⊢
  exact hk
theorem dQ_set {a : Nat} {e : va_E} {H1 : Heap} {locs1 : List Loc} {H : Heap} (hz : H1.size = H.size) (hs : H.size = g.2.2 n) (h1 : va_P g.1 zCl ((zwf g n f).set a (g.2.2 a, e)) H1) (h3 : va_S (dA g) H0 H1 locs1) : dQ g n (dU1 f a e) H0 H1 locs1 := by
  rw [zwf_set] at h1
  exact ⟨h1, hz.trans hs, h3⟩
end DR2
section DR3
variable {Wf : Nat → Nat → Heap → List Loc → JFrame → Prop} {m : MethodId} {R : Room} {cc : ByteArray} {own : String} {nL : Nat} {g : zG} {H0 : Heap} {ini : Prop} {cells slots pc n : Nat} {lv lv' : List (Nat × Value)} {rest st : List Value} {f : Nat → va_E}
theorem d_putF (X : dX Wf m R cc own nL g H0 ini) (hini : ini) {ci a j idx N : Nat} {v : Value} {C : String} {T : u_T} {ty : Nat → FieldType} {fs : List Value} (cf : zCF ci C T ty N) (ha : a < n) (hf : f a = .inr (ci, fs)) (hj : j < N) (w : Cond.fieldLink own idx C (T j).2.1 (T j).2.2.1 ∈ zWd) (hT : (T j).1 = C) (hown2 : (T j).1 = own) (hfin : (T j).2.2.2 = true) (hnf : narrow (ty j) v = v ∧ fits (ty j) v = true) (hl : j < fs.length) (d : decode cc pc = .ok (.putfield idx, 3)) (k : dW Wf m nL g H0 cells slots (pc + 3) lv rest n (dU1 f a (.inr (ci, fs.set j v)))) : dW Wf m nL g H0 cells slots pc lv (v :: .ref (g.2.2 a) :: rest) n f := by
  obtain ⟨p, l, e, s, args, below, meth, c, Q, hfl, rfl, rfl, hx, hb, hml, hown, hts, hns, hK, hold, hB, hB0, hi⟩ := X
  obtain ⟨f1, f2, f3, f4, f5, f6⟩ := cf
  intro H locs ls hq hv
  have hD : va_D (dA g) (zwf g n f) := dD hB
  have he : (zwf g n f)[a]? = some (g.2.2 a, .inr (ci, fs)) := by rw [zwf_at ha, hf]
  have hap := va_apart (own := own) hts f3 ty f4 f5 hK f2
  obtain ⟨r, h1, cell, q1, q2, q3, q4⟩ := hq.1 a _ he
  have hr : r = (C, T, N) := Option.some.inj (h1.symm.trans f2)
  subst hr
  obtain ⟨hS, hfc, kC, hkC, hkind⟩ := hK.1 ci _ f2
  obtain ⟨cf', kf, fi, fd, hi2, hsl⟩ := hS j hj
  have hlay := hts _ (f3 _ (u_in_lay hj))
  unfold u_lay at hlay
  rw [if_pos hfin] at hlay
  have hst := (u_facts hfc hkC (u_lays hts f3 hj) hi2).1
  have hcf : m.cls = cf' := by
    obtain ⟨_, _, c', _, _, _, -, -, hf', -, -, -, hown3, -⟩ := Cond.laysFinal_spec hlay
    have e1 : c' = cf' := by have := hi2.symm.trans hf'; simp at this; exact this.1.symm
    rw [hown2] at hown3
    rw [← e1]; exact Option.some.inj (hown.symm.trans hown3)
  have h6 := u_fits hfc hkC hkind (Or.inr hlay) hi2 (f4 j hj) hnf.1 hnf.2
  refine W.putFinK hx hb hown (hts _ w) (by rw [← hT]; exact hi2) hst hcf (hi hini) (by rw [q2]; exact h6) q1 q3 (by rw [hsl]; exact k2_hasslot (q4 j hj)) rfl rfl d fun H' e1 e2 e3 => ?_
  rw [hsl] at e1 ⊢
  refine k H' _ ls (dQ_set e2 hq.2.1 (hq.1.set hD he ⟨_, f2, t_OB.to (V := updV (vp_V fs) j v) ⟨_, e1, q2, q3, t_set q4 hap hj v⟩ (fun i _ => vp_updV_set hl v i)⟩ e3) (hq.2.2.put e2 e3 (hD.2 a _ he))) hv
theorem d_put (X : dX Wf m R cc own nL g H0 ini) {ci a j idx N : Nat} {v : Value} {C : String} {T : u_T} {ty : Nat → FieldType} {fs : List Value} (cf : zCF ci C T ty N) (ha : a < n) (hf : f a = .inr (ci, fs)) (hj : j < N) (w : Cond.fieldLink own idx C (T j).2.1 (T j).2.2.1 ∈ zWd) (hT : (T j).1 = C) (hfin : (T j).2.2.2 = false) (hnf : narrow (ty j) v = v ∧ fits (ty j) v = true) (hl : j < fs.length) (d : decode cc pc = .ok (.putfield idx, 3)) (k : dW Wf m nL g H0 cells slots (pc + 3) lv rest n (dU1 f a (.inr (ci, fs.set j v)))) : dW Wf m nL g H0 cells slots pc lv (v :: .ref (g.2.2 a) :: rest) n f := by
  obtain ⟨p, l, e, s, args, below, meth, c, Q, hfl, rfl, rfl, hx, hb, hml, hown, hts, hns, hK, hold, hB, hB0, hi⟩ := X
  obtain ⟨f1, f2, f3, f4, f5, f6⟩ := cf
  intro H locs ls hq hv
  have hD : va_D (dA g) (zwf g n f) := dD hB
  have he : (zwf g n f)[a]? = some (g.2.2 a, .inr (ci, fs)) := by rw [zwf_at ha, hf]
  have hap := va_apart (own := own) hts f3 ty f4 f5 hK f2
  obtain ⟨r, h1, cell, q1, q2, q3, q4⟩ := hq.1 a _ he
  have hr : r = (C, T, N) := Option.some.inj (h1.symm.trans f2)
  subst hr
  obtain ⟨hS, hfc, kC, hkC, hkind⟩ := hK.1 ci _ f2
  obtain ⟨cf', kf, fi, fd, hi2, hsl⟩ := hS j hj
  have hlay := hts _ (f3 _ (u_in_lay hj))
  unfold u_lay at hlay
  rw [if_neg (by rw [hfin]; decide)] at hlay
  have hst := (u_facts hfc hkC (u_lays hts f3 hj) hi2).1
  have h6 := u_store hfc hkC hkind hlay hi2 (f4 j hj) hnf.1 hnf.2
  refine W.putK hx hb (f := fd) ⟨hown, hts _ w, ⟨_, _, _, by rw [← hT]; exact hi2⟩, hst⟩ (by rw [q2]; exact h6) q1 q3 (by rw [hsl]; exact k2_hasslot (q4 j hj)) rfl rfl d fun H' e1 e2 e3 => ?_
  rw [hsl] at e1 ⊢
  refine k H' _ ls (dQ_set e2 hq.2.1 (hq.1.set hD he ⟨_, f2, t_OB.to (V := updV (vp_V fs) j v) ⟨_, e1, q2, q3, t_set q4 hap hj v⟩ (fun i _ => vp_updV_set hl v i)⟩ e3) (hq.2.2.put e2 e3 (hD.2 a _ he))) hv
theorem d_getr (X : dX Wf m R cc own nL g H0 ini) {ci a j idx N : Nat} {v : Value} {C : String} {T : u_T} {ty : Nat → FieldType} {fs : List Value} (cf : zCF ci C T ty N) (ha : a < n) (hf : f a = .inr (ci, fs)) (hj : j < N) (w : Cond.fieldLink own idx C (T j).2.1 (T j).2.2.1 ∈ zWd) (hT : (T j).1 = C) (hfs : fs[j]? = some v) (d : decode cc pc = .ok (.getfield idx, 3)) (k : dW Wf m nL g H0 cells slots (pc + 3) lv (v :: rest) n f) : dW Wf m nL g H0 cells slots pc lv (.ref (g.2.2 a) :: rest) n f := by
  obtain ⟨p, l, e, s, args, below, meth, c, Q, hfl, rfl, rfl, hx, hb, hml, hown, hts, hns, hK, hold, hB, hB0, hi⟩ := X
  obtain ⟨f1, f2, f3, f4, f5, f6⟩ := cf
  exact fun H locs ls hq hv => va_get hx hb hts f3 hown hK hq.1 a (by rw [zwf_at ha, hf]) f2 j hj (hts _ w) (fun x hx => by rw [hT] at hx; exact hx) hfs d (k H locs ls hq hv)
theorem d_iast (X : dX Wf m R cc own nL g H0 ini) {a len i : Nat} {x : Int} {ix : Int} {cnt : Nat → Int32} (ha : a < n) (hf : f a = .inl (g.2.1 12, len, .inl cnt)) (hi1 : zr ix) (hi2 : ix = (i : Int)) (hi3 : i < len) (d : decode cc pc = .ok (.iastore, 1)) (k : dW Wf m nL g H0 cells slots (pc + 1) lv rest n (dU1 f a (.inl (g.2.1 12, len, .inl (upd cnt i (Int32.ofInt x)))))) : dW Wf m nL g H0 cells slots pc lv (zi x :: zi ix :: .ref (g.2.2 a) :: rest) n f := by
  obtain ⟨p, l, e, s, args, below, meth, c, Q, hfl, rfl, rfl, hx, hb, hml, hown, hts, hns, hK, hold, hB, hB0, hi⟩ := X
  intro H locs ls hq hv
  have hD : va_D (dA g) (zwf g n f) := dD hB
  have he : (zwf g n f)[a]? = some (g.2.2 a, .inl (g.2.1 12, len, .inl cnt)) := by rw [zwf_at ha, hf]
  have e0 : (Int32.ofInt ix).toNatClampNeg = i := by rw [zi_nat hi1, hi2]; rfl
  have hin : vp_in (Int32.ofInt ix) len := zi_in hi1 (by omega) (by omega)
  refine W.iast hx hb (hq.1 a _ he) ((hK.2 0 _ rfl).1 len (fun j => .int (cnt j))) (fun q => by cases q) (by show ¬ (Int32.ofInt ix < 0 ∨ (arrV _ _ _).slots.size ≤ _); rw [arrV_size]; exact hin) rfl rfl d fun H1 e1 z oq => ?_
  rw [e0] at e1 ⊢
  refine k H1 _ ls (dQ_set z hq.2.1 (hq.1.set hD he ?_ oq) (hq.2.2.put z oq (hD.2 a _ he))) hv
  show H1[g.2.2 a]? = some (vp_cell _ _)
  rw [e1]
  rw [vp_cell_i, vp_cell_i, arrV_store]
  congr 2
  funext q
  by_cases hqq : q = i
  · subst hqq
    simp [updV, upd]
  · simp [updV, upd, hqq]
theorem d_aast (X : dX Wf m R cc own nL g H0 ini) {a len i b ci kd t0 : Nat} {ix : Int} {r : vw_C} {vs : List Value} {cnt : Nat → Option Nat} (ha : a < n) (hf : f a = .inl (g.2.1 kd, len, .inr (.inr (.inr (.inr cnt))))) (hb' : b < n) (hfb : f b = .inr (ci, vs)) (hc : zCl[ci]? = some r) (ht : (ztys g)[t0]? = some (g.2.1 kd, .object r.1)) (hi1 : zr ix) (hi2 : ix = (i : Int)) (hi3 : i < len) (d : decode cc pc = .ok (.aastore, 1)) (k : dW Wf m nL g H0 cells slots (pc + 1) lv rest n (dU1 f a (.inl (g.2.1 kd, len, .inr (.inr (.inr (.inr (va_up cnt i (some (g.2.2 b)))))))))) : dW Wf m nL g H0 cells slots pc lv (.ref (g.2.2 b) :: zi ix :: .ref (g.2.2 a) :: rest) n f := by
  obtain ⟨p, l, e, s, args, below, meth, c, Q, hfl, rfl, rfl, hx, hb, hml, hown, hts, hns, hK, hold, hB, hB0, hi⟩ := X
  intro H locs ls hq hv
  have hD : va_D (dA g) (zwf g n f) := dD hB
  have he : (zwf g n f)[a]? = some (g.2.2 a, .inl (g.2.1 kd, len, .inr (.inr (.inr (.inr cnt))))) := by rw [zwf_at ha, hf]
  have hev : (zwf g n f)[b]? = some (g.2.2 b, .inr (ci, vs)) := by rw [zwf_at hb', hfb]
  have e0 : (Int32.ofInt ix).toNatClampNeg = i := by rw [zi_nat hi1, hi2]; rfl
  obtain ⟨r', hr', cellV, g1, g2, g3, -⟩ := hq.1 b _ hev
  have hcls := (hK.1 ci r hc).2
  obtain ⟨kA, comp, k1, k2, k3, -⟩ := (hK.2 t0 _ ht).2
  have hcomp : comp = g.1.1 ci := Option.some.inj (k3.symm.trans hcls.1)
  subst hcomp
  obtain ⟨kC, hkC, -⟩ := hcls.2
  refine W.aast hx hb (hq.1 a _ he) (fun q h => by cases h) (fun h => by cases h) k1 k2 rfl hkC ⟨fun q => by have := (zi_lt0 hi1).mp q; omega, by show _ < (arrV _ _ _).slots.size; rw [arrV_size, e0]; exact hi3⟩ g1 (fun q h => by rw [g3] at h; cases h) (by rw [g2]; exact hkC) (by rw [g2]; exact va_assign hcls) rfl rfl d fun H1 e1 z oq => ?_
  rw [e0] at e1 ⊢
  refine k H1 _ ls (dQ_set z hq.2.1 (hq.1.set hD he ?_ oq) (hq.2.2.put z oq (hD.2 a _ he))) hv
  show H1[g.2.2 a]? = some (vp_cell _ _)
  rw [e1]
  rw [vp_cell_q, vp_cell_q, arrV_store]
  congr 2
  funext q
  by_cases hqq : q = i
  · subst hqq
    simp [updV, va_up, va_rf]
  · simp [updV, va_up, hqq]
end DR3
def dMet (l : Launch) (y : MethodName) (bytes : ByteArray) (maxL : Nat) (rm : Room) (g : zG) (avs : List Value) (n : Nat) (f : Nat → va_E) (Post : Nat → (Nat → va_E) → Prop) (mc ms : Nat) : Prop :=
  Met l y (Cond.code y bytes maxL none :: zWd) rm (va_Pc avs (fun U => dUw g n f U)) (fun _ st o t => (o = .returned none ∧ ∃ (n' : Nat) (f' : Nat → va_E), Post n' f' ∧ dUw g n' f' t) ∧ va_F (dA g) st t) mc ms (dA g)
def dEx (Wf : Nat → Nat → Heap → List Loc → JFrame → Prop) (m : MethodId) (cc : ByteArray) (nL : Nat) (g : zG) (H0 : Heap) (mc ms : Nat) (Post : Nat → (Nat → va_E) → Prop) : Prop := ∀ (pc : Nat) (lv : List (Nat × Value)) (n' : Nat) (f' : Nat → va_E), decode cc pc = .ok (.return_, 1) → Post n' f' → dW Wf m nL g H0 mc ms pc lv [] n' f'
def zMI (y : MethodName) (bytes : ByteArray) (maxL k : Nat) : Prop := y.name = "<init>" ∧ Cond.instanceMethod y ∈ zWd ∧ Cond.initialized y.cls ∈ zWd ∧ Cond.code y bytes maxL none ∈ zWd ∧ (y.cls ≠ "java/lang/invoke/MethodHandle" ∧ y.cls ≠ "java/lang/invoke/VarHandle" ∧ (parseMethodDescriptor y.desc).map (fun d => d.parameters.length) = some k)
theorem dUw_moved {g : zG} {n : Nat} {f : Nat → va_E} {H : Heap} {locs : List Loc} {s U : State} (hq : dQ g n f s.heap H locs) (hK : va_K g.1 zCl (ztys g) s) (hns : ∀ w ∈ zNs, va_Nw w s) (hold : zOld g s) (hU : U.heap = H) (hW : s.WarmedH U.vm) : dUw g n f U :=
  ⟨by rw [hU]; exact hq.1, va_K.moved hW.alike hK, zns_warm hW hns, hold.moveD hq.2.2 hU hW, by rw [hU]; exact hq.2.1⟩
theorem dBlind {avs : List Value} {g : zG} {n : Nat} {f : Nat → va_E} : FrameBlind (va_Pc avs (fun U => dUw g n f U)) := by
  intro a U fr mk q
  obtain ⟨q0, qP, qK, qN, ⟨s0, a0, o1, o2, o3, o4, o5, o6⟩, qz⟩ := q
  exact ⟨q0, qP, va_K.moved (u := U) (U := U.calling fr mk a) (Vm.Alike.refl U.vm) qK, zns_same (u := U) (U := U.calling fr mk a) rfl qN, ⟨s0, a0, o1, o2, o3, o4, o5, o6⟩, qz⟩
theorem dMet_of {l : Launch} {y : MethodName} {bytes : ByteArray} {maxL mc ms : Nat} {rm : Room} {g : zG} {avs : List Value} {n : Nat} {f : Nat → va_E} {Post : Nat → (Nat → va_E) → Prop} {own : String} (hfl : l.flags = flags0) (hB : dB g) (hy : plainName y.cls = true) (hown : y.cls = own) (hyn : y.name = "<init>") (hent : (lg_sl avs).length ≤ maxL)
    (body : ∀ (Wf : Nat → Nat → Heap → List Loc → JFrame → Prop) (m : MethodId) (H0 : Heap), dX Wf m rm bytes own maxL g H0 True → dEx Wf m bytes maxL g H0 mc ms Post → dW Wf m maxL g H0 0 0 0 (lv_args 0 avs) [] n f) : dMet l y bytes maxL rm g avs n f Post mc ms := by
  refine Met.ofW (cc := bytes) (maxL := maxL) (ret := none) hy rfl ?_
  intro p e s m args below meth c s₁ B hml hv
  obtain ⟨rfl, hP, hK, hN, hold, hz⟩ := hv
  have hx := B.exec
  have hb := B.bytes
  have hr := B.returns
  have hts := atoms_spec (ws := Cond.code y bytes maxL none :: zWd) B.pre
  have hts' : ∀ w ∈ zWd, w.before avs.toArray s = true := fun w hw => hts w (List.mem_cons_of_mem _ hw)
  have how : s.vm.findClass own = some m.cls := by rw [← hown]; exact findClass_of_methodNamed B.named
  have hlocks := B.notSynchronized
  have hin : meth.name = "<init>" := (name_of_methodNamed B.named B.method).1.trans hyn
  have hl := lv_entry avs (n := maxL) hent
  rw [lg_entry_eq]
  have hB0 : g.2.2 0 ≤ s.heap.size := by
    have := hB n
    omega
  refine body (fun cells slots H locs gg => W p l e rm s m avs.toArray below meth c H locs cells slots (MQ below (fun _ st o t => (o = .returned none ∧ ∃ (n' : Nat) (f' : Nat → va_E), Post n' f' ∧ dUw g n' f' t) ∧ va_F (dA g) st t) avs.toArray s mc ms (dA g)) gg) m s.heap ⟨p, l, e, s, avs.toArray, below, meth, c, _, hfl, rfl, rfl, hx, hb, hml, how, hts', hN, hK, hold, hB, hB0, fun _ => hin⟩ ?_ s.heap [] _ ⟨hP, hz, va_S.rf⟩ hl
  intro pc lv n' f' d hp H locs ls hq hv
  exact W.vret hx hb hr (fun t ht hW => ⟨⟨rfl, n', f', hp, dUw_moved hq hK hN hold ht hW⟩, hq.2.2.F ht⟩) hq.2.2.2.2 d
section DC
variable {Wf : Nat → Nat → Heap → List Loc → JFrame → Prop} {m : MethodId} {R : Room} {cc : ByteArray} {own : String} {nL : Nat} {g : zG} {H0 : Heap} {ini : Prop} {cells slots pc n : Nat} {lv lv' : List (Nat × Value)} {rest st : List Value} {f : Nat → va_E}
theorem d_callIN (X : dX Wf m R cc own nL g H0 ini) {y : MethodName} {bytes : ByteArray} {maxL k idx a mc ms : Nat} {rm : Room} {host : String} {As : List Value} {Post : Nat → (Nat → va_E) → Prop} (hM : ∀ l, l.flags = flags0 → dMet l y bytes maxL rm g (.ref (g.2.2 a) :: As) n f Post mc ms) (mf : zMI y bytes maxL k) (wl : Cond.methodLinkNest own idx y host ∈ zNs) (hR : (rm.frames + 1 ≤ R.frames ∧ 8 + (maxL + 11) + rm.locals ≤ R.locals) ∧ rm.cells = mc ∧ rm.slots = ms) (hcs : cells + mc ≤ R.cells ∧ slots + ms ≤ R.slots) (hk : As.length = k) (d : decode cc pc = .ok (.invokespecial idx, 3)) (hst : st = As.reverse ++ .ref (g.2.2 a) :: rest) (hW : (rest.map fun v => v.category).sum ≤ 8)
    (kk : ∀ (n' : Nat) (f' : Nat → va_E), Post n' f' → dW Wf m nL g H0 (cells + mc) (slots + ms) (pc + 3) lv rest n' f') : dW Wf m nL g H0 cells slots pc lv st n f := by
  obtain ⟨p, l, e, s, args, below, meth, c, Q, hfl, rfl, rfl, hx, hb, hml, hown, hts, hns, hK, hold, hB, hB0, hi⟩ := X
  obtain ⟨wn, wi, wini, wc, hd⟩ := mf
  intro H locs ls hq hv
  have hr := va_runIN (b := g.2.2 a) (As := As) (rest := rest) (g := F0 m pc ls st) (locs := locs) (cells := cells) (slots := slots) (H := H) (e := e) (below := below) (meth := meth) (R := R) ⟨hx, hb, hml, hown, hts⟩ (hM l hfl) ⟨va_cnB k hts (zGood wc) rfl hR.2.1 hR.2.2 (hns _ wl) (hts _ wini) hd hR.1, wn, hts _ wi⟩ ⟨dBlind, fun U hU hW => ⟨rfl, dUw_moved hq hK hns hold hU hW⟩⟩ rfl hk hv.1 hst (lv_room hW) d hcs
  intro T hT X
  obtain ⟨v, st₀, t, T', L, h0, X', hL, e1, e2, ⟨⟨hv', n', f', hp, hu⟩, hz, hkp⟩, stp⟩ := hr T hT X
  cases hv'
  rw [h0] at hz hkp
  have hS := hq.2.2
  obtain ⟨t2, a1, b1⟩ := kk n' f' hp T'.heap (locs ++ L) ls ⟨by rw [e1]; exact hu.1, by rw [e1]; exact hu.2.2.2.2, Nat.le_trans hS.1 (by rw [e1]; exact hz), fun q h1 h2 => by rw [e1, hkp q (Nat.lt_of_lt_of_le h1 hS.1) h2]; exact hS.2.1 q h1 h2, fun q hq1 => by
    rcases List.mem_append.mp hq1 with h | h
    · exact hS.2.2 q h
    · exact hL q h⟩ hv T' rfl X'
  exact ⟨t2, stp t2 a1, b1⟩
theorem d_callI (X : dX Wf m R cc own nL g H0 ini) {y : MethodName} {bytes : ByteArray} {maxL k idx a mc ms : Nat} {rm : Room} {As : List Value} {Post : Nat → (Nat → va_E) → Prop} (hM : ∀ l, l.flags = flags0 → dMet l y bytes maxL rm g (.ref (g.2.2 a) :: As) n f Post mc ms) (mf : zMI y bytes maxL k) (wl : Cond.methodLink own idx y ∈ zWd) (hR : (rm.frames + 1 ≤ R.frames ∧ 8 + (maxL + 11) + rm.locals ≤ R.locals) ∧ rm.cells = mc ∧ rm.slots = ms) (hcs : cells + mc ≤ R.cells ∧ slots + ms ≤ R.slots) (hk : As.length = k) (d : decode cc pc = .ok (.invokespecial idx, 3)) (hst : st = As.reverse ++ .ref (g.2.2 a) :: rest) (hW : (rest.map fun v => v.category).sum ≤ 8)
    (kk : ∀ (n' : Nat) (f' : Nat → va_E), Post n' f' → dW Wf m nL g H0 (cells + mc) (slots + ms) (pc + 3) lv rest n' f') : dW Wf m nL g H0 cells slots pc lv st n f := by
  obtain ⟨p, l, e, s, args, below, meth, c, Q, hfl, rfl, rfl, hx, hb, hml, hown, hts, hns, hK, hold, hB, hB0, hi⟩ := X
  obtain ⟨wn, wi, wini, wc, hd⟩ := mf
  intro H locs ls hq hv
  have hr := va_runI (b := g.2.2 a) (As := As) (rest := rest) (g := F0 m pc ls st) (locs := locs) (cells := cells) (slots := slots) (H := H) (e := e) (below := below) (meth := meth) (R := R) ⟨hx, hb, hml, hown, hts⟩ (hM l hfl) ⟨callB_of k hts (zGood wc) rfl hR.2.1 hR.2.2 (hts _ wini) (hts _ wl) hd hR.1, wn, hts _ wi⟩ ⟨dBlind, fun U hU hW => ⟨rfl, dUw_moved hq hK hns hold hU hW⟩⟩ rfl hk hv.1 hst (lv_room hW) d hcs
  intro T hT X
  obtain ⟨v, st₀, t, T', L, h0, X', hL, e1, e2, ⟨⟨hv', n', f', hp, hu⟩, hz, hkp⟩, stp⟩ := hr T hT X
  cases hv'
  rw [h0] at hz hkp
  have hS := hq.2.2
  obtain ⟨t2, a1, b1⟩ := kk n' f' hp T'.heap (locs ++ L) ls ⟨by rw [e1]; exact hu.1, by rw [e1]; exact hu.2.2.2.2, Nat.le_trans hS.1 (by rw [e1]; exact hz), fun q h1 h2 => by rw [e1, hkp q (Nat.lt_of_lt_of_le h1 hS.1) h2]; exact hS.2.1 q h1 h2, fun q hq1 => by
    rcases List.mem_append.mp hq1 with h | h
    · exact hS.2.2 q h
    · exact hL q h⟩ hv T' rfl X'
  exact ⟨t2, stp t2 a1, b1⟩
/-- all cells are as the picture has them: go on with the picture -/
theorem d_pic (hB : dB g) (hn : H0.size ≤ g.2.2 n) {h : zH} (k : zW (Wf cells slots) m nL g n H0 pc lv st h) : dW Wf m nL g H0 cells slots pc lv st n (zE g h) := by
  intro H locs ls hq hv
  refine k H locs ls ⟨hq.1, ⟨(dD (n := n) (f := zE g h) hB).1, fun k q hk => ?_⟩, hq.2.2.1, fun q h1 h2 => ?_, fun l hl => ?_⟩ hv
  · obtain ⟨hk1, rfl⟩ := zwf_lt hk
    exact Or.inl ⟨k, hk1, rfl⟩
  · refine hq.2.2.2.1 q h1 (fun z => h2 ?_)
    have z' : g.2.2 0 ≤ q := z
    have hb1 := hB (q - g.2.2 0)
    have hb2 := hB n
    exact Or.inl ⟨q - g.2.2 0, by omega, by omega⟩
  · have z : g.2.2 0 ≤ l.base := hq.2.2.2.2 l hl
    obtain ⟨b9, hb9⟩ : ∃ b9 : Nat, b9 = l.base := ⟨_, rfl⟩
    rw [← hb9] at z ⊢
    by_cases hk : b9 - g.2.2 0 < n
    · have hb1 := hB (b9 - g.2.2 0)
      exact Or.inl ⟨_, hk, by omega⟩
    · have hb2 := hB n
      exact Or.inr (by omega)
end DC

/-! the law's helpers: they call a method that may throw, and catch what it throws -/
def zNc (E nm : String) : Prop := ∀ (a0 : Array Value) (s0 : State), (Jvm.Cond.and given_1 narrow_1).before a0 s0 = true → (Cond.not (.castable E nm)).before a0 s0 = true
/-- the handler of E at pc -/
def zHr (hh : List (Nat × Nat × Nat × Nat)) (pc : Nat) (E : String) (hp : Nat) : Prop :=
  ∃ (pre : List ExceptionTableEntry) (x : ExceptionTableEntry) (suf : List ExceptionTableEntry), tableOf hh = pre ++ x :: suf ∧ (∀ z ∈ pre, covers z pc = false ∨ (z.catchType ≠ 0 ∧ ∃ nm : String, Cond.classLink "AliasStreamsLaw" z.catchType nm ∈ zWd ∧ zNc E nm)) ∧ covers x pc = true ∧ x.catchType ≠ 0 ∧ Cond.classLink "AliasStreamsLaw" x.catchType E ∈ zWd ∧ Cond.castable E E ∈ lw_tbl ∧ x.handlerPc = hp
def zMetW (l : Launch) (y : MethodName) (bytes : ByteArray) (maxL : Nat) (ret : Option FieldType) (hh : List (Nat × Nat × Nat × Nat)) (rm : Room) (g : zG) (n : Nat) (avs : List Value) (h : zH) (Post : Option Value → zH → Prop) : Prop :=
  ∀ sz : Nat, Met l y (Cond.codeWith y bytes maxL ret hh :: zWd) rm (va_Pc avs (fun U => U.heap.size = sz ∧ zU g n h U)) (fun _ st o t => (∃ (v : Option Value) (h' : zH), o = .returned v ∧ Post v h' ∧ zU g n h' t) ∧ va_F (zA g n sz) st t) 1 6 (zA g n sz)
/-- a call of one of the class's methods, from Wf0, before which nothing was made, to Wf1 -/
def zLk (Wf0 Wf1 : Heap → List Loc → JFrame → Prop) (m : MethodId) (R : Room) (cc : ByteArray) (nL : Nat) (g : zG) (n : Nat) (H0 : Heap) (hh : List (Nat × Nat × Nat × Nat)) : Prop :=
  ∀ (pc : Nat) (lv : List (Nat × Value)) (rest st As : List Value) (h : zH) (y : MethodName) (bytes : ByteArray) (maxL : Nat) (ret : Option FieldType) (rm : Room) (k idx a : Nat) (Post : Option Value → zH → Prop) (XK : Nat → zH → Prop),
    (∀ l, l.flags = flags0 → zMetX l y bytes maxL ret rm g n (.ref (g.2.2 a) :: As) h Post XK) → zO n a 10 → y.cls = "AliasStreams" → zMV y bytes maxL ret k → Cond.methodLink "AliasStreamsLaw" idx y ∈ zWd → ((rm.frames + 1 ≤ R.frames ∧ 8 + (maxL + 11) + rm.locals ≤ R.locals) ∧ rm.cells = 1 ∧ rm.slots = 6) → As.length = k → decode cc pc = .ok (.invokevirtual idx, 3) → st = As.reverse ++ .ref (g.2.2 a) :: rest → (rest.map fun v => v.category).sum ≤ 8 →
    (∀ (v : Option Value) (h' : zH), Post v h' → zW Wf1 m nL g n H0 (pc + 3) lv (v.toList ++ rest) h') →
    (∀ (code : Nat) (E : String) (h' : zH), (code, E) ∈ zExc.map (fun q => (q.1, q.2.1)) → zh h' → XK code h' → ∃ hp, zHr hh pc E hp ∧ ∀ q : Nat, zW Wf1 m nL g n H0 hp lv [.ref q] h') →
    zW Wf0 m nL g n H0 pc lv st h
theorem zMetW_of {l : Launch} {y : MethodName} {bytes : ByteArray} {maxL : Nat} {hh : List (Nat × Nat × Nat × Nat)} {rm : Room} {g : zG} {n : Nat} {avs : List Value} {h : zH} {Post : Option Value → zH → Prop} (hfl : l.flags = flags0) (hy : plainName y.cls = true) (hown : y.cls = "AliasStreamsLaw") (hent : (lg_sl avs).length ≤ maxL) (hrm : rm.cells = 1 ∧ rm.slots = 6)
    (body : ∀ (Wf0 Wf1 : Heap → List Loc → JFrame → Prop) (m : MethodId) (H0 : Heap), zX Wf0 m rm bytes "AliasStreamsLaw" maxL g n H0 → zX Wf1 m rm bytes "AliasStreamsLaw" maxL g n H0 → zEx Wf1 m bytes (some .int) maxL g n H0 Post → zLk Wf0 Wf1 m rm bytes maxL g n H0 hh → zW Wf0 m maxL g n H0 0 (lv_args 0 avs) [] h) : zMetW l y bytes maxL (some .int) hh rm g n avs h Post := by
  intro sz
  refine va_MetW (cc := bytes) (maxL := maxL) (ret := some .int) (hh := hh) hy rfl ?_
  intro p e s m args below meth c s₁ B hml hv
  obtain ⟨rfl, hsz, hP, hK, hN, hD, hold⟩ := hv
  have hx := B.exec
  have hb := B.bytes
  have hr := B.returns
  have hts := atoms_spec (ws := Cond.codeWith y bytes maxL (some .int) hh :: zWd) B.pre
  have htab := vx_table (x := y) B (hts _ List.mem_cons_self)
  have hts' : ∀ w ∈ zWd, w.before avs.toArray s = true := fun w hw => hts w (List.mem_cons_of_mem _ hw)
  have how : s.vm.findClass "AliasStreamsLaw" = some m.cls := by rw [← hown]; exact findClass_of_methodNamed B.named
  have hlocks := B.notSynchronized
  subst hsz
  have hq : zQ g n h s.heap s.heap [] := by
    refine ⟨hP, ⟨hD.1, fun k q hk => ?_⟩, va_S.rf⟩
    have hl := (List.getElem?_eq_some_iff.mp hk).1
    have hn : k < n := by simpa [zws] using hl
    rw [zws_at hn] at hk
    cases hk
    exact Or.inl ⟨k, hn, rfl⟩
  have hl := lv_entry avs (n := maxL) hent
  rw [lg_entry_eq]
  have hRc : 1 ≤ rm.cells := by rw [hrm.1]; exact Nat.le_refl 1
  have hRs : 6 ≤ rm.slots := by rw [hrm.2]; exact Nat.le_refl 6
  refine body _ (fun H locs gg => W p l e rm s m avs.toArray below meth c H locs 1 6 (MQ below (fun _ st o t => (∃ (v : Option Value) (h' : zH), o = .returned v ∧ Post v h' ∧ zU g n h' t) ∧ va_F (zA g n s.heap.size) st t) avs.toArray s 1 6 (zA g n s.heap.size)) gg) m s.heap ⟨p, l, e, s, avs.toArray, below, meth, c, 0, 0, _, hfl, rfl, rfl, hx, hb, hml, how, hts', hN, hK, Nat.zero_le _, Nat.zero_le _, hold⟩ ⟨p, l, e, s, avs.toArray, below, meth, c, 1, 6, _, hfl, rfl, rfl, hx, hb, hml, how, hts', hN, hK, hRc, hRs, hold⟩ ?_ ?_ s.heap [] _ hq hl
  · have fin : ∀ (v : Option Value) (h' : zH) (H : Heap) (locs : List Loc) (t : State), Post v h' → zQ g n h' s.heap H locs → t.heap = H → s.WarmedH t.vm → (∃ (v' : Option Value) (h'' : zH), Outcome.returned v = .returned v' ∧ Post v' h'' ∧ zU g n h'' t) ∧ va_F (zA g n s.heap.size) s t :=
      fun v h' H locs t hp hq ht hW => ⟨⟨v, h', rfl, hp, zU_moved hq hK hN hold ht hW⟩, hq.2.2.F ht⟩
    refine ⟨fun e => (by cases e), fun e => ?_, fun e => (by cases e), fun e => (by cases e), fun C e => (by cases e)⟩
    intro pc lv h' x d hp H locs ls hq hv
    exact W.iret hx hb hr (fun t ht hW => fin _ h' H locs t hp hq ht hW) hq.2.2.2.2 d
  · intro pc lv rest st As h1 y1 bytes1 maxL1 ret1 rm1 k idx a Post1 XK1 hM hO hyC mf wl hR hk d hst hW kk kx H locs ls hq hv
    obtain ⟨wi, ws, wini, wc, hd⟩ := mf
    have hrc := va_recv hK hq.1 cf_AS.2.1 (q0 := a) (a := g.2.2 a) (fs := zfl g.2.2 h1 a (zfd 10)) (by rw [zws_at hO.2.1, zE_obj hO.2.2 (by decide)])
    have hrun := vx_runV (C := y1.cls) (b := g.2.2 a) (As := As) (rest := rest) (g := F0 m pc ls st) (locs := locs) (cells := 0) (slots := 0) (H := H) (e := e) (below := below) (meth := meth) (R := rm) ⟨hx, hb, hml, how, hts'⟩ (hM l hfl H.size) ⟨callB_of k hts' (zGood wc) rfl hR.2.1 hR.2.2 (hts' _ wini) (hts' _ wl) hd hR.1, hts' _ wi, hts' _ ws⟩ ⟨zBlind, by rw [hyC]; exact hrc, fun U hU hW => ⟨rfl, by rw [hU], zU_moved hq hK hN hold hU hW⟩⟩ rfl hk hv.1 hst (lv_room hW) d ⟨by rw [hrm.1]; exact Nat.le_refl 1, by rw [hrm.2]; exact Nat.le_refl 6⟩
    intro T hT X
    have hS := hq.2.2
    have hAA : ∀ q, zA g n H.size q → zA g n s.heap.size q := fun q hq => hq.elim Or.inl (fun z => Or.inr (Nat.le_trans hS.1 z))
    rcases hrun T hT X with ⟨v, st₀, t, T', L, h0, X', hL, e1, e2, ⟨⟨v', h', hv', hp, hu⟩, hz, hkp⟩, stp⟩ | ⟨q, st₀, t, T', L, E, ce, h0, X', hL, e1, e2, ⟨⟨code, h', hmem, hzh, hxk, hPx⟩, hz, hkp⟩, hce, hcv, hcl, stp⟩
    · cases hv'
      rw [h0] at hz hkp
      have hq' : zQ g n h' s.heap T'.heap (locs ++ L) := by
        refine ⟨by rw [e1]; exact hu.1, zD_any hq.2.1, Nat.le_trans hS.1 (by rw [e1]; exact hz), fun q h1 h2 => ?_, fun q hq => ?_⟩
        · rw [e1, hkp q (Nat.lt_of_lt_of_le h1 hS.1) (fun z => h2 (hAA q z))]
          exact hS.2.1 q h1 h2
        · rcases List.mem_append.mp hq with h | h
          · exact hS.2.2 q h
          · exact hAA _ (hL q h)
      obtain ⟨t2, a1, b1⟩ := kk v h' hp T'.heap (locs ++ L) ls hq' hv T' rfl X'
      exact ⟨t2, stp t2 a1, b1⟩
    · rw [h0] at hz hkp
      have hq' : zQ g n h' s.heap T'.heap (locs ++ L) := by
        refine ⟨by rw [e1]; exact hPx, zD_any hq.2.1, Nat.le_trans hS.1 (by rw [e1]; exact hz), fun q h1 h2 => ?_, fun q hq => ?_⟩
        · rw [e1, hkp q (Nat.lt_of_lt_of_le h1 hS.1) (fun z => h2 (hAA q z))]
          exact hS.2.1 q h1 h2
        · rcases List.mem_append.mp hq with h | h
          · exact hS.2.2 q h
          · exact hAA _ (hL q h)
      obtain ⟨hp, ⟨pre, x, suf, r1, r2, r3, r4, r5, r6, rfl⟩, hgo⟩ := kx code E h' hmem hzh hxk
      obtain ⟨s0, a0, o1, o2, o3, o4, o5, o6⟩ := id hold
      have hcast : (Cond.castable E E).before avs.toArray s = true := va_tabs (A := a0) rfl (rfl : (s0.setVm s.vm).vm = s.vm) (by rw [Cond.castable_setVm o3.alike]; exact o1 _ r6)
      have hW2 := vx_catch (rest := rest) (ls := ls) (H := T'.heap) (locs := locs ++ L) how pre x suf (htab.trans r1) (fun z hz => (r2 z hz).elim Or.inl (fun w => Or.inr ⟨w.1, by obtain ⟨nm, w1, w2⟩ := w.2; exact ⟨nm, hts' _ w1, va_Nc.moved o3.alike (va_Nc.of (w2 a0 s0 o2))⟩⟩)) r3 r4 (hts' _ r5) hcast (by rw [e1]; exact hce) hcv hcl (hgo q T'.heap (locs ++ L) ls hq' hv)
      obtain ⟨t2, a1, b1⟩ := hW2 T' rfl X'
      exact ⟨t2, stp.trans a1, b1⟩
theorem zO16 {n k : Nat} (h : zO n k 16) : k = 220 ∧ zln k = 1 := by
  have hl := h.lt
  have ck : (List.range 221).all (fun k => !(zkd k == 16) || (k == 220 && zln k == 1)) = true := by decide +kernel
  have := List.all_eq_true.mp ck k (List.mem_range.mpr hl)
  rw [h.2.2] at this
  simpa using this

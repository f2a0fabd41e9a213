/-! methods that throw: new E(text), thrown to the caller -/
def zNmE : List String := ["java/lang/RuntimeException", "java/lang/Exception"]
def zisD : Cond → Bool
  | .declares _ => true
  | .castable _ _ => true
  | _ => false
/-- a number for each exception: its class, and where the class AliasStreams names it -/
def zExc : List (Nat × String × Nat × Nat) := [(1, "java/lang/IllegalArgumentException", 83, 87), (2, "java/lang/IllegalStateException", 94, 98), (3, "java/lang/IndexOutOfBoundsException", 163, 167)]
theorem zx_ck : zExc.all (fun q => (vx_atS "AliasStreams" q.2.2.2 q.2.1 zNmE).all (fun w => decide (w ∈ lw_tbl) && (goodWord w || zisD w))) = true := by decide +kernel
theorem zx_ot : zExc.all (fun q => (Cond.classLink "AliasStreams" q.2.2.1 q.2.1 :: Cond.initialized q.2.1 :: vx_atS "AliasStreams" q.2.2.2 q.2.1 zNmE).all vx_ot) = true := by decide +kernel
theorem zx_tb : zExc.all (fun q => decide (Cond.classLink "AliasStreams" q.2.2.1 q.2.1 ∈ lw_tbl) && goodWord (Cond.classLink "AliasStreams" q.2.2.1 q.2.1) && decide (Cond.initialized q.2.1 ∈ lw_tbl) && goodWord (Cond.initialized q.2.1) && Bundle.fit q.2.1) = true := by decide +kernel
theorem zx_nm : zNmE.all Bundle.fit = true := by decide +kernel
theorem zx_lU : Cond.laysStatic Bundle.tN "UNASSIGNED_STACK" Bundle.steD ∈ lw_tbl := List.mem_append_right _ (List.mem_of_getElem? (i := 519) (by decide +kernel))
theorem zx_lN : Cond.laysStatic Bundle.tN "SUPPRESSED_SENTINEL" Bundle.listD ∈ lw_tbl := List.mem_append_right _ (List.mem_of_getElem? (i := 521) (by decide +kernel))
theorem zx_in : Cond.initialized Bundle.tN ∈ lw_tbl := (List.mem_filter.mp (show Cond.initialized Bundle.tN ∈ zWd from q14)).1
theorem zx_rU {a0 : Array Value} {s0 : State} (h : (Jvm.Cond.and given_1 narrow_1).before a0 s0 = true) : (Cond.isRef (.static Bundle.tN "UNASSIGNED_STACK" Bundle.steD)).before a0 s0 = true := flat_of_before _ h _ (by decide +kernel)
theorem zx_rN {a0 : Array Value} {s0 : State} (h : (Jvm.Cond.and given_1 narrow_1).before a0 s0 = true) : (Cond.isRef (.static Bundle.tN "SUPPRESSED_SENTINEL" Bundle.listD)).before a0 s0 = true := flat_of_before _ h _ (by decide +kernel)
def zStrOk (i : Nat) (tx : String) : Prop := Cond.stringRef "AliasStreams" i tx ∈ lw_tbl ∧ ∀ (a0 : Array Value) (s0 : State), (Jvm.Cond.and given_1 narrow_1).before a0 s0 = true → (Cond.exactly (.string "AliasStreams" i) "java/lang/String").before a0 s0 = true
def zThrowAt (cc : ByteArray) (pc ik i ic : Nat) : Prop := decode cc pc = .ok (.new ik, 3) ∧ decode cc (pc + 3) = .ok (.dup, 1) ∧ ((decode cc (pc + 4) = .ok (.ldc i, 2) ∧ decode cc (pc + 6) = .ok (.invokespecial ic, 3) ∧ decode cc (pc + 9) = .ok (.athrow, 1)) ∨ (decode cc (pc + 4) = .ok (.ldc_w i, 3) ∧ decode cc (pc + 7) = .ok (.invokespecial ic, 3) ∧ decode cc (pc + 10) = .ok (.athrow, 1)))
def zTh (Wf : Heap → List Loc → JFrame → Prop) (m : MethodId) (cc : ByteArray) (nL : Nat) (g : zG) (n : Nat) (H0 : Heap) (XK : Nat → zH → Prop) : Prop :=
  ∀ (pc : Nat) (lv : List (Nat × Value)) (h : zH) (code : Nat) (cls : String) (ik ic i : Nat) (tx : String), (code, cls, ik, ic) ∈ zExc → zStrOk i tx → zThrowAt cc pc ik i ic → zh h → XK code h → zW Wf m nL g n H0 pc lv [] h
def zXC (g : zG) (n sz : Nat) (XK : Nat → zH → Prop) : String → State → State → Prop := fun E st t => (∃ (code : Nat) (h' : zH), (code, E) ∈ zExc.map (fun q => (q.1, q.2.1)) ∧ zh h' ∧ XK code h' ∧ va_P g.1 zCl (zws g n h') t.heap) ∧ va_F (zA g n sz) st t
def zMetX (l : Launch) (y : MethodName) (bytes : ByteArray) (maxL : Nat) (ret : Option FieldType) (rm : Room) (g : zG) (n : Nat) (avs : List Value) (h : zH) (Post : Option Value → zH → Prop) (XK : Nat → zH → Prop) : Prop :=
  ∀ sz : Nat, vx_Met l y (Cond.code y bytes maxL ret :: zWd) rm (va_Pc avs (fun U => U.heap.size = sz ∧ zU g n h U)) (fun _ st o t => (∃ (v : Option Value) (h' : zH), o = .returned v ∧ Post v h' ∧ zU g n h' t) ∧ va_F (zA g n sz) st t) (zXC g n sz XK) 1 6 (zA g n sz)
theorem zhat {args : Array Value} {g : zG} {s : State} {q : Nat × String × Nat × Nat} (hq : q ∈ zExc) (hts : ∀ w ∈ zWd, w.before args s = true) (hold : zOld g s) : ∀ w ∈ vx_atS "AliasStreams" q.2.2.2 q.2.1 zNmE, w.before args s = true := by
  intro w hw
  have h1 := List.all_eq_true.mp (List.all_eq_true.mp zx_ck q hq) w hw
  simp only [Bool.and_eq_true, decide_eq_true_eq, Bool.or_eq_true] at h1
  obtain ⟨hm, hg | hd⟩ := h1
  · exact hts w (List.mem_filter.mpr ⟨hm, hg⟩)
  · obtain ⟨s0, a0, o1, o2, o3, -⟩ := hold
    unfold zisD at hd
    split at hd
    · exact va_Nw.use rfl (va_Nw.warmD o3 (va_Nw.of rfl (o1 _ hm)))
    · exact va_tabs (A := a0) rfl (rfl : (s0.setVm s.vm).vm = s.vm) (by rw [Cond.castable_setVm o3.alike]; exact o1 _ hm)
    · cases hd
theorem zMetX_of {l : Launch} {y : MethodName} {bytes : ByteArray} {maxL : Nat} {ret : Option FieldType} {rm : Room} {g : zG} {n : Nat} {avs : List Value} {h : zH} {Post : Option Value → zH → Prop} {XK : Nat → zH → Prop} (hfl : l.flags = flags0) (hy : plainName y.cls = true) (hown : y.cls = "AliasStreams") (hent : (lg_sl avs).length ≤ maxL) (hrm : rm.cells = 1 ∧ rm.slots = 6 ∧ 6 ≤ rm.frames ∧ 90 ≤ rm.locals)
    (body : ∀ (Wf : Heap → List Loc → JFrame → Prop) (m : MethodId) (H0 : Heap), zX Wf m rm bytes "AliasStreams" maxL g n H0 → zEx Wf m bytes ret maxL g n H0 Post → zTh Wf m bytes maxL g n H0 XK → zW Wf m maxL g n H0 0 (lv_args 0 avs) [] h) : zMetX l y bytes maxL ret rm g n avs h Post XK := by
  intro sz
  refine vx_ofW (cc := bytes) (maxL := maxL) (ret := ret) hy rfl ?_
  intro p e s m args below meth c s₁ B hml htab hv
  obtain ⟨rfl, hsz, hP, hK, hN, hD, hold⟩ := hv
  have hx := B.exec
  have hb := B.bytes
  have hr := B.returns
  have hts := atoms_spec (ws := Cond.code y bytes maxL ret :: zWd) B.pre
  have hts' : ∀ w ∈ zWd, w.before avs.toArray s = true := fun w hw => hts w (List.mem_cons_of_mem _ hw)
  have how : s.vm.findClass "AliasStreams" = some m.cls := by rw [← hown]; exact findClass_of_methodNamed B.named
  have hlocks := B.notSynchronized
  subst hsz
  have hq : zQ g n h s.heap s.heap [] := by
    refine ⟨hP, ⟨hD.1, fun k q hk => ?_⟩, va_S.rf⟩
    have hl := (List.getElem?_eq_some_iff.mp hk).1
    have hn : k < n := by simpa [zws] using hl
    rw [zws_at hn] at hk
    cases hk
    exact Or.inl ⟨k, hn, rfl⟩
  have hl := lv_entry avs (n := maxL) hent
  rw [lg_entry_eq]
  refine body _ m s.heap ⟨p, l, e, s, avs.toArray, below, meth, c, 0, 0, _, hfl, rfl, rfl, hx, hb, hml, how, hts', hN, hK, Nat.zero_le _, Nat.zero_le _, hold⟩ ?_ ?_ s.heap [] _ hq hl
  · have fin : ∀ (v : Option Value) (h' : zH) (H : Heap) (locs : List Loc) (t : State), Post v h' → zQ g n h' s.heap H locs → t.heap = H → s.WarmedH t.vm → (∃ (v' : Option Value) (h'' : zH), Outcome.returned v = .returned v' ∧ Post v' h'' ∧ zU g n h'' t) ∧ va_F (zA g n s.heap.size) s t :=
      fun v h' H locs t hp hq ht hW => ⟨⟨v, h', rfl, hp, zU_moved hq hK hN hold ht hW⟩, hq.2.2.F ht⟩
    refine ⟨fun e => ?_, fun e => ?_, fun e => ?_, fun e => ?_, fun C e => ?_⟩
    · intro pc lv h' d hp H locs ls hq hv
      exact vx_ret (W.widen (Nat.zero_le 1) (Nat.zero_le 6) (W.vret hx hb (hr.trans e) (fun t ht hW => fin _ h' H locs t hp hq ht hW) hq.2.2.2.2 d))
    · intro pc lv h' x d hp H locs ls hq hv
      exact vx_ret (W.widen (Nat.zero_le 1) (Nat.zero_le 6) (W.iret hx hb (hr.trans e) (fun t ht hW => fin _ h' H locs t hp hq ht hW) hq.2.2.2.2 d))
    · intro pc lv h' x hx2 d hp H locs ls hq hv
      exact vx_ret (W.widen (Nat.zero_le 1) (Nat.zero_le 6) (W.zret hx hb (hr.trans e) (z_bit hx2).1 (fun t ht hW => fin _ h' H locs t hp hq ht hW) hq.2.2.2.2 d))
    · intro pc lv h' x d hp H locs ls hq hv
      exact vx_ret (W.widen (Nat.zero_le 1) (Nat.zero_le 6) (W.lret hx hb (hr.trans e) (fun t ht hW => fin _ h' H locs t hp hq ht hW) hq.2.2.2.2 d))
    · intro pc lv h' a d hp H locs ls hq hv
      exact vx_ret (W.widen (Nat.zero_le 1) (Nat.zero_le 6) (W.aret hx hb (hr.trans e) (Or.inl ⟨C, rfl⟩) (Or.inr ⟨a, rfl⟩) (fun t ht hW => fin _ h' H locs t hp hq ht hW) hq.2.2.2.2 d))
  · intro pc lv h' code cls ik ic i tx hE hS hT hz hxk H locs ls hq hv
    obtain ⟨s0, a0, o1, o2, o3, o4, o5, o6⟩ := id hold
    have hA : ∀ a : Nat, a < s0.heap.size → ¬ zA g n s.heap.size a := by
      intro a ha z
      rcases z with ⟨k, -, e⟩ | z
      · have := o6 k
        omega
      · omega
    have hU := ((vx_Zqof (o1 _ zx_lU) (o1 _ zx_in) (zx_rU o2) hA).moved o3.alike).kept (H1 := s.heap) (fun a h1 _ => o5 a h1)
    have hNN := ((vx_Zqof (o1 _ zx_lN) (o1 _ zx_in) (zx_rN o2) hA).moved o3.alike).kept (H1 := s.heap) (fun a h1 _ => o5 a h1)
    obtain ⟨sa, cS, cA, kA, q1, -⟩ := Cond.exactly_spec (args := a0) (first := s0) (o := none) (s := s0) (idx := []) (t := .string "AliasStreams" i) (cls := "java/lang/String") (hS.2 a0 s0 o2)
    have hstr := vk_R.warm o3 (vk_R.of (o1 _ hS.1) q1)
    have hat := zhat hE hts' hold
    have tb := List.all_eq_true.mp zx_tb _ hE
    simp only [Bool.and_eq_true, decide_eq_true_eq] at tb
    obtain ⟨⟨⟨⟨t1, t2⟩, t3⟩, t4⟩, t5⟩ := tb
    have hgood : ∀ w ∈ Cond.classLink "AliasStreams" ik cls :: Cond.initialized cls :: vx_atS "AliasStreams" ic cls zNmE, vx_ot w = true := List.all_eq_true.mp (List.all_eq_true.mp zx_ot _ hE)
    have htr : l.stackTraces = false := by
      unfold Launch.stackTraces
      rw [hfl]
      decide +kernel
    have hXC : ∀ t : State, s.vm.Alike t.vm → H.size ≤ t.heap.size → (∀ q : Nat, q < H.size → t.heap[q]? = H[q]?) → zXC g n s.heap.size XK cls s t := by
      intro t _ e2 e3
      refine ⟨⟨code, h', List.mem_map.mpr ⟨_, hE, rfl⟩, hz, hxk, fun k q hk => (hq.1 k q hk).kept (e3 q.1 (hq.1 k q hk).lt)⟩, Nat.le_trans hq.2.2.1 e2, fun q h1 h2 => ?_⟩
      rw [e3 q (Nat.lt_of_lt_of_le h1 hq.2.2.1)]
      exact hq.2.2.2.1 q h1 h2
    have hRf : zNmE.length + 3 < rm.frames := Nat.lt_of_lt_of_le (by decide) hrm.2.2.1
    have hRl : (([] : List Value).map fun v => v.category).sum + (13 * (zNmE.length + 1) + 43) ≤ rm.locals := Nat.le_trans (by decide) hrm.2.2.2
    have hRc : 0 + 1 ≤ rm.cells := by rw [hrm.1]; exact Nat.le_refl 1
    have hRs : 0 + 6 ≤ rm.slots := by rw [hrm.2.1]; exact Nat.le_refl 6
    obtain ⟨d0, d3, ⟨d4, d6, d9⟩ | ⟨d4, d7, d10⟩⟩ := hT
    · exact vx_throwS hx hb htr how t5 (List.all_eq_true.mp zx_nm) (hts' _ (List.mem_filter.mpr ⟨t1, t2⟩)) (hts' _ (List.mem_filter.mpr ⟨t3, t4⟩)) hstr hat hgood hU hNN hq.2.2 (hv.1.trans hml.symm) d0 d3 d4 d6 d9 (fun x hx => (htab x hx).elim) hRf hRl hRc hRs hlocks hXC hq.2.2.2.2 (Nat.le_refl 1) (Nat.le_refl 6)
    · exact vx_throwSW hx hb htr how t5 (List.all_eq_true.mp zx_nm) (hts' _ (List.mem_filter.mpr ⟨t1, t2⟩)) (hts' _ (List.mem_filter.mpr ⟨t3, t4⟩)) hstr hat hgood hU hNN hq.2.2 (hv.1.trans hml.symm) d0 d3 d4 d7 d10 (fun x hx => (htab x hx).elim) hRf hRl hRc hRs hlocks hXC hq.2.2.2.2 (Nat.le_refl 1) (Nat.le_refl 6)
theorem zst_85 : zStrOk 85 "not a character code" := ⟨List.mem_append_right _ (List.mem_of_getElem? (i := 533) (by decide +kernel)), fun a0 s0 h => flat_of_before _ h _ (by decide +kernel)⟩
theorem zst_96 : zStrOk 96 "the text is full" := ⟨List.mem_append_right _ (List.mem_of_getElem? (i := 569) (by decide +kernel)), fun a0 s0 h => flat_of_before _ h _ (by decide +kernel)⟩
theorem zst_107 : zStrOk 107 "the text has an error" := ⟨List.mem_append_right _ (List.mem_of_getElem? (i := 587) (by decide +kernel)), fun a0 s0 h => flat_of_before _ h _ (by decide +kernel)⟩
theorem zst_154 : zStrOk 154 "what is not 0 to 6" := ⟨List.mem_append_right _ (List.mem_of_getElem? (i := 614) (by decide +kernel)), fun a0 s0 h => flat_of_before _ h _ (by decide +kernel)⟩
theorem zst_165 : zStrOk 165 "no such model or symbol" := ⟨List.mem_append_right _ (List.mem_of_getElem? (i := 640) (by decide +kernel)), fun a0 s0 h => flat_of_before _ h _ (by decide +kernel)⟩
theorem zst_168 : zStrOk 168 "what is not 0 or 1" := ⟨List.mem_append_right _ (List.mem_of_getElem? (i := 647) (by decide +kernel)), fun a0 s0 h => flat_of_before _ h _ (by decide +kernel)⟩
theorem zst_184 : zStrOk 184 "no such model or bucket" := ⟨List.mem_append_right _ (List.mem_of_getElem? (i := 662) (by decide +kernel)), fun a0 s0 h => flat_of_before _ h _ (by decide +kernel)⟩
theorem zst_192 : zStrOk 192 "no such model or slot" := ⟨List.mem_append_right _ (List.mem_of_getElem? (i := 670) (by decide +kernel)), fun a0 s0 h => flat_of_before _ h _ (by decide +kernel)⟩
theorem zst_203 : zStrOk 203 "no such item" := ⟨List.mem_append_right _ (List.mem_of_getElem? (i := 682) (by decide +kernel)), fun a0 s0 h => flat_of_before _ h _ (by decide +kernel)⟩
theorem zst_208 : zStrOk 208 "what is not 0 to 2" := ⟨List.mem_append_right _ (List.mem_of_getElem? (i := 690) (by decide +kernel)), fun a0 s0 h => flat_of_before _ h _ (by decide +kernel)⟩
theorem zst_228 : zStrOk 228 "no such digit, symbol of the plan, or head" := ⟨List.mem_append_right _ (List.mem_of_getElem? (i := 699) (by decide +kernel)), fun a0 s0 h => flat_of_before _ h _ (by decide +kernel)⟩
theorem zst_230 : zStrOk 230 "not a count" := ⟨List.mem_append_right _ (List.mem_of_getElem? (i := 707) (by decide +kernel)), fun a0 s0 h => flat_of_before _ h _ (by decide +kernel)⟩
theorem zst_235 : zStrOk 235 "all counts would be 0" := ⟨List.mem_append_right _ (List.mem_of_getElem? (i := 712) (by decide +kernel)), fun a0 s0 h => flat_of_before _ h _ (by decide +kernel)⟩
theorem zst_244 : zStrOk 244 "no such place" := ⟨List.mem_append_right _ (List.mem_of_getElem? (i := 747) (by decide +kernel)), fun a0 s0 h => flat_of_before _ h _ (by decide +kernel)⟩
theorem zst_249 : zStrOk 249 "neither a symbol nor a change" := ⟨List.mem_append_right _ (List.mem_of_getElem? (i := 754) (by decide +kernel)), fun a0 s0 h => flat_of_before _ h _ (by decide +kernel)⟩
theorem zst_251 : zStrOk 251 "the message is full" := ⟨List.mem_append_right _ (List.mem_of_getElem? (i := 755) (by decide +kernel)), fun a0 s0 h => flat_of_before _ h _ (by decide +kernel)⟩
theorem zst_264 : zStrOk 264 "a symbol has the frequency 0" := ⟨List.mem_append_right _ (List.mem_of_getElem? (i := 779) (by decide +kernel)), fun a0 s0 h => flat_of_before _ h _ (by decide +kernel)⟩
theorem zst_276 : zStrOk 276 "the tape fails, or has too many items" := ⟨List.mem_append_right _ (List.mem_of_getElem? (i := 812) (by decide +kernel)), fun a0 s0 h => flat_of_before _ h _ (by decide +kernel)⟩
theorem zst_282 : zStrOk 282 "no such digit" := ⟨List.mem_append_right _ (List.mem_of_getElem? (i := 825) (by decide +kernel)), fun a0 s0 h => flat_of_before _ h _ (by decide +kernel)⟩
theorem zst_287 : zStrOk 287 "not a digit" := ⟨List.mem_append_right _ (List.mem_of_getElem? (i := 829) (by decide +kernel)), fun a0 s0 h => flat_of_before _ h _ (by decide +kernel)⟩
theorem zst_289 : zStrOk 289 "no such head" := ⟨List.mem_append_right _ (List.mem_of_getElem? (i := 837) (by decide +kernel)), fun a0 s0 h => flat_of_before _ h _ (by decide +kernel)⟩
theorem zst_291 : zStrOk 291 "not a state" := ⟨List.mem_append_right _ (List.mem_of_getElem? (i := 838) (by decide +kernel)), fun a0 s0 h => flat_of_before _ h _ (by decide +kernel)⟩
theorem zst_293 : zStrOk 293 "no such symbol of the plan, or model" := ⟨List.mem_append_right _ (List.mem_of_getElem? (i := 846) (by decide +kernel)), fun a0 s0 h => flat_of_before _ h _ (by decide +kernel)⟩
theorem zst_296 : zStrOk 296 "no state is remembered" := ⟨List.mem_append_right _ (List.mem_of_getElem? (i := 854) (by decide +kernel)), fun a0 s0 h => flat_of_before _ h _ (by decide +kernel)⟩
theorem zst_301 : zStrOk 301 "no such symbol of the plan" := ⟨List.mem_append_right _ (List.mem_of_getElem? (i := 866) (by decide +kernel)), fun a0 s0 h => flat_of_before _ h _ (by decide +kernel)⟩
theorem zst_303 : zStrOk 303 "what is not 0 to 3" := ⟨List.mem_append_right _ (List.mem_of_getElem? (i := 867) (by decide +kernel)), fun a0 s0 h => flat_of_before _ h _ (by decide +kernel)⟩
theorem zst_316 : zStrOk 316 "no such model" := ⟨List.mem_append_right _ (List.mem_of_getElem? (i := 875) (by decide +kernel)), fun a0 s0 h => flat_of_before _ h _ (by decide +kernel)⟩
theorem zst_324 : zStrOk 324 "no such model or symbol of the message" := ⟨List.mem_append_right _ (List.mem_of_getElem? (i := 887) (by decide +kernel)), fun a0 s0 h => flat_of_before _ h _ (by decide +kernel)⟩
theorem zst_326 : zStrOk 326 "n is not 1 to 12" := ⟨List.mem_append_right _ (List.mem_of_getElem? (i := 888) (by decide +kernel)), fun a0 s0 h => flat_of_before _ h _ (by decide +kernel)⟩
theorem zst_332 : zStrOk 332 "no such symbol of the message" := ⟨List.mem_append_right _ (List.mem_of_getElem? (i := 901) (by decide +kernel)), fun a0 s0 h => flat_of_before _ h _ (by decide +kernel)⟩
theorem zst_335 : zStrOk 335 "not a digit, or what is not 0 or 1" := ⟨List.mem_append_right _ (List.mem_of_getElem? (i := 909) (by decide +kernel)), fun a0 s0 h => flat_of_before _ h _ (by decide +kernel)⟩
theorem zst_345 : zStrOk 345 "n is not 1 to 4" := ⟨List.mem_append_right _ (List.mem_of_getElem? (i := 922) (by decide +kernel)), fun a0 s0 h => flat_of_before _ h _ (by decide +kernel)⟩
theorem zst_351 : zStrOk 351 "script is negative or too long" := ⟨List.mem_append_right _ (List.mem_of_getElem? (i := 925) (by decide +kernel)), fun a0 s0 h => flat_of_before _ h _ (by decide +kernel)⟩
theorem zst_357 : zStrOk 357 "m is not 1 to 40" := ⟨List.mem_append_right _ (List.mem_of_getElem? (i := 987) (by decide +kernel)), fun a0 s0 h => flat_of_before _ h _ (by decide +kernel)⟩
theorem zst_369 : zStrOk 369 "no such save slot" := ⟨List.mem_append_right _ (List.mem_of_getElem? (i := 1005) (by decide +kernel)), fun a0 s0 h => flat_of_before _ h _ (by decide +kernel)⟩
theorem zst_381 : zStrOk 381 "nothing has been saved there" := ⟨List.mem_append_right _ (List.mem_of_getElem? (i := 1014) (by decide +kernel)), fun a0 s0 h => flat_of_before _ h _ (by decide +kernel)⟩

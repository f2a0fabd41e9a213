/-! contracts over the small picture, and calls -/
def zMet (l : Launch) (y : MethodName) (bytes : ByteArray) (maxL : Nat) (ret : Option FieldType) (rm : Room) (g : zG) (n : Nat) (avs : List Value) (h : zH) (Post : Option Value → zH → Prop) : Prop :=
  ∀ sz : Nat, Met l y (Cond.code y bytes maxL ret :: zWd) rm (va_Pc avs (fun U => U.heap.size = sz ∧ zU g n h U)) (fun _ st o t => (∃ (v : Option Value) (h' : zH), o = .returned v ∧ Post v h' ∧ zU g n h' t) ∧ va_F (zA g n sz) st t) 0 0 (zA g n sz)
/-- a method's facts in the tables: an instance method, a static one -/
def zMV (y : MethodName) (bytes : ByteArray) (maxL : Nat) (ret : Option FieldType) (k : Nat) : Prop := Cond.instanceMethod y ∈ zWd ∧ Cond.selects y.cls y y ∈ zWd ∧ Cond.initialized y.cls ∈ zWd ∧ Cond.code y bytes maxL ret ∈ zWd ∧ (y.cls ≠ "java/lang/invoke/MethodHandle" ∧ y.cls ≠ "java/lang/invoke/VarHandle" ∧ (parseMethodDescriptor y.desc).map (fun d => d.parameters.length) = some k)
def zMS (y : MethodName) (bytes : ByteArray) (maxL : Nat) (ret : Option FieldType) (k : Nat) : Prop := Cond.static y ∈ zWd ∧ Cond.initialized y.cls ∈ zWd ∧ Cond.code y bytes maxL ret ∈ zWd ∧ (y.cls ≠ "java/lang/invoke/MethodHandle" ∧ y.cls ≠ "java/lang/invoke/VarHandle" ∧ (parseMethodDescriptor y.desc).map (fun d => d.parameters.length) = some k)
theorem zGood {y : MethodName} {bytes : ByteArray} {maxL : Nat} {ret : Option FieldType} (hc : Cond.code y bytes maxL ret ∈ zWd) : GoodIn zWd (Cond.code y bytes maxL ret :: zWd) := by
  have key : ∀ w ∈ zWd, w ∈ zWd ∧ ((w.onTables && w.keeps) = true ∨ ∃ ty, w = .arrayClass ty) := fun w hw => ⟨hw, good_of_word (List.mem_filter.mp hw).2⟩
  intro w hw
  rcases List.mem_cons.mp hw with rfl | hw
  · exact key _ hc
  · exact key w hw
theorem zU_moved {g : zG} {n : Nat} {h : zH} {H : Heap} {locs : List Loc} {s U : State} (hq : zQ g n h s.heap H locs) (hK : va_K g.1 zCl (ztys g) s) (hns : ∀ w ∈ zNs, va_Nw w s) (hold : zOld g s) (hU : U.heap = H) (hW : s.WarmedH U.vm) : zU g n h U :=
  ⟨by rw [hU]; exact hq.1, va_K.moved hW.alike hK, zns_warm hW hns, hq.2.1.weaken (fun _ _ _ _ => trivial), hold.move hq.2.2 hU hW⟩
theorem zBlind {avs : List Value} {sz : Nat} {g : zG} {n : Nat} {h : zH} : FrameBlind (va_Pc avs (fun U => U.heap.size = sz ∧ zU g n h U)) := by
  intro a U fr mk q
  obtain ⟨q0, q1, qP, qK, qN, qD, s0, a0, o1, o2, o3, o4, o5, o6⟩ := q
  exact ⟨q0, q1, qP, va_K.moved (u := U) (U := U.calling fr mk a) (Vm.Alike.refl U.vm) qK, zns_same (u := U) (U := U.calling fr mk a) rfl qN, qD, s0, a0, o1, o2, o3, o4, o5, o6⟩
section ZC
variable {p : Program} {l : Launch} {e : Env} {R : Room} {s : State} {m : MethodId} {args : Array Value} {below : List Frame} {meth : Method} {c : Code} {cells slots : Nat} {Q : State → Prop}
theorem z_after {pc nL : Nat} {g : zG} {n : Nat} {h : zH} {H : Heap} {locs : List Loc} {ls : Array Slot} {lv : List (Nat × Value)} {st rest : List Value} {Post : Option Value → zH → Prop}
    (hr : va_Run p l e R s m args below meth c H locs cells slots 0 0 (F0 m pc ls st) rest (fun st o t => (∃ (v : Option Value) (h' : zH), o = .returned v ∧ Post v h' ∧ zU g n h' t) ∧ va_F (zA g n H.size) st t) (zA g n H.size))
    (hq : zQ g n h s.heap H locs) (hv : lv_has ls nL lv)
    (kk : ∀ (v : Option Value) (h' : zH), Post v h' → zW (fun H locs gg => W p l e R s m args below meth c H locs cells slots Q gg) m nL g n s.heap (pc + 3) lv (v.toList ++ rest) h') : W p l e R s m args below meth c H locs cells slots Q (F0 m pc ls st) := by
  intro T hT X
  obtain ⟨v, st₀, t, T', L, h0, X', hL, e1, e2, ⟨⟨v', h', hv', hp, hu⟩, hz, hk⟩, stp⟩ := hr T hT X
  cases hv'
  rw [h0] at hz hk
  have hS := hq.2.2
  have hAA : ∀ q, zA g n H.size q → zA g n s.heap.size q := fun q hq => hq.elim Or.inl (fun z => Or.inr (Nat.le_trans hS.1 z))
  have hq' : zQ g n h' s.heap T'.heap (locs ++ L) := by
    refine ⟨by rw [e1]; exact hu.1, zD_any hq.2.1, Nat.le_trans hS.1 (by rw [e1]; exact hz), fun q h1 h2 => ?_, fun q hq => ?_⟩
    · rw [e1, hk q (Nat.lt_of_lt_of_le h1 hS.1) (fun z => h2 (hAA q z))]
      exact hS.2.1 q h1 h2
    · rcases List.mem_append.mp hq with h | h
      · exact hS.2.2 q h
      · exact hAA _ (hL q h)
  obtain ⟨t2, a1, b1⟩ := kk v h' hp T'.heap (locs ++ L) ls hq' hv T' rfl X'
  exact ⟨t2, stp t2 a1, b1⟩
end ZC
section ZC2
variable {Wf : Heap → List Loc → JFrame → Prop} {m : MethodId} {R : Room} {cc : ByteArray} {own : String} {nL : Nat} {g : zG} {n : Nat} {H0 : Heap} {pc : Nat} {lv lv' : List (Nat × Value)} {rest st : List Value} {h : zH}
variable {y : MethodName} {bytes : ByteArray} {maxL k idx : Nat} {ret : Option FieldType} {rm : Room} {Post : Option Value → zH → Prop} {As : List Value}
theorem z_callV (X : zX Wf m R cc own nL g n H0) {ci a N : Nat} {C : String} {T : u_T} {ty : Nat → FieldType} (hM : ∀ l, l.flags = flags0 → zMet l y bytes maxL ret rm g n (.ref (g.2.2 a) :: As) h Post) (cf : zCF ci C T ty N) (hO : zO n a ci) (hyC : y.cls = C) (mf : zMV y bytes maxL ret k) (wl : Cond.methodLink own idx y ∈ zWd) (hR : (rm.frames + 1 ≤ R.frames ∧ 8 + (maxL + 11) + rm.locals ≤ R.locals) ∧ rm.cells = 0 ∧ rm.slots = 0) (hk : As.length = k) (d : decode cc pc = .ok (.invokevirtual idx, 3)) (hst : st = As.reverse ++ .ref (g.2.2 a) :: rest) (hW : (rest.map fun v => v.category).sum ≤ 8)
    (kk : ∀ (v : Option Value) (h' : zH), Post v h' → zW Wf m nL g n H0 (pc + 3) lv (v.toList ++ rest) h') : zW Wf m nL g n H0 pc lv st h := by
  obtain ⟨p, l, e, s, args, below, meth, c, cells, slots, Q, hfl, rfl, rfl, hx, hb, hml, hown, hts, hns, hK, hc, hs, hold⟩ := X
  obtain ⟨f1, f2, f3, f4, f5, f6⟩ := cf
  obtain ⟨wi, ws, wini, wc, hd⟩ := mf
  refine fun H locs ls hq hv => z_after (va_runV ⟨hx, hb, hml, hown, hts⟩ (hM l hfl H.size) ⟨callB_of k hts (zGood wc) rfl hR.2.1 hR.2.2 (hts _ wini) (hts _ wl) hd hR.1, hts _ wi, hts _ ws⟩ ⟨zBlind, ?_, fun U hU hW => ⟨rfl, by rw [hU], zU_moved hq hK hns hold hU hW⟩⟩ rfl hk hv.1 hst (lv_room hW) d ⟨hc, hs⟩) hq hv kk
  have := va_recv hK hq.1 f2 (q0 := a) (a := g.2.2 a) (fs := zfl g.2.2 h a (zfd ci)) (by rw [zws_at hO.2.1, zE_obj hO.2.2 f1])
  rw [hyC]
  exact this
theorem z_callVN (X : zX Wf m R cc own nL g n H0) {ci a N : Nat} {C host : String} {T : u_T} {ty : Nat → FieldType} (hM : ∀ l, l.flags = flags0 → zMet l y bytes maxL ret rm g n (.ref (g.2.2 a) :: As) h Post) (cf : zCF ci C T ty N) (hO : zO n a ci) (hyC : y.cls = C) (mf : zMV y bytes maxL ret k) (wl : Cond.methodLinkNest own idx y host ∈ zNs) (hR : (rm.frames + 1 ≤ R.frames ∧ 8 + (maxL + 11) + rm.locals ≤ R.locals) ∧ rm.cells = 0 ∧ rm.slots = 0) (hk : As.length = k) (d : decode cc pc = .ok (.invokevirtual idx, 3)) (hst : st = As.reverse ++ .ref (g.2.2 a) :: rest) (hW : (rest.map fun v => v.category).sum ≤ 8)
    (kk : ∀ (v : Option Value) (h' : zH), Post v h' → zW Wf m nL g n H0 (pc + 3) lv (v.toList ++ rest) h') : zW Wf m nL g n H0 pc lv st h := by
  obtain ⟨p, l, e, s, args, below, meth, c, cells, slots, Q, hfl, rfl, rfl, hx, hb, hml, hown, hts, hns, hK, hc, hs, hold⟩ := X
  obtain ⟨f1, f2, f3, f4, f5, f6⟩ := cf
  obtain ⟨wi, ws, wini, wc, hd⟩ := mf
  refine fun H locs ls hq hv => z_after (va_runVN ⟨hx, hb, hml, hown, hts⟩ (hM l hfl H.size) ⟨va_cnB k hts (zGood wc) rfl hR.2.1 hR.2.2 (hns _ wl) (hts _ wini) hd hR.1, hts _ wi, hts _ ws⟩ ⟨zBlind, ?_, fun U hU hW => ⟨rfl, by rw [hU], zU_moved hq hK hns hold hU hW⟩⟩ rfl hk hv.1 hst (lv_room hW) d ⟨hc, hs⟩) hq hv kk
  have := va_recv hK hq.1 f2 (q0 := a) (a := g.2.2 a) (fs := zfl g.2.2 h a (zfd ci)) (by rw [zws_at hO.2.1, zE_obj hO.2.2 f1])
  rw [hyC]
  exact this
theorem z_callS (X : zX Wf m R cc own nL g n H0) (hM : ∀ l, l.flags = flags0 → zMet l y bytes maxL ret rm g n As h Post) (mf : zMS y bytes maxL ret k) (wl : Cond.methodLink own idx y ∈ zWd) (hR : (rm.frames + 1 ≤ R.frames ∧ 8 + (maxL + 11) + rm.locals ≤ R.locals) ∧ rm.cells = 0 ∧ rm.slots = 0) (hk : As.length = k) (d : decode cc pc = .ok (.invokestatic idx, 3)) (hst : st = As.reverse ++ rest) (hW : (rest.map fun v => v.category).sum ≤ 8)
    (kk : ∀ (v : Option Value) (h' : zH), Post v h' → zW Wf m nL g n H0 (pc + 3) lv (v.toList ++ rest) h') : zW Wf m nL g n H0 pc lv st h := by
  obtain ⟨p, l, e, s, args, below, meth, c, cells, slots, Q, hfl, rfl, rfl, hx, hb, hml, hown, hts, hns, hK, hc, hs, hold⟩ := X
  obtain ⟨wst, wini, wc, hd⟩ := mf
  exact fun H locs ls hq hv => z_after (va_runS ⟨hx, hb, hml, hown, hts⟩ (hM l hfl H.size) ⟨callB_of k hts (zGood wc) rfl hR.2.1 hR.2.2 (hts _ wini) (hts _ wl) hd hR.1, hts _ wst⟩ ⟨zBlind, fun U hU hW => ⟨rfl, by rw [hU], zU_moved hq hK hns hold hU hW⟩⟩ rfl hk hv.1 hst (lv_room hW) d ⟨hc, hs⟩) hq hv kk
theorem z_callSN (X : zX Wf m R cc own nL g n H0) {host : String} (hM : ∀ l, l.flags = flags0 → zMet l y bytes maxL ret rm g n As h Post) (mf : zMS y bytes maxL ret k) (wl : Cond.methodLinkNest own idx y host ∈ zNs) (hR : (rm.frames + 1 ≤ R.frames ∧ 8 + (maxL + 11) + rm.locals ≤ R.locals) ∧ rm.cells = 0 ∧ rm.slots = 0) (hk : As.length = k) (d : decode cc pc = .ok (.invokestatic idx, 3)) (hst : st = As.reverse ++ rest) (hW : (rest.map fun v => v.category).sum ≤ 8)
    (kk : ∀ (v : Option Value) (h' : zH), Post v h' → zW Wf m nL g n H0 (pc + 3) lv (v.toList ++ rest) h') : zW Wf m nL g n H0 pc lv st h := by
  obtain ⟨p, l, e, s, args, below, meth, c, cells, slots, Q, hfl, rfl, rfl, hx, hb, hml, hown, hts, hns, hK, hc, hs, hold⟩ := X
  obtain ⟨wst, wini, wc, hd⟩ := mf
  exact fun H locs ls hq hv => z_after (va_runSN ⟨hx, hb, hml, hown, hts⟩ (hM l hfl H.size) ⟨va_cnB k hts (zGood wc) rfl hR.2.1 hR.2.2 (hns _ wl) (hts _ wini) hd hR.1, hts _ wst, trivial⟩ ⟨zBlind, fun U hU hW => ⟨rfl, by rw [hU], zU_moved hq hK hns hold hU hW⟩⟩ rfl hk hv.1 hst (lv_room hW) d ⟨hc, hs⟩) hq hv kk
end ZC2
/-- how a method may end -/
def zEx (Wf : Heap → List Loc → JFrame → Prop) (m : MethodId) (cc : ByteArray) (ret : Option FieldType) (nL : Nat) (g : zG) (n : Nat) (H0 : Heap) (Post : Option Value → zH → Prop) : Prop :=
  (ret = none → ∀ pc lv h, decode cc pc = .ok (.return_, 1) → Post none h → zW Wf m nL g n H0 pc lv [] h) ∧
  (ret = some .int → ∀ pc lv h x, decode cc pc = .ok (.ireturn, 1) → Post (some (zi x)) h → zW Wf m nL g n H0 pc lv [zi x] h) ∧
  (ret = some .boolean → ∀ pc lv h x, (x = 0 ∨ x = 1) → decode cc pc = .ok (.ireturn, 1) → Post (some (zi x)) h → zW Wf m nL g n H0 pc lv [zi x] h) ∧
  (ret = some .long → ∀ pc lv h x, decode cc pc = .ok (.lreturn, 1) → Post (some (zj x)) h → zW Wf m nL g n H0 pc lv [zj x] h) ∧
  (∀ C, ret = some (.object C) → ∀ pc lv h a, decode cc pc = .ok (.areturn, 1) → Post (some (.ref a)) h → zW Wf m nL g n H0 pc lv [.ref a] h)
theorem zMet_of {l : Launch} {y : MethodName} {bytes : ByteArray} {maxL : Nat} {ret : Option FieldType} {rm : Room} {g : zG} {n : Nat} {avs : List Value} {h : zH} {Post : Option Value → zH → Prop} {own : String} (hfl : l.flags = flags0) (hy : plainName y.cls = true) (hown : y.cls = own) (hent : (lg_sl avs).length ≤ maxL)
    (body : ∀ (Wf : Heap → List Loc → JFrame → Prop) (m : MethodId) (H0 : Heap), zX Wf m rm bytes own maxL g n H0 → zEx Wf m bytes ret maxL g n H0 Post → zW Wf m maxL g n H0 0 (lv_args 0 avs) [] h) : zMet l y bytes maxL ret rm g n avs h Post := by
  intro sz
  refine Met.ofW (cc := bytes) (maxL := maxL) (ret := ret) hy rfl ?_
  intro p e s m args below meth c s₁ B hml hv
  obtain ⟨rfl, hsz, hP, hK, hN, hD, hold⟩ := hv
  have hx := B.exec
  have hb := B.bytes
  have hr := B.returns
  have hts := atoms_spec (ws := Cond.code y bytes maxL ret :: zWd) B.pre
  have hts' : ∀ w ∈ zWd, w.before avs.toArray s = true := fun w hw => hts w (List.mem_cons_of_mem _ hw)
  have how : s.vm.findClass own = some m.cls := by rw [← hown]; exact findClass_of_methodNamed B.named
  have hlocks := B.notSynchronized
  subst hsz
  have hq : zQ g n h s.heap s.heap [] := by
    refine ⟨hP, ⟨hD.1, fun k q hk => ?_⟩, va_S.rf⟩
    have hl := (List.getElem?_eq_some_iff.mp hk).1
    have hn : k < n := by simpa [zws] using hl
    rw [zws_at hn] at hk
    cases hk
    exact Or.inl ⟨k, hn, rfl⟩
  have hl := lv_entry avs (n := maxL) hent
  rw [lg_entry_eq]
  refine body _ m s.heap ⟨p, l, e, s, avs.toArray, below, meth, c, 0, 0, _, hfl, rfl, rfl, hx, hb, hml, how, hts', hN, hK, Nat.zero_le _, Nat.zero_le _, hold⟩ ?_ s.heap [] _ hq hl
  have fin : ∀ (v : Option Value) (h' : zH) (H : Heap) (locs : List Loc) (t : State), Post v h' → zQ g n h' s.heap H locs → t.heap = H → s.WarmedH t.vm → (∃ (v' : Option Value) (h'' : zH), Outcome.returned v = .returned v' ∧ Post v' h'' ∧ zU g n h'' t) ∧ va_F (zA g n s.heap.size) s t :=
    fun v h' H locs t hp hq ht hW => ⟨⟨v, h', rfl, hp, zU_moved hq hK hN hold ht hW⟩, hq.2.2.F ht⟩
  refine ⟨fun e => ?_, fun e => ?_, fun e => ?_, fun e => ?_, fun C e => ?_⟩
  · intro pc lv h' d hp H locs ls hq hv
    exact W.vret hx hb (hr.trans e) (fun t ht hW => fin _ h' H locs t hp hq ht hW) hq.2.2.2.2 d
  · intro pc lv h' x d hp H locs ls hq hv
    exact W.iret hx hb (hr.trans e) (fun t ht hW => fin _ h' H locs t hp hq ht hW) hq.2.2.2.2 d
  · intro pc lv h' x hx2 d hp H locs ls hq hv
    exact W.zret hx hb (hr.trans e) (z_bit hx2).1 (fun t ht hW => fin _ h' H locs t hp hq ht hW) hq.2.2.2.2 d
  · intro pc lv h' x d hp H locs ls hq hv
    exact W.lret hx hb (hr.trans e) (fun t ht hW => fin _ h' H locs t hp hq ht hW) hq.2.2.2.2 d
  · intro pc lv h' a d hp H locs ls hq hv
    exact W.aret hx hb (hr.trans e) (Or.inl ⟨C, rfl⟩) (Or.inr ⟨a, rfl⟩) (fun t ht hW => fin _ h' H locs t hp hq ht hW) hq.2.2.2.2 d

/-! the law's own frame: what stays the same, its script, calls of its helpers -/
def R_law : String := "AliasStreamsLaw"
def lw_P (b : Addr) (xs : List Int32) (args : Array Value) (s : State) : Prop := args = #[.ref b] ∧ s.IntsAt b xs ∧ xs.length ≤ 2048 ∧ (Jvm.Cond.and given_1 narrow_1).before args s = true
def lw_Q (_ : Array Value) (s : State) (o : Outcome) (t : State) : Prop := o = .returned (some (.int 1)) ∧ Framed s o t [] 601024 7293034
def lw_Z (below : List Frame) (a : Array Value) (s : State) : State → Prop := fun t => ∃ o, t.status = .running ∧ Ended t below o ∧ lw_Q a s o t
/-- the law's own end, with 1 on the stack, nothing written that was there before, its room as the claim has it -/
theorem lw_ret {p : Program} {l : Launch} {e : Env} {s : State} {m : MethodId} {below : List Frame} {meth : Method} {c : Code} {b : Nat} (hx : p.tables.exec = Jvm.exec) (hb : c.code = code) (hr : meth.sig.returnType = ret) (hlocks : meth.locks = false) {pc : Nat} {H : Heap} {ls : Array Slot} (hdg : decode code pc = .ok (.ireturn, 1)) : W p l e room_1 s m #[Value.ref b] below meth c H [] 601024 7293034 (lw_Z below #[Value.ref b] s) (F0 m pc ls [.int 1]) := by
  intro T hT X
  obtain ⟨fs, hret, hrun, hended, hW, hframe⟩ := X.leave (v := some (.int 1)) (hlocks := hlocks) (fun h => by rw [hr] at h; cases h)
  have hmeth' : T.vm.method? m = some meth := X.method'
  refine ⟨T.setFrames fs, ?_, .returned (some (.int 1)), hrun, hended, rfl, ⟨_, rfl⟩, hW, hframe⟩
  jvm_step X.here [X.here.top, hx, hb, hdg, hmeth', hr, ret, narrow_b1]
  (try refine ⟨rfl, ?_⟩); (try refine ⟨rfl, ?_⟩)
  first | (intro acts; rw [hret _ acts rfl rfl rfl]) | rw [hret _ _ rfl rfl rfl]
  exact Steps.refl _
def lw_At (p : Program) (s : State) (m : MethodId) (meth : Method) (c : Code) (b L : Nat) (xs : Nat → Int32) : Prop :=
  p.tables.exec = Jvm.exec ∧ c.code = code ∧ meth.sig.returnType = ret ∧ c.maxLocals = 8 ∧ s.vm.findClass R_law = some m.cls ∧ (∀ w ∈ lw_tbl, w.before #[Value.ref b] s = true) ∧ va_X b L xs s s.heap ∧ b < s.heap.size ∧ meth.locks = false ∧ (Jvm.Cond.and given_1 narrow_1).before #[Value.ref b] s = true
def zWl (p : Program) (l : Launch) (e : Env) (s : State) (m : MethodId) (below : List Frame) (meth : Method) (c : Code) (b : Nat) (cells slots : Nat) : Heap → List Loc → JFrame → Prop := fun H locs gg => W p l e room_1 s m #[Value.ref b] below meth c H locs cells slots (lw_Z below #[Value.ref b] s) gg
/-- all that stays the same along the law -/
def zLC (p : Program) (l : Launch) (s : State) (m : MethodId) (meth : Method) (c : Code) (b L : Nat) (xs : Nat → Int32) (g : zG) : Prop := l.flags = flags0 ∧ lw_At p s m meth c b L xs ∧ va_K g.1 zCl (ztys g) s ∧ ∀ k : Nat, s.heap.size ≤ g.2.2 k
section ZL
variable {p : Program} {l : Launch} {e : Env} {s : State} {m : MethodId} {below : List Frame} {meth : Method} {c : Code} {b L : Nat} {xs : Nat → Int32} {g : zG} {cells slots : Nat} {pc : Nat} {lv lv' : List (Nat × Value)} {rest st : List Value} {h : zH}
theorem zLC.old (C : zLC p l s m meth c b L xs g) : zOld g s := by
  obtain ⟨-, ⟨-, -, -, -, -, hts, -, -, -, hgv⟩, -, hk⟩ := C
  exact ⟨s, #[Value.ref b], hts, hgv, State.WarmedH.refl s, Nat.le_refl _, fun _ _ => rfl, hk⟩
theorem zXl (C : zLC p l s m meth c b L xs g) (hc : cells ≤ 601024) (hs : slots ≤ 7293034) : zX (zWl p l e s m below meth c b cells slots) m room_1 code "AliasStreamsLaw" 8 g 221 s.heap := by
  have ho := C.old
  obtain ⟨hfl, ⟨hx, hb, -, hml, hown, hts, -, -, -, -⟩, hK, -⟩ := C
  exact ⟨p, l, e, s, #[Value.ref b], below, meth, c, cells, slots, _, hfl, rfl, rfl, hx, hb, hml, hown, fun w hw => hts w (List.mem_filter.mp hw).1, fun w hw => by
    have hw' := hts w (List.mem_filter.mp hw).1
    rcases zns_or hw with ⟨a, i, x, hh, rfl⟩ | ⟨a, i, b', n, d, hh, rfl⟩
    · exact va_Nw.of rfl hw'
    · exact va_Nw.of rfl hw', hK, hc, hs, ho⟩
theorem zbA (C : zLC p l s m meth c b L xs g) : ¬ zA g 221 s.heap.size b := by
  obtain ⟨-, ⟨-, -, -, -, -, -, -, hbl, -, -⟩, -, hk⟩ := C
  intro z
  rcases z with ⟨k, -, e⟩ | z
  · have := hk k
    omega
  · omega
theorem z_sld (C : zLC p l s m meth c b L xs g) {i : Int} (hi : zr i) (hb1 : 0 ≤ i ∧ i < (L : Int)) (d : decode code pc = .ok (.iaload, 1)) (k : zW (zWl p l e s m below meth c b cells slots) m 8 g 221 s.heap (pc + 1) lv (zi (xs i.toNat).toInt :: rest) h) : zW (zWl p l e s m below meth c b cells slots) m 8 g 221 s.heap pc lv (zi i :: .ref b :: rest) h := by
  have hbA := zbA C
  obtain ⟨hfl, ⟨hx, hb, -, hml, hown, hts, hX, hbl, -, -⟩, hK, -⟩ := C
  refine fun H locs ls hq hv => va_sld hx hb hX hbl hbA hq.2.2 (zi_in hi hb1.1 hb1.2) d ?_
  have := k H locs ls hq hv
  rw [zi_nat hi]
  rw [show zi (xs i.toNat).toInt = .int (xs i.toNat) from by unfold zi; rw [Int32.ofInt_toInt]] at this
  exact this
theorem z_slen (C : zLC p l s m meth c b L xs g) (d : decode code pc = .ok (.arraylength, 1)) (k : zW (zWl p l e s m below meth c b cells slots) m 8 g 221 s.heap (pc + 1) lv (zi (L : Int) :: rest) h) : zW (zWl p l e s m below meth c b cells slots) m 8 g 221 s.heap pc lv (.ref b :: rest) h := by
  have hbA := zbA C
  obtain ⟨hfl, ⟨hx, hb, -, hml, hown, hts, hX, hbl, -, -⟩, hK, -⟩ := C
  refine fun H locs ls hq hv => va_slen hx hb hX hbl hbA hq.2.2 d ?_
  have := k H locs ls hq hv
  rw [show zi (L : Int) = .int (Int32.ofNat L) from by unfold zi; rw [Int32.ofInt_eq_ofNat]] at this
  exact this
theorem z_callH (C : zLC p l s m meth c b L xs g) (hc : cells + 1 ≤ 601024) (hs : slots + 6 ≤ 7293034) {y : MethodName} {bytes : ByteArray} {maxL k idx : Nat} {hh : List (Nat × Nat × Nat × Nat)} {rm : Room} {As : List Value} {K : Int → zH → Prop} (hM : ∀ l, l.flags = flags0 → zMetW l y bytes maxL (some .int) hh rm g 221 As h (zPi K))
    (wst : Cond.static y ∈ zWd) (wini : Cond.initialized y.cls ∈ zWd) (wc : Cond.codeWith y bytes maxL (some .int) hh ∈ zWd) (hd : y.cls ≠ "java/lang/invoke/MethodHandle" ∧ y.cls ≠ "java/lang/invoke/VarHandle" ∧ (parseMethodDescriptor y.desc).map (fun d => d.parameters.length) = some k) (wl : Cond.methodLink "AliasStreamsLaw" idx y ∈ zWd) (hR : (rm.frames + 1 ≤ 10 ∧ 8 + (maxL + 11) + rm.locals ≤ 386) ∧ rm.cells = 1 ∧ rm.slots = 6) (hk : As.length = k) (d : decode code pc = .ok (.invokestatic idx, 3)) (hst : st = As.reverse ++ rest) (hW : (rest.map fun v => v.category).sum ≤ 8)
    (kk : ∀ (r : Int) (h' : zH), zr r → zh h' → K r h' → zW (zWl p l e s m below meth c b (cells + 1) (slots + 6)) m 8 g 221 s.heap (pc + 3) lv (zi r :: rest) h') : zW (zWl p l e s m below meth c b cells slots) m 8 g 221 s.heap pc lv st h := by
  have hold := C.old
  obtain ⟨hfl, ⟨hx, hb, -, hml, hown, hts, hX, hbl, -, -⟩, hK, -⟩ := C
  have hts' : ∀ w ∈ zWd, w.before #[Value.ref b] s = true := fun w hw => hts w (List.mem_filter.mp hw).1
  have hns : ∀ w ∈ zNs, va_Nw w s := fun w hw => by
    have hw' := hts w (List.mem_filter.mp hw).1
    rcases zns_or hw with ⟨a, i, x, hh, rfl⟩ | ⟨a, i, b', n, d, hh, rfl⟩
    · exact va_Nw.of rfl hw'
    · exact va_Nw.of rfl hw'
  have hG : GoodIn zWd (Cond.codeWith y bytes maxL (some .int) hh :: zWd) := by
    have key : ∀ w ∈ zWd, w ∈ zWd ∧ ((w.onTables && w.keeps) = true ∨ ∃ ty, w = .arrayClass ty) := fun w hw => ⟨hw, good_of_word (List.mem_filter.mp hw).2⟩
    intro w hw
    rcases List.mem_cons.mp hw with rfl | hw
    · exact key _ wc
    · exact key w hw
  intro H locs ls hq hv
  have hcw : vx_CSW room_1 s #[Value.ref b] "AliasStreamsLaw" idx y bytes maxL (some .int) hh (Cond.codeWith y bytes maxL (some .int) hh :: zWd) rm 1 6 k := by
    refine ⟨⟨hR.2.1, hR.2.2, hR.1.1, hR.1.2, pay_in hts' hG, List.mem_cons_self⟩, hts' _ wc, hts' _ wini, ⟨hd.1, hd.2.1⟩, fun sig h => ?_, hts' _ wl, hts' _ wst⟩
    have h2 := hd.2.2
    rw [h] at h2
    exact (Option.some.inj h2).symm
  have hr := vx_runSW (As := As) (rest := rest) (g := F0 m pc ls st) (locs := locs) (cells := cells) (slots := slots) (H := H) (e := e) (below := below) (meth := meth) (R := room_1) ⟨hx, hb, hml, hown, hts'⟩ (hM l hfl H.size) hcw ⟨zBlind, fun U hU hW => ⟨rfl, by rw [hU], zU_moved hq hK hns hold hU hW⟩⟩ rfl hk hv.1 hst (lv_room hW) d ⟨hc, hs⟩
  intro T hT X
  obtain ⟨v, st₀, t, T', L', h0, X', hL, e1, e2, ⟨⟨v', h', hv', hp, hu⟩, hz, hkp⟩, stp⟩ := hr T hT X
  cases hv'
  rw [h0] at hz hkp
  have hS := hq.2.2
  have hAA : ∀ q, zA g 221 H.size q → zA g 221 s.heap.size q := fun q hq => hq.elim Or.inl (fun z => Or.inr (Nat.le_trans hS.1 z))
  have hq' : zQ g 221 h' s.heap T'.heap (locs ++ L') := by
    refine ⟨by rw [e1]; exact hu.1, zD_any hq.2.1, Nat.le_trans hS.1 (by rw [e1]; exact hz), fun q h1 h2 => ?_, fun q hq => ?_⟩
    · rw [e1, hkp q (Nat.lt_of_lt_of_le h1 hS.1) (fun z => h2 (hAA q z))]
      exact hS.2.1 q h1 h2
    · rcases List.mem_append.mp hq with h | h
      · exact hS.2.2 q h
      · exact hAA _ (hL q h)
  obtain ⟨r, rfl, h1, h2, h3⟩ := hp
  obtain ⟨t2, a1, b1⟩ := kk r h' h1 h2 h3 T'.heap (locs ++ L') ls hq' hv T' rfl X'
  exact ⟨t2, stp t2 a1, b1⟩
theorem z_lret (C : zLC p l s m meth c b L xs g) (hc : cells ≤ 601024) (hs : slots ≤ 7293034) (d : decode code pc = .ok (.ireturn, 1)) : zW (zWl p l e s m below meth c b cells slots) m 8 g 221 s.heap pc lv [zi 1] h := by
  obtain ⟨hfl, ⟨hx, hb, hr, hml, hown, hts, hX, hbl, hlk, -⟩, hK, hk⟩ := C
  intro H locs ls hq hv
  have hf : ∀ q ∈ locs, s.heap.size ≤ q.base := by
    intro q hq1
    rcases hq.2.2.2.2 q hq1 with ⟨k, -, e⟩ | z
    · rw [e]; exact hk k
    · exact z
  show W p l e room_1 s m #[Value.ref b] below meth c H locs cells slots (lw_Z below #[Value.ref b] s) (F0 m pc ls [zi 1])
  exact va_forget hf (W.widen hc hs (lw_ret hx hb hr hlk d))
end ZL

/-! Math.floorMod, by hand; GROUP_VALUES, the class's static table -/
section ZF
variable {Wf : Heap → List Loc → JFrame → Prop} {m : MethodId} {R : Room} {cc : ByteArray} {own : String} {nL : Nat} {g : zG} {n : Nat} {H0 : Heap} {pc : Nat} {lv lv' : List (Nat × Value)} {rest : List Value} {h : zH}
theorem z_iremT (X : zX Wf m R cc own nL g n H0) {x y : Int} (hx1 : zr x) (hy1 : zr y) (hy0 : 0 < y) (d : decode cc pc = .ok (.irem, 1)) (k : zW Wf m nL g n H0 (pc + 1) lv (zi (x.tmod y) :: rest) h) : zW Wf m nL g n H0 pc lv (zi y :: zi x :: rest) h := by
  obtain ⟨p, l, e, s, args, below, meth, c, cells, slots, Q, hfl, rfl, rfl, hx, hb, -⟩ := X
  have m1 : Int32.minValue.toInt = -2147483648 := by decide
  have m2 : Int32.maxValue.toInt = 2147483647 := by decide
  exact fun H locs ls hq hv => lv_irem hx hb d (fun q => by have := (zi_eq0 hy1).mp q; omega) (by rw [irem_eq_mod, ← Int32.ofInt_tmod (by omega) (by omega) (by omega) (by omega)]; exact k H locs ls hq hv)
def zxor (x y : Int) : Int := (Int32.ofInt x ^^^ Int32.ofInt y).toInt
theorem z_ixor (X : zX Wf m R cc own nL g n H0) {x y : Int} (d : decode cc pc = .ok (.ixor, 1)) (k : zW Wf m nL g n H0 (pc + 1) lv (zi (zxor x y) :: rest) h) : zW Wf m nL g n H0 pc lv (zi y :: zi x :: rest) h := by
  obtain ⟨p, l, e, s, args, below, meth, c, cells, slots, Q, hfl, rfl, rfl, hx, hb, -⟩ := X
  exact fun H locs ls hq hv => lv_ixor hx hb d (by have := k H locs ls hq hv; rw [show zi (zxor x y) = .int (Int32.ofInt x ^^^ Int32.ofInt y) from by unfold zxor zi; rw [Int32.ofInt_toInt]] at this; exact this)
end ZF
theorem zxor_ge {x y : Int} (hx : zr x) (hy : zr y) (h0 : 0 ≤ y) : 0 ≤ zxor x y ↔ 0 ≤ x := by
  have e : ∀ a : Int32, a.toBitVec.msb = decide (a.toInt < 0) := fun a => BitVec.msb_eq_toInt
  have h1 := e (Int32.ofInt x ^^^ Int32.ofInt y)
  rw [Int32.toBitVec_xor, BitVec.msb_xor, e, e, zi_int hx, zi_int hy, decide_eq_false (by omega : ¬ y < 0), Bool.xor_false] at h1
  unfold zxor
  by_cases q : x < 0
  · rw [decide_eq_true q] at h1
    have := of_decide_eq_true h1.symm
    omega
  · rw [decide_eq_false q] at h1
    have := of_decide_eq_false h1.symm
    omega
theorem zr_tmod {x y : Int} (hy0 : zr y) (hy : 0 < y) : zr (x.tmod y) := by
  have a := tmod_bounds (a := x) hy
  omega
theorem ztmod_pos {x y : Int} (h : 0 ≤ x) : x.tmod y = x % y := Int.tmod_eq_emod_of_nonneg h
theorem ztmod_neg {x y : Int} (hy : 0 < y) (h : x < 0) (h0 : x.tmod y ≠ 0) : x.tmod y + y = x % y := by
  rw [Int.tmod_eq_emod] at h0 ⊢
  by_cases q : 0 ≤ x ∨ y ∣ x
  · rw [if_pos q] at h0 ⊢
    rcases q with q | q
    · omega
    · have := Int.emod_eq_zero_of_dvd q
      omega
  · rw [if_neg q]
    omega
theorem ztmod_zero {x y : Int} (hy : 0 < y) (h0 : x.tmod y = 0) : x % y = 0 := by
  rw [Int.tmod_eq_emod] at h0
  by_cases q : 0 ≤ x ∨ y ∣ x
  · rw [if_pos q] at h0
    omega
  · rw [if_neg q] at h0
    have a := Int.emod_lt_of_pos x hy
    omega
theorem zMet_ofF {l : Launch} {y : MethodName} {bytes : ByteArray} {maxL : Nat} {ret : Option FieldType} {rm : Room} {g : zG} {n : Nat} {avs : List Value} {h : zH} {Post : Option Value → zH → Prop} {own : String} (hfl : l.flags = flags0) (hy : plainFor y = true) (hown : y.cls = own) (hent : (lg_sl avs).length ≤ maxL)
    (body : ∀ (Wf : Heap → List Loc → JFrame → Prop) (m : MethodId) (H0 : Heap), zX Wf m rm bytes own maxL g n H0 → zEx Wf m bytes ret maxL g n H0 Post → zW Wf m maxL g n H0 0 (lv_args 0 avs) [] h) : zMet l y bytes maxL ret rm g n avs h Post := by
  intro sz
  refine va_MetF (cc := bytes) (maxL := maxL) (ret := ret) hy rfl ?_
  intro p e s m args below meth c s₁ B hml hv
  obtain ⟨rfl, hsz, hP, hK, hN, hD, hold⟩ := hv
  have hx := B.exec
  have hb := B.bytes
  have hr := B.returns
  have hts := atoms_spec (ws := Cond.code y bytes maxL ret :: zWd) B.pre
  have hts' : ∀ w ∈ zWd, w.before avs.toArray s = true := fun w hw => hts w (List.mem_cons_of_mem _ hw)
  have how : s.vm.findClass own = some m.cls := by rw [← hown]; exact findClass_of_methodNamed B.named
  have hlocks := B.notSynchronized
  subst hsz
  have hq : zQ g n h s.heap s.heap [] := by
    refine ⟨hP, ⟨hD.1, fun k q hk => ?_⟩, va_S.rf⟩
    have hl := (List.getElem?_eq_some_iff.mp hk).1
    have hn : k < n := by simpa [zws] using hl
    rw [zws_at hn] at hk
    cases hk
    exact Or.inl ⟨k, hn, rfl⟩
  have hl := lv_entry avs (n := maxL) hent
  rw [lg_entry_eq]
  refine body _ m s.heap ⟨p, l, e, s, avs.toArray, below, meth, c, 0, 0, _, hfl, rfl, rfl, hx, hb, hml, how, hts', hN, hK, Nat.zero_le _, Nat.zero_le _, hold⟩ ?_ s.heap [] _ hq hl
  have fin : ∀ (v : Option Value) (h' : zH) (H : Heap) (locs : List Loc) (t : State), Post v h' → zQ g n h' s.heap H locs → t.heap = H → s.WarmedH t.vm → (∃ (v' : Option Value) (h'' : zH), Outcome.returned v = .returned v' ∧ Post v' h'' ∧ zU g n h'' t) ∧ va_F (zA g n s.heap.size) s t :=
    fun v h' H locs t hp hq ht hW => ⟨⟨v, h', rfl, hp, zU_moved hq hK hN hold ht hW⟩, hq.2.2.F ht⟩
  refine ⟨fun e => ?_, fun e => ?_, fun e => ?_, fun e => ?_, fun C e => ?_⟩
  · intro pc lv h' d hp H locs ls hq hv
    exact W.vret hx hb (hr.trans e) (fun t ht hW => fin _ h' H locs t hp hq ht hW) hq.2.2.2.2 d
  · intro pc lv h' x d hp H locs ls hq hv
    exact W.iret hx hb (hr.trans e) (fun t ht hW => fin _ h' H locs t hp hq ht hW) hq.2.2.2.2 d
  · intro pc lv h' x hx2 d hp H locs ls hq hv
    exact W.zret hx hb (hr.trans e) (z_bit hx2).1 (fun t ht hW => fin _ h' H locs t hp hq ht hW) hq.2.2.2.2 d
  · intro pc lv h' x d hp H locs ls hq hv
    exact W.lret hx hb (hr.trans e) (fun t ht hW => fin _ h' H locs t hp hq ht hW) hq.2.2.2.2 d
  · intro pc lv h' a d hp H locs ls hq hv
    exact W.aret hx hb (hr.trans e) (Or.inl ⟨C, rfl⟩) (Or.inr ⟨a, rfl⟩) (fun t ht hW => fin _ h' H locs t hp hq ht hW) hq.2.2.2.2 d
def M_Math_floorMod (x0 x1 : Int) (h : zH) (K : Int → zH → Prop) : Prop := 0 < x1 ∧ K (x0 % x1) h
theorem d_Math_floorMod_0 : decode b_Math_floorMod 0 = .ok (.iload_n 0, 1) := by decide +kernel
theorem d_Math_floorMod_1 : decode b_Math_floorMod 1 = .ok (.iload_n 1, 1) := by decide +kernel
theorem d_Math_floorMod_2 : decode b_Math_floorMod 2 = .ok (.irem, 1) := by decide +kernel
theorem d_Math_floorMod_3 : decode b_Math_floorMod 3 = .ok (.istore_n 2, 1) := by decide +kernel
theorem d_Math_floorMod_4 : decode b_Math_floorMod 4 = .ok (.iload_n 0, 1) := by decide +kernel
theorem d_Math_floorMod_5 : decode b_Math_floorMod 5 = .ok (.iload_n 1, 1) := by decide +kernel
theorem d_Math_floorMod_6 : decode b_Math_floorMod 6 = .ok (.ixor, 1) := by decide +kernel
theorem d_Math_floorMod_7 : decode b_Math_floorMod 7 = .ok (.ifCond .ge 11, 3) := by decide +kernel
theorem d_Math_floorMod_10 : decode b_Math_floorMod 10 = .ok (.iload_n 2, 1) := by decide +kernel
theorem d_Math_floorMod_11 : decode b_Math_floorMod 11 = .ok (.ifCond .eq 7, 3) := by decide +kernel
theorem d_Math_floorMod_14 : decode b_Math_floorMod 14 = .ok (.iload_n 2, 1) := by decide +kernel
theorem d_Math_floorMod_15 : decode b_Math_floorMod 15 = .ok (.iload_n 1, 1) := by decide +kernel
theorem d_Math_floorMod_16 : decode b_Math_floorMod 16 = .ok (.iadd, 1) := by decide +kernel
theorem d_Math_floorMod_17 : decode b_Math_floorMod 17 = .ok (.ireturn, 1) := by decide +kernel
theorem d_Math_floorMod_18 : decode b_Math_floorMod 18 = .ok (.iload_n 2, 1) := by decide +kernel
theorem d_Math_floorMod_19 : decode b_Math_floorMod 19 = .ok (.ireturn, 1) := by decide +kernel
def rm_Math_floorMod : Room := { frames := 0, cells := 0, slots := 0, locals := 0 }
theorem mf_Math_floorMod : zMS y_Math_floorMod b_Math_floorMod 3 (some .int) 2 := ⟨q721, q12, q722, by decide +kernel⟩
set_option maxRecDepth 100000 in
theorem c_Math_floorMod {l : Launch} (hfl : l.flags = flags0) {g : zG} {n : Nat} {x0 : Int} {x1 : Int} (rx0 : zr x0) (rx1 : zr x1) {h : zH} (hh : zh h) {K : Int → zH → Prop} (hv : M_Math_floorMod x0 x1 h K) : zMet l y_Math_floorMod b_Math_floorMod 3 (some .int) rm_Math_floorMod g n [zi x0, zi x1] h (zPi K) := by
  refine zMet_ofF (own := "java/lang/Math") hfl (by decide +kernel) rfl (Nat.le_of_ble_eq_true rfl) (fun Wf m H0 X E => ?_)
  obtain ⟨hp, hv⟩ := hv
  show zW Wf m 3 g n H0 0 [(0, zi x0), (1, zi x1)] [] h
  have rt := zr_tmod (x := x0) rx1 hp
  refine z_iload_n (pc := 0) (q := 0) X d_Math_floorMod_0 rfl ?_
  refine z_iload_n (pc := 1) (q := 1) X d_Math_floorMod_1 rfl ?_
  refine z_iremT (pc := 2) X rx0 rx1 hp d_Math_floorMod_2 ?_
  refine z_istore_n (pc := 3) (lv' := [(2, zi (x0.tmod x1)), (0, zi x0), (1, zi x1)]) X d_Math_floorMod_3 (by decide) rfl ?_
  refine z_iload_n (pc := 4) (q := 1) X d_Math_floorMod_4 rfl ?_
  refine z_iload_n (pc := 5) (q := 2) X d_Math_floorMod_5 rfl ?_
  refine z_ixor (pc := 6) X d_Math_floorMod_6 ?_
  refine z_if_ge (pc := 7) (tgt := 18) X (zr_int _) d_Math_floorMod_7 (by decide) (fun hc => ?_) (fun hc => ?_)
  · refine z_iload_n (pc := 18) (q := 0) X d_Math_floorMod_18 rfl ?_
    have h0 : 0 ≤ x0 := (zxor_ge rx0 rx1 (by omega)).mp hc
    exact E.2.1 rfl _ _ _ _ d_Math_floorMod_19 ⟨_, rfl, rt, hh, by rw [ztmod_pos h0]; exact hv⟩
  · have h0 : x0 < 0 := Int.not_le.mp (fun q => by have := (zxor_ge rx0 rx1 (by omega)).mpr q; omega)
    refine z_iload_n (pc := 10) (q := 0) X d_Math_floorMod_10 rfl ?_
    refine z_if_eq (pc := 11) (tgt := 18) X rt d_Math_floorMod_11 (by decide) (fun hc => ?_) (fun hc => ?_)
    · refine z_iload_n (pc := 18) (q := 0) X d_Math_floorMod_18 rfl ?_
      exact E.2.1 rfl _ _ _ _ d_Math_floorMod_19 ⟨_, rfl, rt, hh, by rw [hc, ← ztmod_zero hp hc]; exact hv⟩
    · refine z_iload_n (pc := 14) (q := 0) X d_Math_floorMod_14 rfl ?_
      refine z_iload_n (pc := 15) (q := 2) X d_Math_floorMod_15 rfl ?_
      refine z_iadd (pc := 16) X d_Math_floorMod_16 ?_
      have e := ztmod_neg hp h0 hc
      have b := zr_rem (x := x0) rx1 hp
      exact E.2.1 rfl _ _ _ _ d_Math_floorMod_17 ⟨_, rfl, by rw [e]; exact b, hh, by rw [e]; exact hv⟩

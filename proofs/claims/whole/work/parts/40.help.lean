/-! the law's helpers (printed by wip/whole/lawgen.py) -/
theorem zcs_1 : Cond.castable "java/lang/IllegalArgumentException" "java/lang/IllegalArgumentException" ∈ lw_tbl := List.mem_append_right _ (List.mem_of_getElem? (i := 494) (by decide +kernel))
theorem zcs_2 : Cond.castable "java/lang/IllegalStateException" "java/lang/IllegalStateException" ∈ lw_tbl := List.mem_append_right _ (List.mem_of_getElem? (i := 562) (by decide +kernel))
theorem zcs_3 : Cond.castable "java/lang/IndexOutOfBoundsException" "java/lang/IndexOutOfBoundsException" ∈ lw_tbl := List.mem_append_right _ (List.mem_of_getElem? (i := 633) (by decide +kernel))
theorem znc_1_3 : zNc "java/lang/IllegalArgumentException" "java/lang/IndexOutOfBoundsException" := fun a0 s0 h => flat_of_before _ h _ (by decide +kernel)
theorem znc_2_1 : zNc "java/lang/IllegalStateException" "java/lang/IllegalArgumentException" := fun a0 s0 h => flat_of_before _ h _ (by decide +kernel)
theorem znc_2_3 : zNc "java/lang/IllegalStateException" "java/lang/IndexOutOfBoundsException" := fun a0 s0 h => flat_of_before _ h _ (by decide +kernel)
theorem znc_3_1 : zNc "java/lang/IndexOutOfBoundsException" "java/lang/IllegalArgumentException" := fun a0 s0 h => flat_of_before _ h _ (by decide +kernel)
theorem d_LW_append_0 : decode b_LW_append 0 = .ok (.aload_n 2, 1) := by decide +kernel
theorem d_LW_append_1 : decode b_LW_append 1 = .ok (.iconst 0, 1) := by decide +kernel
theorem d_LW_append_2 : decode b_LW_append 2 = .ok (.aload_n 0, 1) := by decide +kernel
theorem d_LW_append_3 : decode b_LW_append 3 = .ok (.iload_n 1, 1) := by decide +kernel
theorem d_LW_append_4 : decode b_LW_append 4 = .ok (.invokevirtual 7, 3) := by decide +kernel
theorem d_LW_append_7 : decode b_LW_append 7 = .ok (.i2l, 1) := by decide +kernel
theorem d_LW_append_8 : decode b_LW_append 8 = .ok (.lastore, 1) := by decide +kernel
theorem d_LW_append_9 : decode b_LW_append 9 = .ok (.goto 9, 3) := by decide +kernel
theorem d_LW_append_12 : decode b_LW_append 12 = .ok (.astore_n 3, 1) := by decide +kernel
theorem d_LW_append_13 : decode b_LW_append 13 = .ok (.iconst 1, 1) := by decide +kernel
theorem d_LW_append_14 : decode b_LW_append 14 = .ok (.ireturn, 1) := by decide +kernel
theorem d_LW_append_15 : decode b_LW_append 15 = .ok (.astore_n 3, 1) := by decide +kernel
theorem d_LW_append_16 : decode b_LW_append 16 = .ok (.iconst 2, 1) := by decide +kernel
theorem d_LW_append_17 : decode b_LW_append 17 = .ok (.ireturn, 1) := by decide +kernel
theorem d_LW_append_18 : decode b_LW_append 18 = .ok (.iconst 0, 1) := by decide +kernel
theorem d_LW_append_19 : decode b_LW_append 19 = .ok (.ireturn, 1) := by decide +kernel
def hh_LW_append : List (Nat × Nat × Nat × Nat) := [(0, 9, 12, 13), (0, 9, 15, 15)]
theorem q485w : Cond.codeWith y_LW_append b_LW_append 4 (some .int) hh_LW_append ∈ zWd := zmem 485 (by decide +kernel) rfl
def rm_LW_append : Room := { frames := 7, cells := 1, slots := 6, locals := 111 }
def M_LW_append (p0 : Nat) (x1 : Int) (p2 : Nat) (h : zH) (K : Int → zH → Prop) : Prop :=
  M_AS_append p0 x1 h (fun r h1 => ∀ h2 : zH, h2 = zs h1 p2 0 r → K 0 h2) (fun code h1 => (code = 1 ∧ K 1 h1) ∨ (code = 2 ∧ K 2 h1))
set_option maxRecDepth 100000 in
theorem c_LW_append {l : Launch} (hfl : l.flags = flags0) {g : zG} {n : Nat} {p0 : Nat} {x1 : Int} {p2 : Nat} (op0 : zO n p0 10) (rx1 : zr x1) (op2 : zO n p2 16) {h : zH} (hh : zh h) {K : Int → zH → Prop} (hv : M_LW_append p0 x1 p2 h K) : zMetW l y_LW_append b_LW_append 4 (some .int) hh_LW_append rm_LW_append g n [.ref (g.2.2 p0), zi x1, .ref (g.2.2 p2)] h (zPi K) := by
  refine zMetW_of hfl (by decide) rfl (Nat.le_of_ble_eq_true rfl) ⟨rfl, rfl⟩ (fun Wf0 Wf1 m H0 X0 X1 E Lk => ?_)
  unfold M_LW_append at hv
  show zW Wf0 m 4 g n H0 0 [(0, .ref (g.2.2 p0)), (1, zi x1), (2, .ref (g.2.2 p2))] [] h
  refine z_aload_n (pc := 0) (q := 2) X0 d_LW_append_0 rfl ?_
  refine z_iconst (pc := 1) X0 d_LW_append_1 ?_
  refine z_aload_n (pc := 2) (q := 0) X0 d_LW_append_2 rfl ?_
  refine z_iload_n (pc := 3) (q := 1) X0 d_LW_append_3 rfl ?_
  refine Lk 4 _ [zi 0, .ref (g.2.2 p2)] _ [zi x1] h _ _ _ _ _ _ _ p0 _ _ (fun l hl => c_AS_append hl op0 rx1 hh hv) op0 rfl mf_AS_append q488 ⟨⟨by decide, by decide⟩, rfl, rfl⟩ rfl d_LW_append_4 rfl (Nat.le_of_ble_eq_true rfl) ?_ ?_
  · intro v h1 hp
    obtain ⟨r, rfl, rr, zh1, hv⟩ := hp
    show zW Wf1 m 4 g n H0 7 [(0, .ref (g.2.2 p0)), (1, zi x1), (2, .ref (g.2.2 p2))] (zi r :: [zi 0, .ref (g.2.2 p2)]) h1
    refine z_i2l (pc := 7) X1 rr d_LW_append_7 ?_
    refine z_lastj (pc := 8) (j := 0) X1 op2 (zO16 op2).2 (show zr 0 from by decide) ⟨by decide, by decide⟩ rfl d_LW_append_8 ?_
    refine z_toph (fun h2 e2 => ?_)
    have zh2 : zh h2 := by rw [e2]; exact zh_setl zh1 (zr_l rr) (zO16 op2).1
    refine z_goto (pc := 9) (tgt := 18) X1 d_LW_append_9 (by decide) ?_
    refine z_iconst (pc := 18) X1 d_LW_append_18 ?_
    exact E.2.1 rfl _ _ _ _ d_LW_append_19 ⟨_, rfl, (show zr 0 from by decide), zh2, hv h2 e2⟩
  · intro code E9 h1 hm zh1 hx
    rcases hx with ⟨rfl, hx⟩ | ⟨rfl, hx⟩
    · have hE : E9 = "java/lang/IllegalArgumentException" := by simpa [zExc] using hm
      subst hE
      refine ⟨12, ⟨[], ⟨0, 9, 12, 13⟩, [⟨0, 9, 15, 15⟩], rfl, (fun _ h => absurd h List.not_mem_nil), by decide, by decide, q486, zcs_1, rfl⟩, fun q => ?_⟩
      refine z_astore_n (pc := 12) (lv' := [(3, .ref q), (0, .ref (g.2.2 p0)), (1, zi x1), (2, .ref (g.2.2 p2))]) X1 d_LW_append_12 (by decide) rfl ?_
      refine z_iconst (pc := 13) X1 d_LW_append_13 ?_
      exact E.2.1 rfl _ _ _ _ d_LW_append_14 ⟨_, rfl, (show zr 1 from by decide), zh1, hx⟩
    · have hE : E9 = "java/lang/IllegalStateException" := by simpa [zExc] using hm
      subst hE
      refine ⟨15, ⟨[⟨0, 9, 12, 13⟩], ⟨0, 9, 15, 15⟩, [], rfl, (List.forall_mem_cons.mpr ⟨Or.inr ⟨by decide, "java/lang/IllegalArgumentException", q486, znc_2_1⟩, (fun _ h => absurd h List.not_mem_nil)⟩), by decide, by decide, q487, zcs_2, rfl⟩, fun q => ?_⟩
      refine z_astore_n (pc := 15) (lv' := [(3, .ref q), (0, .ref (g.2.2 p0)), (1, zi x1), (2, .ref (g.2.2 p2))]) X1 d_LW_append_15 (by decide) rfl ?_
      refine z_iconst (pc := 16) X1 d_LW_append_16 ?_
      exact E.2.1 rfl _ _ _ _ d_LW_append_17 ⟨_, rfl, (show zr 2 from by decide), zh1, hx⟩
theorem d_LW_load_0 : decode b_LW_load 0 = .ok (.aload_n 1, 1) := by decide +kernel
theorem d_LW_load_1 : decode b_LW_load 1 = .ok (.iconst 0, 1) := by decide +kernel
theorem d_LW_load_2 : decode b_LW_load 2 = .ok (.aload_n 0, 1) := by decide +kernel
theorem d_LW_load_3 : decode b_LW_load 3 = .ok (.invokevirtual 17, 3) := by decide +kernel
theorem d_LW_load_6 : decode b_LW_load 6 = .ok (.i2l, 1) := by decide +kernel
theorem d_LW_load_7 : decode b_LW_load 7 = .ok (.lastore, 1) := by decide +kernel
theorem d_LW_load_8 : decode b_LW_load 8 = .ok (.goto 6, 3) := by decide +kernel
theorem d_LW_load_11 : decode b_LW_load 11 = .ok (.astore_n 2, 1) := by decide +kernel
theorem d_LW_load_12 : decode b_LW_load 12 = .ok (.iconst 1, 1) := by decide +kernel
theorem d_LW_load_13 : decode b_LW_load 13 = .ok (.ireturn, 1) := by decide +kernel
theorem d_LW_load_14 : decode b_LW_load 14 = .ok (.iconst 0, 1) := by decide +kernel
theorem d_LW_load_15 : decode b_LW_load 15 = .ok (.ireturn, 1) := by decide +kernel
def hh_LW_load : List (Nat × Nat × Nat × Nat) := [(0, 8, 11, 15)]
theorem q582w : Cond.codeWith y_LW_load b_LW_load 3 (some .int) hh_LW_load ∈ zWd := zmem 582 (by decide +kernel) rfl
def rm_LW_load : Room := { frames := 7, cells := 1, slots := 6, locals := 137 }
def M_LW_load (p0 : Nat) (p1 : Nat) (h : zH) (K : Int → zH → Prop) : Prop :=
  M_AS_load p0 h (fun r h1 => ∀ h2 : zH, h2 = zs h1 p1 0 r → K 0 h2) (fun code h1 => (code = 2 ∧ K 1 h1))
set_option maxRecDepth 100000 in
theorem c_LW_load {l : Launch} (hfl : l.flags = flags0) {g : zG} {n : Nat} {p0 : Nat} {p1 : Nat} (op0 : zO n p0 10) (op1 : zO n p1 16) {h : zH} (hh : zh h) {K : Int → zH → Prop} (hv : M_LW_load p0 p1 h K) : zMetW l y_LW_load b_LW_load 3 (some .int) hh_LW_load rm_LW_load g n [.ref (g.2.2 p0), .ref (g.2.2 p1)] h (zPi K) := by
  refine zMetW_of hfl (by decide) rfl (Nat.le_of_ble_eq_true rfl) ⟨rfl, rfl⟩ (fun Wf0 Wf1 m H0 X0 X1 E Lk => ?_)
  unfold M_LW_load at hv
  show zW Wf0 m 3 g n H0 0 [(0, .ref (g.2.2 p0)), (1, .ref (g.2.2 p1))] [] h
  refine z_aload_n (pc := 0) (q := 1) X0 d_LW_load_0 rfl ?_
  refine z_iconst (pc := 1) X0 d_LW_load_1 ?_
  refine z_aload_n (pc := 2) (q := 0) X0 d_LW_load_2 rfl ?_
  refine Lk 3 _ [zi 0, .ref (g.2.2 p1)] _ [] h _ _ _ _ _ _ _ p0 _ _ (fun l hl => c_AS_load hl op0 hh hv) op0 rfl mf_AS_load q583 ⟨⟨by decide, by decide⟩, rfl, rfl⟩ rfl d_LW_load_3 rfl (Nat.le_of_ble_eq_true rfl) ?_ ?_
  · intro v h1 hp
    obtain ⟨r, rfl, rr, zh1, hv⟩ := hp
    show zW Wf1 m 3 g n H0 6 [(0, .ref (g.2.2 p0)), (1, .ref (g.2.2 p1))] (zi r :: [zi 0, .ref (g.2.2 p1)]) h1
    refine z_i2l (pc := 6) X1 rr d_LW_load_6 ?_
    refine z_lastj (pc := 7) (j := 0) X1 op1 (zO16 op1).2 (show zr 0 from by decide) ⟨by decide, by decide⟩ rfl d_LW_load_7 ?_
    refine z_toph (fun h2 e2 => ?_)
    have zh2 : zh h2 := by rw [e2]; exact zh_setl zh1 (zr_l rr) (zO16 op1).1
    refine z_goto (pc := 8) (tgt := 14) X1 d_LW_load_8 (by decide) ?_
    refine z_iconst (pc := 14) X1 d_LW_load_14 ?_
    exact E.2.1 rfl _ _ _ _ d_LW_load_15 ⟨_, rfl, (show zr 0 from by decide), zh2, hv h2 e2⟩
  · intro code E9 h1 hm zh1 hx
    rcases hx with ⟨rfl, hx⟩
    · have hE : E9 = "java/lang/IllegalStateException" := by simpa [zExc] using hm
      subst hE
      refine ⟨11, ⟨[], ⟨0, 8, 11, 15⟩, [], rfl, (fun _ h => absurd h List.not_mem_nil), by decide, by decide, q487, zcs_2, rfl⟩, fun q => ?_⟩
      refine z_astore_n (pc := 11) (lv' := [(2, .ref q), (0, .ref (g.2.2 p0)), (1, .ref (g.2.2 p1))]) X1 d_LW_load_11 (by decide) rfl ?_
      refine z_iconst (pc := 12) X1 d_LW_load_12 ?_
      exact E.2.1 rfl _ _ _ _ d_LW_load_13 ⟨_, rfl, (show zr 1 from by decide), zh1, hx⟩
theorem d_LW_about_0 : decode b_LW_about 0 = .ok (.aload_n 2, 1) := by decide +kernel
theorem d_LW_about_1 : decode b_LW_about 1 = .ok (.iconst 0, 1) := by decide +kernel
theorem d_LW_about_2 : decode b_LW_about 2 = .ok (.aload_n 0, 1) := by decide +kernel
theorem d_LW_about_3 : decode b_LW_about 3 = .ok (.iload_n 1, 1) := by decide +kernel
theorem d_LW_about_4 : decode b_LW_about 4 = .ok (.invokevirtual 21, 3) := by decide +kernel
theorem d_LW_about_7 : decode b_LW_about 7 = .ok (.i2l, 1) := by decide +kernel
theorem d_LW_about_8 : decode b_LW_about 8 = .ok (.lastore, 1) := by decide +kernel
theorem d_LW_about_9 : decode b_LW_about 9 = .ok (.goto 6, 3) := by decide +kernel
theorem d_LW_about_12 : decode b_LW_about 12 = .ok (.astore_n 3, 1) := by decide +kernel
theorem d_LW_about_13 : decode b_LW_about 13 = .ok (.iconst 1, 1) := by decide +kernel
theorem d_LW_about_14 : decode b_LW_about 14 = .ok (.ireturn, 1) := by decide +kernel
theorem d_LW_about_15 : decode b_LW_about 15 = .ok (.iconst 0, 1) := by decide +kernel
theorem d_LW_about_16 : decode b_LW_about 16 = .ok (.ireturn, 1) := by decide +kernel
def hh_LW_about : List (Nat × Nat × Nat × Nat) := [(0, 9, 12, 13)]
theorem q609w : Cond.codeWith y_LW_about b_LW_about 4 (some .int) hh_LW_about ∈ zWd := zmem 609 (by decide +kernel) rfl
def rm_LW_about : Room := { frames := 7, cells := 1, slots := 6, locals := 111 }
def M_LW_about (p0 : Nat) (x1 : Int) (p2 : Nat) (h : zH) (K : Int → zH → Prop) : Prop :=
  M_AS_about p0 x1 h (fun r h1 => ∀ h2 : zH, h2 = zs h1 p2 0 r → K 0 h2) (fun code h1 => (code = 1 ∧ K 1 h1))
set_option maxRecDepth 100000 in
theorem c_LW_about {l : Launch} (hfl : l.flags = flags0) {g : zG} {n : Nat} {p0 : Nat} {x1 : Int} {p2 : Nat} (op0 : zO n p0 10) (rx1 : zr x1) (op2 : zO n p2 16) {h : zH} (hh : zh h) {K : Int → zH → Prop} (hv : M_LW_about p0 x1 p2 h K) : zMetW l y_LW_about b_LW_about 4 (some .int) hh_LW_about rm_LW_about g n [.ref (g.2.2 p0), zi x1, .ref (g.2.2 p2)] h (zPi K) := by
  refine zMetW_of hfl (by decide) rfl (Nat.le_of_ble_eq_true rfl) ⟨rfl, rfl⟩ (fun Wf0 Wf1 m H0 X0 X1 E Lk => ?_)
  unfold M_LW_about at hv
  show zW Wf0 m 4 g n H0 0 [(0, .ref (g.2.2 p0)), (1, zi x1), (2, .ref (g.2.2 p2))] [] h
  refine z_aload_n (pc := 0) (q := 2) X0 d_LW_about_0 rfl ?_
  refine z_iconst (pc := 1) X0 d_LW_about_1 ?_
  refine z_aload_n (pc := 2) (q := 0) X0 d_LW_about_2 rfl ?_
  refine z_iload_n (pc := 3) (q := 1) X0 d_LW_about_3 rfl ?_
  refine Lk 4 _ [zi 0, .ref (g.2.2 p2)] _ [zi x1] h _ _ _ _ _ _ _ p0 _ _ (fun l hl => c_AS_about hl op0 rx1 hh hv) op0 rfl mf_AS_about q610 ⟨⟨by decide, by decide⟩, rfl, rfl⟩ rfl d_LW_about_4 rfl (Nat.le_of_ble_eq_true rfl) ?_ ?_
  · intro v h1 hp
    obtain ⟨r, rfl, rr, zh1, hv⟩ := hp
    show zW Wf1 m 4 g n H0 7 [(0, .ref (g.2.2 p0)), (1, zi x1), (2, .ref (g.2.2 p2))] (zi r :: [zi 0, .ref (g.2.2 p2)]) h1
    refine z_i2l (pc := 7) X1 rr d_LW_about_7 ?_
    refine z_lastj (pc := 8) (j := 0) X1 op2 (zO16 op2).2 (show zr 0 from by decide) ⟨by decide, by decide⟩ rfl d_LW_about_8 ?_
    refine z_toph (fun h2 e2 => ?_)
    have zh2 : zh h2 := by rw [e2]; exact zh_setl zh1 (zr_l rr) (zO16 op2).1
    refine z_goto (pc := 9) (tgt := 15) X1 d_LW_about_9 (by decide) ?_
    refine z_iconst (pc := 15) X1 d_LW_about_15 ?_
    exact E.2.1 rfl _ _ _ _ d_LW_about_16 ⟨_, rfl, (show zr 0 from by decide), zh2, hv h2 e2⟩
  · intro code E9 h1 hm zh1 hx
    rcases hx with ⟨rfl, hx⟩
    · have hE : E9 = "java/lang/IllegalArgumentException" := by simpa [zExc] using hm
      subst hE
      refine ⟨12, ⟨[], ⟨0, 9, 12, 13⟩, [], rfl, (fun _ h => absurd h List.not_mem_nil), by decide, by decide, q486, zcs_1, rfl⟩, fun q => ?_⟩
      refine z_astore_n (pc := 12) (lv' := [(3, .ref q), (0, .ref (g.2.2 p0)), (1, zi x1), (2, .ref (g.2.2 p2))]) X1 d_LW_about_12 (by decide) rfl ?_
      refine z_iconst (pc := 13) X1 d_LW_about_13 ?_
      exact E.2.1 rfl _ _ _ _ d_LW_about_14 ⟨_, rfl, (show zr 1 from by decide), zh1, hx⟩
theorem d_LW_symbol_0 : decode b_LW_symbol 0 = .ok (.aload 4, 2) := by decide +kernel
theorem d_LW_symbol_2 : decode b_LW_symbol 2 = .ok (.iconst 0, 1) := by decide +kernel
theorem d_LW_symbol_3 : decode b_LW_symbol 3 = .ok (.aload_n 0, 1) := by decide +kernel
theorem d_LW_symbol_4 : decode b_LW_symbol 4 = .ok (.iload_n 1, 1) := by decide +kernel
theorem d_LW_symbol_5 : decode b_LW_symbol 5 = .ok (.iload_n 2, 1) := by decide +kernel
theorem d_LW_symbol_6 : decode b_LW_symbol 6 = .ok (.iload_n 3, 1) := by decide +kernel
theorem d_LW_symbol_7 : decode b_LW_symbol 7 = .ok (.invokevirtual 24, 3) := by decide +kernel
theorem d_LW_symbol_10 : decode b_LW_symbol 10 = .ok (.i2l, 1) := by decide +kernel
theorem d_LW_symbol_11 : decode b_LW_symbol 11 = .ok (.lastore, 1) := by decide +kernel
theorem d_LW_symbol_12 : decode b_LW_symbol 12 = .ok (.goto 11, 3) := by decide +kernel
theorem d_LW_symbol_15 : decode b_LW_symbol 15 = .ok (.astore 5, 2) := by decide +kernel
theorem d_LW_symbol_17 : decode b_LW_symbol 17 = .ok (.iconst 1, 1) := by decide +kernel
theorem d_LW_symbol_18 : decode b_LW_symbol 18 = .ok (.ireturn, 1) := by decide +kernel
theorem d_LW_symbol_19 : decode b_LW_symbol 19 = .ok (.astore 5, 2) := by decide +kernel
theorem d_LW_symbol_21 : decode b_LW_symbol 21 = .ok (.iconst 2, 1) := by decide +kernel
theorem d_LW_symbol_22 : decode b_LW_symbol 22 = .ok (.ireturn, 1) := by decide +kernel
theorem d_LW_symbol_23 : decode b_LW_symbol 23 = .ok (.iconst 0, 1) := by decide +kernel
theorem d_LW_symbol_24 : decode b_LW_symbol 24 = .ok (.ireturn, 1) := by decide +kernel
def hh_LW_symbol : List (Nat × Nat × Nat × Nat) := [(0, 12, 15, 28), (0, 12, 19, 13)]
theorem q617w : Cond.codeWith y_LW_symbol b_LW_symbol 6 (some .int) hh_LW_symbol ∈ zWd := zmem 617 (by decide +kernel) rfl
def rm_LW_symbol : Room := { frames := 7, cells := 1, slots := 6, locals := 113 }
def M_LW_symbol (p0 : Nat) (x1 : Int) (x2 : Int) (x3 : Int) (p4 : Nat) (h : zH) (K : Int → zH → Prop) : Prop :=
  M_AS_symbol p0 x1 x2 x3 h (fun r h1 => ∀ h2 : zH, h2 = zs h1 p4 0 r → K 0 h2) (fun code h1 => (code = 3 ∧ K 1 h1) ∨ (code = 1 ∧ K 2 h1))
set_option maxRecDepth 100000 in
theorem c_LW_symbol {l : Launch} (hfl : l.flags = flags0) {g : zG} {n : Nat} {p0 : Nat} {x1 : Int} {x2 : Int} {x3 : Int} {p4 : Nat} (op0 : zO n p0 10) (rx1 : zr x1) (rx2 : zr x2) (rx3 : zr x3) (op4 : zO n p4 16) {h : zH} (hh : zh h) {K : Int → zH → Prop} (hv : M_LW_symbol p0 x1 x2 x3 p4 h K) : zMetW l y_LW_symbol b_LW_symbol 6 (some .int) hh_LW_symbol rm_LW_symbol g n [.ref (g.2.2 p0), zi x1, zi x2, zi x3, .ref (g.2.2 p4)] h (zPi K) := by
  refine zMetW_of hfl (by decide) rfl (Nat.le_of_ble_eq_true rfl) ⟨rfl, rfl⟩ (fun Wf0 Wf1 m H0 X0 X1 E Lk => ?_)
  unfold M_LW_symbol at hv
  show zW Wf0 m 6 g n H0 0 [(0, .ref (g.2.2 p0)), (1, zi x1), (2, zi x2), (3, zi x3), (4, .ref (g.2.2 p4))] [] h
  refine z_aload (pc := 0) (q := 4) X0 d_LW_symbol_0 rfl ?_
  refine z_iconst (pc := 2) X0 d_LW_symbol_2 ?_
  refine z_aload_n (pc := 3) (q := 0) X0 d_LW_symbol_3 rfl ?_
  refine z_iload_n (pc := 4) (q := 1) X0 d_LW_symbol_4 rfl ?_
  refine z_iload_n (pc := 5) (q := 2) X0 d_LW_symbol_5 rfl ?_
  refine z_iload_n (pc := 6) (q := 3) X0 d_LW_symbol_6 rfl ?_
  refine Lk 7 _ [zi 0, .ref (g.2.2 p4)] _ [zi x1, zi x2, zi x3] h _ _ _ _ _ _ _ p0 _ _ (fun l hl => c_AS_symbol hl op0 rx1 rx2 rx3 hh hv) op0 rfl mf_AS_symbol q619 ⟨⟨by decide, by decide⟩, rfl, rfl⟩ rfl d_LW_symbol_7 rfl (Nat.le_of_ble_eq_true rfl) ?_ ?_
  · intro v h1 hp
    obtain ⟨r, rfl, rr, zh1, hv⟩ := hp
    show zW Wf1 m 6 g n H0 10 [(0, .ref (g.2.2 p0)), (1, zi x1), (2, zi x2), (3, zi x3), (4, .ref (g.2.2 p4))] (zi r :: [zi 0, .ref (g.2.2 p4)]) h1
    refine z_i2l (pc := 10) X1 rr d_LW_symbol_10 ?_
    refine z_lastj (pc := 11) (j := 0) X1 op4 (zO16 op4).2 (show zr 0 from by decide) ⟨by decide, by decide⟩ rfl d_LW_symbol_11 ?_
    refine z_toph (fun h2 e2 => ?_)
    have zh2 : zh h2 := by rw [e2]; exact zh_setl zh1 (zr_l rr) (zO16 op4).1
    refine z_goto (pc := 12) (tgt := 23) X1 d_LW_symbol_12 (by decide) ?_
    refine z_iconst (pc := 23) X1 d_LW_symbol_23 ?_
    exact E.2.1 rfl _ _ _ _ d_LW_symbol_24 ⟨_, rfl, (show zr 0 from by decide), zh2, hv h2 e2⟩
  · intro code E9 h1 hm zh1 hx
    rcases hx with ⟨rfl, hx⟩ | ⟨rfl, hx⟩
    · have hE : E9 = "java/lang/IndexOutOfBoundsException" := by simpa [zExc] using hm
      subst hE
      refine ⟨15, ⟨[], ⟨0, 12, 15, 28⟩, [⟨0, 12, 19, 13⟩], rfl, (fun _ h => absurd h List.not_mem_nil), by decide, by decide, q618, zcs_3, rfl⟩, fun q => ?_⟩
      refine z_astore (pc := 15) (lv' := [(5, .ref q), (0, .ref (g.2.2 p0)), (1, zi x1), (2, zi x2), (3, zi x3), (4, .ref (g.2.2 p4))]) X1 d_LW_symbol_15 (by decide) rfl ?_
      refine z_iconst (pc := 17) X1 d_LW_symbol_17 ?_
      exact E.2.1 rfl _ _ _ _ d_LW_symbol_18 ⟨_, rfl, (show zr 1 from by decide), zh1, hx⟩
    · have hE : E9 = "java/lang/IllegalArgumentException" := by simpa [zExc] using hm
      subst hE
      refine ⟨19, ⟨[⟨0, 12, 15, 28⟩], ⟨0, 12, 19, 13⟩, [], rfl, (List.forall_mem_cons.mpr ⟨Or.inr ⟨by decide, "java/lang/IndexOutOfBoundsException", q618, znc_1_3⟩, (fun _ h => absurd h List.not_mem_nil)⟩), by decide, by decide, q486, zcs_1, rfl⟩, fun q => ?_⟩
      refine z_astore (pc := 19) (lv' := [(5, .ref q), (0, .ref (g.2.2 p0)), (1, zi x1), (2, zi x2), (3, zi x3), (4, .ref (g.2.2 p4))]) X1 d_LW_symbol_19 (by decide) rfl ?_
      refine z_iconst (pc := 21) X1 d_LW_symbol_21 ?_
      exact E.2.1 rfl _ _ _ _ d_LW_symbol_22 ⟨_, rfl, (show zr 2 from by decide), zh1, hx⟩
theorem d_LW_bucket_0 : decode b_LW_bucket 0 = .ok (.aload 4, 2) := by decide +kernel
theorem d_LW_bucket_2 : decode b_LW_bucket 2 = .ok (.iconst 0, 1) := by decide +kernel
theorem d_LW_bucket_3 : decode b_LW_bucket 3 = .ok (.aload_n 0, 1) := by decide +kernel
theorem d_LW_bucket_4 : decode b_LW_bucket 4 = .ok (.iload_n 1, 1) := by decide +kernel
theorem d_LW_bucket_5 : decode b_LW_bucket 5 = .ok (.iload_n 2, 1) := by decide +kernel
theorem d_LW_bucket_6 : decode b_LW_bucket 6 = .ok (.iload_n 3, 1) := by decide +kernel
theorem d_LW_bucket_7 : decode b_LW_bucket 7 = .ok (.invokevirtual 30, 3) := by decide +kernel
theorem d_LW_bucket_10 : decode b_LW_bucket 10 = .ok (.i2l, 1) := by decide +kernel
theorem d_LW_bucket_11 : decode b_LW_bucket 11 = .ok (.lastore, 1) := by decide +kernel
theorem d_LW_bucket_12 : decode b_LW_bucket 12 = .ok (.goto 11, 3) := by decide +kernel
theorem d_LW_bucket_15 : decode b_LW_bucket 15 = .ok (.astore 5, 2) := by decide +kernel
theorem d_LW_bucket_17 : decode b_LW_bucket 17 = .ok (.iconst 1, 1) := by decide +kernel
theorem d_LW_bucket_18 : decode b_LW_bucket 18 = .ok (.ireturn, 1) := by decide +kernel
theorem d_LW_bucket_19 : decode b_LW_bucket 19 = .ok (.astore 5, 2) := by decide +kernel
theorem d_LW_bucket_21 : decode b_LW_bucket 21 = .ok (.iconst 2, 1) := by decide +kernel
theorem d_LW_bucket_22 : decode b_LW_bucket 22 = .ok (.ireturn, 1) := by decide +kernel
theorem d_LW_bucket_23 : decode b_LW_bucket 23 = .ok (.iconst 0, 1) := by decide +kernel
theorem d_LW_bucket_24 : decode b_LW_bucket 24 = .ok (.ireturn, 1) := by decide +kernel
def hh_LW_bucket : List (Nat × Nat × Nat × Nat) := [(0, 12, 15, 28), (0, 12, 19, 13)]
theorem q657w : Cond.codeWith y_LW_bucket b_LW_bucket 6 (some .int) hh_LW_bucket ∈ zWd := zmem 657 (by decide +kernel) rfl
def rm_LW_bucket : Room := { frames := 7, cells := 1, slots := 6, locals := 114 }
def M_LW_bucket (p0 : Nat) (x1 : Int) (x2 : Int) (x3 : Int) (p4 : Nat) (h : zH) (K : Int → zH → Prop) : Prop :=
  M_AS_bucket p0 x1 x2 x3 h (fun r h1 => ∀ h2 : zH, h2 = zs h1 p4 0 r → K 0 h2) (fun code h1 => (code = 3 ∧ K 1 h1) ∨ (code = 1 ∧ K 2 h1))
set_option maxRecDepth 100000 in
theorem c_LW_bucket {l : Launch} (hfl : l.flags = flags0) {g : zG} {n : Nat} {p0 : Nat} {x1 : Int} {x2 : Int} {x3 : Int} {p4 : Nat} (op0 : zO n p0 10) (rx1 : zr x1) (rx2 : zr x2) (rx3 : zr x3) (op4 : zO n p4 16) {h : zH} (hh : zh h) {K : Int → zH → Prop} (hv : M_LW_bucket p0 x1 x2 x3 p4 h K) : zMetW l y_LW_bucket b_LW_bucket 6 (some .int) hh_LW_bucket rm_LW_bucket g n [.ref (g.2.2 p0), zi x1, zi x2, zi x3, .ref (g.2.2 p4)] h (zPi K) := by
  refine zMetW_of hfl (by decide) rfl (Nat.le_of_ble_eq_true rfl) ⟨rfl, rfl⟩ (fun Wf0 Wf1 m H0 X0 X1 E Lk => ?_)
  unfold M_LW_bucket at hv
  show zW Wf0 m 6 g n H0 0 [(0, .ref (g.2.2 p0)), (1, zi x1), (2, zi x2), (3, zi x3), (4, .ref (g.2.2 p4))] [] h
  refine z_aload (pc := 0) (q := 4) X0 d_LW_bucket_0 rfl ?_
  refine z_iconst (pc := 2) X0 d_LW_bucket_2 ?_
  refine z_aload_n (pc := 3) (q := 0) X0 d_LW_bucket_3 rfl ?_
  refine z_iload_n (pc := 4) (q := 1) X0 d_LW_bucket_4 rfl ?_
  refine z_iload_n (pc := 5) (q := 2) X0 d_LW_bucket_5 rfl ?_
  refine z_iload_n (pc := 6) (q := 3) X0 d_LW_bucket_6 rfl ?_
  refine Lk 7 _ [zi 0, .ref (g.2.2 p4)] _ [zi x1, zi x2, zi x3] h _ _ _ _ _ _ _ p0 _ _ (fun l hl => c_AS_bucket hl op0 rx1 rx2 rx3 hh hv) op0 rfl mf_AS_bucket q658 ⟨⟨by decide, by decide⟩, rfl, rfl⟩ rfl d_LW_bucket_7 rfl (Nat.le_of_ble_eq_true rfl) ?_ ?_
  · intro v h1 hp
    obtain ⟨r, rfl, rr, zh1, hv⟩ := hp
    show zW Wf1 m 6 g n H0 10 [(0, .ref (g.2.2 p0)), (1, zi x1), (2, zi x2), (3, zi x3), (4, .ref (g.2.2 p4))] (zi r :: [zi 0, .ref (g.2.2 p4)]) h1
    refine z_i2l (pc := 10) X1 rr d_LW_bucket_10 ?_
    refine z_lastj (pc := 11) (j := 0) X1 op4 (zO16 op4).2 (show zr 0 from by decide) ⟨by decide, by decide⟩ rfl d_LW_bucket_11 ?_
    refine z_toph (fun h2 e2 => ?_)
    have zh2 : zh h2 := by rw [e2]; exact zh_setl zh1 (zr_l rr) (zO16 op4).1
    refine z_goto (pc := 12) (tgt := 23) X1 d_LW_bucket_12 (by decide) ?_
    refine z_iconst (pc := 23) X1 d_LW_bucket_23 ?_
    exact E.2.1 rfl _ _ _ _ d_LW_bucket_24 ⟨_, rfl, (show zr 0 from by decide), zh2, hv h2 e2⟩
  · intro code E9 h1 hm zh1 hx
    rcases hx with ⟨rfl, hx⟩ | ⟨rfl, hx⟩
    · have hE : E9 = "java/lang/IndexOutOfBoundsException" := by simpa [zExc] using hm
      subst hE
      refine ⟨15, ⟨[], ⟨0, 12, 15, 28⟩, [⟨0, 12, 19, 13⟩], rfl, (fun _ h => absurd h List.not_mem_nil), by decide, by decide, q618, zcs_3, rfl⟩, fun q => ?_⟩
      refine z_astore (pc := 15) (lv' := [(5, .ref q), (0, .ref (g.2.2 p0)), (1, zi x1), (2, zi x2), (3, zi x3), (4, .ref (g.2.2 p4))]) X1 d_LW_bucket_15 (by decide) rfl ?_
      refine z_iconst (pc := 17) X1 d_LW_bucket_17 ?_
      exact E.2.1 rfl _ _ _ _ d_LW_bucket_18 ⟨_, rfl, (show zr 1 from by decide), zh1, hx⟩
    · have hE : E9 = "java/lang/IllegalArgumentException" := by simpa [zExc] using hm
      subst hE
      refine ⟨19, ⟨[⟨0, 12, 15, 28⟩], ⟨0, 12, 19, 13⟩, [], rfl, (List.forall_mem_cons.mpr ⟨Or.inr ⟨by decide, "java/lang/IndexOutOfBoundsException", q618, znc_1_3⟩, (fun _ h => absurd h List.not_mem_nil)⟩), by decide, by decide, q486, zcs_1, rfl⟩, fun q => ?_⟩
      refine z_astore (pc := 19) (lv' := [(5, .ref q), (0, .ref (g.2.2 p0)), (1, zi x1), (2, zi x2), (3, zi x3), (4, .ref (g.2.2 p4))]) X1 d_LW_bucket_19 (by decide) rfl ?_
      refine z_iconst (pc := 21) X1 d_LW_bucket_21 ?_
      exact E.2.1 rfl _ _ _ _ d_LW_bucket_22 ⟨_, rfl, (show zr 2 from by decide), zh1, hx⟩
theorem d_LW_slot_0 : decode b_LW_slot 0 = .ok (.aload 4, 2) := by decide +kernel
theorem d_LW_slot_2 : decode b_LW_slot 2 = .ok (.iconst 0, 1) := by decide +kernel
theorem d_LW_slot_3 : decode b_LW_slot 3 = .ok (.aload_n 0, 1) := by decide +kernel
theorem d_LW_slot_4 : decode b_LW_slot 4 = .ok (.iload_n 1, 1) := by decide +kernel
theorem d_LW_slot_5 : decode b_LW_slot 5 = .ok (.iload_n 2, 1) := by decide +kernel
theorem d_LW_slot_6 : decode b_LW_slot 6 = .ok (.iload_n 3, 1) := by decide +kernel
theorem d_LW_slot_7 : decode b_LW_slot 7 = .ok (.invokevirtual 33, 3) := by decide +kernel
theorem d_LW_slot_10 : decode b_LW_slot 10 = .ok (.i2l, 1) := by decide +kernel
theorem d_LW_slot_11 : decode b_LW_slot 11 = .ok (.lastore, 1) := by decide +kernel
theorem d_LW_slot_12 : decode b_LW_slot 12 = .ok (.goto 11, 3) := by decide +kernel
theorem d_LW_slot_15 : decode b_LW_slot 15 = .ok (.astore 5, 2) := by decide +kernel
theorem d_LW_slot_17 : decode b_LW_slot 17 = .ok (.iconst 1, 1) := by decide +kernel
theorem d_LW_slot_18 : decode b_LW_slot 18 = .ok (.ireturn, 1) := by decide +kernel
theorem d_LW_slot_19 : decode b_LW_slot 19 = .ok (.astore 5, 2) := by decide +kernel
theorem d_LW_slot_21 : decode b_LW_slot 21 = .ok (.iconst 2, 1) := by decide +kernel
theorem d_LW_slot_22 : decode b_LW_slot 22 = .ok (.ireturn, 1) := by decide +kernel
theorem d_LW_slot_23 : decode b_LW_slot 23 = .ok (.iconst 0, 1) := by decide +kernel
theorem d_LW_slot_24 : decode b_LW_slot 24 = .ok (.ireturn, 1) := by decide +kernel
def hh_LW_slot : List (Nat × Nat × Nat × Nat) := [(0, 12, 15, 28), (0, 12, 19, 13)]
theorem q665w : Cond.codeWith y_LW_slot b_LW_slot 6 (some .int) hh_LW_slot ∈ zWd := zmem 665 (by decide +kernel) rfl
def rm_LW_slot : Room := { frames := 7, cells := 1, slots := 6, locals := 114 }
def M_LW_slot (p0 : Nat) (x1 : Int) (x2 : Int) (x3 : Int) (p4 : Nat) (h : zH) (K : Int → zH → Prop) : Prop :=
  M_AS_slot p0 x1 x2 x3 h (fun r h1 => ∀ h2 : zH, h2 = zs h1 p4 0 r → K 0 h2) (fun code h1 => (code = 3 ∧ K 1 h1) ∨ (code = 1 ∧ K 2 h1))
set_option maxRecDepth 100000 in
theorem c_LW_slot {l : Launch} (hfl : l.flags = flags0) {g : zG} {n : Nat} {p0 : Nat} {x1 : Int} {x2 : Int} {x3 : Int} {p4 : Nat} (op0 : zO n p0 10) (rx1 : zr x1) (rx2 : zr x2) (rx3 : zr x3) (op4 : zO n p4 16) {h : zH} (hh : zh h) {K : Int → zH → Prop} (hv : M_LW_slot p0 x1 x2 x3 p4 h K) : zMetW l y_LW_slot b_LW_slot 6 (some .int) hh_LW_slot rm_LW_slot g n [.ref (g.2.2 p0), zi x1, zi x2, zi x3, .ref (g.2.2 p4)] h (zPi K) := by
  refine zMetW_of hfl (by decide) rfl (Nat.le_of_ble_eq_true rfl) ⟨rfl, rfl⟩ (fun Wf0 Wf1 m H0 X0 X1 E Lk => ?_)
  unfold M_LW_slot at hv
  show zW Wf0 m 6 g n H0 0 [(0, .ref (g.2.2 p0)), (1, zi x1), (2, zi x2), (3, zi x3), (4, .ref (g.2.2 p4))] [] h
  refine z_aload (pc := 0) (q := 4) X0 d_LW_slot_0 rfl ?_
  refine z_iconst (pc := 2) X0 d_LW_slot_2 ?_
  refine z_aload_n (pc := 3) (q := 0) X0 d_LW_slot_3 rfl ?_
  refine z_iload_n (pc := 4) (q := 1) X0 d_LW_slot_4 rfl ?_
  refine z_iload_n (pc := 5) (q := 2) X0 d_LW_slot_5 rfl ?_
  refine z_iload_n (pc := 6) (q := 3) X0 d_LW_slot_6 rfl ?_
  refine Lk 7 _ [zi 0, .ref (g.2.2 p4)] _ [zi x1, zi x2, zi x3] h _ _ _ _ _ _ _ p0 _ _ (fun l hl => c_AS_slot hl op0 rx1 rx2 rx3 hh hv) op0 rfl mf_AS_slot q666 ⟨⟨by decide, by decide⟩, rfl, rfl⟩ rfl d_LW_slot_7 rfl (Nat.le_of_ble_eq_true rfl) ?_ ?_
  · intro v h1 hp
    obtain ⟨r, rfl, rr, zh1, hv⟩ := hp
    show zW Wf1 m 6 g n H0 10 [(0, .ref (g.2.2 p0)), (1, zi x1), (2, zi x2), (3, zi x3), (4, .ref (g.2.2 p4))] (zi r :: [zi 0, .ref (g.2.2 p4)]) h1
    refine z_i2l (pc := 10) X1 rr d_LW_slot_10 ?_
    refine z_lastj (pc := 11) (j := 0) X1 op4 (zO16 op4).2 (show zr 0 from by decide) ⟨by decide, by decide⟩ rfl d_LW_slot_11 ?_
    refine z_toph (fun h2 e2 => ?_)
    have zh2 : zh h2 := by rw [e2]; exact zh_setl zh1 (zr_l rr) (zO16 op4).1
    refine z_goto (pc := 12) (tgt := 23) X1 d_LW_slot_12 (by decide) ?_
    refine z_iconst (pc := 23) X1 d_LW_slot_23 ?_
    exact E.2.1 rfl _ _ _ _ d_LW_slot_24 ⟨_, rfl, (show zr 0 from by decide), zh2, hv h2 e2⟩
  · intro code E9 h1 hm zh1 hx
    rcases hx with ⟨rfl, hx⟩ | ⟨rfl, hx⟩
    · have hE : E9 = "java/lang/IndexOutOfBoundsException" := by simpa [zExc] using hm
      subst hE
      refine ⟨15, ⟨[], ⟨0, 12, 15, 28⟩, [⟨0, 12, 19, 13⟩], rfl, (fun _ h => absurd h List.not_mem_nil), by decide, by decide, q618, zcs_3, rfl⟩, fun q => ?_⟩
      refine z_astore (pc := 15) (lv' := [(5, .ref q), (0, .ref (g.2.2 p0)), (1, zi x1), (2, zi x2), (3, zi x3), (4, .ref (g.2.2 p4))]) X1 d_LW_slot_15 (by decide) rfl ?_
      refine z_iconst (pc := 17) X1 d_LW_slot_17 ?_
      exact E.2.1 rfl _ _ _ _ d_LW_slot_18 ⟨_, rfl, (show zr 1 from by decide), zh1, hx⟩
    · have hE : E9 = "java/lang/IllegalArgumentException" := by simpa [zExc] using hm
      subst hE
      refine ⟨19, ⟨[⟨0, 12, 15, 28⟩], ⟨0, 12, 19, 13⟩, [], rfl, (List.forall_mem_cons.mpr ⟨Or.inr ⟨by decide, "java/lang/IndexOutOfBoundsException", q618, znc_1_3⟩, (fun _ h => absurd h List.not_mem_nil)⟩), by decide, by decide, q486, zcs_1, rfl⟩, fun q => ?_⟩
      refine z_astore (pc := 19) (lv' := [(5, .ref q), (0, .ref (g.2.2 p0)), (1, zi x1), (2, zi x2), (3, zi x3), (4, .ref (g.2.2 p4))]) X1 d_LW_slot_19 (by decide) rfl ?_
      refine z_iconst (pc := 21) X1 d_LW_slot_21 ?_
      exact E.2.1 rfl _ _ _ _ d_LW_slot_22 ⟨_, rfl, (show zr 2 from by decide), zh1, hx⟩
theorem d_LW_item_0 : decode b_LW_item 0 = .ok (.aload_n 2, 1) := by decide +kernel
theorem d_LW_item_1 : decode b_LW_item 1 = .ok (.iconst 0, 1) := by decide +kernel
theorem d_LW_item_2 : decode b_LW_item 2 = .ok (.aload_n 0, 1) := by decide +kernel
theorem d_LW_item_3 : decode b_LW_item 3 = .ok (.iload_n 1, 1) := by decide +kernel
theorem d_LW_item_4 : decode b_LW_item 4 = .ok (.invokevirtual 36, 3) := by decide +kernel
theorem d_LW_item_7 : decode b_LW_item 7 = .ok (.i2l, 1) := by decide +kernel
theorem d_LW_item_8 : decode b_LW_item 8 = .ok (.lastore, 1) := by decide +kernel
theorem d_LW_item_9 : decode b_LW_item 9 = .ok (.goto 6, 3) := by decide +kernel
theorem d_LW_item_12 : decode b_LW_item 12 = .ok (.astore_n 3, 1) := by decide +kernel
theorem d_LW_item_13 : decode b_LW_item 13 = .ok (.iconst 1, 1) := by decide +kernel
theorem d_LW_item_14 : decode b_LW_item 14 = .ok (.ireturn, 1) := by decide +kernel
theorem d_LW_item_15 : decode b_LW_item 15 = .ok (.iconst 0, 1) := by decide +kernel
theorem d_LW_item_16 : decode b_LW_item 16 = .ok (.ireturn, 1) := by decide +kernel
def hh_LW_item : List (Nat × Nat × Nat × Nat) := [(0, 9, 12, 28)]
theorem q673w : Cond.codeWith y_LW_item b_LW_item 4 (some .int) hh_LW_item ∈ zWd := zmem 673 (by decide +kernel) rfl
def rm_LW_item : Room := { frames := 7, cells := 1, slots := 6, locals := 111 }
def M_LW_item (p0 : Nat) (x1 : Int) (p2 : Nat) (h : zH) (K : Int → zH → Prop) : Prop :=
  M_AS_item p0 x1 h (fun r h1 => ∀ h2 : zH, h2 = zs h1 p2 0 r → K 0 h2) (fun code h1 => (code = 3 ∧ K 1 h1))
set_option maxRecDepth 100000 in
theorem c_LW_item {l : Launch} (hfl : l.flags = flags0) {g : zG} {n : Nat} {p0 : Nat} {x1 : Int} {p2 : Nat} (op0 : zO n p0 10) (rx1 : zr x1) (op2 : zO n p2 16) {h : zH} (hh : zh h) {K : Int → zH → Prop} (hv : M_LW_item p0 x1 p2 h K) : zMetW l y_LW_item b_LW_item 4 (some .int) hh_LW_item rm_LW_item g n [.ref (g.2.2 p0), zi x1, .ref (g.2.2 p2)] h (zPi K) := by
  refine zMetW_of hfl (by decide) rfl (Nat.le_of_ble_eq_true rfl) ⟨rfl, rfl⟩ (fun Wf0 Wf1 m H0 X0 X1 E Lk => ?_)
  unfold M_LW_item at hv
  show zW Wf0 m 4 g n H0 0 [(0, .ref (g.2.2 p0)), (1, zi x1), (2, .ref (g.2.2 p2))] [] h
  refine z_aload_n (pc := 0) (q := 2) X0 d_LW_item_0 rfl ?_
  refine z_iconst (pc := 1) X0 d_LW_item_1 ?_
  refine z_aload_n (pc := 2) (q := 0) X0 d_LW_item_2 rfl ?_
  refine z_iload_n (pc := 3) (q := 1) X0 d_LW_item_3 rfl ?_
  refine Lk 4 _ [zi 0, .ref (g.2.2 p2)] _ [zi x1] h _ _ _ _ _ _ _ p0 _ _ (fun l hl => c_AS_item hl op0 rx1 hh hv) op0 rfl mf_AS_item q674 ⟨⟨by decide, by decide⟩, rfl, rfl⟩ rfl d_LW_item_4 rfl (Nat.le_of_ble_eq_true rfl) ?_ ?_
  · intro v h1 hp
    obtain ⟨r, rfl, rr, zh1, hv⟩ := hp
    show zW Wf1 m 4 g n H0 7 [(0, .ref (g.2.2 p0)), (1, zi x1), (2, .ref (g.2.2 p2))] (zi r :: [zi 0, .ref (g.2.2 p2)]) h1
    refine z_i2l (pc := 7) X1 rr d_LW_item_7 ?_
    refine z_lastj (pc := 8) (j := 0) X1 op2 (zO16 op2).2 (show zr 0 from by decide) ⟨by decide, by decide⟩ rfl d_LW_item_8 ?_
    refine z_toph (fun h2 e2 => ?_)
    have zh2 : zh h2 := by rw [e2]; exact zh_setl zh1 (zr_l rr) (zO16 op2).1
    refine z_goto (pc := 9) (tgt := 15) X1 d_LW_item_9 (by decide) ?_
    refine z_iconst (pc := 15) X1 d_LW_item_15 ?_
    exact E.2.1 rfl _ _ _ _ d_LW_item_16 ⟨_, rfl, (show zr 0 from by decide), zh2, hv h2 e2⟩
  · intro code E9 h1 hm zh1 hx
    rcases hx with ⟨rfl, hx⟩
    · have hE : E9 = "java/lang/IndexOutOfBoundsException" := by simpa [zExc] using hm
      subst hE
      refine ⟨12, ⟨[], ⟨0, 9, 12, 28⟩, [], rfl, (fun _ h => absurd h List.not_mem_nil), by decide, by decide, q618, zcs_3, rfl⟩, fun q => ?_⟩
      refine z_astore_n (pc := 12) (lv' := [(3, .ref q), (0, .ref (g.2.2 p0)), (1, zi x1), (2, .ref (g.2.2 p2))]) X1 d_LW_item_12 (by decide) rfl ?_
      refine z_iconst (pc := 13) X1 d_LW_item_13 ?_
      exact E.2.1 rfl _ _ _ _ d_LW_item_14 ⟨_, rfl, (show zr 1 from by decide), zh1, hx⟩
theorem d_LW_tape_0 : decode b_LW_tape 0 = .ok (.aload_n 3, 1) := by decide +kernel
theorem d_LW_tape_1 : decode b_LW_tape 1 = .ok (.iconst 0, 1) := by decide +kernel
theorem d_LW_tape_2 : decode b_LW_tape 2 = .ok (.aload_n 0, 1) := by decide +kernel
theorem d_LW_tape_3 : decode b_LW_tape 3 = .ok (.iload_n 1, 1) := by decide +kernel
theorem d_LW_tape_4 : decode b_LW_tape 4 = .ok (.iload_n 2, 1) := by decide +kernel
theorem d_LW_tape_5 : decode b_LW_tape 5 = .ok (.invokevirtual 39, 3) := by decide +kernel
theorem d_LW_tape_8 : decode b_LW_tape 8 = .ok (.i2l, 1) := by decide +kernel
theorem d_LW_tape_9 : decode b_LW_tape 9 = .ok (.lastore, 1) := by decide +kernel
theorem d_LW_tape_10 : decode b_LW_tape 10 = .ok (.goto 11, 3) := by decide +kernel
theorem d_LW_tape_13 : decode b_LW_tape 13 = .ok (.astore 4, 2) := by decide +kernel
theorem d_LW_tape_15 : decode b_LW_tape 15 = .ok (.iconst 1, 1) := by decide +kernel
theorem d_LW_tape_16 : decode b_LW_tape 16 = .ok (.ireturn, 1) := by decide +kernel
theorem d_LW_tape_17 : decode b_LW_tape 17 = .ok (.astore 4, 2) := by decide +kernel
theorem d_LW_tape_19 : decode b_LW_tape 19 = .ok (.iconst 2, 1) := by decide +kernel
theorem d_LW_tape_20 : decode b_LW_tape 20 = .ok (.ireturn, 1) := by decide +kernel
theorem d_LW_tape_21 : decode b_LW_tape 21 = .ok (.iconst 0, 1) := by decide +kernel
theorem d_LW_tape_22 : decode b_LW_tape 22 = .ok (.ireturn, 1) := by decide +kernel
def hh_LW_tape : List (Nat × Nat × Nat × Nat) := [(0, 10, 13, 13), (0, 10, 17, 28)]
theorem q685w : Cond.codeWith y_LW_tape b_LW_tape 5 (some .int) hh_LW_tape ∈ zWd := zmem 685 (by decide +kernel) rfl
def rm_LW_tape : Room := { frames := 7, cells := 1, slots := 6, locals := 113 }
def M_LW_tape (p0 : Nat) (x1 : Int) (x2 : Int) (p3 : Nat) (h : zH) (K : Int → zH → Prop) : Prop :=
  M_AS_tape p0 x1 x2 h (fun r h1 => ∀ h2 : zH, h2 = zs h1 p3 0 r → K 0 h2) (fun code h1 => (code = 1 ∧ K 1 h1) ∨ (code = 3 ∧ K 2 h1))
set_option maxRecDepth 100000 in
theorem c_LW_tape {l : Launch} (hfl : l.flags = flags0) {g : zG} {n : Nat} {p0 : Nat} {x1 : Int} {x2 : Int} {p3 : Nat} (op0 : zO n p0 10) (rx1 : zr x1) (rx2 : zr x2) (op3 : zO n p3 16) {h : zH} (hh : zh h) {K : Int → zH → Prop} (hv : M_LW_tape p0 x1 x2 p3 h K) : zMetW l y_LW_tape b_LW_tape 5 (some .int) hh_LW_tape rm_LW_tape g n [.ref (g.2.2 p0), zi x1, zi x2, .ref (g.2.2 p3)] h (zPi K) := by
  refine zMetW_of hfl (by decide) rfl (Nat.le_of_ble_eq_true rfl) ⟨rfl, rfl⟩ (fun Wf0 Wf1 m H0 X0 X1 E Lk => ?_)
  unfold M_LW_tape at hv
  show zW Wf0 m 5 g n H0 0 [(0, .ref (g.2.2 p0)), (1, zi x1), (2, zi x2), (3, .ref (g.2.2 p3))] [] h
  refine z_aload_n (pc := 0) (q := 3) X0 d_LW_tape_0 rfl ?_
  refine z_iconst (pc := 1) X0 d_LW_tape_1 ?_
  refine z_aload_n (pc := 2) (q := 0) X0 d_LW_tape_2 rfl ?_
  refine z_iload_n (pc := 3) (q := 1) X0 d_LW_tape_3 rfl ?_
  refine z_iload_n (pc := 4) (q := 2) X0 d_LW_tape_4 rfl ?_
  refine Lk 5 _ [zi 0, .ref (g.2.2 p3)] _ [zi x1, zi x2] h _ _ _ _ _ _ _ p0 _ _ (fun l hl => c_AS_tape hl op0 rx1 rx2 hh hv) op0 rfl mf_AS_tape q686 ⟨⟨by decide, by decide⟩, rfl, rfl⟩ rfl d_LW_tape_5 rfl (Nat.le_of_ble_eq_true rfl) ?_ ?_
  · intro v h1 hp
    obtain ⟨r, rfl, rr, zh1, hv⟩ := hp
    show zW Wf1 m 5 g n H0 8 [(0, .ref (g.2.2 p0)), (1, zi x1), (2, zi x2), (3, .ref (g.2.2 p3))] (zi r :: [zi 0, .ref (g.2.2 p3)]) h1
    refine z_i2l (pc := 8) X1 rr d_LW_tape_8 ?_
    refine z_lastj (pc := 9) (j := 0) X1 op3 (zO16 op3).2 (show zr 0 from by decide) ⟨by decide, by decide⟩ rfl d_LW_tape_9 ?_
    refine z_toph (fun h2 e2 => ?_)
    have zh2 : zh h2 := by rw [e2]; exact zh_setl zh1 (zr_l rr) (zO16 op3).1
    refine z_goto (pc := 10) (tgt := 21) X1 d_LW_tape_10 (by decide) ?_
    refine z_iconst (pc := 21) X1 d_LW_tape_21 ?_
    exact E.2.1 rfl _ _ _ _ d_LW_tape_22 ⟨_, rfl, (show zr 0 from by decide), zh2, hv h2 e2⟩
  · intro code E9 h1 hm zh1 hx
    rcases hx with ⟨rfl, hx⟩ | ⟨rfl, hx⟩
    · have hE : E9 = "java/lang/IllegalArgumentException" := by simpa [zExc] using hm
      subst hE
      refine ⟨13, ⟨[], ⟨0, 10, 13, 13⟩, [⟨0, 10, 17, 28⟩], rfl, (fun _ h => absurd h List.not_mem_nil), by decide, by decide, q486, zcs_1, rfl⟩, fun q => ?_⟩
      refine z_astore (pc := 13) (lv' := [(4, .ref q), (0, .ref (g.2.2 p0)), (1, zi x1), (2, zi x2), (3, .ref (g.2.2 p3))]) X1 d_LW_tape_13 (by decide) rfl ?_
      refine z_iconst (pc := 15) X1 d_LW_tape_15 ?_
      exact E.2.1 rfl _ _ _ _ d_LW_tape_16 ⟨_, rfl, (show zr 1 from by decide), zh1, hx⟩
    · have hE : E9 = "java/lang/IndexOutOfBoundsException" := by simpa [zExc] using hm
      subst hE
      refine ⟨17, ⟨[⟨0, 10, 13, 13⟩], ⟨0, 10, 17, 28⟩, [], rfl, (List.forall_mem_cons.mpr ⟨Or.inr ⟨by decide, "java/lang/IllegalArgumentException", q486, znc_3_1⟩, (fun _ h => absurd h List.not_mem_nil)⟩), by decide, by decide, q618, zcs_3, rfl⟩, fun q => ?_⟩
      refine z_astore (pc := 17) (lv' := [(4, .ref q), (0, .ref (g.2.2 p0)), (1, zi x1), (2, zi x2), (3, .ref (g.2.2 p3))]) X1 d_LW_tape_17 (by decide) rfl ?_
      refine z_iconst (pc := 19) X1 d_LW_tape_19 ?_
      exact E.2.1 rfl _ _ _ _ d_LW_tape_20 ⟨_, rfl, (show zr 2 from by decide), zh1, hx⟩
theorem d_LW_setCount_0 : decode b_LW_setCount 0 = .ok (.aload 4, 2) := by decide +kernel
theorem d_LW_setCount_2 : decode b_LW_setCount 2 = .ok (.iconst 0, 1) := by decide +kernel
theorem d_LW_setCount_3 : decode b_LW_setCount 3 = .ok (.aload_n 0, 1) := by decide +kernel
theorem d_LW_setCount_4 : decode b_LW_setCount 4 = .ok (.iload_n 1, 1) := by decide +kernel
theorem d_LW_setCount_5 : decode b_LW_setCount 5 = .ok (.iload_n 2, 1) := by decide +kernel
theorem d_LW_setCount_6 : decode b_LW_setCount 6 = .ok (.iload_n 3, 1) := by decide +kernel
theorem d_LW_setCount_7 : decode b_LW_setCount 7 = .ok (.invokevirtual 43, 3) := by decide +kernel
theorem d_LW_setCount_10 : decode b_LW_setCount 10 = .ok (.i2l, 1) := by decide +kernel
theorem d_LW_setCount_11 : decode b_LW_setCount 11 = .ok (.lastore, 1) := by decide +kernel
theorem d_LW_setCount_12 : decode b_LW_setCount 12 = .ok (.goto 15, 3) := by decide +kernel
theorem d_LW_setCount_15 : decode b_LW_setCount 15 = .ok (.astore 5, 2) := by decide +kernel
theorem d_LW_setCount_17 : decode b_LW_setCount 17 = .ok (.iconst 1, 1) := by decide +kernel
theorem d_LW_setCount_18 : decode b_LW_setCount 18 = .ok (.ireturn, 1) := by decide +kernel
theorem d_LW_setCount_19 : decode b_LW_setCount 19 = .ok (.astore 5, 2) := by decide +kernel
theorem d_LW_setCount_21 : decode b_LW_setCount 21 = .ok (.iconst 2, 1) := by decide +kernel
theorem d_LW_setCount_22 : decode b_LW_setCount 22 = .ok (.ireturn, 1) := by decide +kernel
theorem d_LW_setCount_23 : decode b_LW_setCount 23 = .ok (.astore 5, 2) := by decide +kernel
theorem d_LW_setCount_25 : decode b_LW_setCount 25 = .ok (.iconst 3, 1) := by decide +kernel
theorem d_LW_setCount_26 : decode b_LW_setCount 26 = .ok (.ireturn, 1) := by decide +kernel
theorem d_LW_setCount_27 : decode b_LW_setCount 27 = .ok (.iconst 0, 1) := by decide +kernel
theorem d_LW_setCount_28 : decode b_LW_setCount 28 = .ok (.ireturn, 1) := by decide +kernel
def hh_LW_setCount : List (Nat × Nat × Nat × Nat) := [(0, 12, 15, 28), (0, 12, 19, 13), (0, 12, 23, 15)]
theorem q702w : Cond.codeWith y_LW_setCount b_LW_setCount 6 (some .int) hh_LW_setCount ∈ zWd := zmem 702 (by decide +kernel) rfl
def rm_LW_setCount : Room := { frames := 7, cells := 1, slots := 6, locals := 147 }
def M_LW_setCount (p0 : Nat) (x1 : Int) (x2 : Int) (x3 : Int) (p4 : Nat) (h : zH) (K : Int → zH → Prop) : Prop :=
  M_AS_setCount p0 x1 x2 x3 h (fun r h1 => ∀ h2 : zH, h2 = zs h1 p4 0 r → K 0 h2) (fun code h1 => (code = 3 ∧ K 1 h1) ∨ (code = 1 ∧ K 2 h1) ∨ (code = 2 ∧ K 3 h1))
set_option maxRecDepth 100000 in
theorem c_LW_setCount {l : Launch} (hfl : l.flags = flags0) {g : zG} {n : Nat} {p0 : Nat} {x1 : Int} {x2 : Int} {x3 : Int} {p4 : Nat} (op0 : zO n p0 10) (rx1 : zr x1) (rx2 : zr x2) (rx3 : zr x3) (op4 : zO n p4 16) {h : zH} (hh : zh h) {K : Int → zH → Prop} (hv : M_LW_setCount p0 x1 x2 x3 p4 h K) : zMetW l y_LW_setCount b_LW_setCount 6 (some .int) hh_LW_setCount rm_LW_setCount g n [.ref (g.2.2 p0), zi x1, zi x2, zi x3, .ref (g.2.2 p4)] h (zPi K) := by
  refine zMetW_of hfl (by decide) rfl (Nat.le_of_ble_eq_true rfl) ⟨rfl, rfl⟩ (fun Wf0 Wf1 m H0 X0 X1 E Lk => ?_)
  unfold M_LW_setCount at hv
  show zW Wf0 m 6 g n H0 0 [(0, .ref (g.2.2 p0)), (1, zi x1), (2, zi x2), (3, zi x3), (4, .ref (g.2.2 p4))] [] h
  refine z_aload (pc := 0) (q := 4) X0 d_LW_setCount_0 rfl ?_
  refine z_iconst (pc := 2) X0 d_LW_setCount_2 ?_
  refine z_aload_n (pc := 3) (q := 0) X0 d_LW_setCount_3 rfl ?_
  refine z_iload_n (pc := 4) (q := 1) X0 d_LW_setCount_4 rfl ?_
  refine z_iload_n (pc := 5) (q := 2) X0 d_LW_setCount_5 rfl ?_
  refine z_iload_n (pc := 6) (q := 3) X0 d_LW_setCount_6 rfl ?_
  refine Lk 7 _ [zi 0, .ref (g.2.2 p4)] _ [zi x1, zi x2, zi x3] h _ _ _ _ _ _ _ p0 _ _ (fun l hl => c_AS_setCount hl op0 rx1 rx2 rx3 hh hv) op0 rfl mf_AS_setCount q703 ⟨⟨by decide, by decide⟩, rfl, rfl⟩ rfl d_LW_setCount_7 rfl (Nat.le_of_ble_eq_true rfl) ?_ ?_
  · intro v h1 hp
    obtain ⟨r, rfl, rr, zh1, hv⟩ := hp
    show zW Wf1 m 6 g n H0 10 [(0, .ref (g.2.2 p0)), (1, zi x1), (2, zi x2), (3, zi x3), (4, .ref (g.2.2 p4))] (zi r :: [zi 0, .ref (g.2.2 p4)]) h1
    refine z_i2l (pc := 10) X1 rr d_LW_setCount_10 ?_
    refine z_lastj (pc := 11) (j := 0) X1 op4 (zO16 op4).2 (show zr 0 from by decide) ⟨by decide, by decide⟩ rfl d_LW_setCount_11 ?_
    refine z_toph (fun h2 e2 => ?_)
    have zh2 : zh h2 := by rw [e2]; exact zh_setl zh1 (zr_l rr) (zO16 op4).1
    refine z_goto (pc := 12) (tgt := 27) X1 d_LW_setCount_12 (by decide) ?_
    refine z_iconst (pc := 27) X1 d_LW_setCount_27 ?_
    exact E.2.1 rfl _ _ _ _ d_LW_setCount_28 ⟨_, rfl, (show zr 0 from by decide), zh2, hv h2 e2⟩
  · intro code E9 h1 hm zh1 hx
    rcases hx with ⟨rfl, hx⟩ | ⟨rfl, hx⟩ | ⟨rfl, hx⟩
    · have hE : E9 = "java/lang/IndexOutOfBoundsException" := by simpa [zExc] using hm
      subst hE
      refine ⟨15, ⟨[], ⟨0, 12, 15, 28⟩, [⟨0, 12, 19, 13⟩, ⟨0, 12, 23, 15⟩], rfl, (fun _ h => absurd h List.not_mem_nil), by decide, by decide, q618, zcs_3, rfl⟩, fun q => ?_⟩
      refine z_astore (pc := 15) (lv' := [(5, .ref q), (0, .ref (g.2.2 p0)), (1, zi x1), (2, zi x2), (3, zi x3), (4, .ref (g.2.2 p4))]) X1 d_LW_setCount_15 (by decide) rfl ?_
      refine z_iconst (pc := 17) X1 d_LW_setCount_17 ?_
      exact E.2.1 rfl _ _ _ _ d_LW_setCount_18 ⟨_, rfl, (show zr 1 from by decide), zh1, hx⟩
    · have hE : E9 = "java/lang/IllegalArgumentException" := by simpa [zExc] using hm
      subst hE
      refine ⟨19, ⟨[⟨0, 12, 15, 28⟩], ⟨0, 12, 19, 13⟩, [⟨0, 12, 23, 15⟩], rfl, (List.forall_mem_cons.mpr ⟨Or.inr ⟨by decide, "java/lang/IndexOutOfBoundsException", q618, znc_1_3⟩, (fun _ h => absurd h List.not_mem_nil)⟩), by decide, by decide, q486, zcs_1, rfl⟩, fun q => ?_⟩
      refine z_astore (pc := 19) (lv' := [(5, .ref q), (0, .ref (g.2.2 p0)), (1, zi x1), (2, zi x2), (3, zi x3), (4, .ref (g.2.2 p4))]) X1 d_LW_setCount_19 (by decide) rfl ?_
      refine z_iconst (pc := 21) X1 d_LW_setCount_21 ?_
      exact E.2.1 rfl _ _ _ _ d_LW_setCount_22 ⟨_, rfl, (show zr 2 from by decide), zh1, hx⟩
    · have hE : E9 = "java/lang/IllegalStateException" := by simpa [zExc] using hm
      subst hE
      refine ⟨23, ⟨[⟨0, 12, 15, 28⟩, ⟨0, 12, 19, 13⟩], ⟨0, 12, 23, 15⟩, [], rfl, (List.forall_mem_cons.mpr ⟨Or.inr ⟨by decide, "java/lang/IndexOutOfBoundsException", q618, znc_2_3⟩, (List.forall_mem_cons.mpr ⟨Or.inr ⟨by decide, "java/lang/IllegalArgumentException", q486, znc_2_1⟩, (fun _ h => absurd h List.not_mem_nil)⟩)⟩), by decide, by decide, q487, zcs_2, rfl⟩, fun q => ?_⟩
      refine z_astore (pc := 23) (lv' := [(5, .ref q), (0, .ref (g.2.2 p0)), (1, zi x1), (2, zi x2), (3, zi x3), (4, .ref (g.2.2 p4))]) X1 d_LW_setCount_23 (by decide) rfl ?_
      refine z_iconst (pc := 25) X1 d_LW_setCount_25 ?_
      exact E.2.1 rfl _ _ _ _ d_LW_setCount_26 ⟨_, rfl, (show zr 3 from by decide), zh1, hx⟩
theorem d_LW_insert_0 : decode b_LW_insert 0 = .ok (.aload_n 3, 1) := by decide +kernel
theorem d_LW_insert_1 : decode b_LW_insert 1 = .ok (.iconst 0, 1) := by decide +kernel
theorem d_LW_insert_2 : decode b_LW_insert 2 = .ok (.aload_n 0, 1) := by decide +kernel
theorem d_LW_insert_3 : decode b_LW_insert 3 = .ok (.iload_n 1, 1) := by decide +kernel
theorem d_LW_insert_4 : decode b_LW_insert 4 = .ok (.iload_n 2, 1) := by decide +kernel
theorem d_LW_insert_5 : decode b_LW_insert 5 = .ok (.invokevirtual 46, 3) := by decide +kernel
theorem d_LW_insert_8 : decode b_LW_insert 8 = .ok (.i2l, 1) := by decide +kernel
theorem d_LW_insert_9 : decode b_LW_insert 9 = .ok (.lastore, 1) := by decide +kernel
theorem d_LW_insert_10 : decode b_LW_insert 10 = .ok (.goto 15, 3) := by decide +kernel
theorem d_LW_insert_13 : decode b_LW_insert 13 = .ok (.astore 4, 2) := by decide +kernel
theorem d_LW_insert_15 : decode b_LW_insert 15 = .ok (.iconst 1, 1) := by decide +kernel
theorem d_LW_insert_16 : decode b_LW_insert 16 = .ok (.ireturn, 1) := by decide +kernel
theorem d_LW_insert_17 : decode b_LW_insert 17 = .ok (.astore 4, 2) := by decide +kernel
theorem d_LW_insert_19 : decode b_LW_insert 19 = .ok (.iconst 2, 1) := by decide +kernel
theorem d_LW_insert_20 : decode b_LW_insert 20 = .ok (.ireturn, 1) := by decide +kernel
theorem d_LW_insert_21 : decode b_LW_insert 21 = .ok (.astore 4, 2) := by decide +kernel
theorem d_LW_insert_23 : decode b_LW_insert 23 = .ok (.iconst 3, 1) := by decide +kernel
theorem d_LW_insert_24 : decode b_LW_insert 24 = .ok (.ireturn, 1) := by decide +kernel
theorem d_LW_insert_25 : decode b_LW_insert 25 = .ok (.iconst 0, 1) := by decide +kernel
theorem d_LW_insert_26 : decode b_LW_insert 26 = .ok (.ireturn, 1) := by decide +kernel
def hh_LW_insert : List (Nat × Nat × Nat × Nat) := [(0, 10, 13, 28), (0, 10, 17, 13), (0, 10, 21, 15)]
theorem q742w : Cond.codeWith y_LW_insert b_LW_insert 5 (some .int) hh_LW_insert ∈ zWd := zmem 742 (by decide +kernel) rfl
def rm_LW_insert : Room := { frames := 7, cells := 1, slots := 6, locals := 145 }
def M_LW_insert (p0 : Nat) (x1 : Int) (x2 : Int) (p3 : Nat) (h : zH) (K : Int → zH → Prop) : Prop :=
  M_AS_insert p0 x1 x2 h (fun r h1 => ∀ h2 : zH, h2 = zs h1 p3 0 r → K 0 h2) (fun code h1 => (code = 3 ∧ K 1 h1) ∨ (code = 1 ∧ K 2 h1) ∨ (code = 2 ∧ K 3 h1))
set_option maxRecDepth 100000 in
theorem c_LW_insert {l : Launch} (hfl : l.flags = flags0) {g : zG} {n : Nat} {p0 : Nat} {x1 : Int} {x2 : Int} {p3 : Nat} (op0 : zO n p0 10) (rx1 : zr x1) (rx2 : zr x2) (op3 : zO n p3 16) {h : zH} (hh : zh h) {K : Int → zH → Prop} (hv : M_LW_insert p0 x1 x2 p3 h K) : zMetW l y_LW_insert b_LW_insert 5 (some .int) hh_LW_insert rm_LW_insert g n [.ref (g.2.2 p0), zi x1, zi x2, .ref (g.2.2 p3)] h (zPi K) := by
  refine zMetW_of hfl (by decide) rfl (Nat.le_of_ble_eq_true rfl) ⟨rfl, rfl⟩ (fun Wf0 Wf1 m H0 X0 X1 E Lk => ?_)
  unfold M_LW_insert at hv
  show zW Wf0 m 5 g n H0 0 [(0, .ref (g.2.2 p0)), (1, zi x1), (2, zi x2), (3, .ref (g.2.2 p3))] [] h
  refine z_aload_n (pc := 0) (q := 3) X0 d_LW_insert_0 rfl ?_
  refine z_iconst (pc := 1) X0 d_LW_insert_1 ?_
  refine z_aload_n (pc := 2) (q := 0) X0 d_LW_insert_2 rfl ?_
  refine z_iload_n (pc := 3) (q := 1) X0 d_LW_insert_3 rfl ?_
  refine z_iload_n (pc := 4) (q := 2) X0 d_LW_insert_4 rfl ?_
  refine Lk 5 _ [zi 0, .ref (g.2.2 p3)] _ [zi x1, zi x2] h _ _ _ _ _ _ _ p0 _ _ (fun l hl => c_AS_insert hl op0 rx1 rx2 hh hv) op0 rfl mf_AS_insert q743 ⟨⟨by decide, by decide⟩, rfl, rfl⟩ rfl d_LW_insert_5 rfl (Nat.le_of_ble_eq_true rfl) ?_ ?_
  · intro v h1 hp
    obtain ⟨r, rfl, rr, zh1, hv⟩ := hp
    show zW Wf1 m 5 g n H0 8 [(0, .ref (g.2.2 p0)), (1, zi x1), (2, zi x2), (3, .ref (g.2.2 p3))] (zi r :: [zi 0, .ref (g.2.2 p3)]) h1
    refine z_i2l (pc := 8) X1 rr d_LW_insert_8 ?_
    refine z_lastj (pc := 9) (j := 0) X1 op3 (zO16 op3).2 (show zr 0 from by decide) ⟨by decide, by decide⟩ rfl d_LW_insert_9 ?_
    refine z_toph (fun h2 e2 => ?_)
    have zh2 : zh h2 := by rw [e2]; exact zh_setl zh1 (zr_l rr) (zO16 op3).1
    refine z_goto (pc := 10) (tgt := 25) X1 d_LW_insert_10 (by decide) ?_
    refine z_iconst (pc := 25) X1 d_LW_insert_25 ?_
    exact E.2.1 rfl _ _ _ _ d_LW_insert_26 ⟨_, rfl, (show zr 0 from by decide), zh2, hv h2 e2⟩
  · intro code E9 h1 hm zh1 hx
    rcases hx with ⟨rfl, hx⟩ | ⟨rfl, hx⟩ | ⟨rfl, hx⟩
    · have hE : E9 = "java/lang/IndexOutOfBoundsException" := by simpa [zExc] using hm
      subst hE
      refine ⟨13, ⟨[], ⟨0, 10, 13, 28⟩, [⟨0, 10, 17, 13⟩, ⟨0, 10, 21, 15⟩], rfl, (fun _ h => absurd h List.not_mem_nil), by decide, by decide, q618, zcs_3, rfl⟩, fun q => ?_⟩
      refine z_astore (pc := 13) (lv' := [(4, .ref q), (0, .ref (g.2.2 p0)), (1, zi x1), (2, zi x2), (3, .ref (g.2.2 p3))]) X1 d_LW_insert_13 (by decide) rfl ?_
      refine z_iconst (pc := 15) X1 d_LW_insert_15 ?_
      exact E.2.1 rfl _ _ _ _ d_LW_insert_16 ⟨_, rfl, (show zr 1 from by decide), zh1, hx⟩
    · have hE : E9 = "java/lang/IllegalArgumentException" := by simpa [zExc] using hm
      subst hE
      refine ⟨17, ⟨[⟨0, 10, 13, 28⟩], ⟨0, 10, 17, 13⟩, [⟨0, 10, 21, 15⟩], rfl, (List.forall_mem_cons.mpr ⟨Or.inr ⟨by decide, "java/lang/IndexOutOfBoundsException", q618, znc_1_3⟩, (fun _ h => absurd h List.not_mem_nil)⟩), by decide, by decide, q486, zcs_1, rfl⟩, fun q => ?_⟩
      refine z_astore (pc := 17) (lv' := [(4, .ref q), (0, .ref (g.2.2 p0)), (1, zi x1), (2, zi x2), (3, .ref (g.2.2 p3))]) X1 d_LW_insert_17 (by decide) rfl ?_
      refine z_iconst (pc := 19) X1 d_LW_insert_19 ?_
      exact E.2.1 rfl _ _ _ _ d_LW_insert_20 ⟨_, rfl, (show zr 2 from by decide), zh1, hx⟩
    · have hE : E9 = "java/lang/IllegalStateException" := by simpa [zExc] using hm
      subst hE
      refine ⟨21, ⟨[⟨0, 10, 13, 28⟩, ⟨0, 10, 17, 13⟩], ⟨0, 10, 21, 15⟩, [], rfl, (List.forall_mem_cons.mpr ⟨Or.inr ⟨by decide, "java/lang/IndexOutOfBoundsException", q618, znc_2_3⟩, (List.forall_mem_cons.mpr ⟨Or.inr ⟨by decide, "java/lang/IllegalArgumentException", q486, znc_2_1⟩, (fun _ h => absurd h List.not_mem_nil)⟩)⟩), by decide, by decide, q487, zcs_2, rfl⟩, fun q => ?_⟩
      refine z_astore (pc := 21) (lv' := [(4, .ref q), (0, .ref (g.2.2 p0)), (1, zi x1), (2, zi x2), (3, .ref (g.2.2 p3))]) X1 d_LW_insert_21 (by decide) rfl ?_
      refine z_iconst (pc := 23) X1 d_LW_insert_23 ?_
      exact E.2.1 rfl _ _ _ _ d_LW_insert_24 ⟨_, rfl, (show zr 3 from by decide), zh1, hx⟩
theorem d_LW_remove_0 : decode b_LW_remove 0 = .ok (.aload_n 2, 1) := by decide +kernel
theorem d_LW_remove_1 : decode b_LW_remove 1 = .ok (.iconst 0, 1) := by decide +kernel
theorem d_LW_remove_2 : decode b_LW_remove 2 = .ok (.aload_n 0, 1) := by decide +kernel
theorem d_LW_remove_3 : decode b_LW_remove 3 = .ok (.iload_n 1, 1) := by decide +kernel
theorem d_LW_remove_4 : decode b_LW_remove 4 = .ok (.invokevirtual 49, 3) := by decide +kernel
theorem d_LW_remove_7 : decode b_LW_remove 7 = .ok (.i2l, 1) := by decide +kernel
theorem d_LW_remove_8 : decode b_LW_remove 8 = .ok (.lastore, 1) := by decide +kernel
theorem d_LW_remove_9 : decode b_LW_remove 9 = .ok (.goto 6, 3) := by decide +kernel
theorem d_LW_remove_12 : decode b_LW_remove 12 = .ok (.astore_n 3, 1) := by decide +kernel
theorem d_LW_remove_13 : decode b_LW_remove 13 = .ok (.iconst 1, 1) := by decide +kernel
theorem d_LW_remove_14 : decode b_LW_remove 14 = .ok (.ireturn, 1) := by decide +kernel
theorem d_LW_remove_15 : decode b_LW_remove 15 = .ok (.iconst 0, 1) := by decide +kernel
theorem d_LW_remove_16 : decode b_LW_remove 16 = .ok (.ireturn, 1) := by decide +kernel
def hh_LW_remove : List (Nat × Nat × Nat × Nat) := [(0, 9, 12, 28)]
theorem q762w : Cond.codeWith y_LW_remove b_LW_remove 4 (some .int) hh_LW_remove ∈ zWd := zmem 762 (by decide +kernel) rfl
def rm_LW_remove : Room := { frames := 7, cells := 1, slots := 6, locals := 145 }
def M_LW_remove (p0 : Nat) (x1 : Int) (p2 : Nat) (h : zH) (K : Int → zH → Prop) : Prop :=
  M_AS_remove p0 x1 h (fun r h1 => ∀ h2 : zH, h2 = zs h1 p2 0 r → K 0 h2) (fun code h1 => (code = 3 ∧ K 1 h1))
set_option maxRecDepth 100000 in
theorem c_LW_remove {l : Launch} (hfl : l.flags = flags0) {g : zG} {n : Nat} {p0 : Nat} {x1 : Int} {p2 : Nat} (op0 : zO n p0 10) (rx1 : zr x1) (op2 : zO n p2 16) {h : zH} (hh : zh h) {K : Int → zH → Prop} (hv : M_LW_remove p0 x1 p2 h K) : zMetW l y_LW_remove b_LW_remove 4 (some .int) hh_LW_remove rm_LW_remove g n [.ref (g.2.2 p0), zi x1, .ref (g.2.2 p2)] h (zPi K) := by
  refine zMetW_of hfl (by decide) rfl (Nat.le_of_ble_eq_true rfl) ⟨rfl, rfl⟩ (fun Wf0 Wf1 m H0 X0 X1 E Lk => ?_)
  unfold M_LW_remove at hv
  show zW Wf0 m 4 g n H0 0 [(0, .ref (g.2.2 p0)), (1, zi x1), (2, .ref (g.2.2 p2))] [] h
  refine z_aload_n (pc := 0) (q := 2) X0 d_LW_remove_0 rfl ?_
  refine z_iconst (pc := 1) X0 d_LW_remove_1 ?_
  refine z_aload_n (pc := 2) (q := 0) X0 d_LW_remove_2 rfl ?_
  refine z_iload_n (pc := 3) (q := 1) X0 d_LW_remove_3 rfl ?_
  refine Lk 4 _ [zi 0, .ref (g.2.2 p2)] _ [zi x1] h _ _ _ _ _ _ _ p0 _ _ (fun l hl => c_AS_remove hl op0 rx1 hh hv) op0 rfl mf_AS_remove q763 ⟨⟨by decide, by decide⟩, rfl, rfl⟩ rfl d_LW_remove_4 rfl (Nat.le_of_ble_eq_true rfl) ?_ ?_
  · intro v h1 hp
    obtain ⟨r, rfl, rr, zh1, hv⟩ := hp
    show zW Wf1 m 4 g n H0 7 [(0, .ref (g.2.2 p0)), (1, zi x1), (2, .ref (g.2.2 p2))] (zi r :: [zi 0, .ref (g.2.2 p2)]) h1
    refine z_i2l (pc := 7) X1 rr d_LW_remove_7 ?_
    refine z_lastj (pc := 8) (j := 0) X1 op2 (zO16 op2).2 (show zr 0 from by decide) ⟨by decide, by decide⟩ rfl d_LW_remove_8 ?_
    refine z_toph (fun h2 e2 => ?_)
    have zh2 : zh h2 := by rw [e2]; exact zh_setl zh1 (zr_l rr) (zO16 op2).1
    refine z_goto (pc := 9) (tgt := 15) X1 d_LW_remove_9 (by decide) ?_
    refine z_iconst (pc := 15) X1 d_LW_remove_15 ?_
    exact E.2.1 rfl _ _ _ _ d_LW_remove_16 ⟨_, rfl, (show zr 0 from by decide), zh2, hv h2 e2⟩
  · intro code E9 h1 hm zh1 hx
    rcases hx with ⟨rfl, hx⟩
    · have hE : E9 = "java/lang/IndexOutOfBoundsException" := by simpa [zExc] using hm
      subst hE
      refine ⟨12, ⟨[], ⟨0, 9, 12, 28⟩, [], rfl, (fun _ h => absurd h List.not_mem_nil), by decide, by decide, q618, zcs_3, rfl⟩, fun q => ?_⟩
      refine z_astore_n (pc := 12) (lv' := [(3, .ref q), (0, .ref (g.2.2 p0)), (1, zi x1), (2, .ref (g.2.2 p2))]) X1 d_LW_remove_12 (by decide) rfl ?_
      refine z_iconst (pc := 13) X1 d_LW_remove_13 ?_
      exact E.2.1 rfl _ _ _ _ d_LW_remove_14 ⟨_, rfl, (show zr 1 from by decide), zh1, hx⟩
theorem d_LW_encode_0 : decode b_LW_encode 0 = .ok (.aload_n 1, 1) := by decide +kernel
theorem d_LW_encode_1 : decode b_LW_encode 1 = .ok (.iconst 0, 1) := by decide +kernel
theorem d_LW_encode_2 : decode b_LW_encode 2 = .ok (.aload_n 0, 1) := by decide +kernel
theorem d_LW_encode_3 : decode b_LW_encode 3 = .ok (.invokevirtual 52, 3) := by decide +kernel
theorem d_LW_encode_6 : decode b_LW_encode 6 = .ok (.i2l, 1) := by decide +kernel
theorem d_LW_encode_7 : decode b_LW_encode 7 = .ok (.lastore, 1) := by decide +kernel
theorem d_LW_encode_8 : decode b_LW_encode 8 = .ok (.goto 6, 3) := by decide +kernel
theorem d_LW_encode_11 : decode b_LW_encode 11 = .ok (.astore_n 2, 1) := by decide +kernel
theorem d_LW_encode_12 : decode b_LW_encode 12 = .ok (.iconst 1, 1) := by decide +kernel
theorem d_LW_encode_13 : decode b_LW_encode 13 = .ok (.ireturn, 1) := by decide +kernel
theorem d_LW_encode_14 : decode b_LW_encode 14 = .ok (.iconst 0, 1) := by decide +kernel
theorem d_LW_encode_15 : decode b_LW_encode 15 = .ok (.ireturn, 1) := by decide +kernel
def hh_LW_encode : List (Nat × Nat × Nat × Nat) := [(0, 8, 11, 15)]
theorem q774w : Cond.codeWith y_LW_encode b_LW_encode 3 (some .int) hh_LW_encode ∈ zWd := zmem 774 (by decide +kernel) rfl
def rm_LW_encode : Room := { frames := 7, cells := 1, slots := 6, locals := 143 }
def M_LW_encode (p0 : Nat) (p1 : Nat) (h : zH) (K : Int → zH → Prop) : Prop :=
  M_AS_encode p0 h (fun r h1 => ∀ h2 : zH, h2 = zs h1 p1 0 r → K 0 h2) (fun code h1 => (code = 2 ∧ K 1 h1))
set_option maxRecDepth 100000 in
theorem c_LW_encode {l : Launch} (hfl : l.flags = flags0) {g : zG} {n : Nat} {p0 : Nat} {p1 : Nat} (op0 : zO n p0 10) (op1 : zO n p1 16) {h : zH} (hh : zh h) {K : Int → zH → Prop} (hv : M_LW_encode p0 p1 h K) : zMetW l y_LW_encode b_LW_encode 3 (some .int) hh_LW_encode rm_LW_encode g n [.ref (g.2.2 p0), .ref (g.2.2 p1)] h (zPi K) := by
  refine zMetW_of hfl (by decide) rfl (Nat.le_of_ble_eq_true rfl) ⟨rfl, rfl⟩ (fun Wf0 Wf1 m H0 X0 X1 E Lk => ?_)
  unfold M_LW_encode at hv
  show zW Wf0 m 3 g n H0 0 [(0, .ref (g.2.2 p0)), (1, .ref (g.2.2 p1))] [] h
  refine z_aload_n (pc := 0) (q := 1) X0 d_LW_encode_0 rfl ?_
  refine z_iconst (pc := 1) X0 d_LW_encode_1 ?_
  refine z_aload_n (pc := 2) (q := 0) X0 d_LW_encode_2 rfl ?_
  refine Lk 3 _ [zi 0, .ref (g.2.2 p1)] _ [] h _ _ _ _ _ _ _ p0 _ _ (fun l hl => c_AS_encode hl op0 hh hv) op0 rfl mf_AS_encode q775 ⟨⟨by decide, by decide⟩, rfl, rfl⟩ rfl d_LW_encode_3 rfl (Nat.le_of_ble_eq_true rfl) ?_ ?_
  · intro v h1 hp
    obtain ⟨r, rfl, rr, zh1, hv⟩ := hp
    show zW Wf1 m 3 g n H0 6 [(0, .ref (g.2.2 p0)), (1, .ref (g.2.2 p1))] (zi r :: [zi 0, .ref (g.2.2 p1)]) h1
    refine z_i2l (pc := 6) X1 rr d_LW_encode_6 ?_
    refine z_lastj (pc := 7) (j := 0) X1 op1 (zO16 op1).2 (show zr 0 from by decide) ⟨by decide, by decide⟩ rfl d_LW_encode_7 ?_
    refine z_toph (fun h2 e2 => ?_)
    have zh2 : zh h2 := by rw [e2]; exact zh_setl zh1 (zr_l rr) (zO16 op1).1
    refine z_goto (pc := 8) (tgt := 14) X1 d_LW_encode_8 (by decide) ?_
    refine z_iconst (pc := 14) X1 d_LW_encode_14 ?_
    exact E.2.1 rfl _ _ _ _ d_LW_encode_15 ⟨_, rfl, (show zr 0 from by decide), zh2, hv h2 e2⟩
  · intro code E9 h1 hm zh1 hx
    rcases hx with ⟨rfl, hx⟩
    · have hE : E9 = "java/lang/IllegalStateException" := by simpa [zExc] using hm
      subst hE
      refine ⟨11, ⟨[], ⟨0, 8, 11, 15⟩, [], rfl, (fun _ h => absurd h List.not_mem_nil), by decide, by decide, q487, zcs_2, rfl⟩, fun q => ?_⟩
      refine z_astore_n (pc := 11) (lv' := [(2, .ref q), (0, .ref (g.2.2 p0)), (1, .ref (g.2.2 p1))]) X1 d_LW_encode_11 (by decide) rfl ?_
      refine z_iconst (pc := 12) X1 d_LW_encode_12 ?_
      exact E.2.1 rfl _ _ _ _ d_LW_encode_13 ⟨_, rfl, (show zr 1 from by decide), zh1, hx⟩
theorem d_LW_decode_0 : decode b_LW_decode 0 = .ok (.aload_n 1, 1) := by decide +kernel
theorem d_LW_decode_1 : decode b_LW_decode 1 = .ok (.iconst 0, 1) := by decide +kernel
theorem d_LW_decode_2 : decode b_LW_decode 2 = .ok (.aload_n 0, 1) := by decide +kernel
theorem d_LW_decode_3 : decode b_LW_decode 3 = .ok (.invokevirtual 55, 3) := by decide +kernel
theorem d_LW_decode_6 : decode b_LW_decode 6 = .ok (.i2l, 1) := by decide +kernel
theorem d_LW_decode_7 : decode b_LW_decode 7 = .ok (.lastore, 1) := by decide +kernel
theorem d_LW_decode_8 : decode b_LW_decode 8 = .ok (.goto 6, 3) := by decide +kernel
theorem d_LW_decode_11 : decode b_LW_decode 11 = .ok (.astore_n 2, 1) := by decide +kernel
theorem d_LW_decode_12 : decode b_LW_decode 12 = .ok (.iconst 1, 1) := by decide +kernel
theorem d_LW_decode_13 : decode b_LW_decode 13 = .ok (.ireturn, 1) := by decide +kernel
theorem d_LW_decode_14 : decode b_LW_decode 14 = .ok (.iconst 0, 1) := by decide +kernel
theorem d_LW_decode_15 : decode b_LW_decode 15 = .ok (.ireturn, 1) := by decide +kernel
def hh_LW_decode : List (Nat × Nat × Nat × Nat) := [(0, 8, 11, 15)]
theorem q803w : Cond.codeWith y_LW_decode b_LW_decode 3 (some .int) hh_LW_decode ∈ zWd := zmem 803 (by decide +kernel) rfl
def rm_LW_decode : Room := { frames := 7, cells := 1, slots := 6, locals := 143 }
def M_LW_decode (p0 : Nat) (p1 : Nat) (h : zH) (K : Int → zH → Prop) : Prop :=
  M_AS_decode p0 h (fun r h1 => ∀ h2 : zH, h2 = zs h1 p1 0 r → K 0 h2) (fun code h1 => (code = 2 ∧ K 1 h1))
set_option maxRecDepth 100000 in
theorem c_LW_decode {l : Launch} (hfl : l.flags = flags0) {g : zG} {n : Nat} {p0 : Nat} {p1 : Nat} (op0 : zO n p0 10) (op1 : zO n p1 16) {h : zH} (hh : zh h) {K : Int → zH → Prop} (hv : M_LW_decode p0 p1 h K) : zMetW l y_LW_decode b_LW_decode 3 (some .int) hh_LW_decode rm_LW_decode g n [.ref (g.2.2 p0), .ref (g.2.2 p1)] h (zPi K) := by
  refine zMetW_of hfl (by decide) rfl (Nat.le_of_ble_eq_true rfl) ⟨rfl, rfl⟩ (fun Wf0 Wf1 m H0 X0 X1 E Lk => ?_)
  unfold M_LW_decode at hv
  show zW Wf0 m 3 g n H0 0 [(0, .ref (g.2.2 p0)), (1, .ref (g.2.2 p1))] [] h
  refine z_aload_n (pc := 0) (q := 1) X0 d_LW_decode_0 rfl ?_
  refine z_iconst (pc := 1) X0 d_LW_decode_1 ?_
  refine z_aload_n (pc := 2) (q := 0) X0 d_LW_decode_2 rfl ?_
  refine Lk 3 _ [zi 0, .ref (g.2.2 p1)] _ [] h _ _ _ _ _ _ _ p0 _ _ (fun l hl => c_AS_decode hl op0 hh hv) op0 rfl mf_AS_decode q804 ⟨⟨by decide, by decide⟩, rfl, rfl⟩ rfl d_LW_decode_3 rfl (Nat.le_of_ble_eq_true rfl) ?_ ?_
  · intro v h1 hp
    obtain ⟨r, rfl, rr, zh1, hv⟩ := hp
    show zW Wf1 m 3 g n H0 6 [(0, .ref (g.2.2 p0)), (1, .ref (g.2.2 p1))] (zi r :: [zi 0, .ref (g.2.2 p1)]) h1
    refine z_i2l (pc := 6) X1 rr d_LW_decode_6 ?_
    refine z_lastj (pc := 7) (j := 0) X1 op1 (zO16 op1).2 (show zr 0 from by decide) ⟨by decide, by decide⟩ rfl d_LW_decode_7 ?_
    refine z_toph (fun h2 e2 => ?_)
    have zh2 : zh h2 := by rw [e2]; exact zh_setl zh1 (zr_l rr) (zO16 op1).1
    refine z_goto (pc := 8) (tgt := 14) X1 d_LW_decode_8 (by decide) ?_
    refine z_iconst (pc := 14) X1 d_LW_decode_14 ?_
    exact E.2.1 rfl _ _ _ _ d_LW_decode_15 ⟨_, rfl, (show zr 0 from by decide), zh2, hv h2 e2⟩
  · intro code E9 h1 hm zh1 hx
    rcases hx with ⟨rfl, hx⟩
    · have hE : E9 = "java/lang/IllegalStateException" := by simpa [zExc] using hm
      subst hE
      refine ⟨11, ⟨[], ⟨0, 8, 11, 15⟩, [], rfl, (fun _ h => absurd h List.not_mem_nil), by decide, by decide, q487, zcs_2, rfl⟩, fun q => ?_⟩
      refine z_astore_n (pc := 11) (lv' := [(2, .ref q), (0, .ref (g.2.2 p0)), (1, .ref (g.2.2 p1))]) X1 d_LW_decode_11 (by decide) rfl ?_
      refine z_iconst (pc := 12) X1 d_LW_decode_12 ?_
      exact E.2.1 rfl _ _ _ _ d_LW_decode_13 ⟨_, rfl, (show zr 1 from by decide), zh1, hx⟩
theorem d_LW_setDigit_0 : decode b_LW_setDigit 0 = .ok (.aload_n 3, 1) := by decide +kernel
theorem d_LW_setDigit_1 : decode b_LW_setDigit 1 = .ok (.iconst 0, 1) := by decide +kernel
theorem d_LW_setDigit_2 : decode b_LW_setDigit 2 = .ok (.aload_n 0, 1) := by decide +kernel
theorem d_LW_setDigit_3 : decode b_LW_setDigit 3 = .ok (.iload_n 1, 1) := by decide +kernel
theorem d_LW_setDigit_4 : decode b_LW_setDigit 4 = .ok (.iload_n 2, 1) := by decide +kernel
theorem d_LW_setDigit_5 : decode b_LW_setDigit 5 = .ok (.invokevirtual 58, 3) := by decide +kernel
theorem d_LW_setDigit_8 : decode b_LW_setDigit 8 = .ok (.i2l, 1) := by decide +kernel
theorem d_LW_setDigit_9 : decode b_LW_setDigit 9 = .ok (.lastore, 1) := by decide +kernel
theorem d_LW_setDigit_10 : decode b_LW_setDigit 10 = .ok (.goto 11, 3) := by decide +kernel
theorem d_LW_setDigit_13 : decode b_LW_setDigit 13 = .ok (.astore 4, 2) := by decide +kernel
theorem d_LW_setDigit_15 : decode b_LW_setDigit 15 = .ok (.iconst 1, 1) := by decide +kernel
theorem d_LW_setDigit_16 : decode b_LW_setDigit 16 = .ok (.ireturn, 1) := by decide +kernel
theorem d_LW_setDigit_17 : decode b_LW_setDigit 17 = .ok (.astore 4, 2) := by decide +kernel
theorem d_LW_setDigit_19 : decode b_LW_setDigit 19 = .ok (.iconst 2, 1) := by decide +kernel
theorem d_LW_setDigit_20 : decode b_LW_setDigit 20 = .ok (.ireturn, 1) := by decide +kernel
theorem d_LW_setDigit_21 : decode b_LW_setDigit 21 = .ok (.iconst 0, 1) := by decide +kernel
theorem d_LW_setDigit_22 : decode b_LW_setDigit 22 = .ok (.ireturn, 1) := by decide +kernel
def hh_LW_setDigit : List (Nat × Nat × Nat × Nat) := [(0, 10, 13, 28), (0, 10, 17, 13)]
theorem q820w : Cond.codeWith y_LW_setDigit b_LW_setDigit 5 (some .int) hh_LW_setDigit ∈ zWd := zmem 820 (by decide +kernel) rfl
def rm_LW_setDigit : Room := { frames := 7, cells := 1, slots := 6, locals := 146 }
def M_LW_setDigit (p0 : Nat) (x1 : Int) (x2 : Int) (p3 : Nat) (h : zH) (K : Int → zH → Prop) : Prop :=
  M_AS_setDigit p0 x1 x2 h (fun r h1 => ∀ h2 : zH, h2 = zs h1 p3 0 r → K 0 h2) (fun code h1 => (code = 3 ∧ K 1 h1) ∨ (code = 1 ∧ K 2 h1))
set_option maxRecDepth 100000 in
theorem c_LW_setDigit {l : Launch} (hfl : l.flags = flags0) {g : zG} {n : Nat} {p0 : Nat} {x1 : Int} {x2 : Int} {p3 : Nat} (op0 : zO n p0 10) (rx1 : zr x1) (rx2 : zr x2) (op3 : zO n p3 16) {h : zH} (hh : zh h) {K : Int → zH → Prop} (hv : M_LW_setDigit p0 x1 x2 p3 h K) : zMetW l y_LW_setDigit b_LW_setDigit 5 (some .int) hh_LW_setDigit rm_LW_setDigit g n [.ref (g.2.2 p0), zi x1, zi x2, .ref (g.2.2 p3)] h (zPi K) := by
  refine zMetW_of hfl (by decide) rfl (Nat.le_of_ble_eq_true rfl) ⟨rfl, rfl⟩ (fun Wf0 Wf1 m H0 X0 X1 E Lk => ?_)
  unfold M_LW_setDigit at hv
  show zW Wf0 m 5 g n H0 0 [(0, .ref (g.2.2 p0)), (1, zi x1), (2, zi x2), (3, .ref (g.2.2 p3))] [] h
  refine z_aload_n (pc := 0) (q := 3) X0 d_LW_setDigit_0 rfl ?_
  refine z_iconst (pc := 1) X0 d_LW_setDigit_1 ?_
  refine z_aload_n (pc := 2) (q := 0) X0 d_LW_setDigit_2 rfl ?_
  refine z_iload_n (pc := 3) (q := 1) X0 d_LW_setDigit_3 rfl ?_
  refine z_iload_n (pc := 4) (q := 2) X0 d_LW_setDigit_4 rfl ?_
  refine Lk 5 _ [zi 0, .ref (g.2.2 p3)] _ [zi x1, zi x2] h _ _ _ _ _ _ _ p0 _ _ (fun l hl => c_AS_setDigit hl op0 rx1 rx2 hh hv) op0 rfl mf_AS_setDigit q821 ⟨⟨by decide, by decide⟩, rfl, rfl⟩ rfl d_LW_setDigit_5 rfl (Nat.le_of_ble_eq_true rfl) ?_ ?_
  · intro v h1 hp
    obtain ⟨r, rfl, rr, zh1, hv⟩ := hp
    show zW Wf1 m 5 g n H0 8 [(0, .ref (g.2.2 p0)), (1, zi x1), (2, zi x2), (3, .ref (g.2.2 p3))] (zi r :: [zi 0, .ref (g.2.2 p3)]) h1
    refine z_i2l (pc := 8) X1 rr d_LW_setDigit_8 ?_
    refine z_lastj (pc := 9) (j := 0) X1 op3 (zO16 op3).2 (show zr 0 from by decide) ⟨by decide, by decide⟩ rfl d_LW_setDigit_9 ?_
    refine z_toph (fun h2 e2 => ?_)
    have zh2 : zh h2 := by rw [e2]; exact zh_setl zh1 (zr_l rr) (zO16 op3).1
    refine z_goto (pc := 10) (tgt := 21) X1 d_LW_setDigit_10 (by decide) ?_
    refine z_iconst (pc := 21) X1 d_LW_setDigit_21 ?_
    exact E.2.1 rfl _ _ _ _ d_LW_setDigit_22 ⟨_, rfl, (show zr 0 from by decide), zh2, hv h2 e2⟩
  · intro code E9 h1 hm zh1 hx
    rcases hx with ⟨rfl, hx⟩ | ⟨rfl, hx⟩
    · have hE : E9 = "java/lang/IndexOutOfBoundsException" := by simpa [zExc] using hm
      subst hE
      refine ⟨13, ⟨[], ⟨0, 10, 13, 28⟩, [⟨0, 10, 17, 13⟩], rfl, (fun _ h => absurd h List.not_mem_nil), by decide, by decide, q618, zcs_3, rfl⟩, fun q => ?_⟩
      refine z_astore (pc := 13) (lv' := [(4, .ref q), (0, .ref (g.2.2 p0)), (1, zi x1), (2, zi x2), (3, .ref (g.2.2 p3))]) X1 d_LW_setDigit_13 (by decide) rfl ?_
      refine z_iconst (pc := 15) X1 d_LW_setDigit_15 ?_
      exact E.2.1 rfl _ _ _ _ d_LW_setDigit_16 ⟨_, rfl, (show zr 1 from by decide), zh1, hx⟩
    · have hE : E9 = "java/lang/IllegalArgumentException" := by simpa [zExc] using hm
      subst hE
      refine ⟨17, ⟨[⟨0, 10, 13, 28⟩], ⟨0, 10, 17, 13⟩, [], rfl, (List.forall_mem_cons.mpr ⟨Or.inr ⟨by decide, "java/lang/IndexOutOfBoundsException", q618, znc_1_3⟩, (fun _ h => absurd h List.not_mem_nil)⟩), by decide, by decide, q486, zcs_1, rfl⟩, fun q => ?_⟩
      refine z_astore (pc := 17) (lv' := [(4, .ref q), (0, .ref (g.2.2 p0)), (1, zi x1), (2, zi x2), (3, .ref (g.2.2 p3))]) X1 d_LW_setDigit_17 (by decide) rfl ?_
      refine z_iconst (pc := 19) X1 d_LW_setDigit_19 ?_
      exact E.2.1 rfl _ _ _ _ d_LW_setDigit_20 ⟨_, rfl, (show zr 2 from by decide), zh1, hx⟩
theorem d_LW_setHead_0 : decode b_LW_setHead 0 = .ok (.aload_n 3, 1) := by decide +kernel
theorem d_LW_setHead_1 : decode b_LW_setHead 1 = .ok (.iconst 0, 1) := by decide +kernel
theorem d_LW_setHead_2 : decode b_LW_setHead 2 = .ok (.aload_n 0, 1) := by decide +kernel
theorem d_LW_setHead_3 : decode b_LW_setHead 3 = .ok (.iload_n 1, 1) := by decide +kernel
theorem d_LW_setHead_4 : decode b_LW_setHead 4 = .ok (.iload_n 2, 1) := by decide +kernel
theorem d_LW_setHead_5 : decode b_LW_setHead 5 = .ok (.invokevirtual 61, 3) := by decide +kernel
theorem d_LW_setHead_8 : decode b_LW_setHead 8 = .ok (.i2l, 1) := by decide +kernel
theorem d_LW_setHead_9 : decode b_LW_setHead 9 = .ok (.lastore, 1) := by decide +kernel
theorem d_LW_setHead_10 : decode b_LW_setHead 10 = .ok (.goto 11, 3) := by decide +kernel
theorem d_LW_setHead_13 : decode b_LW_setHead 13 = .ok (.astore 4, 2) := by decide +kernel
theorem d_LW_setHead_15 : decode b_LW_setHead 15 = .ok (.iconst 1, 1) := by decide +kernel
theorem d_LW_setHead_16 : decode b_LW_setHead 16 = .ok (.ireturn, 1) := by decide +kernel
theorem d_LW_setHead_17 : decode b_LW_setHead 17 = .ok (.astore 4, 2) := by decide +kernel
theorem d_LW_setHead_19 : decode b_LW_setHead 19 = .ok (.iconst 2, 1) := by decide +kernel
theorem d_LW_setHead_20 : decode b_LW_setHead 20 = .ok (.ireturn, 1) := by decide +kernel
theorem d_LW_setHead_21 : decode b_LW_setHead 21 = .ok (.iconst 0, 1) := by decide +kernel
theorem d_LW_setHead_22 : decode b_LW_setHead 22 = .ok (.ireturn, 1) := by decide +kernel
def hh_LW_setHead : List (Nat × Nat × Nat × Nat) := [(0, 10, 13, 28), (0, 10, 17, 13)]
theorem q832w : Cond.codeWith y_LW_setHead b_LW_setHead 5 (some .int) hh_LW_setHead ∈ zWd := zmem 832 (by decide +kernel) rfl
def rm_LW_setHead : Room := { frames := 7, cells := 1, slots := 6, locals := 146 }
def M_LW_setHead (p0 : Nat) (x1 : Int) (x2 : Int) (p3 : Nat) (h : zH) (K : Int → zH → Prop) : Prop :=
  M_AS_setHead p0 x1 x2 h (fun r h1 => ∀ h2 : zH, h2 = zs h1 p3 0 r → K 0 h2) (fun code h1 => (code = 3 ∧ K 1 h1) ∨ (code = 1 ∧ K 2 h1))
set_option maxRecDepth 100000 in
theorem c_LW_setHead {l : Launch} (hfl : l.flags = flags0) {g : zG} {n : Nat} {p0 : Nat} {x1 : Int} {x2 : Int} {p3 : Nat} (op0 : zO n p0 10) (rx1 : zr x1) (rx2 : zr x2) (op3 : zO n p3 16) {h : zH} (hh : zh h) {K : Int → zH → Prop} (hv : M_LW_setHead p0 x1 x2 p3 h K) : zMetW l y_LW_setHead b_LW_setHead 5 (some .int) hh_LW_setHead rm_LW_setHead g n [.ref (g.2.2 p0), zi x1, zi x2, .ref (g.2.2 p3)] h (zPi K) := by
  refine zMetW_of hfl (by decide) rfl (Nat.le_of_ble_eq_true rfl) ⟨rfl, rfl⟩ (fun Wf0 Wf1 m H0 X0 X1 E Lk => ?_)
  unfold M_LW_setHead at hv
  show zW Wf0 m 5 g n H0 0 [(0, .ref (g.2.2 p0)), (1, zi x1), (2, zi x2), (3, .ref (g.2.2 p3))] [] h
  refine z_aload_n (pc := 0) (q := 3) X0 d_LW_setHead_0 rfl ?_
  refine z_iconst (pc := 1) X0 d_LW_setHead_1 ?_
  refine z_aload_n (pc := 2) (q := 0) X0 d_LW_setHead_2 rfl ?_
  refine z_iload_n (pc := 3) (q := 1) X0 d_LW_setHead_3 rfl ?_
  refine z_iload_n (pc := 4) (q := 2) X0 d_LW_setHead_4 rfl ?_
  refine Lk 5 _ [zi 0, .ref (g.2.2 p3)] _ [zi x1, zi x2] h _ _ _ _ _ _ _ p0 _ _ (fun l hl => c_AS_setHead hl op0 rx1 rx2 hh hv) op0 rfl mf_AS_setHead q833 ⟨⟨by decide, by decide⟩, rfl, rfl⟩ rfl d_LW_setHead_5 rfl (Nat.le_of_ble_eq_true rfl) ?_ ?_
  · intro v h1 hp
    obtain ⟨r, rfl, rr, zh1, hv⟩ := hp
    show zW Wf1 m 5 g n H0 8 [(0, .ref (g.2.2 p0)), (1, zi x1), (2, zi x2), (3, .ref (g.2.2 p3))] (zi r :: [zi 0, .ref (g.2.2 p3)]) h1
    refine z_i2l (pc := 8) X1 rr d_LW_setHead_8 ?_
    refine z_lastj (pc := 9) (j := 0) X1 op3 (zO16 op3).2 (show zr 0 from by decide) ⟨by decide, by decide⟩ rfl d_LW_setHead_9 ?_
    refine z_toph (fun h2 e2 => ?_)
    have zh2 : zh h2 := by rw [e2]; exact zh_setl zh1 (zr_l rr) (zO16 op3).1
    refine z_goto (pc := 10) (tgt := 21) X1 d_LW_setHead_10 (by decide) ?_
    refine z_iconst (pc := 21) X1 d_LW_setHead_21 ?_
    exact E.2.1 rfl _ _ _ _ d_LW_setHead_22 ⟨_, rfl, (show zr 0 from by decide), zh2, hv h2 e2⟩
  · intro code E9 h1 hm zh1 hx
    rcases hx with ⟨rfl, hx⟩ | ⟨rfl, hx⟩
    · have hE : E9 = "java/lang/IndexOutOfBoundsException" := by simpa [zExc] using hm
      subst hE
      refine ⟨13, ⟨[], ⟨0, 10, 13, 28⟩, [⟨0, 10, 17, 13⟩], rfl, (fun _ h => absurd h List.not_mem_nil), by decide, by decide, q618, zcs_3, rfl⟩, fun q => ?_⟩
      refine z_astore (pc := 13) (lv' := [(4, .ref q), (0, .ref (g.2.2 p0)), (1, zi x1), (2, zi x2), (3, .ref (g.2.2 p3))]) X1 d_LW_setHead_13 (by decide) rfl ?_
      refine z_iconst (pc := 15) X1 d_LW_setHead_15 ?_
      exact E.2.1 rfl _ _ _ _ d_LW_setHead_16 ⟨_, rfl, (show zr 1 from by decide), zh1, hx⟩
    · have hE : E9 = "java/lang/IllegalArgumentException" := by simpa [zExc] using hm
      subst hE
      refine ⟨17, ⟨[⟨0, 10, 13, 28⟩], ⟨0, 10, 17, 13⟩, [], rfl, (List.forall_mem_cons.mpr ⟨Or.inr ⟨by decide, "java/lang/IndexOutOfBoundsException", q618, znc_1_3⟩, (fun _ h => absurd h List.not_mem_nil)⟩), by decide, by decide, q486, zcs_1, rfl⟩, fun q => ?_⟩
      refine z_astore (pc := 17) (lv' := [(4, .ref q), (0, .ref (g.2.2 p0)), (1, zi x1), (2, zi x2), (3, .ref (g.2.2 p3))]) X1 d_LW_setHead_17 (by decide) rfl ?_
      refine z_iconst (pc := 19) X1 d_LW_setHead_19 ?_
      exact E.2.1 rfl _ _ _ _ d_LW_setHead_20 ⟨_, rfl, (show zr 2 from by decide), zh1, hx⟩
theorem d_LW_setPlan_0 : decode b_LW_setPlan 0 = .ok (.aload_n 3, 1) := by decide +kernel
theorem d_LW_setPlan_1 : decode b_LW_setPlan 1 = .ok (.iconst 0, 1) := by decide +kernel
theorem d_LW_setPlan_2 : decode b_LW_setPlan 2 = .ok (.aload_n 0, 1) := by decide +kernel
theorem d_LW_setPlan_3 : decode b_LW_setPlan 3 = .ok (.iload_n 1, 1) := by decide +kernel
theorem d_LW_setPlan_4 : decode b_LW_setPlan 4 = .ok (.iload_n 2, 1) := by decide +kernel
theorem d_LW_setPlan_5 : decode b_LW_setPlan 5 = .ok (.invokevirtual 64, 3) := by decide +kernel
theorem d_LW_setPlan_8 : decode b_LW_setPlan 8 = .ok (.i2l, 1) := by decide +kernel
theorem d_LW_setPlan_9 : decode b_LW_setPlan 9 = .ok (.lastore, 1) := by decide +kernel
theorem d_LW_setPlan_10 : decode b_LW_setPlan 10 = .ok (.goto 7, 3) := by decide +kernel
theorem d_LW_setPlan_13 : decode b_LW_setPlan 13 = .ok (.astore 4, 2) := by decide +kernel
theorem d_LW_setPlan_15 : decode b_LW_setPlan 15 = .ok (.iconst 1, 1) := by decide +kernel
theorem d_LW_setPlan_16 : decode b_LW_setPlan 16 = .ok (.ireturn, 1) := by decide +kernel
theorem d_LW_setPlan_17 : decode b_LW_setPlan 17 = .ok (.iconst 0, 1) := by decide +kernel
theorem d_LW_setPlan_18 : decode b_LW_setPlan 18 = .ok (.ireturn, 1) := by decide +kernel
def hh_LW_setPlan : List (Nat × Nat × Nat × Nat) := [(0, 10, 13, 28)]
theorem q841w : Cond.codeWith y_LW_setPlan b_LW_setPlan 5 (some .int) hh_LW_setPlan ∈ zWd := zmem 841 (by decide +kernel) rfl
def rm_LW_setPlan : Room := { frames := 7, cells := 1, slots := 6, locals := 146 }
def M_LW_setPlan (p0 : Nat) (x1 : Int) (x2 : Int) (p3 : Nat) (h : zH) (K : Int → zH → Prop) : Prop :=
  M_AS_setPlan p0 x1 x2 h (fun r h1 => ∀ h2 : zH, h2 = zs h1 p3 0 r → K 0 h2) (fun code h1 => (code = 3 ∧ K 1 h1))
set_option maxRecDepth 100000 in
theorem c_LW_setPlan {l : Launch} (hfl : l.flags = flags0) {g : zG} {n : Nat} {p0 : Nat} {x1 : Int} {x2 : Int} {p3 : Nat} (op0 : zO n p0 10) (rx1 : zr x1) (rx2 : zr x2) (op3 : zO n p3 16) {h : zH} (hh : zh h) {K : Int → zH → Prop} (hv : M_LW_setPlan p0 x1 x2 p3 h K) : zMetW l y_LW_setPlan b_LW_setPlan 5 (some .int) hh_LW_setPlan rm_LW_setPlan g n [.ref (g.2.2 p0), zi x1, zi x2, .ref (g.2.2 p3)] h (zPi K) := by
  refine zMetW_of hfl (by decide) rfl (Nat.le_of_ble_eq_true rfl) ⟨rfl, rfl⟩ (fun Wf0 Wf1 m H0 X0 X1 E Lk => ?_)
  unfold M_LW_setPlan at hv
  show zW Wf0 m 5 g n H0 0 [(0, .ref (g.2.2 p0)), (1, zi x1), (2, zi x2), (3, .ref (g.2.2 p3))] [] h
  refine z_aload_n (pc := 0) (q := 3) X0 d_LW_setPlan_0 rfl ?_
  refine z_iconst (pc := 1) X0 d_LW_setPlan_1 ?_
  refine z_aload_n (pc := 2) (q := 0) X0 d_LW_setPlan_2 rfl ?_
  refine z_iload_n (pc := 3) (q := 1) X0 d_LW_setPlan_3 rfl ?_
  refine z_iload_n (pc := 4) (q := 2) X0 d_LW_setPlan_4 rfl ?_
  refine Lk 5 _ [zi 0, .ref (g.2.2 p3)] _ [zi x1, zi x2] h _ _ _ _ _ _ _ p0 _ _ (fun l hl => c_AS_setPlan hl op0 rx1 rx2 hh hv) op0 rfl mf_AS_setPlan q842 ⟨⟨by decide, by decide⟩, rfl, rfl⟩ rfl d_LW_setPlan_5 rfl (Nat.le_of_ble_eq_true rfl) ?_ ?_
  · intro v h1 hp
    obtain ⟨r, rfl, rr, zh1, hv⟩ := hp
    show zW Wf1 m 5 g n H0 8 [(0, .ref (g.2.2 p0)), (1, zi x1), (2, zi x2), (3, .ref (g.2.2 p3))] (zi r :: [zi 0, .ref (g.2.2 p3)]) h1
    refine z_i2l (pc := 8) X1 rr d_LW_setPlan_8 ?_
    refine z_lastj (pc := 9) (j := 0) X1 op3 (zO16 op3).2 (show zr 0 from by decide) ⟨by decide, by decide⟩ rfl d_LW_setPlan_9 ?_
    refine z_toph (fun h2 e2 => ?_)
    have zh2 : zh h2 := by rw [e2]; exact zh_setl zh1 (zr_l rr) (zO16 op3).1
    refine z_goto (pc := 10) (tgt := 17) X1 d_LW_setPlan_10 (by decide) ?_
    refine z_iconst (pc := 17) X1 d_LW_setPlan_17 ?_
    exact E.2.1 rfl _ _ _ _ d_LW_setPlan_18 ⟨_, rfl, (show zr 0 from by decide), zh2, hv h2 e2⟩
  · intro code E9 h1 hm zh1 hx
    rcases hx with ⟨rfl, hx⟩
    · have hE : E9 = "java/lang/IndexOutOfBoundsException" := by simpa [zExc] using hm
      subst hE
      refine ⟨13, ⟨[], ⟨0, 10, 13, 28⟩, [], rfl, (fun _ h => absurd h List.not_mem_nil), by decide, by decide, q618, zcs_3, rfl⟩, fun q => ?_⟩
      refine z_astore (pc := 13) (lv' := [(4, .ref q), (0, .ref (g.2.2 p0)), (1, zi x1), (2, zi x2), (3, .ref (g.2.2 p3))]) X1 d_LW_setPlan_13 (by decide) rfl ?_
      refine z_iconst (pc := 15) X1 d_LW_setPlan_15 ?_
      exact E.2.1 rfl _ _ _ _ d_LW_setPlan_16 ⟨_, rfl, (show zr 1 from by decide), zh1, hx⟩
theorem d_LW_undo_0 : decode b_LW_undo 0 = .ok (.aload_n 1, 1) := by decide +kernel
theorem d_LW_undo_1 : decode b_LW_undo 1 = .ok (.iconst 0, 1) := by decide +kernel
theorem d_LW_undo_2 : decode b_LW_undo 2 = .ok (.aload_n 0, 1) := by decide +kernel
theorem d_LW_undo_3 : decode b_LW_undo 3 = .ok (.invokevirtual 67, 3) := by decide +kernel
theorem d_LW_undo_6 : decode b_LW_undo 6 = .ok (.i2l, 1) := by decide +kernel
theorem d_LW_undo_7 : decode b_LW_undo 7 = .ok (.lastore, 1) := by decide +kernel
theorem d_LW_undo_8 : decode b_LW_undo 8 = .ok (.goto 6, 3) := by decide +kernel
theorem d_LW_undo_11 : decode b_LW_undo 11 = .ok (.astore_n 2, 1) := by decide +kernel
theorem d_LW_undo_12 : decode b_LW_undo 12 = .ok (.iconst 1, 1) := by decide +kernel
theorem d_LW_undo_13 : decode b_LW_undo 13 = .ok (.ireturn, 1) := by decide +kernel
theorem d_LW_undo_14 : decode b_LW_undo 14 = .ok (.iconst 0, 1) := by decide +kernel
theorem d_LW_undo_15 : decode b_LW_undo 15 = .ok (.ireturn, 1) := by decide +kernel
def hh_LW_undo : List (Nat × Nat × Nat × Nat) := [(0, 8, 11, 15)]
theorem q849w : Cond.codeWith y_LW_undo b_LW_undo 3 (some .int) hh_LW_undo ∈ zWd := zmem 849 (by decide +kernel) rfl
def rm_LW_undo : Room := { frames := 7, cells := 1, slots := 6, locals := 143 }
def M_LW_undo (p0 : Nat) (p1 : Nat) (h : zH) (K : Int → zH → Prop) : Prop :=
  M_AS_undo p0 h (fun r h1 => ∀ h2 : zH, h2 = zs h1 p1 0 r → K 0 h2) (fun code h1 => (code = 2 ∧ K 1 h1))
set_option maxRecDepth 100000 in
theorem c_LW_undo {l : Launch} (hfl : l.flags = flags0) {g : zG} {n : Nat} {p0 : Nat} {p1 : Nat} (op0 : zO n p0 10) (op1 : zO n p1 16) {h : zH} (hh : zh h) {K : Int → zH → Prop} (hv : M_LW_undo p0 p1 h K) : zMetW l y_LW_undo b_LW_undo 3 (some .int) hh_LW_undo rm_LW_undo g n [.ref (g.2.2 p0), .ref (g.2.2 p1)] h (zPi K) := by
  refine zMetW_of hfl (by decide) rfl (Nat.le_of_ble_eq_true rfl) ⟨rfl, rfl⟩ (fun Wf0 Wf1 m H0 X0 X1 E Lk => ?_)
  unfold M_LW_undo at hv
  show zW Wf0 m 3 g n H0 0 [(0, .ref (g.2.2 p0)), (1, .ref (g.2.2 p1))] [] h
  refine z_aload_n (pc := 0) (q := 1) X0 d_LW_undo_0 rfl ?_
  refine z_iconst (pc := 1) X0 d_LW_undo_1 ?_
  refine z_aload_n (pc := 2) (q := 0) X0 d_LW_undo_2 rfl ?_
  refine Lk 3 _ [zi 0, .ref (g.2.2 p1)] _ [] h _ _ _ _ _ _ _ p0 _ _ (fun l hl => c_AS_undo hl op0 hh hv) op0 rfl mf_AS_undo q850 ⟨⟨by decide, by decide⟩, rfl, rfl⟩ rfl d_LW_undo_3 rfl (Nat.le_of_ble_eq_true rfl) ?_ ?_
  · intro v h1 hp
    obtain ⟨r, rfl, rr, zh1, hv⟩ := hp
    show zW Wf1 m 3 g n H0 6 [(0, .ref (g.2.2 p0)), (1, .ref (g.2.2 p1))] (zi r :: [zi 0, .ref (g.2.2 p1)]) h1
    refine z_i2l (pc := 6) X1 rr d_LW_undo_6 ?_
    refine z_lastj (pc := 7) (j := 0) X1 op1 (zO16 op1).2 (show zr 0 from by decide) ⟨by decide, by decide⟩ rfl d_LW_undo_7 ?_
    refine z_toph (fun h2 e2 => ?_)
    have zh2 : zh h2 := by rw [e2]; exact zh_setl zh1 (zr_l rr) (zO16 op1).1
    refine z_goto (pc := 8) (tgt := 14) X1 d_LW_undo_8 (by decide) ?_
    refine z_iconst (pc := 14) X1 d_LW_undo_14 ?_
    exact E.2.1 rfl _ _ _ _ d_LW_undo_15 ⟨_, rfl, (show zr 0 from by decide), zh2, hv h2 e2⟩
  · intro code E9 h1 hm zh1 hx
    rcases hx with ⟨rfl, hx⟩
    · have hE : E9 = "java/lang/IllegalStateException" := by simpa [zExc] using hm
      subst hE
      refine ⟨11, ⟨[], ⟨0, 8, 11, 15⟩, [], rfl, (fun _ h => absurd h List.not_mem_nil), by decide, by decide, q487, zcs_2, rfl⟩, fun q => ?_⟩
      refine z_astore_n (pc := 11) (lv' := [(2, .ref q), (0, .ref (g.2.2 p0)), (1, .ref (g.2.2 p1))]) X1 d_LW_undo_11 (by decide) rfl ?_
      refine z_iconst (pc := 12) X1 d_LW_undo_12 ?_
      exact E.2.1 rfl _ _ _ _ d_LW_undo_13 ⟨_, rfl, (show zr 1 from by decide), zh1, hx⟩
theorem d_LW_taken_0 : decode b_LW_taken 0 = .ok (.aload_n 3, 1) := by decide +kernel
theorem d_LW_taken_1 : decode b_LW_taken 1 = .ok (.iconst 0, 1) := by decide +kernel
theorem d_LW_taken_2 : decode b_LW_taken 2 = .ok (.aload_n 0, 1) := by decide +kernel
theorem d_LW_taken_3 : decode b_LW_taken 3 = .ok (.iload_n 1, 1) := by decide +kernel
theorem d_LW_taken_4 : decode b_LW_taken 4 = .ok (.iload_n 2, 1) := by decide +kernel
theorem d_LW_taken_5 : decode b_LW_taken 5 = .ok (.invokevirtual 70, 3) := by decide +kernel
theorem d_LW_taken_8 : decode b_LW_taken 8 = .ok (.i2l, 1) := by decide +kernel
theorem d_LW_taken_9 : decode b_LW_taken 9 = .ok (.lastore, 1) := by decide +kernel
theorem d_LW_taken_10 : decode b_LW_taken 10 = .ok (.goto 11, 3) := by decide +kernel
theorem d_LW_taken_13 : decode b_LW_taken 13 = .ok (.astore 4, 2) := by decide +kernel
theorem d_LW_taken_15 : decode b_LW_taken 15 = .ok (.iconst 1, 1) := by decide +kernel
theorem d_LW_taken_16 : decode b_LW_taken 16 = .ok (.ireturn, 1) := by decide +kernel
theorem d_LW_taken_17 : decode b_LW_taken 17 = .ok (.astore 4, 2) := by decide +kernel
theorem d_LW_taken_19 : decode b_LW_taken 19 = .ok (.iconst 2, 1) := by decide +kernel
theorem d_LW_taken_20 : decode b_LW_taken 20 = .ok (.ireturn, 1) := by decide +kernel
theorem d_LW_taken_21 : decode b_LW_taken 21 = .ok (.iconst 0, 1) := by decide +kernel
theorem d_LW_taken_22 : decode b_LW_taken 22 = .ok (.ireturn, 1) := by decide +kernel
def hh_LW_taken : List (Nat × Nat × Nat × Nat) := [(0, 10, 13, 28), (0, 10, 17, 13)]
theorem q861w : Cond.codeWith y_LW_taken b_LW_taken 5 (some .int) hh_LW_taken ∈ zWd := zmem 861 (by decide +kernel) rfl
def rm_LW_taken : Room := { frames := 7, cells := 1, slots := 6, locals := 112 }
def M_LW_taken (p0 : Nat) (x1 : Int) (x2 : Int) (p3 : Nat) (h : zH) (K : Int → zH → Prop) : Prop :=
  M_AS_taken p0 x1 x2 h (fun r h1 => ∀ h2 : zH, h2 = zs h1 p3 0 r → K 0 h2) (fun code h1 => (code = 3 ∧ K 1 h1) ∨ (code = 1 ∧ K 2 h1))
set_option maxRecDepth 100000 in
theorem c_LW_taken {l : Launch} (hfl : l.flags = flags0) {g : zG} {n : Nat} {p0 : Nat} {x1 : Int} {x2 : Int} {p3 : Nat} (op0 : zO n p0 10) (rx1 : zr x1) (rx2 : zr x2) (op3 : zO n p3 16) {h : zH} (hh : zh h) {K : Int → zH → Prop} (hv : M_LW_taken p0 x1 x2 p3 h K) : zMetW l y_LW_taken b_LW_taken 5 (some .int) hh_LW_taken rm_LW_taken g n [.ref (g.2.2 p0), zi x1, zi x2, .ref (g.2.2 p3)] h (zPi K) := by
  refine zMetW_of hfl (by decide) rfl (Nat.le_of_ble_eq_true rfl) ⟨rfl, rfl⟩ (fun Wf0 Wf1 m H0 X0 X1 E Lk => ?_)
  unfold M_LW_taken at hv
  show zW Wf0 m 5 g n H0 0 [(0, .ref (g.2.2 p0)), (1, zi x1), (2, zi x2), (3, .ref (g.2.2 p3))] [] h
  refine z_aload_n (pc := 0) (q := 3) X0 d_LW_taken_0 rfl ?_
  refine z_iconst (pc := 1) X0 d_LW_taken_1 ?_
  refine z_aload_n (pc := 2) (q := 0) X0 d_LW_taken_2 rfl ?_
  refine z_iload_n (pc := 3) (q := 1) X0 d_LW_taken_3 rfl ?_
  refine z_iload_n (pc := 4) (q := 2) X0 d_LW_taken_4 rfl ?_
  refine Lk 5 _ [zi 0, .ref (g.2.2 p3)] _ [zi x1, zi x2] h _ _ _ _ _ _ _ p0 _ _ (fun l hl => c_AS_taken hl op0 rx1 rx2 hh hv) op0 rfl mf_AS_taken q862 ⟨⟨by decide, by decide⟩, rfl, rfl⟩ rfl d_LW_taken_5 rfl (Nat.le_of_ble_eq_true rfl) ?_ ?_
  · intro v h1 hp
    obtain ⟨r, rfl, rr, zh1, hv⟩ := hp
    show zW Wf1 m 5 g n H0 8 [(0, .ref (g.2.2 p0)), (1, zi x1), (2, zi x2), (3, .ref (g.2.2 p3))] (zi r :: [zi 0, .ref (g.2.2 p3)]) h1
    refine z_i2l (pc := 8) X1 rr d_LW_taken_8 ?_
    refine z_lastj (pc := 9) (j := 0) X1 op3 (zO16 op3).2 (show zr 0 from by decide) ⟨by decide, by decide⟩ rfl d_LW_taken_9 ?_
    refine z_toph (fun h2 e2 => ?_)
    have zh2 : zh h2 := by rw [e2]; exact zh_setl zh1 (zr_l rr) (zO16 op3).1
    refine z_goto (pc := 10) (tgt := 21) X1 d_LW_taken_10 (by decide) ?_
    refine z_iconst (pc := 21) X1 d_LW_taken_21 ?_
    exact E.2.1 rfl _ _ _ _ d_LW_taken_22 ⟨_, rfl, (show zr 0 from by decide), zh2, hv h2 e2⟩
  · intro code E9 h1 hm zh1 hx
    rcases hx with ⟨rfl, hx⟩ | ⟨rfl, hx⟩
    · have hE : E9 = "java/lang/IndexOutOfBoundsException" := by simpa [zExc] using hm
      subst hE
      refine ⟨13, ⟨[], ⟨0, 10, 13, 28⟩, [⟨0, 10, 17, 13⟩], rfl, (fun _ h => absurd h List.not_mem_nil), by decide, by decide, q618, zcs_3, rfl⟩, fun q => ?_⟩
      refine z_astore (pc := 13) (lv' := [(4, .ref q), (0, .ref (g.2.2 p0)), (1, zi x1), (2, zi x2), (3, .ref (g.2.2 p3))]) X1 d_LW_taken_13 (by decide) rfl ?_
      refine z_iconst (pc := 15) X1 d_LW_taken_15 ?_
      exact E.2.1 rfl _ _ _ _ d_LW_taken_16 ⟨_, rfl, (show zr 1 from by decide), zh1, hx⟩
    · have hE : E9 = "java/lang/IllegalArgumentException" := by simpa [zExc] using hm
      subst hE
      refine ⟨17, ⟨[⟨0, 10, 13, 28⟩], ⟨0, 10, 17, 13⟩, [], rfl, (List.forall_mem_cons.mpr ⟨Or.inr ⟨by decide, "java/lang/IndexOutOfBoundsException", q618, znc_1_3⟩, (fun _ h => absurd h List.not_mem_nil)⟩), by decide, by decide, q486, zcs_1, rfl⟩, fun q => ?_⟩
      refine z_astore (pc := 17) (lv' := [(4, .ref q), (0, .ref (g.2.2 p0)), (1, zi x1), (2, zi x2), (3, .ref (g.2.2 p3))]) X1 d_LW_taken_17 (by decide) rfl ?_
      refine z_iconst (pc := 19) X1 d_LW_taken_19 ?_
      exact E.2.1 rfl _ _ _ _ d_LW_taken_20 ⟨_, rfl, (show zr 2 from by decide), zh1, hx⟩
theorem d_LW_digitsWith_0 : decode b_LW_digitsWith 0 = .ok (.aload_n 2, 1) := by decide +kernel
theorem d_LW_digitsWith_1 : decode b_LW_digitsWith 1 = .ok (.iconst 0, 1) := by decide +kernel
theorem d_LW_digitsWith_2 : decode b_LW_digitsWith 2 = .ok (.aload_n 0, 1) := by decide +kernel
theorem d_LW_digitsWith_3 : decode b_LW_digitsWith 3 = .ok (.iload_n 1, 1) := by decide +kernel
theorem d_LW_digitsWith_4 : decode b_LW_digitsWith 4 = .ok (.invokevirtual 73, 3) := by decide +kernel
theorem d_LW_digitsWith_7 : decode b_LW_digitsWith 7 = .ok (.i2l, 1) := by decide +kernel
theorem d_LW_digitsWith_8 : decode b_LW_digitsWith 8 = .ok (.lastore, 1) := by decide +kernel
theorem d_LW_digitsWith_9 : decode b_LW_digitsWith 9 = .ok (.goto 6, 3) := by decide +kernel
theorem d_LW_digitsWith_12 : decode b_LW_digitsWith 12 = .ok (.astore_n 3, 1) := by decide +kernel
theorem d_LW_digitsWith_13 : decode b_LW_digitsWith 13 = .ok (.iconst 1, 1) := by decide +kernel
theorem d_LW_digitsWith_14 : decode b_LW_digitsWith 14 = .ok (.ireturn, 1) := by decide +kernel
theorem d_LW_digitsWith_15 : decode b_LW_digitsWith 15 = .ok (.iconst 0, 1) := by decide +kernel
theorem d_LW_digitsWith_16 : decode b_LW_digitsWith 16 = .ok (.ireturn, 1) := by decide +kernel
def hh_LW_digitsWith : List (Nat × Nat × Nat × Nat) := [(0, 9, 12, 28)]
theorem q870w : Cond.codeWith y_LW_digitsWith b_LW_digitsWith 4 (some .int) hh_LW_digitsWith ∈ zWd := zmem 870 (by decide +kernel) rfl
def rm_LW_digitsWith : Room := { frames := 7, cells := 1, slots := 6, locals := 111 }
def M_LW_digitsWith (p0 : Nat) (x1 : Int) (p2 : Nat) (h : zH) (K : Int → zH → Prop) : Prop :=
  M_AS_digitsWith p0 x1 h (fun r h1 => ∀ h2 : zH, h2 = zs h1 p2 0 r → K 0 h2) (fun code h1 => (code = 3 ∧ K 1 h1))
set_option maxRecDepth 100000 in
theorem c_LW_digitsWith {l : Launch} (hfl : l.flags = flags0) {g : zG} {n : Nat} {p0 : Nat} {x1 : Int} {p2 : Nat} (op0 : zO n p0 10) (rx1 : zr x1) (op2 : zO n p2 16) {h : zH} (hh : zh h) {K : Int → zH → Prop} (hv : M_LW_digitsWith p0 x1 p2 h K) : zMetW l y_LW_digitsWith b_LW_digitsWith 4 (some .int) hh_LW_digitsWith rm_LW_digitsWith g n [.ref (g.2.2 p0), zi x1, .ref (g.2.2 p2)] h (zPi K) := by
  refine zMetW_of hfl (by decide) rfl (Nat.le_of_ble_eq_true rfl) ⟨rfl, rfl⟩ (fun Wf0 Wf1 m H0 X0 X1 E Lk => ?_)
  unfold M_LW_digitsWith at hv
  show zW Wf0 m 4 g n H0 0 [(0, .ref (g.2.2 p0)), (1, zi x1), (2, .ref (g.2.2 p2))] [] h
  refine z_aload_n (pc := 0) (q := 2) X0 d_LW_digitsWith_0 rfl ?_
  refine z_iconst (pc := 1) X0 d_LW_digitsWith_1 ?_
  refine z_aload_n (pc := 2) (q := 0) X0 d_LW_digitsWith_2 rfl ?_
  refine z_iload_n (pc := 3) (q := 1) X0 d_LW_digitsWith_3 rfl ?_
  refine Lk 4 _ [zi 0, .ref (g.2.2 p2)] _ [zi x1] h _ _ _ _ _ _ _ p0 _ _ (fun l hl => c_AS_digitsWith hl op0 rx1 hh hv) op0 rfl mf_AS_digitsWith q871 ⟨⟨by decide, by decide⟩, rfl, rfl⟩ rfl d_LW_digitsWith_4 rfl (Nat.le_of_ble_eq_true rfl) ?_ ?_
  · intro v h1 hp
    obtain ⟨r, rfl, rr, zh1, hv⟩ := hp
    show zW Wf1 m 4 g n H0 7 [(0, .ref (g.2.2 p0)), (1, zi x1), (2, .ref (g.2.2 p2))] (zi r :: [zi 0, .ref (g.2.2 p2)]) h1
    refine z_i2l (pc := 7) X1 rr d_LW_digitsWith_7 ?_
    refine z_lastj (pc := 8) (j := 0) X1 op2 (zO16 op2).2 (show zr 0 from by decide) ⟨by decide, by decide⟩ rfl d_LW_digitsWith_8 ?_
    refine z_toph (fun h2 e2 => ?_)
    have zh2 : zh h2 := by rw [e2]; exact zh_setl zh1 (zr_l rr) (zO16 op2).1
    refine z_goto (pc := 9) (tgt := 15) X1 d_LW_digitsWith_9 (by decide) ?_
    refine z_iconst (pc := 15) X1 d_LW_digitsWith_15 ?_
    exact E.2.1 rfl _ _ _ _ d_LW_digitsWith_16 ⟨_, rfl, (show zr 0 from by decide), zh2, hv h2 e2⟩
  · intro code E9 h1 hm zh1 hx
    rcases hx with ⟨rfl, hx⟩
    · have hE : E9 = "java/lang/IndexOutOfBoundsException" := by simpa [zExc] using hm
      subst hE
      refine ⟨12, ⟨[], ⟨0, 9, 12, 28⟩, [], rfl, (fun _ h => absurd h List.not_mem_nil), by decide, by decide, q618, zcs_3, rfl⟩, fun q => ?_⟩
      refine z_astore_n (pc := 12) (lv' := [(3, .ref q), (0, .ref (g.2.2 p0)), (1, zi x1), (2, .ref (g.2.2 p2))]) X1 d_LW_digitsWith_12 (by decide) rfl ?_
      refine z_iconst (pc := 13) X1 d_LW_digitsWith_13 ?_
      exact E.2.1 rfl _ _ _ _ d_LW_digitsWith_14 ⟨_, rfl, (show zr 1 from by decide), zh1, hx⟩
theorem d_LW_product_0 : decode b_LW_product 0 = .ok (.aload 4, 2) := by decide +kernel
theorem d_LW_product_2 : decode b_LW_product 2 = .ok (.iconst 0, 1) := by decide +kernel
theorem d_LW_product_3 : decode b_LW_product 3 = .ok (.aload_n 0, 1) := by decide +kernel
theorem d_LW_product_4 : decode b_LW_product 4 = .ok (.iload_n 1, 1) := by decide +kernel
theorem d_LW_product_5 : decode b_LW_product 5 = .ok (.iload_n 2, 1) := by decide +kernel
theorem d_LW_product_6 : decode b_LW_product 6 = .ok (.iload_n 3, 1) := by decide +kernel
theorem d_LW_product_7 : decode b_LW_product 7 = .ok (.invokevirtual 76, 3) := by decide +kernel
theorem d_LW_product_10 : decode b_LW_product 10 = .ok (.lastore, 1) := by decide +kernel
theorem d_LW_product_11 : decode b_LW_product 11 = .ok (.goto 11, 3) := by decide +kernel
theorem d_LW_product_14 : decode b_LW_product 14 = .ok (.astore 5, 2) := by decide +kernel
theorem d_LW_product_16 : decode b_LW_product 16 = .ok (.iconst 1, 1) := by decide +kernel
theorem d_LW_product_17 : decode b_LW_product 17 = .ok (.ireturn, 1) := by decide +kernel
theorem d_LW_product_18 : decode b_LW_product 18 = .ok (.astore 5, 2) := by decide +kernel
theorem d_LW_product_20 : decode b_LW_product 20 = .ok (.iconst 2, 1) := by decide +kernel
theorem d_LW_product_21 : decode b_LW_product 21 = .ok (.ireturn, 1) := by decide +kernel
theorem d_LW_product_22 : decode b_LW_product 22 = .ok (.iconst 0, 1) := by decide +kernel
theorem d_LW_product_23 : decode b_LW_product 23 = .ok (.ireturn, 1) := by decide +kernel
def hh_LW_product : List (Nat × Nat × Nat × Nat) := [(0, 11, 14, 28), (0, 11, 18, 13)]
theorem q882w : Cond.codeWith y_LW_product b_LW_product 6 (some .int) hh_LW_product ∈ zWd := zmem 882 (by decide +kernel) rfl
def rm_LW_product : Room := { frames := 7, cells := 1, slots := 6, locals := 113 }
def M_LW_product (p0 : Nat) (x1 : Int) (x2 : Int) (x3 : Int) (p4 : Nat) (h : zH) (K : Int → zH → Prop) : Prop :=
  M_AS_product p0 x1 x2 x3 h (fun r h1 => ∀ h2 : zH, h2 = zs h1 p4 0 r → K 0 h2) (fun code h1 => (code = 3 ∧ K 1 h1) ∨ (code = 1 ∧ K 2 h1))
set_option maxRecDepth 100000 in
theorem c_LW_product {l : Launch} (hfl : l.flags = flags0) {g : zG} {n : Nat} {p0 : Nat} {x1 : Int} {x2 : Int} {x3 : Int} {p4 : Nat} (op0 : zO n p0 10) (rx1 : zr x1) (rx2 : zr x2) (rx3 : zr x3) (op4 : zO n p4 16) {h : zH} (hh : zh h) {K : Int → zH → Prop} (hv : M_LW_product p0 x1 x2 x3 p4 h K) : zMetW l y_LW_product b_LW_product 6 (some .int) hh_LW_product rm_LW_product g n [.ref (g.2.2 p0), zi x1, zi x2, zi x3, .ref (g.2.2 p4)] h (zPi K) := by
  refine zMetW_of hfl (by decide) rfl (Nat.le_of_ble_eq_true rfl) ⟨rfl, rfl⟩ (fun Wf0 Wf1 m H0 X0 X1 E Lk => ?_)
  unfold M_LW_product at hv
  show zW Wf0 m 6 g n H0 0 [(0, .ref (g.2.2 p0)), (1, zi x1), (2, zi x2), (3, zi x3), (4, .ref (g.2.2 p4))] [] h
  refine z_aload (pc := 0) (q := 4) X0 d_LW_product_0 rfl ?_
  refine z_iconst (pc := 2) X0 d_LW_product_2 ?_
  refine z_aload_n (pc := 3) (q := 0) X0 d_LW_product_3 rfl ?_
  refine z_iload_n (pc := 4) (q := 1) X0 d_LW_product_4 rfl ?_
  refine z_iload_n (pc := 5) (q := 2) X0 d_LW_product_5 rfl ?_
  refine z_iload_n (pc := 6) (q := 3) X0 d_LW_product_6 rfl ?_
  refine Lk 7 _ [zi 0, .ref (g.2.2 p4)] _ [zi x1, zi x2, zi x3] h _ _ _ _ _ _ _ p0 _ _ (fun l hl => c_AS_product hl op0 rx1 rx2 rx3 hh hv) op0 rfl mf_AS_product q883 ⟨⟨by decide, by decide⟩, rfl, rfl⟩ rfl d_LW_product_7 rfl (Nat.le_of_ble_eq_true rfl) ?_ ?_
  · intro v h1 hp
    obtain ⟨r, rfl, rr, zh1, hv⟩ := hp
    show zW Wf1 m 6 g n H0 10 [(0, .ref (g.2.2 p0)), (1, zi x1), (2, zi x2), (3, zi x3), (4, .ref (g.2.2 p4))] (zj r :: [zi 0, .ref (g.2.2 p4)]) h1
    refine z_lastj (pc := 10) (j := 0) X1 op4 (zO16 op4).2 (show zr 0 from by decide) ⟨by decide, by decide⟩ rfl d_LW_product_10 ?_
    refine z_toph (fun h2 e2 => ?_)
    have zh2 : zh h2 := by rw [e2]; exact zh_setl zh1 rr (zO16 op4).1
    refine z_goto (pc := 11) (tgt := 22) X1 d_LW_product_11 (by decide) ?_
    refine z_iconst (pc := 22) X1 d_LW_product_22 ?_
    exact E.2.1 rfl _ _ _ _ d_LW_product_23 ⟨_, rfl, (show zr 0 from by decide), zh2, hv h2 e2⟩
  · intro code E9 h1 hm zh1 hx
    rcases hx with ⟨rfl, hx⟩ | ⟨rfl, hx⟩
    · have hE : E9 = "java/lang/IndexOutOfBoundsException" := by simpa [zExc] using hm
      subst hE
      refine ⟨14, ⟨[], ⟨0, 11, 14, 28⟩, [⟨0, 11, 18, 13⟩], rfl, (fun _ h => absurd h List.not_mem_nil), by decide, by decide, q618, zcs_3, rfl⟩, fun q => ?_⟩
      refine z_astore (pc := 14) (lv' := [(5, .ref q), (0, .ref (g.2.2 p0)), (1, zi x1), (2, zi x2), (3, zi x3), (4, .ref (g.2.2 p4))]) X1 d_LW_product_14 (by decide) rfl ?_
      refine z_iconst (pc := 16) X1 d_LW_product_16 ?_
      exact E.2.1 rfl _ _ _ _ d_LW_product_17 ⟨_, rfl, (show zr 1 from by decide), zh1, hx⟩
    · have hE : E9 = "java/lang/IllegalArgumentException" := by simpa [zExc] using hm
      subst hE
      refine ⟨18, ⟨[⟨0, 11, 14, 28⟩], ⟨0, 11, 18, 13⟩, [], rfl, (List.forall_mem_cons.mpr ⟨Or.inr ⟨by decide, "java/lang/IndexOutOfBoundsException", q618, znc_1_3⟩, (fun _ h => absurd h List.not_mem_nil)⟩), by decide, by decide, q486, zcs_1, rfl⟩, fun q => ?_⟩
      refine z_astore (pc := 18) (lv' := [(5, .ref q), (0, .ref (g.2.2 p0)), (1, zi x1), (2, zi x2), (3, zi x3), (4, .ref (g.2.2 p4))]) X1 d_LW_product_18 (by decide) rfl ?_
      refine z_iconst (pc := 20) X1 d_LW_product_20 ?_
      exact E.2.1 rfl _ _ _ _ d_LW_product_21 ⟨_, rfl, (show zr 2 from by decide), zh1, hx⟩
theorem d_LW_bestModel_0 : decode b_LW_bestModel 0 = .ok (.aload_n 3, 1) := by decide +kernel
theorem d_LW_bestModel_1 : decode b_LW_bestModel 1 = .ok (.iconst 0, 1) := by decide +kernel
theorem d_LW_bestModel_2 : decode b_LW_bestModel 2 = .ok (.aload_n 0, 1) := by decide +kernel
theorem d_LW_bestModel_3 : decode b_LW_bestModel 3 = .ok (.iload_n 1, 1) := by decide +kernel
theorem d_LW_bestModel_4 : decode b_LW_bestModel 4 = .ok (.iload_n 2, 1) := by decide +kernel
theorem d_LW_bestModel_5 : decode b_LW_bestModel 5 = .ok (.invokevirtual 80, 3) := by decide +kernel
theorem d_LW_bestModel_8 : decode b_LW_bestModel 8 = .ok (.i2l, 1) := by decide +kernel
theorem d_LW_bestModel_9 : decode b_LW_bestModel 9 = .ok (.lastore, 1) := by decide +kernel
theorem d_LW_bestModel_10 : decode b_LW_bestModel 10 = .ok (.goto 11, 3) := by decide +kernel
theorem d_LW_bestModel_13 : decode b_LW_bestModel 13 = .ok (.astore 4, 2) := by decide +kernel
theorem d_LW_bestModel_15 : decode b_LW_bestModel 15 = .ok (.iconst 1, 1) := by decide +kernel
theorem d_LW_bestModel_16 : decode b_LW_bestModel 16 = .ok (.ireturn, 1) := by decide +kernel
theorem d_LW_bestModel_17 : decode b_LW_bestModel 17 = .ok (.astore 4, 2) := by decide +kernel
theorem d_LW_bestModel_19 : decode b_LW_bestModel 19 = .ok (.iconst 2, 1) := by decide +kernel
theorem d_LW_bestModel_20 : decode b_LW_bestModel 20 = .ok (.ireturn, 1) := by decide +kernel
theorem d_LW_bestModel_21 : decode b_LW_bestModel 21 = .ok (.iconst 0, 1) := by decide +kernel
theorem d_LW_bestModel_22 : decode b_LW_bestModel 22 = .ok (.ireturn, 1) := by decide +kernel
def hh_LW_bestModel : List (Nat × Nat × Nat × Nat) := [(0, 10, 13, 28), (0, 10, 17, 13)]
theorem q896w : Cond.codeWith y_LW_bestModel b_LW_bestModel 5 (some .int) hh_LW_bestModel ∈ zWd := zmem 896 (by decide +kernel) rfl
def rm_LW_bestModel : Room := { frames := 7, cells := 1, slots := 6, locals := 118 }
def M_LW_bestModel (p0 : Nat) (x1 : Int) (x2 : Int) (p3 : Nat) (h : zH) (K : Int → zH → Prop) : Prop :=
  M_AS_bestModel p0 x1 x2 h (fun r h1 => ∀ h2 : zH, h2 = zs h1 p3 0 r → K 0 h2) (fun code h1 => (code = 3 ∧ K 1 h1) ∨ (code = 1 ∧ K 2 h1))
set_option maxRecDepth 100000 in
theorem c_LW_bestModel {l : Launch} (hfl : l.flags = flags0) {g : zG} {n : Nat} {p0 : Nat} {x1 : Int} {x2 : Int} {p3 : Nat} (op0 : zO n p0 10) (rx1 : zr x1) (rx2 : zr x2) (op3 : zO n p3 16) {h : zH} (hh : zh h) {K : Int → zH → Prop} (hv : M_LW_bestModel p0 x1 x2 p3 h K) : zMetW l y_LW_bestModel b_LW_bestModel 5 (some .int) hh_LW_bestModel rm_LW_bestModel g n [.ref (g.2.2 p0), zi x1, zi x2, .ref (g.2.2 p3)] h (zPi K) := by
  refine zMetW_of hfl (by decide) rfl (Nat.le_of_ble_eq_true rfl) ⟨rfl, rfl⟩ (fun Wf0 Wf1 m H0 X0 X1 E Lk => ?_)
  unfold M_LW_bestModel at hv
  show zW Wf0 m 5 g n H0 0 [(0, .ref (g.2.2 p0)), (1, zi x1), (2, zi x2), (3, .ref (g.2.2 p3))] [] h
  refine z_aload_n (pc := 0) (q := 3) X0 d_LW_bestModel_0 rfl ?_
  refine z_iconst (pc := 1) X0 d_LW_bestModel_1 ?_
  refine z_aload_n (pc := 2) (q := 0) X0 d_LW_bestModel_2 rfl ?_
  refine z_iload_n (pc := 3) (q := 1) X0 d_LW_bestModel_3 rfl ?_
  refine z_iload_n (pc := 4) (q := 2) X0 d_LW_bestModel_4 rfl ?_
  refine Lk 5 _ [zi 0, .ref (g.2.2 p3)] _ [zi x1, zi x2] h _ _ _ _ _ _ _ p0 _ _ (fun l hl => c_AS_bestModel hl op0 rx1 rx2 hh hv) op0 rfl mf_AS_bestModel q897 ⟨⟨by decide, by decide⟩, rfl, rfl⟩ rfl d_LW_bestModel_5 rfl (Nat.le_of_ble_eq_true rfl) ?_ ?_
  · intro v h1 hp
    obtain ⟨r, rfl, rr, zh1, hv⟩ := hp
    show zW Wf1 m 5 g n H0 8 [(0, .ref (g.2.2 p0)), (1, zi x1), (2, zi x2), (3, .ref (g.2.2 p3))] (zi r :: [zi 0, .ref (g.2.2 p3)]) h1
    refine z_i2l (pc := 8) X1 rr d_LW_bestModel_8 ?_
    refine z_lastj (pc := 9) (j := 0) X1 op3 (zO16 op3).2 (show zr 0 from by decide) ⟨by decide, by decide⟩ rfl d_LW_bestModel_9 ?_
    refine z_toph (fun h2 e2 => ?_)
    have zh2 : zh h2 := by rw [e2]; exact zh_setl zh1 (zr_l rr) (zO16 op3).1
    refine z_goto (pc := 10) (tgt := 21) X1 d_LW_bestModel_10 (by decide) ?_
    refine z_iconst (pc := 21) X1 d_LW_bestModel_21 ?_
    exact E.2.1 rfl _ _ _ _ d_LW_bestModel_22 ⟨_, rfl, (show zr 0 from by decide), zh2, hv h2 e2⟩
  · intro code E9 h1 hm zh1 hx
    rcases hx with ⟨rfl, hx⟩ | ⟨rfl, hx⟩
    · have hE : E9 = "java/lang/IndexOutOfBoundsException" := by simpa [zExc] using hm
      subst hE
      refine ⟨13, ⟨[], ⟨0, 10, 13, 28⟩, [⟨0, 10, 17, 13⟩], rfl, (fun _ h => absurd h List.not_mem_nil), by decide, by decide, q618, zcs_3, rfl⟩, fun q => ?_⟩
      refine z_astore (pc := 13) (lv' := [(4, .ref q), (0, .ref (g.2.2 p0)), (1, zi x1), (2, zi x2), (3, .ref (g.2.2 p3))]) X1 d_LW_bestModel_13 (by decide) rfl ?_
      refine z_iconst (pc := 15) X1 d_LW_bestModel_15 ?_
      exact E.2.1 rfl _ _ _ _ d_LW_bestModel_16 ⟨_, rfl, (show zr 1 from by decide), zh1, hx⟩
    · have hE : E9 = "java/lang/IllegalArgumentException" := by simpa [zExc] using hm
      subst hE
      refine ⟨17, ⟨[⟨0, 10, 13, 28⟩], ⟨0, 10, 17, 13⟩, [], rfl, (List.forall_mem_cons.mpr ⟨Or.inr ⟨by decide, "java/lang/IndexOutOfBoundsException", q618, znc_1_3⟩, (fun _ h => absurd h List.not_mem_nil)⟩), by decide, by decide, q486, zcs_1, rfl⟩, fun q => ?_⟩
      refine z_astore (pc := 17) (lv' := [(4, .ref q), (0, .ref (g.2.2 p0)), (1, zi x1), (2, zi x2), (3, .ref (g.2.2 p3))]) X1 d_LW_bestModel_17 (by decide) rfl ?_
      refine z_iconst (pc := 19) X1 d_LW_bestModel_19 ?_
      exact E.2.1 rfl _ _ _ _ d_LW_bestModel_20 ⟨_, rfl, (show zr 2 from by decide), zh1, hx⟩
theorem d_LW_effect_0 : decode b_LW_effect 0 = .ok (.aload 4, 2) := by decide +kernel
theorem d_LW_effect_2 : decode b_LW_effect 2 = .ok (.iconst 0, 1) := by decide +kernel
theorem d_LW_effect_3 : decode b_LW_effect 3 = .ok (.aload_n 0, 1) := by decide +kernel
theorem d_LW_effect_4 : decode b_LW_effect 4 = .ok (.iload_n 1, 1) := by decide +kernel
theorem d_LW_effect_5 : decode b_LW_effect 5 = .ok (.iload_n 2, 1) := by decide +kernel
theorem d_LW_effect_6 : decode b_LW_effect 6 = .ok (.iload_n 3, 1) := by decide +kernel
theorem d_LW_effect_7 : decode b_LW_effect 7 = .ok (.invokevirtual 83, 3) := by decide +kernel
theorem d_LW_effect_10 : decode b_LW_effect 10 = .ok (.i2l, 1) := by decide +kernel
theorem d_LW_effect_11 : decode b_LW_effect 11 = .ok (.lastore, 1) := by decide +kernel
theorem d_LW_effect_12 : decode b_LW_effect 12 = .ok (.goto 11, 3) := by decide +kernel
theorem d_LW_effect_15 : decode b_LW_effect 15 = .ok (.astore 5, 2) := by decide +kernel
theorem d_LW_effect_17 : decode b_LW_effect 17 = .ok (.iconst 1, 1) := by decide +kernel
theorem d_LW_effect_18 : decode b_LW_effect 18 = .ok (.ireturn, 1) := by decide +kernel
theorem d_LW_effect_19 : decode b_LW_effect 19 = .ok (.astore 5, 2) := by decide +kernel
theorem d_LW_effect_21 : decode b_LW_effect 21 = .ok (.iconst 2, 1) := by decide +kernel
theorem d_LW_effect_22 : decode b_LW_effect 22 = .ok (.ireturn, 1) := by decide +kernel
theorem d_LW_effect_23 : decode b_LW_effect 23 = .ok (.iconst 0, 1) := by decide +kernel
theorem d_LW_effect_24 : decode b_LW_effect 24 = .ok (.ireturn, 1) := by decide +kernel
def hh_LW_effect : List (Nat × Nat × Nat × Nat) := [(0, 12, 15, 28), (0, 12, 19, 13)]
theorem q904w : Cond.codeWith y_LW_effect b_LW_effect 6 (some .int) hh_LW_effect ∈ zWd := zmem 904 (by decide +kernel) rfl
def rm_LW_effect : Room := { frames := 7, cells := 1, slots := 6, locals := 113 }
def M_LW_effect (p0 : Nat) (x1 : Int) (x2 : Int) (x3 : Int) (p4 : Nat) (h : zH) (K : Int → zH → Prop) : Prop :=
  M_AS_effect p0 x1 x2 x3 h (fun r h1 => ∀ h2 : zH, h2 = zs h1 p4 0 r → K 0 h2) (fun code h1 => (code = 3 ∧ K 1 h1) ∨ (code = 1 ∧ K 2 h1))
set_option maxRecDepth 100000 in
theorem c_LW_effect {l : Launch} (hfl : l.flags = flags0) {g : zG} {n : Nat} {p0 : Nat} {x1 : Int} {x2 : Int} {x3 : Int} {p4 : Nat} (op0 : zO n p0 10) (rx1 : zr x1) (rx2 : zr x2) (rx3 : zr x3) (op4 : zO n p4 16) {h : zH} (hh : zh h) {K : Int → zH → Prop} (hv : M_LW_effect p0 x1 x2 x3 p4 h K) : zMetW l y_LW_effect b_LW_effect 6 (some .int) hh_LW_effect rm_LW_effect g n [.ref (g.2.2 p0), zi x1, zi x2, zi x3, .ref (g.2.2 p4)] h (zPi K) := by
  refine zMetW_of hfl (by decide) rfl (Nat.le_of_ble_eq_true rfl) ⟨rfl, rfl⟩ (fun Wf0 Wf1 m H0 X0 X1 E Lk => ?_)
  unfold M_LW_effect at hv
  show zW Wf0 m 6 g n H0 0 [(0, .ref (g.2.2 p0)), (1, zi x1), (2, zi x2), (3, zi x3), (4, .ref (g.2.2 p4))] [] h
  refine z_aload (pc := 0) (q := 4) X0 d_LW_effect_0 rfl ?_
  refine z_iconst (pc := 2) X0 d_LW_effect_2 ?_
  refine z_aload_n (pc := 3) (q := 0) X0 d_LW_effect_3 rfl ?_
  refine z_iload_n (pc := 4) (q := 1) X0 d_LW_effect_4 rfl ?_
  refine z_iload_n (pc := 5) (q := 2) X0 d_LW_effect_5 rfl ?_
  refine z_iload_n (pc := 6) (q := 3) X0 d_LW_effect_6 rfl ?_
  refine Lk 7 _ [zi 0, .ref (g.2.2 p4)] _ [zi x1, zi x2, zi x3] h _ _ _ _ _ _ _ p0 _ _ (fun l hl => c_AS_effect hl op0 rx1 rx2 rx3 hh hv) op0 rfl mf_AS_effect q905 ⟨⟨by decide, by decide⟩, rfl, rfl⟩ rfl d_LW_effect_7 rfl (Nat.le_of_ble_eq_true rfl) ?_ ?_
  · intro v h1 hp
    obtain ⟨r, rfl, rr, zh1, hv⟩ := hp
    show zW Wf1 m 6 g n H0 10 [(0, .ref (g.2.2 p0)), (1, zi x1), (2, zi x2), (3, zi x3), (4, .ref (g.2.2 p4))] (zi r :: [zi 0, .ref (g.2.2 p4)]) h1
    refine z_i2l (pc := 10) X1 rr d_LW_effect_10 ?_
    refine z_lastj (pc := 11) (j := 0) X1 op4 (zO16 op4).2 (show zr 0 from by decide) ⟨by decide, by decide⟩ rfl d_LW_effect_11 ?_
    refine z_toph (fun h2 e2 => ?_)
    have zh2 : zh h2 := by rw [e2]; exact zh_setl zh1 (zr_l rr) (zO16 op4).1
    refine z_goto (pc := 12) (tgt := 23) X1 d_LW_effect_12 (by decide) ?_
    refine z_iconst (pc := 23) X1 d_LW_effect_23 ?_
    exact E.2.1 rfl _ _ _ _ d_LW_effect_24 ⟨_, rfl, (show zr 0 from by decide), zh2, hv h2 e2⟩
  · intro code E9 h1 hm zh1 hx
    rcases hx with ⟨rfl, hx⟩ | ⟨rfl, hx⟩
    · have hE : E9 = "java/lang/IndexOutOfBoundsException" := by simpa [zExc] using hm
      subst hE
      refine ⟨15, ⟨[], ⟨0, 12, 15, 28⟩, [⟨0, 12, 19, 13⟩], rfl, (fun _ h => absurd h List.not_mem_nil), by decide, by decide, q618, zcs_3, rfl⟩, fun q => ?_⟩
      refine z_astore (pc := 15) (lv' := [(5, .ref q), (0, .ref (g.2.2 p0)), (1, zi x1), (2, zi x2), (3, zi x3), (4, .ref (g.2.2 p4))]) X1 d_LW_effect_15 (by decide) rfl ?_
      refine z_iconst (pc := 17) X1 d_LW_effect_17 ?_
      exact E.2.1 rfl _ _ _ _ d_LW_effect_18 ⟨_, rfl, (show zr 1 from by decide), zh1, hx⟩
    · have hE : E9 = "java/lang/IllegalArgumentException" := by simpa [zExc] using hm
      subst hE
      refine ⟨19, ⟨[⟨0, 12, 15, 28⟩], ⟨0, 12, 19, 13⟩, [], rfl, (List.forall_mem_cons.mpr ⟨Or.inr ⟨by decide, "java/lang/IndexOutOfBoundsException", q618, znc_1_3⟩, (fun _ h => absurd h List.not_mem_nil)⟩), by decide, by decide, q486, zcs_1, rfl⟩, fun q => ?_⟩
      refine z_astore (pc := 19) (lv' := [(5, .ref q), (0, .ref (g.2.2 p0)), (1, zi x1), (2, zi x2), (3, zi x3), (4, .ref (g.2.2 p4))]) X1 d_LW_effect_19 (by decide) rfl ?_
      refine z_iconst (pc := 21) X1 d_LW_effect_21 ?_
      exact E.2.1 rfl _ _ _ _ d_LW_effect_22 ⟨_, rfl, (show zr 2 from by decide), zh1, hx⟩
theorem d_LW_runScript_0 : decode b_LW_runScript 0 = .ok (.aload 4, 2) := by decide +kernel
theorem d_LW_runScript_2 : decode b_LW_runScript 2 = .ok (.iconst 0, 1) := by decide +kernel
theorem d_LW_runScript_3 : decode b_LW_runScript 3 = .ok (.aload_n 0, 1) := by decide +kernel
theorem d_LW_runScript_4 : decode b_LW_runScript 4 = .ok (.iload_n 1, 1) := by decide +kernel
theorem d_LW_runScript_5 : decode b_LW_runScript 5 = .ok (.lload_n 2, 1) := by decide +kernel
theorem d_LW_runScript_6 : decode b_LW_runScript 6 = .ok (.invokevirtual 86, 3) := by decide +kernel
theorem d_LW_runScript_9 : decode b_LW_runScript 9 = .ok (.i2l, 1) := by decide +kernel
theorem d_LW_runScript_10 : decode b_LW_runScript 10 = .ok (.lastore, 1) := by decide +kernel
theorem d_LW_runScript_11 : decode b_LW_runScript 11 = .ok (.goto 7, 3) := by decide +kernel
theorem d_LW_runScript_14 : decode b_LW_runScript 14 = .ok (.astore 5, 2) := by decide +kernel
theorem d_LW_runScript_16 : decode b_LW_runScript 16 = .ok (.iconst 1, 1) := by decide +kernel
theorem d_LW_runScript_17 : decode b_LW_runScript 17 = .ok (.ireturn, 1) := by decide +kernel
theorem d_LW_runScript_18 : decode b_LW_runScript 18 = .ok (.iconst 0, 1) := by decide +kernel
theorem d_LW_runScript_19 : decode b_LW_runScript 19 = .ok (.ireturn, 1) := by decide +kernel
def hh_LW_runScript : List (Nat × Nat × Nat × Nat) := [(0, 11, 14, 13)]
theorem q917w : Cond.codeWith y_LW_runScript b_LW_runScript 6 (some .int) hh_LW_runScript ∈ zWd := zmem 917 (by decide +kernel) rfl
def rm_LW_runScript : Room := { frames := 7, cells := 1, slots := 6, locals := 168 }
def M_LW_runScript (p0 : Nat) (x1 : Int) (x2 : Int) (p4 : Nat) (h : zH) (K : Int → zH → Prop) : Prop :=
  M_AS_runScript p0 x1 x2 h (fun r h1 => ∀ h2 : zH, h2 = zs h1 p4 0 r → K 0 h2) (fun code h1 => (code = 1 ∧ K 1 h1))
set_option maxRecDepth 100000 in
theorem c_LW_runScript {l : Launch} (hfl : l.flags = flags0) {g : zG} {n : Nat} {p0 : Nat} {x1 : Int} {x2 : Int} {p4 : Nat} (op0 : zO n p0 10) (rx1 : zr x1) (rx2 : zrl x2) (op4 : zO n p4 16) {h : zH} (hh : zh h) {K : Int → zH → Prop} (hv : M_LW_runScript p0 x1 x2 p4 h K) : zMetW l y_LW_runScript b_LW_runScript 6 (some .int) hh_LW_runScript rm_LW_runScript g n [.ref (g.2.2 p0), zi x1, zj x2, .ref (g.2.2 p4)] h (zPi K) := by
  refine zMetW_of hfl (by decide) rfl (Nat.le_of_ble_eq_true rfl) ⟨rfl, rfl⟩ (fun Wf0 Wf1 m H0 X0 X1 E Lk => ?_)
  unfold M_LW_runScript at hv
  show zW Wf0 m 6 g n H0 0 [(0, .ref (g.2.2 p0)), (1, zi x1), (2, zj x2), (4, .ref (g.2.2 p4))] [] h
  refine z_aload (pc := 0) (q := 3) X0 d_LW_runScript_0 rfl ?_
  refine z_iconst (pc := 2) X0 d_LW_runScript_2 ?_
  refine z_aload_n (pc := 3) (q := 0) X0 d_LW_runScript_3 rfl ?_
  refine z_iload_n (pc := 4) (q := 1) X0 d_LW_runScript_4 rfl ?_
  refine z_lload_n (pc := 5) (q := 2) X0 d_LW_runScript_5 rfl ?_
  refine Lk 6 _ [zi 0, .ref (g.2.2 p4)] _ [zi x1, zj x2] h _ _ _ _ _ _ _ p0 _ _ (fun l hl => c_AS_runScript hl op0 rx1 rx2 hh hv) op0 rfl mf_AS_runScript q918 ⟨⟨by decide, by decide⟩, rfl, rfl⟩ rfl d_LW_runScript_6 rfl (Nat.le_of_ble_eq_true rfl) ?_ ?_
  · intro v h1 hp
    obtain ⟨r, rfl, rr, zh1, hv⟩ := hp
    show zW Wf1 m 6 g n H0 9 [(0, .ref (g.2.2 p0)), (1, zi x1), (2, zj x2), (4, .ref (g.2.2 p4))] (zi r :: [zi 0, .ref (g.2.2 p4)]) h1
    refine z_i2l (pc := 9) X1 rr d_LW_runScript_9 ?_
    refine z_lastj (pc := 10) (j := 0) X1 op4 (zO16 op4).2 (show zr 0 from by decide) ⟨by decide, by decide⟩ rfl d_LW_runScript_10 ?_
    refine z_toph (fun h2 e2 => ?_)
    have zh2 : zh h2 := by rw [e2]; exact zh_setl zh1 (zr_l rr) (zO16 op4).1
    refine z_goto (pc := 11) (tgt := 18) X1 d_LW_runScript_11 (by decide) ?_
    refine z_iconst (pc := 18) X1 d_LW_runScript_18 ?_
    exact E.2.1 rfl _ _ _ _ d_LW_runScript_19 ⟨_, rfl, (show zr 0 from by decide), zh2, hv h2 e2⟩
  · intro code E9 h1 hm zh1 hx
    rcases hx with ⟨rfl, hx⟩
    · have hE : E9 = "java/lang/IllegalArgumentException" := by simpa [zExc] using hm
      subst hE
      refine ⟨14, ⟨[], ⟨0, 11, 14, 13⟩, [], rfl, (fun _ h => absurd h List.not_mem_nil), by decide, by decide, q486, zcs_1, rfl⟩, fun q => ?_⟩
      refine z_astore (pc := 14) (lv' := [(5, .ref q), (0, .ref (g.2.2 p0)), (1, zi x1), (2, zj x2), (4, .ref (g.2.2 p4))]) X1 d_LW_runScript_14 (by decide) rfl ?_
      refine z_iconst (pc := 16) X1 d_LW_runScript_16 ?_
      exact E.2.1 rfl _ _ _ _ d_LW_runScript_17 ⟨_, rfl, (show zr 1 from by decide), zh1, hx⟩
theorem d_LW_simulate_0 : decode b_LW_simulate 0 = .ok (.aload 4, 2) := by decide +kernel
theorem d_LW_simulate_2 : decode b_LW_simulate 2 = .ok (.iconst 0, 1) := by decide +kernel
theorem d_LW_simulate_3 : decode b_LW_simulate 3 = .ok (.aload_n 0, 1) := by decide +kernel
theorem d_LW_simulate_4 : decode b_LW_simulate 4 = .ok (.lload_n 1, 1) := by decide +kernel
theorem d_LW_simulate_5 : decode b_LW_simulate 5 = .ok (.iload_n 3, 1) := by decide +kernel
theorem d_LW_simulate_6 : decode b_LW_simulate 6 = .ok (.invokevirtual 90, 3) := by decide +kernel
theorem d_LW_simulate_9 : decode b_LW_simulate 9 = .ok (.i2l, 1) := by decide +kernel
theorem d_LW_simulate_10 : decode b_LW_simulate 10 = .ok (.lastore, 1) := by decide +kernel
theorem d_LW_simulate_11 : decode b_LW_simulate 11 = .ok (.goto 7, 3) := by decide +kernel
theorem d_LW_simulate_14 : decode b_LW_simulate 14 = .ok (.astore 5, 2) := by decide +kernel
theorem d_LW_simulate_16 : decode b_LW_simulate 16 = .ok (.iconst 1, 1) := by decide +kernel
theorem d_LW_simulate_17 : decode b_LW_simulate 17 = .ok (.ireturn, 1) := by decide +kernel
theorem d_LW_simulate_18 : decode b_LW_simulate 18 = .ok (.iconst 0, 1) := by decide +kernel
theorem d_LW_simulate_19 : decode b_LW_simulate 19 = .ok (.ireturn, 1) := by decide +kernel
def hh_LW_simulate : List (Nat × Nat × Nat × Nat) := [(0, 11, 14, 13)]
theorem q982w : Cond.codeWith y_LW_simulate b_LW_simulate 6 (some .int) hh_LW_simulate ∈ zWd := zmem 982 (by decide +kernel) rfl
def rm_LW_simulate : Room := { frames := 7, cells := 1, slots := 6, locals := 117 }
def M_LW_simulate (p0 : Nat) (x1 : Int) (x3 : Int) (p4 : Nat) (h : zH) (K : Int → zH → Prop) : Prop :=
  M_AS_simulate p0 x1 x3 h (fun r h1 => ∀ h2 : zH, h2 = zs h1 p4 0 r → K 0 h2) (fun code h1 => (code = 1 ∧ K 1 h1))
set_option maxRecDepth 100000 in
theorem c_LW_simulate {l : Launch} (hfl : l.flags = flags0) {g : zG} {n : Nat} {p0 : Nat} {x1 : Int} {x3 : Int} {p4 : Nat} (op0 : zO n p0 10) (rx1 : zrl x1) (rx3 : zr x3) (op4 : zO n p4 16) {h : zH} (hh : zh h) {K : Int → zH → Prop} (hv : M_LW_simulate p0 x1 x3 p4 h K) : zMetW l y_LW_simulate b_LW_simulate 6 (some .int) hh_LW_simulate rm_LW_simulate g n [.ref (g.2.2 p0), zj x1, zi x3, .ref (g.2.2 p4)] h (zPi K) := by
  refine zMetW_of hfl (by decide) rfl (Nat.le_of_ble_eq_true rfl) ⟨rfl, rfl⟩ (fun Wf0 Wf1 m H0 X0 X1 E Lk => ?_)
  unfold M_LW_simulate at hv
  show zW Wf0 m 6 g n H0 0 [(0, .ref (g.2.2 p0)), (1, zj x1), (3, zi x3), (4, .ref (g.2.2 p4))] [] h
  refine z_aload (pc := 0) (q := 3) X0 d_LW_simulate_0 rfl ?_
  refine z_iconst (pc := 2) X0 d_LW_simulate_2 ?_
  refine z_aload_n (pc := 3) (q := 0) X0 d_LW_simulate_3 rfl ?_
  refine z_lload_n (pc := 4) (q := 1) X0 d_LW_simulate_4 rfl ?_
  refine z_iload_n (pc := 5) (q := 2) X0 d_LW_simulate_5 rfl ?_
  refine Lk 6 _ [zi 0, .ref (g.2.2 p4)] _ [zj x1, zi x3] h _ _ _ _ _ _ _ p0 _ _ (fun l hl => c_AS_simulate hl op0 rx1 rx3 hh hv) op0 rfl mf_AS_simulate q983 ⟨⟨by decide, by decide⟩, rfl, rfl⟩ rfl d_LW_simulate_6 rfl (Nat.le_of_ble_eq_true rfl) ?_ ?_
  · intro v h1 hp
    obtain ⟨r, rfl, rr, zh1, hv⟩ := hp
    show zW Wf1 m 6 g n H0 9 [(0, .ref (g.2.2 p0)), (1, zj x1), (3, zi x3), (4, .ref (g.2.2 p4))] (zi r :: [zi 0, .ref (g.2.2 p4)]) h1
    refine z_i2l (pc := 9) X1 rr d_LW_simulate_9 ?_
    refine z_lastj (pc := 10) (j := 0) X1 op4 (zO16 op4).2 (show zr 0 from by decide) ⟨by decide, by decide⟩ rfl d_LW_simulate_10 ?_
    refine z_toph (fun h2 e2 => ?_)
    have zh2 : zh h2 := by rw [e2]; exact zh_setl zh1 (zr_l rr) (zO16 op4).1
    refine z_goto (pc := 11) (tgt := 18) X1 d_LW_simulate_11 (by decide) ?_
    refine z_iconst (pc := 18) X1 d_LW_simulate_18 ?_
    exact E.2.1 rfl _ _ _ _ d_LW_simulate_19 ⟨_, rfl, (show zr 0 from by decide), zh2, hv h2 e2⟩
  · intro code E9 h1 hm zh1 hx
    rcases hx with ⟨rfl, hx⟩
    · have hE : E9 = "java/lang/IllegalArgumentException" := by simpa [zExc] using hm
      subst hE
      refine ⟨14, ⟨[], ⟨0, 11, 14, 13⟩, [], rfl, (fun _ h => absurd h List.not_mem_nil), by decide, by decide, q486, zcs_1, rfl⟩, fun q => ?_⟩
      refine z_astore (pc := 14) (lv' := [(5, .ref q), (0, .ref (g.2.2 p0)), (1, zj x1), (3, zi x3), (4, .ref (g.2.2 p4))]) X1 d_LW_simulate_14 (by decide) rfl ?_
      refine z_iconst (pc := 16) X1 d_LW_simulate_16 ?_
      exact E.2.1 rfl _ _ _ _ d_LW_simulate_17 ⟨_, rfl, (show zr 1 from by decide), zh1, hx⟩
theorem d_LW_save_0 : decode b_LW_save 0 = .ok (.aload_n 2, 1) := by decide +kernel
theorem d_LW_save_1 : decode b_LW_save 1 = .ok (.iconst 0, 1) := by decide +kernel
theorem d_LW_save_2 : decode b_LW_save 2 = .ok (.aload_n 0, 1) := by decide +kernel
theorem d_LW_save_3 : decode b_LW_save 3 = .ok (.iload_n 1, 1) := by decide +kernel
theorem d_LW_save_4 : decode b_LW_save 4 = .ok (.invokevirtual 94, 3) := by decide +kernel
theorem d_LW_save_7 : decode b_LW_save 7 = .ok (.i2l, 1) := by decide +kernel
theorem d_LW_save_8 : decode b_LW_save 8 = .ok (.lastore, 1) := by decide +kernel
theorem d_LW_save_9 : decode b_LW_save 9 = .ok (.goto 6, 3) := by decide +kernel
theorem d_LW_save_12 : decode b_LW_save 12 = .ok (.astore_n 3, 1) := by decide +kernel
theorem d_LW_save_13 : decode b_LW_save 13 = .ok (.iconst 1, 1) := by decide +kernel
theorem d_LW_save_14 : decode b_LW_save 14 = .ok (.ireturn, 1) := by decide +kernel
theorem d_LW_save_15 : decode b_LW_save 15 = .ok (.iconst 0, 1) := by decide +kernel
theorem d_LW_save_16 : decode b_LW_save 16 = .ok (.ireturn, 1) := by decide +kernel
def hh_LW_save : List (Nat × Nat × Nat × Nat) := [(0, 9, 12, 28)]
theorem q997w : Cond.codeWith y_LW_save b_LW_save 4 (some .int) hh_LW_save ∈ zWd := zmem 997 (by decide +kernel) rfl
def rm_LW_save : Room := { frames := 7, cells := 1, slots := 6, locals := 123 }
def M_LW_save (p0 : Nat) (x1 : Int) (p2 : Nat) (h : zH) (K : Int → zH → Prop) : Prop :=
  M_AS_save p0 x1 h (fun r h1 => ∀ h2 : zH, h2 = zs h1 p2 0 r → K 0 h2) (fun code h1 => (code = 3 ∧ K 1 h1))
set_option maxRecDepth 100000 in
theorem c_LW_save {l : Launch} (hfl : l.flags = flags0) {g : zG} {n : Nat} {p0 : Nat} {x1 : Int} {p2 : Nat} (op0 : zO n p0 10) (rx1 : zr x1) (op2 : zO n p2 16) {h : zH} (hh : zh h) {K : Int → zH → Prop} (hv : M_LW_save p0 x1 p2 h K) : zMetW l y_LW_save b_LW_save 4 (some .int) hh_LW_save rm_LW_save g n [.ref (g.2.2 p0), zi x1, .ref (g.2.2 p2)] h (zPi K) := by
  refine zMetW_of hfl (by decide) rfl (Nat.le_of_ble_eq_true rfl) ⟨rfl, rfl⟩ (fun Wf0 Wf1 m H0 X0 X1 E Lk => ?_)
  unfold M_LW_save at hv
  show zW Wf0 m 4 g n H0 0 [(0, .ref (g.2.2 p0)), (1, zi x1), (2, .ref (g.2.2 p2))] [] h
  refine z_aload_n (pc := 0) (q := 2) X0 d_LW_save_0 rfl ?_
  refine z_iconst (pc := 1) X0 d_LW_save_1 ?_
  refine z_aload_n (pc := 2) (q := 0) X0 d_LW_save_2 rfl ?_
  refine z_iload_n (pc := 3) (q := 1) X0 d_LW_save_3 rfl ?_
  refine Lk 4 _ [zi 0, .ref (g.2.2 p2)] _ [zi x1] h _ _ _ _ _ _ _ p0 _ _ (fun l hl => c_AS_save hl op0 rx1 hh hv) op0 rfl mf_AS_save q998 ⟨⟨by decide, by decide⟩, rfl, rfl⟩ rfl d_LW_save_4 rfl (Nat.le_of_ble_eq_true rfl) ?_ ?_
  · intro v h1 hp
    obtain ⟨r, rfl, rr, zh1, hv⟩ := hp
    show zW Wf1 m 4 g n H0 7 [(0, .ref (g.2.2 p0)), (1, zi x1), (2, .ref (g.2.2 p2))] (zi r :: [zi 0, .ref (g.2.2 p2)]) h1
    refine z_i2l (pc := 7) X1 rr d_LW_save_7 ?_
    refine z_lastj (pc := 8) (j := 0) X1 op2 (zO16 op2).2 (show zr 0 from by decide) ⟨by decide, by decide⟩ rfl d_LW_save_8 ?_
    refine z_toph (fun h2 e2 => ?_)
    have zh2 : zh h2 := by rw [e2]; exact zh_setl zh1 (zr_l rr) (zO16 op2).1
    refine z_goto (pc := 9) (tgt := 15) X1 d_LW_save_9 (by decide) ?_
    refine z_iconst (pc := 15) X1 d_LW_save_15 ?_
    exact E.2.1 rfl _ _ _ _ d_LW_save_16 ⟨_, rfl, (show zr 0 from by decide), zh2, hv h2 e2⟩
  · intro code E9 h1 hm zh1 hx
    rcases hx with ⟨rfl, hx⟩
    · have hE : E9 = "java/lang/IndexOutOfBoundsException" := by simpa [zExc] using hm
      subst hE
      refine ⟨12, ⟨[], ⟨0, 9, 12, 28⟩, [], rfl, (fun _ h => absurd h List.not_mem_nil), by decide, by decide, q618, zcs_3, rfl⟩, fun q => ?_⟩
      refine z_astore_n (pc := 12) (lv' := [(3, .ref q), (0, .ref (g.2.2 p0)), (1, zi x1), (2, .ref (g.2.2 p2))]) X1 d_LW_save_12 (by decide) rfl ?_
      refine z_iconst (pc := 13) X1 d_LW_save_13 ?_
      exact E.2.1 rfl _ _ _ _ d_LW_save_14 ⟨_, rfl, (show zr 1 from by decide), zh1, hx⟩
theorem d_LW_restore_0 : decode b_LW_restore 0 = .ok (.aload_n 2, 1) := by decide +kernel
theorem d_LW_restore_1 : decode b_LW_restore 1 = .ok (.iconst 0, 1) := by decide +kernel
theorem d_LW_restore_2 : decode b_LW_restore 2 = .ok (.aload_n 0, 1) := by decide +kernel
theorem d_LW_restore_3 : decode b_LW_restore 3 = .ok (.iload_n 1, 1) := by decide +kernel
theorem d_LW_restore_4 : decode b_LW_restore 4 = .ok (.invokevirtual 97, 3) := by decide +kernel
theorem d_LW_restore_7 : decode b_LW_restore 7 = .ok (.i2l, 1) := by decide +kernel
theorem d_LW_restore_8 : decode b_LW_restore 8 = .ok (.lastore, 1) := by decide +kernel
theorem d_LW_restore_9 : decode b_LW_restore 9 = .ok (.goto 9, 3) := by decide +kernel
theorem d_LW_restore_12 : decode b_LW_restore 12 = .ok (.astore_n 3, 1) := by decide +kernel
theorem d_LW_restore_13 : decode b_LW_restore 13 = .ok (.iconst 1, 1) := by decide +kernel
theorem d_LW_restore_14 : decode b_LW_restore 14 = .ok (.ireturn, 1) := by decide +kernel
theorem d_LW_restore_15 : decode b_LW_restore 15 = .ok (.astore_n 3, 1) := by decide +kernel
theorem d_LW_restore_16 : decode b_LW_restore 16 = .ok (.iconst 2, 1) := by decide +kernel
theorem d_LW_restore_17 : decode b_LW_restore 17 = .ok (.ireturn, 1) := by decide +kernel
theorem d_LW_restore_18 : decode b_LW_restore 18 = .ok (.iconst 0, 1) := by decide +kernel
theorem d_LW_restore_19 : decode b_LW_restore 19 = .ok (.ireturn, 1) := by decide +kernel
def hh_LW_restore : List (Nat × Nat × Nat × Nat) := [(0, 9, 12, 28), (0, 9, 15, 15)]
theorem q1009w : Cond.codeWith y_LW_restore b_LW_restore 4 (some .int) hh_LW_restore ∈ zWd := zmem 1009 (by decide +kernel) rfl
def rm_LW_restore : Room := { frames := 7, cells := 1, slots := 6, locals := 138 }
def M_LW_restore (p0 : Nat) (x1 : Int) (p2 : Nat) (h : zH) (K : Int → zH → Prop) : Prop :=
  M_AS_restore p0 x1 h (fun r h1 => ∀ h2 : zH, h2 = zs h1 p2 0 r → K 0 h2) (fun code h1 => (code = 3 ∧ K 1 h1) ∨ (code = 2 ∧ K 2 h1))
set_option maxRecDepth 100000 in
theorem c_LW_restore {l : Launch} (hfl : l.flags = flags0) {g : zG} {n : Nat} {p0 : Nat} {x1 : Int} {p2 : Nat} (op0 : zO n p0 10) (rx1 : zr x1) (op2 : zO n p2 16) {h : zH} (hh : zh h) {K : Int → zH → Prop} (hv : M_LW_restore p0 x1 p2 h K) : zMetW l y_LW_restore b_LW_restore 4 (some .int) hh_LW_restore rm_LW_restore g n [.ref (g.2.2 p0), zi x1, .ref (g.2.2 p2)] h (zPi K) := by
  refine zMetW_of hfl (by decide) rfl (Nat.le_of_ble_eq_true rfl) ⟨rfl, rfl⟩ (fun Wf0 Wf1 m H0 X0 X1 E Lk => ?_)
  unfold M_LW_restore at hv
  show zW Wf0 m 4 g n H0 0 [(0, .ref (g.2.2 p0)), (1, zi x1), (2, .ref (g.2.2 p2))] [] h
  refine z_aload_n (pc := 0) (q := 2) X0 d_LW_restore_0 rfl ?_
  refine z_iconst (pc := 1) X0 d_LW_restore_1 ?_
  refine z_aload_n (pc := 2) (q := 0) X0 d_LW_restore_2 rfl ?_
  refine z_iload_n (pc := 3) (q := 1) X0 d_LW_restore_3 rfl ?_
  refine Lk 4 _ [zi 0, .ref (g.2.2 p2)] _ [zi x1] h _ _ _ _ _ _ _ p0 _ _ (fun l hl => c_AS_restore hl op0 rx1 hh hv) op0 rfl mf_AS_restore q1010 ⟨⟨by decide, by decide⟩, rfl, rfl⟩ rfl d_LW_restore_4 rfl (Nat.le_of_ble_eq_true rfl) ?_ ?_
  · intro v h1 hp
    obtain ⟨r, rfl, rr, zh1, hv⟩ := hp
    show zW Wf1 m 4 g n H0 7 [(0, .ref (g.2.2 p0)), (1, zi x1), (2, .ref (g.2.2 p2))] (zi r :: [zi 0, .ref (g.2.2 p2)]) h1
    refine z_i2l (pc := 7) X1 rr d_LW_restore_7 ?_
    refine z_lastj (pc := 8) (j := 0) X1 op2 (zO16 op2).2 (show zr 0 from by decide) ⟨by decide, by decide⟩ rfl d_LW_restore_8 ?_
    refine z_toph (fun h2 e2 => ?_)
    have zh2 : zh h2 := by rw [e2]; exact zh_setl zh1 (zr_l rr) (zO16 op2).1
    refine z_goto (pc := 9) (tgt := 18) X1 d_LW_restore_9 (by decide) ?_
    refine z_iconst (pc := 18) X1 d_LW_restore_18 ?_
    exact E.2.1 rfl _ _ _ _ d_LW_restore_19 ⟨_, rfl, (show zr 0 from by decide), zh2, hv h2 e2⟩
  · intro code E9 h1 hm zh1 hx
    rcases hx with ⟨rfl, hx⟩ | ⟨rfl, hx⟩
    · have hE : E9 = "java/lang/IndexOutOfBoundsException" := by simpa [zExc] using hm
      subst hE
      refine ⟨12, ⟨[], ⟨0, 9, 12, 28⟩, [⟨0, 9, 15, 15⟩], rfl, (fun _ h => absurd h List.not_mem_nil), by decide, by decide, q618, zcs_3, rfl⟩, fun q => ?_⟩
      refine z_astore_n (pc := 12) (lv' := [(3, .ref q), (0, .ref (g.2.2 p0)), (1, zi x1), (2, .ref (g.2.2 p2))]) X1 d_LW_restore_12 (by decide) rfl ?_
      refine z_iconst (pc := 13) X1 d_LW_restore_13 ?_
      exact E.2.1 rfl _ _ _ _ d_LW_restore_14 ⟨_, rfl, (show zr 1 from by decide), zh1, hx⟩
    · have hE : E9 = "java/lang/IllegalStateException" := by simpa [zExc] using hm
      subst hE
      refine ⟨15, ⟨[⟨0, 9, 12, 28⟩], ⟨0, 9, 15, 15⟩, [], rfl, (List.forall_mem_cons.mpr ⟨Or.inr ⟨by decide, "java/lang/IndexOutOfBoundsException", q618, znc_2_3⟩, (fun _ h => absurd h List.not_mem_nil)⟩), by decide, by decide, q487, zcs_2, rfl⟩, fun q => ?_⟩
      refine z_astore_n (pc := 15) (lv' := [(3, .ref q), (0, .ref (g.2.2 p0)), (1, zi x1), (2, .ref (g.2.2 p2))]) X1 d_LW_restore_15 (by decide) rfl ?_
      refine z_iconst (pc := 16) X1 d_LW_restore_16 ?_
      exact E.2.1 rfl _ _ _ _ d_LW_restore_17 ⟨_, rfl, (show zr 2 from by decide), zh1, hx⟩

/-! where a field points to: which kind, and how long (printed by wip/whole/gen.py) -/
theorem gf_History_0 {n k : Nat} (h : zO n k 0) : zO n (k + 1) 15 := h.go (by decide +kernel)
theorem gl_History_0 {n k : Nat} (h : zO n k 0) : zln (k + 1) = 14 := h.len (by decide +kernel)
theorem gf_Model_0 {n k : Nat} (h : zO n k 1) : zO n (k + 1) 12 := h.go (by decide +kernel)
theorem gl_Model_0 {n k : Nat} (h : zO n k 1) : zln (k + 1) = 8 := h.len (by decide +kernel)
theorem gf_Model_1 {n k : Nat} (h : zO n k 1) : zO n (k + 2) 12 := h.go (by decide +kernel)
theorem gl_Model_1 {n k : Nat} (h : zO n k 1) : zln (k + 2) = 8 := h.len (by decide +kernel)
theorem gf_Model_2 {n k : Nat} (h : zO n k 1) : zO n (k + 3) 12 := h.go (by decide +kernel)
theorem gl_Model_2 {n k : Nat} (h : zO n k 1) : zln (k + 3) = 8 := h.len (by decide +kernel)
theorem gf_Model_3 {n k : Nat} (h : zO n k 1) : zO n (k + 4) 12 := h.go (by decide +kernel)
theorem gl_Model_3 {n k : Nat} (h : zO n k 1) : zln (k + 4) = 8 := h.len (by decide +kernel)
theorem gf_Model_4 {n k : Nat} (h : zO n k 1) : zO n (k + 5) 13 := h.go (by decide +kernel)
theorem gl_Model_4 {n k : Nat} (h : zO n k 1) : zln (k + 5) = 8 := h.len (by decide +kernel)
theorem gf_Model_5 {n k : Nat} (h : zO n k 1) : zO n (k + 6) 12 := h.go (by decide +kernel)
theorem gl_Model_5 {n k : Nat} (h : zO n k 1) : zln (k + 6) = 32 := h.len (by decide +kernel)
theorem gf_Model_6 {n k : Nat} (h : zO n k 1) : zO n (k + 7) 12 := h.go (by decide +kernel)
theorem gl_Model_6 {n k : Nat} (h : zO n k 1) : zln (k + 7) = 32 := h.len (by decide +kernel)
theorem gf_Model_7 {n k : Nat} (h : zO n k 1) : zO n (k + 8) 12 := h.go (by decide +kernel)
theorem gl_Model_7 {n k : Nat} (h : zO n k 1) : zln (k + 8) = 256 := h.len (by decide +kernel)
theorem gf_Model_8 {n k : Nat} (h : zO n k 1) : zO n (k + 9) 12 := h.go (by decide +kernel)
theorem gl_Model_8 {n k : Nat} (h : zO n k 1) : zln (k + 9) = 8 := h.len (by decide +kernel)
theorem gf_Models_0 {n k : Nat} (h : zO n k 2) : zO n (k + 1) 14 := h.go (by decide +kernel)
theorem gl_Models_0 {n k : Nat} (h : zO n k 2) : zln (k + 1) = 3 := h.len (by decide +kernel)
theorem gf_Saves_0 {n k : Nat} (h : zO n k 3) : zO n (k + 1) 15 := h.go (by decide +kernel)
theorem gl_Saves_0 {n k : Nat} (h : zO n k 3) : zln (k + 1) = 2 := h.len (by decide +kernel)
theorem gf_Saves_1 {n k : Nat} (h : zO n k 3) : zO n (k + 16) 13 := h.go (by decide +kernel)
theorem gl_Saves_1 {n k : Nat} (h : zO n k 3) : zln (k + 16) = 2 := h.len (by decide +kernel)
theorem gf_Script_0 {n k : Nat} (h : zO n k 4) : zO n (k + 1) 5 := h.go (by decide +kernel)
theorem gf_Script_1 {n k : Nat} (h : zO n k 4) : zO n (k + 8) 6 := h.go (by decide +kernel)
theorem gf_Script_2 {n k : Nat} (h : zO n k 4) : zO n (k + 11) 7 := h.go (by decide +kernel)
theorem gf_State_0 {n k : Nat} (h : zO n k 5) : zO n (k + 1) 12 := h.go (by decide +kernel)
theorem gl_State_0 {n k : Nat} (h : zO n k 5) : zln (k + 1) = 24 := h.len (by decide +kernel)
theorem gf_State_1 {n k : Nat} (h : zO n k 5) : zO n (k + 2) 12 := h.go (by decide +kernel)
theorem gl_State_1 {n k : Nat} (h : zO n k 5) : zln (k + 2) = 40 := h.len (by decide +kernel)
theorem gf_State_2 {n k : Nat} (h : zO n k 5) : zO n (k + 3) 8 := h.go (by decide +kernel)
theorem gf_Symbols_0 {n k : Nat} (h : zO n k 6) : zO n (k + 1) 12 := h.go (by decide +kernel)
theorem gl_Symbols_0 {n k : Nat} (h : zO n k 6) : zln (k + 1) = 40 := h.len (by decide +kernel)
theorem gf_Symbols_1 {n k : Nat} (h : zO n k 6) : zO n (k + 2) 12 := h.go (by decide +kernel)
theorem gl_Symbols_1 {n k : Nat} (h : zO n k 6) : zln (k + 2) = 40 := h.len (by decide +kernel)
theorem gf_Taking_0 {n k : Nat} (h : zO n k 7) : zO n (k + 1) 12 := h.go (by decide +kernel)
theorem gl_Taking_0 {n k : Nat} (h : zO n k 7) : zln (k + 1) = 40 := h.len (by decide +kernel)
theorem gf_Taking_1 {n k : Nat} (h : zO n k 7) : zO n (k + 2) 12 := h.go (by decide +kernel)
theorem gl_Taking_1 {n k : Nat} (h : zO n k 7) : zln (k + 2) = 40 := h.len (by decide +kernel)
theorem gf_Taking_2 {n k : Nat} (h : zO n k 7) : zO n (k + 3) 12 := h.go (by decide +kernel)
theorem gl_Taking_2 {n k : Nat} (h : zO n k 7) : zln (k + 3) = 40 := h.len (by decide +kernel)
theorem gf_Taking_3 {n k : Nat} (h : zO n k 7) : zO n (k + 4) 12 := h.go (by decide +kernel)
theorem gl_Taking_3 {n k : Nat} (h : zO n k 7) : zln (k + 4) = 40 := h.len (by decide +kernel)
theorem gf_Taking_4 {n k : Nat} (h : zO n k 7) : zO n (k + 5) 12 := h.go (by decide +kernel)
theorem gl_Taking_4 {n k : Nat} (h : zO n k 7) : zln (k + 5) = 2 := h.len (by decide +kernel)
theorem gf_Tape_0 {n k : Nat} (h : zO n k 8) : zO n (k + 1) 12 := h.go (by decide +kernel)
theorem gl_Tape_0 {n k : Nat} (h : zO n k 8) : zln (k + 1) = 40 := h.len (by decide +kernel)
theorem gf_Tape_1 {n k : Nat} (h : zO n k 8) : zO n (k + 2) 12 := h.go (by decide +kernel)
theorem gl_Tape_1 {n k : Nat} (h : zO n k 8) : zln (k + 2) = 80 := h.len (by decide +kernel)
theorem gf_Tape_2 {n k : Nat} (h : zO n k 8) : zO n (k + 3) 12 := h.go (by decide +kernel)
theorem gl_Tape_2 {n k : Nat} (h : zO n k 8) : zln (k + 3) = 2 := h.len (by decide +kernel)
theorem gf_Text_0 {n k : Nat} (h : zO n k 9) : zO n (k + 1) 12 := h.go (by decide +kernel)
theorem gl_Text_0 {n k : Nat} (h : zO n k 9) : zln (k + 1) = 100 := h.len (by decide +kernel)
theorem gf_Text_1 {n k : Nat} (h : zO n k 9) : zO n (k + 2) 12 := h.go (by decide +kernel)
theorem gl_Text_1 {n k : Nat} (h : zO n k 9) : zln (k + 2) = 24 := h.len (by decide +kernel)
theorem gf_Text_2 {n k : Nat} (h : zO n k 9) : zO n (k + 3) 12 := h.go (by decide +kernel)
theorem gl_Text_2 {n k : Nat} (h : zO n k 9) : zln (k + 3) = 40 := h.len (by decide +kernel)
theorem gf_AS_0 {n k : Nat} (h : zO n k 10) : zO n (k + 1) 9 := h.go (by decide +kernel)
theorem gf_AS_1 {n k : Nat} (h : zO n k 10) : zO n (k + 5) 2 := h.go (by decide +kernel)
theorem gf_AS_2 {n k : Nat} (h : zO n k 10) : zO n (k + 37) 5 := h.go (by decide +kernel)
theorem gf_AS_3 {n k : Nat} (h : zO n k 10) : zO n (k + 44) 0 := h.go (by decide +kernel)
theorem gf_AS_4 {n k : Nat} (h : zO n k 10) : zO n (k + 144) 3 := h.go (by decide +kernel)
theorem gf_AS_5 {n k : Nat} (h : zO n k 10) : zO n (k + 161) 6 := h.go (by decide +kernel)
theorem gf_AS_6 {n k : Nat} (h : zO n k 10) : zO n (k + 164) 7 := h.go (by decide +kernel)
theorem gf_AS_7 {n k : Nat} (h : zO n k 10) : zO n (k + 170) 7 := h.go (by decide +kernel)
theorem gf_AS_8 {n k : Nat} (h : zO n k 10) : zO n (k + 176) 8 := h.go (by decide +kernel)
theorem gf_AS_9 {n k : Nat} (h : zO n k 10) : zO n (k + 180) 4 := h.go (by decide +kernel)
theorem gf_RM_1 {n k : Nat} (h : zO n k 11) : zO n (k + 1) 12 := h.go (by decide +kernel)
theorem gl_RM_1 {n k : Nat} (h : zO n k 11) : zln (k + 1) = 100 := h.len (by decide +kernel)
theorem gf_RM_8 {n k : Nat} (h : zO n k 11) : zO n (k + 2) 12 := h.go (by decide +kernel)
theorem gl_RM_8 {n k : Nat} (h : zO n k 11) : zln (k + 2) = 193 := h.len (by decide +kernel)
theorem gf_RM_9 {n k : Nat} (h : zO n k 11) : zO n (k + 3) 12 := h.go (by decide +kernel)
theorem gl_RM_9 {n k : Nat} (h : zO n k 11) : zln (k + 3) = 193 := h.len (by decide +kernel)
theorem gf_RM_10 {n k : Nat} (h : zO n k 11) : zO n (k + 4) 12 := h.go (by decide +kernel)
theorem gl_RM_10 {n k : Nat} (h : zO n k 11) : zln (k + 4) = 193 := h.len (by decide +kernel)
theorem gf_RM_11 {n k : Nat} (h : zO n k 11) : zO n (k + 5) 12 := h.go (by decide +kernel)
theorem gl_RM_11 {n k : Nat} (h : zO n k 11) : zln (k + 5) = 193 := h.len (by decide +kernel)
theorem gf_RM_12 {n k : Nat} (h : zO n k 11) : zO n (k + 6) 12 := h.go (by decide +kernel)
theorem gl_RM_12 {n k : Nat} (h : zO n k 11) : zln (k + 6) = 2702 := h.len (by decide +kernel)
theorem gf_RM_14 {n k : Nat} (h : zO n k 11) : zO n (k + 7) 12 := h.go (by decide +kernel)
theorem gl_RM_14 {n k : Nat} (h : zO n k 11) : zln (k + 7) = 386 := h.len (by decide +kernel)
theorem gf_RM_15 {n k : Nat} (h : zO n k 11) : zO n (k + 8) 13 := h.go (by decide +kernel)
theorem gl_RM_15 {n k : Nat} (h : zO n k 11) : zln (k + 8) = 2 := h.len (by decide +kernel)
theorem gf_RM_16 {n k : Nat} (h : zO n k 11) : zO n (k + 9) 12 := h.go (by decide +kernel)
theorem gl_RM_16 {n k : Nat} (h : zO n k 11) : zln (k + 9) = 24 := h.len (by decide +kernel)
theorem gf_RM_17 {n k : Nat} (h : zO n k 11) : zO n (k + 10) 12 := h.go (by decide +kernel)
theorem gl_RM_17 {n k : Nat} (h : zO n k 11) : zln (k + 10) = 24 := h.len (by decide +kernel)
theorem gf_RM_18 {n k : Nat} (h : zO n k 11) : zO n (k + 11) 12 := h.go (by decide +kernel)
theorem gl_RM_18 {n k : Nat} (h : zO n k 11) : zln (k + 11) = 24 := h.len (by decide +kernel)
theorem gf_RM_19 {n k : Nat} (h : zO n k 11) : zO n (k + 12) 12 := h.go (by decide +kernel)
theorem gl_RM_19 {n k : Nat} (h : zO n k 11) : zln (k + 12) = 96 := h.len (by decide +kernel)
theorem gf_RM_20 {n k : Nat} (h : zO n k 11) : zO n (k + 13) 12 := h.go (by decide +kernel)
theorem gl_RM_20 {n k : Nat} (h : zO n k 11) : zln (k + 13) = 96 := h.len (by decide +kernel)
theorem gf_RM_21 {n k : Nat} (h : zO n k 11) : zO n (k + 14) 12 := h.go (by decide +kernel)
theorem gl_RM_21 {n k : Nat} (h : zO n k 11) : zln (k + 14) = 768 := h.len (by decide +kernel)
theorem gf_RM_22 {n k : Nat} (h : zO n k 11) : zO n (k + 15) 12 := h.go (by decide +kernel)
theorem gl_RM_22 {n k : Nat} (h : zO n k 11) : zln (k + 15) = 8 := h.len (by decide +kernel)
theorem gf_RM_23 {n k : Nat} (h : zO n k 11) : zO n (k + 16) 13 := h.go (by decide +kernel)
theorem gl_RM_23 {n k : Nat} (h : zO n k 11) : zln (k + 16) = 8 := h.len (by decide +kernel)
theorem gf_RM_24 {n k : Nat} (h : zO n k 11) : zO n (k + 17) 12 := h.go (by decide +kernel)
theorem gl_RM_24 {n k : Nat} (h : zO n k 11) : zln (k + 17) = 40 := h.len (by decide +kernel)
theorem gf_RM_25 {n k : Nat} (h : zO n k 11) : zO n (k + 18) 12 := h.go (by decide +kernel)
theorem gl_RM_25 {n k : Nat} (h : zO n k 11) : zln (k + 18) = 40 := h.len (by decide +kernel)
theorem gf_RM_26 {n k : Nat} (h : zO n k 11) : zO n (k + 19) 12 := h.go (by decide +kernel)
theorem gl_RM_26 {n k : Nat} (h : zO n k 11) : zln (k + 19) = 41 := h.len (by decide +kernel)
theorem gf_RM_28 {n k : Nat} (h : zO n k 11) : zO n (k + 20) 12 := h.go (by decide +kernel)
theorem gl_RM_28 {n k : Nat} (h : zO n k 11) : zln (k + 20) = 40 := h.len (by decide +kernel)
theorem gf_RM_29 {n k : Nat} (h : zO n k 11) : zO n (k + 21) 12 := h.go (by decide +kernel)
theorem gl_RM_29 {n k : Nat} (h : zO n k 11) : zln (k + 21) = 40 := h.len (by decide +kernel)
theorem gf_RM_30 {n k : Nat} (h : zO n k 11) : zO n (k + 22) 12 := h.go (by decide +kernel)
theorem gl_RM_30 {n k : Nat} (h : zO n k 11) : zln (k + 22) = 40 := h.len (by decide +kernel)
theorem gM {n a i : Nat} (h : zO n a 14) (hi : i < zln a) : zO n (a + 1 + 10 * i) 1 := by
  have hl := h.lt
  obtain ⟨h1, h2, h3⟩ := h
  have ck : (List.range 221).all (fun a => !(zkd a == 14) || (List.range (zln a)).all (fun i => (zkd (a + 1 + 10 * i) == 1) && decide (a + 1 + 10 * i < 197))) = true := by decide +kernel
  have := List.all_eq_true.mp ck a (List.mem_range.mpr hl)
  rw [h3] at this
  simp only [beq_self_eq_true, Bool.not_true, Bool.false_or] at this
  have := List.all_eq_true.mp this i (List.mem_range.mpr hi)
  simp only [Bool.and_eq_true, beq_iff_eq, decide_eq_true_eq] at this
  refine ⟨h1, ?_, this.1⟩
  unfold zN at h1
  omega
theorem gS {n a i : Nat} (h : zO n a 15) (hi : i < zln a) : zO n (a + 1 + 7 * i) 5 := by
  have hl := h.lt
  obtain ⟨h1, h2, h3⟩ := h
  have ck : (List.range 221).all (fun a => !(zkd a == 15) || (List.range (zln a)).all (fun i => (zkd (a + 1 + 7 * i) == 5) && decide (a + 1 + 7 * i < 197))) = true := by decide +kernel
  have := List.all_eq_true.mp ck a (List.mem_range.mpr hl)
  rw [h3] at this
  simp only [beq_self_eq_true, Bool.not_true, Bool.false_or] at this
  have := List.all_eq_true.mp this i (List.mem_range.mpr hi)
  simp only [Bool.and_eq_true, beq_iff_eq, decide_eq_true_eq] at this
  refine ⟨h1, ?_, this.1⟩
  unfold zN at h1
  omega
theorem gi {len a : Nat} {i : Int} (hl : zln a = len) (h0 : 0 ≤ i) (h1 : i < (len : Int)) : i.toNat < zln a := by omega
section ZT
variable {Wf : Heap → List Loc → JFrame → Prop} {m : MethodId} {R : Room} {cc : ByteArray} {own : String} {nL : Nat} {g : zG} {n : Nat} {H0 : Heap} {pc : Nat} {lv : List (Nat × Value)} {rest : List Value} {h : zH}
theorem z_topi {x : Int} (k : ∀ y : Int, y = x → zW Wf m nL g n H0 pc lv (zi y :: rest) h) : zW Wf m nL g n H0 pc lv (zi x :: rest) h := k x rfl
theorem z_topj {x : Int} (k : ∀ y : Int, y = x → zW Wf m nL g n H0 pc lv (zj y :: rest) h) : zW Wf m nL g n H0 pc lv (zj x :: rest) h := k x rfl
theorem z_toph (k : ∀ h1 : zH, h1 = h → zW Wf m nL g n H0 pc lv rest h1) : zW Wf m nL g n H0 pc lv rest h := k h rfl
theorem z_lif_lt (X : zX Wf m R cc own nL g n H0) {x y off : Int} {tgt : Nat} (hx1 : zrl x) (hy1 : zrl y) (d0 : decode cc pc = .ok (.lcmp, 1)) (d : decode cc (pc + 1) = .ok (.ifCond .lt off, 3)) (ht : ((pc + 1 : Nat) : Int) + off = (tgt : Int)) (kt : x < y → zW Wf m nL g n H0 tgt lv rest h) (kf : y ≤ x → zW Wf m nL g n H0 (pc + 1 + 3) lv rest h) : zW Wf m nL g n H0 pc lv (zj y :: zj x :: rest) h := by
  refine z_lcmp X hx1 hy1 d0 (z_if_lt X (zr_cmp x y) d ht (fun q => kt ?_) (fun q => kf ?_)) <;> (unfold zcmp at q; split at q <;> (try split at q) <;> omega)
theorem z_lif_ge (X : zX Wf m R cc own nL g n H0) {x y off : Int} {tgt : Nat} (hx1 : zrl x) (hy1 : zrl y) (d0 : decode cc pc = .ok (.lcmp, 1)) (d : decode cc (pc + 1) = .ok (.ifCond .ge off, 3)) (ht : ((pc + 1 : Nat) : Int) + off = (tgt : Int)) (kt : y ≤ x → zW Wf m nL g n H0 tgt lv rest h) (kf : x < y → zW Wf m nL g n H0 (pc + 1 + 3) lv rest h) : zW Wf m nL g n H0 pc lv (zj y :: zj x :: rest) h := by
  refine z_lcmp X hx1 hy1 d0 (z_if_ge X (zr_cmp x y) d ht (fun q => kt ?_) (fun q => kf ?_)) <;> (unfold zcmp at q; split at q <;> (try split at q) <;> omega)
theorem z_lif_gt (X : zX Wf m R cc own nL g n H0) {x y off : Int} {tgt : Nat} (hx1 : zrl x) (hy1 : zrl y) (d0 : decode cc pc = .ok (.lcmp, 1)) (d : decode cc (pc + 1) = .ok (.ifCond .gt off, 3)) (ht : ((pc + 1 : Nat) : Int) + off = (tgt : Int)) (kt : y < x → zW Wf m nL g n H0 tgt lv rest h) (kf : x ≤ y → zW Wf m nL g n H0 (pc + 1 + 3) lv rest h) : zW Wf m nL g n H0 pc lv (zj y :: zj x :: rest) h := by
  refine z_lcmp X hx1 hy1 d0 (z_if_gt X (zr_cmp x y) d ht (fun q => kt ?_) (fun q => kf ?_)) <;> (unfold zcmp at q; split at q <;> (try split at q) <;> omega)
theorem z_lif_le (X : zX Wf m R cc own nL g n H0) {x y off : Int} {tgt : Nat} (hx1 : zrl x) (hy1 : zrl y) (d0 : decode cc pc = .ok (.lcmp, 1)) (d : decode cc (pc + 1) = .ok (.ifCond .le off, 3)) (ht : ((pc + 1 : Nat) : Int) + off = (tgt : Int)) (kt : x ≤ y → zW Wf m nL g n H0 tgt lv rest h) (kf : y < x → zW Wf m nL g n H0 (pc + 1 + 3) lv rest h) : zW Wf m nL g n H0 pc lv (zj y :: zj x :: rest) h := by
  refine z_lcmp X hx1 hy1 d0 (z_if_le X (zr_cmp x y) d ht (fun q => kt ?_) (fun q => kf ?_)) <;> (unfold zcmp at q; split at q <;> (try split at q) <;> omega)
theorem z_lif_eq (X : zX Wf m R cc own nL g n H0) {x y off : Int} {tgt : Nat} (hx1 : zrl x) (hy1 : zrl y) (d0 : decode cc pc = .ok (.lcmp, 1)) (d : decode cc (pc + 1) = .ok (.ifCond .eq off, 3)) (ht : ((pc + 1 : Nat) : Int) + off = (tgt : Int)) (kt : x = y → zW Wf m nL g n H0 tgt lv rest h) (kf : x ≠ y → zW Wf m nL g n H0 (pc + 1 + 3) lv rest h) : zW Wf m nL g n H0 pc lv (zj y :: zj x :: rest) h := by
  refine z_lcmp X hx1 hy1 d0 (z_if_eq X (zr_cmp x y) d ht (fun q => kt ?_) (fun q => kf ?_)) <;> (unfold zcmp at q; split at q <;> (try split at q) <;> omega)
theorem z_lif_ne (X : zX Wf m R cc own nL g n H0) {x y off : Int} {tgt : Nat} (hx1 : zrl x) (hy1 : zrl y) (d0 : decode cc pc = .ok (.lcmp, 1)) (d : decode cc (pc + 1) = .ok (.ifCond .ne off, 3)) (ht : ((pc + 1 : Nat) : Int) + off = (tgt : Int)) (kt : x ≠ y → zW Wf m nL g n H0 tgt lv rest h) (kf : x = y → zW Wf m nL g n H0 (pc + 1 + 3) lv rest h) : zW Wf m nL g n H0 pc lv (zj y :: zj x :: rest) h := by
  refine z_lcmp X hx1 hy1 d0 (z_if_ne X (zr_cmp x y) d ht (fun q => kt ?_) (fun q => kf ?_)) <;> (unfold zcmp at q; split at q <;> (try split at q) <;> omega)
end ZT

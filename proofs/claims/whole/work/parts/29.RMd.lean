/-! 29.RMd (printed by wip/whole/methgen.py) -/
theorem d_RM_itemsOf_0 : decode b_RM_itemsOf 0 = .ok (.aload_n 0, 1) := by decide +kernel
theorem d_RM_itemsOf_1 : decode b_RM_itemsOf 1 = .ok (.getfield 102, 3) := by decide +kernel
theorem d_RM_itemsOf_4 : decode b_RM_itemsOf 4 = .ok (.istore_n 2, 1) := by decide +kernel
theorem d_RM_itemsOf_5 : decode b_RM_itemsOf 5 = .ok (.iconst 0, 1) := by decide +kernel
theorem d_RM_itemsOf_6 : decode b_RM_itemsOf 6 = .ok (.istore_n 3, 1) := by decide +kernel
theorem d_RM_itemsOf_7 : decode b_RM_itemsOf 7 = .ok (.iload_n 3, 1) := by decide +kernel
theorem d_RM_itemsOf_8 : decode b_RM_itemsOf 8 = .ok (.aload_n 0, 1) := by decide +kernel
theorem d_RM_itemsOf_9 : decode b_RM_itemsOf 9 = .ok (.getfield 102, 3) := by decide +kernel
theorem d_RM_itemsOf_12 : decode b_RM_itemsOf 12 = .ok (.if_icmp .ge 42, 3) := by decide +kernel
theorem d_RM_itemsOf_15 : decode b_RM_itemsOf 15 = .ok (.iload_n 2, 1) := by decide +kernel
theorem d_RM_itemsOf_16 : decode b_RM_itemsOf 16 = .ok (.aload_n 1, 1) := by decide +kernel
theorem d_RM_itemsOf_17 : decode b_RM_itemsOf 17 = .ok (.bipush 64, 2) := by decide +kernel
theorem d_RM_itemsOf_19 : decode b_RM_itemsOf 19 = .ok (.iload_n 3, 1) := by decide +kernel
theorem d_RM_itemsOf_20 : decode b_RM_itemsOf 20 = .ok (.iadd, 1) := by decide +kernel
theorem d_RM_itemsOf_21 : decode b_RM_itemsOf 21 = .ok (.iaload, 1) := by decide +kernel
theorem d_RM_itemsOf_22 : decode b_RM_itemsOf 22 = .ok (.iload_n 3, 1) := by decide +kernel
theorem d_RM_itemsOf_23 : decode b_RM_itemsOf 23 = .ok (.ifCond .ne 7, 3) := by decide +kernel
theorem d_RM_itemsOf_26 : decode b_RM_itemsOf 26 = .ok (.iconst 0, 1) := by decide +kernel
theorem d_RM_itemsOf_27 : decode b_RM_itemsOf 27 = .ok (.goto 11, 3) := by decide +kernel
theorem d_RM_itemsOf_30 : decode b_RM_itemsOf 30 = .ok (.aload_n 1, 1) := by decide +kernel
theorem d_RM_itemsOf_31 : decode b_RM_itemsOf 31 = .ok (.bipush 64, 2) := by decide +kernel
theorem d_RM_itemsOf_33 : decode b_RM_itemsOf 33 = .ok (.iload_n 3, 1) := by decide +kernel
theorem d_RM_itemsOf_34 : decode b_RM_itemsOf 34 = .ok (.iadd, 1) := by decide +kernel
theorem d_RM_itemsOf_35 : decode b_RM_itemsOf 35 = .ok (.iconst 1, 1) := by decide +kernel
theorem d_RM_itemsOf_36 : decode b_RM_itemsOf 36 = .ok (.isub, 1) := by decide +kernel
theorem d_RM_itemsOf_37 : decode b_RM_itemsOf 37 = .ok (.iaload, 1) := by decide +kernel
theorem d_RM_itemsOf_38 : decode b_RM_itemsOf 38 = .ok (.if_icmp .ne 7, 3) := by decide +kernel
theorem d_RM_itemsOf_41 : decode b_RM_itemsOf 41 = .ok (.iconst 0, 1) := by decide +kernel
theorem d_RM_itemsOf_42 : decode b_RM_itemsOf 42 = .ok (.goto 4, 3) := by decide +kernel
theorem d_RM_itemsOf_45 : decode b_RM_itemsOf 45 = .ok (.iconst 1, 1) := by decide +kernel
theorem d_RM_itemsOf_46 : decode b_RM_itemsOf 46 = .ok (.iadd, 1) := by decide +kernel
theorem d_RM_itemsOf_47 : decode b_RM_itemsOf 47 = .ok (.istore_n 2, 1) := by decide +kernel
theorem d_RM_itemsOf_48 : decode b_RM_itemsOf 48 = .ok (.iinc 3 1, 3) := by decide +kernel
theorem d_RM_itemsOf_51 : decode b_RM_itemsOf 51 = .ok (.goto (-44), 3) := by decide +kernel
theorem d_RM_itemsOf_54 : decode b_RM_itemsOf 54 = .ok (.iload_n 2, 1) := by decide +kernel
theorem d_RM_itemsOf_55 : decode b_RM_itemsOf 55 = .ok (.ireturn, 1) := by decide +kernel
def rm_RM_itemsOf : Room := { frames := 0, cells := 0, slots := 0, locals := 0 }
theorem mf_RM_itemsOf : zMV y_RM_itemsOf b_RM_itemsOf 4 (some .int) 1 := ⟨q1288, qs87, q13, q1289, by decide +kernel⟩
def B_RM_itemsOf_38 (K : Int → zH → Prop) (L7 : Int × Int × zH → Prop) (p0 : Nat) (p1 : Nat) (x3 : Int) (u0 : Int) (u1 : Int) (u2 : Int) (h : zH) : Prop :=
  (u1 ≠ u2 → (zr (u0 + 1) ∧ ((∀ x2_2 : Int, x2_2 = u0 + 1 → (zr (x3 + 1) ∧ (L7 (x2_2, x3 + 1, h))))))) ∧ (u1 = u2 → (zr (u0 + 0) ∧ ((∀ x2_5 : Int, x2_5 = u0 + 0 → (zr (x3 + 1) ∧ (L7 (x2_5, x3 + 1, h)))))))
set_option maxRecDepth 100000 in
theorem s_RM_itemsOf_38 {Wf : Heap → List Loc → JFrame → Prop} {m : MethodId} {g : zG} {n : Nat} {H0 : Heap} (X : zX Wf m rm_RM_itemsOf b_RM_itemsOf "AliasStreamsModel" 4 g n H0) {K : Int → zH → Prop} (E : zEx Wf m b_RM_itemsOf (some .int) 4 g n H0 (zPi K)) {L7 : Int × Int × zH → Prop} {p0 : Nat} {p1 : Nat} {x3 : Int} (hL7 : ∀ q : Int × Int × zH, L7 q → zr q.1 → zr q.2.1 → zh (q.2.2) → zW Wf m 4 g n H0 7 [(0, .ref (g.2.2 p0)), (1, .ref (g.2.2 p1)), (2, zi q.1), (3, zi q.2.1)] [] (q.2.2)) (op0 : zO n p0 11) (op1 : zO n p1 12) (rx3 : zr x3) {u0 : Int} {u1 : Int} {u2 : Int} (ru0 : zr u0) (ru1 : zr u1) (ru2 : zr u2) {h : zH} (hh : zh h) (hv : B_RM_itemsOf_38 K L7 p0 p1 x3 u0 u1 u2 h) : zW Wf m 4 g n H0 38 [(0, .ref (g.2.2 p0)), (1, .ref (g.2.2 p1)), (3, zi x3)] [zi u2, zi u1, zi u0] h := by
  unfold B_RM_itemsOf_38 at hv
  refine z_icmp_ne (pc := 38) (tgt := 45) X ru1 ru2 d_RM_itemsOf_38 (by decide) (fun hc => ?_) (fun hc => ?_)
  · replace hv := hv.1 hc
    refine z_iconst (pc := 45) X d_RM_itemsOf_45 ?_
    obtain ⟨v_1, hv⟩ := hv
    refine z_iadd (pc := 46) X d_RM_itemsOf_46 ?_
    refine z_topi (fun x2_2 ex2_2 => ?_)
    have rx2_2 : zr x2_2 := by rw [ex2_2]; exact v_1
    replace hv := hv x2_2 ex2_2
    refine z_istore_n (pc := 47) (lv' := [(2, zi x2_2), (0, .ref (g.2.2 p0)), (1, .ref (g.2.2 p1)), (3, zi x3)]) X d_RM_itemsOf_47 (by decide) rfl ?_
    obtain ⟨v_3, hv⟩ := hv
    refine z_iinc (pc := 48) (q := 3) (lv' := [(3, zi (x3 + 1)), (2, zi x2_2), (0, .ref (g.2.2 p0)), (1, .ref (g.2.2 p1))]) X d_RM_itemsOf_48 rfl (by decide) rfl ?_
    refine z_goto (pc := 51) (tgt := 7) X d_RM_itemsOf_51 (by decide) ?_
    refine z_perm [2, 3, 1, 0] rfl ?_
    exact hL7 _ hv rx2_2 v_3 hh
  · replace hv := hv.2 hc
    refine z_iconst (pc := 41) X d_RM_itemsOf_41 ?_
    refine z_goto (pc := 42) (tgt := 46) X d_RM_itemsOf_42 (by decide) ?_
    obtain ⟨v_4, hv⟩ := hv
    refine z_iadd (pc := 46) X d_RM_itemsOf_46 ?_
    refine z_topi (fun x2_5 ex2_5 => ?_)
    have rx2_5 : zr x2_5 := by rw [ex2_5]; exact v_4
    replace hv := hv x2_5 ex2_5
    refine z_istore_n (pc := 47) (lv' := [(2, zi x2_5), (0, .ref (g.2.2 p0)), (1, .ref (g.2.2 p1)), (3, zi x3)]) X d_RM_itemsOf_47 (by decide) rfl ?_
    obtain ⟨v_6, hv⟩ := hv
    refine z_iinc (pc := 48) (q := 3) (lv' := [(3, zi (x3 + 1)), (2, zi x2_5), (0, .ref (g.2.2 p0)), (1, .ref (g.2.2 p1))]) X d_RM_itemsOf_48 rfl (by decide) rfl ?_
    refine z_goto (pc := 51) (tgt := 7) X d_RM_itemsOf_51 (by decide) ?_
    refine z_perm [2, 3, 1, 0] rfl ?_
    exact hL7 _ hv rx2_5 v_6 hh
def F_RM_itemsOf_7 (K : Int → zH → Prop)  (L7 : Int × Int × zH → Prop) (p0 : Nat) (p1 : Nat) (x2 : Int) (x3 : Int) (h : zH) : Prop :=
  (h p0 27 ≤ x3 → (K x2 h)) ∧ (x3 < h p0 27 → (zr (64 + x3) ∧ ((0 ≤ 64 + x3 ∧ 64 + x3 < ((zln p1 : Nat) : Int)) ∧ ((x3 ≠ 0 → (zr (64 + x3) ∧ (zr ((64 + x3) - 1) ∧ ((0 ≤ (64 + x3) - 1 ∧ (64 + x3) - 1 < ((zln p1 : Nat) : Int)) ∧ (B_RM_itemsOf_38 K L7 p0 p1 x3 x2 (h p1 ((64 + x3).toNat)) (h p1 (((64 + x3) - 1).toNat)) h))))) ∧ (x3 = 0 → (B_RM_itemsOf_38 K L7 p0 p1 x3 x2 (h p1 ((64 + x3).toNat)) 0 h))))))
set_option maxRecDepth 100000 in
theorem s_RM_itemsOf_7 {Wf : Heap → List Loc → JFrame → Prop} {m : MethodId} {g : zG} {n : Nat} {H0 : Heap} (X : zX Wf m rm_RM_itemsOf b_RM_itemsOf "AliasStreamsModel" 4 g n H0) {K : Int → zH → Prop} (E : zEx Wf m b_RM_itemsOf (some .int) 4 g n H0 (zPi K))  {p0 : Nat} {p1 : Nat}  (op0 : zO n p0 11) (op1 : zO n p1 12) {q0 : Int × Int × zH} (hv0 : zLoop (fun L q => F_RM_itemsOf_7 K  L p0 p1 q.1 q.2.1 q.2.2) q0) : zr q0.1 → zr q0.2.1 → zh (q0.2.2) → zW Wf m 4 g n H0 7 [(0, .ref (g.2.2 p0)), (1, .ref (g.2.2 p1)), (2, zi q0.1), (3, zi q0.2.1)] [] (q0.2.2) := by
  refine zLoop_use (G := fun q => zr q.1 → zr q.2.1 → zh (q.2.2) → zW Wf m 4 g n H0 7 [(0, .ref (g.2.2 p0)), (1, .ref (g.2.2 p1)), (2, zi q.1), (3, zi q.2.1)] [] (q.2.2)) ?_ hv0
  rintro L7 ⟨x2, x3, h⟩ hL7 hv rx2 rx3 hh
  have hv : F_RM_itemsOf_7 K  L7 p0 p1 x2 x3 h := hv
  unfold F_RM_itemsOf_7 at hv
  show zW Wf m 4 g n H0 7 [(0, .ref (g.2.2 p0)), (1, .ref (g.2.2 p1)), (2, zi x2), (3, zi x3)] [] h
  refine z_iload_n (pc := 7) (q := 3) X d_RM_itemsOf_7 rfl ?_
  refine z_aload_n (pc := 8) (q := 0) X d_RM_itemsOf_8 rfl ?_
  refine z_geti (pc := 9) (j := 27) X cf_RM op0 (by decide) q1048 rfl rfl d_RM_itemsOf_9 ?_
  refine z_icmp_ge (pc := 12) (tgt := 54) X rx3 (hh.1 _ _ (zO.ne op0 (by decide))) d_RM_itemsOf_12 (by decide) (fun hc => ?_) (fun hc => ?_)
  · replace hv := hv.1 hc
    refine z_iload_n (pc := 54) (q := 2) X d_RM_itemsOf_54 rfl ?_
    exact E.2.1 rfl _ _ _ _ d_RM_itemsOf_55 ⟨_, rfl, rx2, hh, hv⟩
  · replace hv := hv.2 hc
    refine z_iload_n (pc := 15) (q := 2) X d_RM_itemsOf_15 rfl ?_
    refine z_aload_n (pc := 16) (q := 1) X d_RM_itemsOf_16 rfl ?_
    refine z_bipush (pc := 17) X d_RM_itemsOf_17 (by decide) ?_
    refine z_iload_n (pc := 19) (q := 3) X d_RM_itemsOf_19 rfl ?_
    obtain ⟨v_1, hv⟩ := hv
    refine z_iadd (pc := 20) X d_RM_itemsOf_20 ?_
    obtain ⟨v_2, hv⟩ := hv
    refine z_ialdj (pc := 21) (j := (64 + x3).toNat) X op1 rfl v_1 v_2 rfl d_RM_itemsOf_21 ?_
    refine z_iload_n (pc := 22) (q := 3) X d_RM_itemsOf_22 rfl ?_
    refine z_if_ne (pc := 23) (tgt := 30) X rx3 d_RM_itemsOf_23 (by decide) (fun hc => ?_) (fun hc => ?_)
    · replace hv := hv.1 hc
      refine z_aload_n (pc := 30) (q := 1) X d_RM_itemsOf_30 rfl ?_
      refine z_bipush (pc := 31) X d_RM_itemsOf_31 (by decide) ?_
      refine z_iload_n (pc := 33) (q := 3) X d_RM_itemsOf_33 rfl ?_
      obtain ⟨v_3, hv⟩ := hv
      refine z_iadd (pc := 34) X d_RM_itemsOf_34 ?_
      refine z_iconst (pc := 35) X d_RM_itemsOf_35 ?_
      obtain ⟨v_4, hv⟩ := hv
      refine z_isub (pc := 36) X d_RM_itemsOf_36 ?_
      obtain ⟨v_5, hv⟩ := hv
      refine z_ialdj (pc := 37) (j := ((64 + x3) - 1).toNat) X op1 rfl v_4 v_5 rfl d_RM_itemsOf_37 ?_
      refine z_perm [0, 1, 3] rfl ?_
      exact s_RM_itemsOf_38 X E hL7 op0 op1 rx3 rx2 (hh.1 _ _ (zO.ne op1 (by decide))) (hh.1 _ _ (zO.ne op1 (by decide))) hh hv
    · replace hv := hv.2 hc
      refine z_iconst (pc := 26) X d_RM_itemsOf_26 ?_
      refine z_goto (pc := 27) (tgt := 38) X d_RM_itemsOf_27 (by decide) ?_
      refine z_perm [0, 1, 3] rfl ?_
      exact s_RM_itemsOf_38 X E hL7 op0 op1 rx3 rx2 (hh.1 _ _ (zO.ne op1 (by decide))) (show zr 0 from by decide) hh hv
def M_RM_itemsOf (p0 : Nat) (p1 : Nat) (h : zH) (K : Int → zH → Prop) : Prop :=
  (∀ x2_1 : Int, x2_1 = h p0 27 → (zLoop (fun L q => F_RM_itemsOf_7 K  L p0 p1 q.1 q.2.1 q.2.2) (x2_1, 0, h)))
set_option maxRecDepth 100000 in
theorem c_RM_itemsOf {l : Launch} (hfl : l.flags = flags0) {g : zG} {n : Nat} {p0 : Nat} {p1 : Nat} (op0 : zO n p0 11) (op1 : zO n p1 12) {h : zH} (hh : zh h) {K : Int → zH → Prop} (hv : M_RM_itemsOf p0 p1 h K) : zMet l y_RM_itemsOf b_RM_itemsOf 4 (some .int) rm_RM_itemsOf g n [.ref (g.2.2 p0), .ref (g.2.2 p1)] h (zPi K) := by
  refine zMet_of (own := "AliasStreamsModel") hfl (by decide) rfl (Nat.le_of_ble_eq_true rfl) (fun Wf m H0 X E => ?_)
  unfold M_RM_itemsOf at hv
  show zW Wf m 4 g n H0 0 [(0, .ref (g.2.2 p0)), (1, .ref (g.2.2 p1))] [] h
  refine z_aload_n (pc := 0) (q := 0) X d_RM_itemsOf_0 rfl ?_
  refine z_geti (pc := 1) (j := 27) X cf_RM op0 (by decide) q1048 rfl rfl d_RM_itemsOf_1 ?_
  refine z_topi (fun x2_1 ex2_1 => ?_)
  have rx2_1 : zr x2_1 := by rw [ex2_1]; exact (hh.1 _ _ (zO.ne op0 (by decide)))
  replace hv := hv x2_1 ex2_1
  refine z_istore_n (pc := 4) (lv' := [(2, zi x2_1), (0, .ref (g.2.2 p0)), (1, .ref (g.2.2 p1))]) X d_RM_itemsOf_4 (by decide) rfl ?_
  refine z_iconst (pc := 5) X d_RM_itemsOf_5 ?_
  refine z_istore_n (pc := 6) (lv' := [(3, zi 0), (2, zi x2_1), (0, .ref (g.2.2 p0)), (1, .ref (g.2.2 p1))]) X d_RM_itemsOf_6 (by decide) rfl ?_
  refine z_perm [2, 3, 1, 0] rfl ?_
  exact s_RM_itemsOf_7 X E  op0 op1 hv rx2_1 (show zr 0 from by decide) hh
theorem d_RM_canDecode_0 : decode b_RM_canDecode 0 = .ok (.aload_n 0, 1) := by decide +kernel
theorem d_RM_canDecode_1 : decode b_RM_canDecode 1 = .ok (.aload_n 1, 1) := by decide +kernel
theorem d_RM_canDecode_2 : decode b_RM_canDecode 2 = .ok (.invokevirtual 164, 3) := by decide +kernel
theorem d_RM_canDecode_5 : decode b_RM_canDecode 5 = .ok (.aload_n 0, 1) := by decide +kernel
theorem d_RM_canDecode_6 : decode b_RM_canDecode 6 = .ok (.aload_n 1, 1) := by decide +kernel
theorem d_RM_canDecode_7 : decode b_RM_canDecode 7 = .ok (.invokevirtual 206, 3) := by decide +kernel
theorem d_RM_canDecode_10 : decode b_RM_canDecode 10 = .ok (.ifCond .ne 17, 3) := by decide +kernel
theorem d_RM_canDecode_13 : decode b_RM_canDecode 13 = .ok (.aload_n 0, 1) := by decide +kernel
theorem d_RM_canDecode_14 : decode b_RM_canDecode 14 = .ok (.aload_n 1, 1) := by decide +kernel
theorem d_RM_canDecode_15 : decode b_RM_canDecode 15 = .ok (.invokevirtual 209, 3) := by decide +kernel
theorem d_RM_canDecode_18 : decode b_RM_canDecode 18 = .ok (.bipush 40, 2) := by decide +kernel
theorem d_RM_canDecode_20 : decode b_RM_canDecode 20 = .ok (.if_icmp .gt 7, 3) := by decide +kernel
theorem d_RM_canDecode_23 : decode b_RM_canDecode 23 = .ok (.iconst 1, 1) := by decide +kernel
theorem d_RM_canDecode_24 : decode b_RM_canDecode 24 = .ok (.goto 4, 3) := by decide +kernel
theorem d_RM_canDecode_27 : decode b_RM_canDecode 27 = .ok (.iconst 0, 1) := by decide +kernel
theorem d_RM_canDecode_28 : decode b_RM_canDecode 28 = .ok (.ireturn, 1) := by decide +kernel
def rm_RM_canDecode : Room := { frames := 2, cells := 0, slots := 0, locals := 50 }
theorem mf_RM_canDecode : zMV y_RM_canDecode b_RM_canDecode 2 (some .boolean) 1 := ⟨q1280, qs85, q13, q1281, by decide +kernel⟩
def M_RM_canDecode (p0 : Nat) (p1 : Nat) (h : zH) (K : Int → zH → Prop) : Prop :=
  M_RM_layTables p0 p1 h (fun h_1 => M_RM_fails p0 p1 h_1 (fun r_4 h_3 => (r_4 ≠ 0 → (K 0 h_3)) ∧ (r_4 = 0 → (M_RM_itemsOf p0 p1 h_3 (fun r_6 h_5 => (40 < r_6 → (K 0 h_5)) ∧ (r_6 ≤ 40 → (K 1 h_5)))))))
set_option maxRecDepth 100000 in
theorem c_RM_canDecode {l : Launch} (hfl : l.flags = flags0) {g : zG} {n : Nat} {p0 : Nat} {p1 : Nat} (op0 : zO n p0 11) (op1 : zO n p1 12) {h : zH} (hh : zh h) {K : Int → zH → Prop} (hv : M_RM_canDecode p0 p1 h K) : zMet l y_RM_canDecode b_RM_canDecode 2 (some .boolean) rm_RM_canDecode g n [.ref (g.2.2 p0), .ref (g.2.2 p1)] h (zPi K) := by
  refine zMet_of (own := "AliasStreamsModel") hfl (by decide) rfl (Nat.le_of_ble_eq_true rfl) (fun Wf m H0 X E => ?_)
  unfold M_RM_canDecode at hv
  show zW Wf m 2 g n H0 0 [(0, .ref (g.2.2 p0)), (1, .ref (g.2.2 p1))] [] h
  refine z_aload_n (pc := 0) (q := 0) X d_RM_canDecode_0 rfl ?_
  refine z_aload_n (pc := 1) (q := 1) X d_RM_canDecode_1 rfl ?_
  refine z_callVv (pc := 2) (As := [.ref (g.2.2 p1)]) (rest := []) X (fun l hl => c_RM_layTables hl op0 op1 hh hv) cf_RM op0 rfl mf_RM_layTables q1181 ⟨⟨by decide, by decide⟩, rfl, rfl⟩ rfl d_RM_canDecode_2 rfl (Nat.le_of_ble_eq_true rfl) (fun h_1 zh_1 hv => ?_)
  refine z_aload_n (pc := 5) (q := 0) X d_RM_canDecode_5 rfl ?_
  refine z_aload_n (pc := 6) (q := 1) X d_RM_canDecode_6 rfl ?_
  refine z_callVi (pc := 7) (As := [.ref (g.2.2 p1)]) (rest := []) X (fun l hl => c_RM_fails hl op0 op1 zh_1 hv) cf_RM op0 rfl mf_RM_fails q1282 ⟨⟨by decide, by decide⟩, rfl, rfl⟩ rfl d_RM_canDecode_7 rfl (Nat.le_of_ble_eq_true rfl) (fun r_4 h_3 rr_4 zh_3 hv => ?_)
  refine z_if_ne (pc := 10) (tgt := 27) X rr_4 d_RM_canDecode_10 (by decide) (fun hc => ?_) (fun hc => ?_)
  · replace hv := hv.1 hc
    refine z_iconst (pc := 27) X d_RM_canDecode_27 ?_
    exact E.2.2.1 rfl _ _ _ _ (by decide) d_RM_canDecode_28 ⟨_, rfl, (show zr 0 from by decide), zh_3, hv⟩
  · replace hv := hv.2 hc
    refine z_aload_n (pc := 13) (q := 0) X d_RM_canDecode_13 rfl ?_
    refine z_aload_n (pc := 14) (q := 1) X d_RM_canDecode_14 rfl ?_
    refine z_callVi (pc := 15) (As := [.ref (g.2.2 p1)]) (rest := []) X (fun l hl => c_RM_itemsOf hl op0 op1 zh_3 hv) cf_RM op0 rfl mf_RM_itemsOf q1286 ⟨⟨by decide, by decide⟩, rfl, rfl⟩ rfl d_RM_canDecode_15 rfl (Nat.le_of_ble_eq_true rfl) (fun r_6 h_5 rr_6 zh_5 hv => ?_)
    refine z_bipush (pc := 18) X d_RM_canDecode_18 (by decide) ?_
    refine z_icmp_gt (pc := 20) (tgt := 27) X rr_6 (show zr 40 from by decide) d_RM_canDecode_20 (by decide) (fun hc => ?_) (fun hc => ?_)
    · replace hv := hv.1 hc
      refine z_iconst (pc := 27) X d_RM_canDecode_27 ?_
      exact E.2.2.1 rfl _ _ _ _ (by decide) d_RM_canDecode_28 ⟨_, rfl, (show zr 0 from by decide), zh_5, hv⟩
    · replace hv := hv.2 hc
      refine z_iconst (pc := 23) X d_RM_canDecode_23 ?_
      refine z_goto (pc := 24) (tgt := 28) X d_RM_canDecode_24 (by decide) ?_
      exact E.2.2.1 rfl _ _ _ _ (by decide) d_RM_canDecode_28 ⟨_, rfl, (show zr 1 from by decide), zh_5, hv⟩
theorem d_RM_decodeTo_0 : decode b_RM_decodeTo 0 = .ok (.aload_n 1, 1) := by decide +kernel
theorem d_RM_decodeTo_1 : decode b_RM_decodeTo 1 = .ok (.sipush 188, 3) := by decide +kernel
theorem d_RM_decodeTo_4 : decode b_RM_decodeTo 4 = .ok (.iconst 0, 1) := by decide +kernel
theorem d_RM_decodeTo_5 : decode b_RM_decodeTo 5 = .ok (.iastore, 1) := by decide +kernel
theorem d_RM_decodeTo_6 : decode b_RM_decodeTo 6 = .ok (.iconst 0, 1) := by decide +kernel
theorem d_RM_decodeTo_7 : decode b_RM_decodeTo 7 = .ok (.istore_n 2, 1) := by decide +kernel
theorem d_RM_decodeTo_8 : decode b_RM_decodeTo 8 = .ok (.iconst 0, 1) := by decide +kernel
theorem d_RM_decodeTo_9 : decode b_RM_decodeTo 9 = .ok (.istore_n 3, 1) := by decide +kernel
theorem d_RM_decodeTo_10 : decode b_RM_decodeTo 10 = .ok (.iload_n 3, 1) := by decide +kernel
theorem d_RM_decodeTo_11 : decode b_RM_decodeTo 11 = .ok (.aload_n 0, 1) := by decide +kernel
theorem d_RM_decodeTo_12 : decode b_RM_decodeTo 12 = .ok (.getfield 102, 3) := by decide +kernel
theorem d_RM_decodeTo_15 : decode b_RM_decodeTo 15 = .ok (.if_icmp .ge 54, 3) := by decide +kernel
theorem d_RM_decodeTo_18 : decode b_RM_decodeTo 18 = .ok (.aload_n 1, 1) := by decide +kernel
theorem d_RM_decodeTo_19 : decode b_RM_decodeTo 19 = .ok (.bipush 64, 2) := by decide +kernel
theorem d_RM_decodeTo_21 : decode b_RM_decodeTo 21 = .ok (.iload_n 3, 1) := by decide +kernel
theorem d_RM_decodeTo_22 : decode b_RM_decodeTo 22 = .ok (.iadd, 1) := by decide +kernel
theorem d_RM_decodeTo_23 : decode b_RM_decodeTo 23 = .ok (.iaload, 1) := by decide +kernel
theorem d_RM_decodeTo_24 : decode b_RM_decodeTo 24 = .ok (.iload_n 2, 1) := by decide +kernel
theorem d_RM_decodeTo_25 : decode b_RM_decodeTo 25 = .ok (.if_icmp .eq 23, 3) := by decide +kernel
theorem d_RM_decodeTo_28 : decode b_RM_decodeTo 28 = .ok (.aload_n 1, 1) := by decide +kernel
theorem d_RM_decodeTo_29 : decode b_RM_decodeTo 29 = .ok (.bipush 64, 2) := by decide +kernel
theorem d_RM_decodeTo_31 : decode b_RM_decodeTo 31 = .ok (.iload_n 3, 1) := by decide +kernel
theorem d_RM_decodeTo_32 : decode b_RM_decodeTo 32 = .ok (.iadd, 1) := by decide +kernel
theorem d_RM_decodeTo_33 : decode b_RM_decodeTo 33 = .ok (.iaload, 1) := by decide +kernel
theorem d_RM_decodeTo_34 : decode b_RM_decodeTo 34 = .ok (.istore_n 2, 1) := by decide +kernel
theorem d_RM_decodeTo_35 : decode b_RM_decodeTo 35 = .ok (.aload_n 1, 1) := by decide +kernel
theorem d_RM_decodeTo_36 : decode b_RM_decodeTo 36 = .ok (.aload_n 1, 1) := by decide +kernel
theorem d_RM_decodeTo_37 : decode b_RM_decodeTo 37 = .ok (.sipush 188, 3) := by decide +kernel
theorem d_RM_decodeTo_40 : decode b_RM_decodeTo 40 = .ok (.iaload, 1) := by decide +kernel
theorem d_RM_decodeTo_41 : decode b_RM_decodeTo 41 = .ok (.bipush 10, 2) := by decide +kernel
theorem d_RM_decodeTo_43 : decode b_RM_decodeTo 43 = .ok (.iload_n 2, 1) := by decide +kernel
theorem d_RM_decodeTo_44 : decode b_RM_decodeTo 44 = .ok (.iadd, 1) := by decide +kernel
theorem d_RM_decodeTo_45 : decode b_RM_decodeTo 45 = .ok (.invokestatic 188, 3) := by decide +kernel
theorem d_RM_decodeTo_48 : decode b_RM_decodeTo 48 = .ok (.aload_n 1, 1) := by decide +kernel
theorem d_RM_decodeTo_49 : decode b_RM_decodeTo 49 = .ok (.aload_n 1, 1) := by decide +kernel
theorem d_RM_decodeTo_50 : decode b_RM_decodeTo 50 = .ok (.sipush 188, 3) := by decide +kernel
theorem d_RM_decodeTo_53 : decode b_RM_decodeTo 53 = .ok (.iaload, 1) := by decide +kernel
theorem d_RM_decodeTo_54 : decode b_RM_decodeTo 54 = .ok (.aload_n 0, 1) := by decide +kernel
theorem d_RM_decodeTo_55 : decode b_RM_decodeTo 55 = .ok (.getfield 66, 3) := by decide +kernel
theorem d_RM_decodeTo_58 : decode b_RM_decodeTo 58 = .ok (.iload_n 3, 1) := by decide +kernel
theorem d_RM_decodeTo_59 : decode b_RM_decodeTo 59 = .ok (.iaload, 1) := by decide +kernel
theorem d_RM_decodeTo_60 : decode b_RM_decodeTo 60 = .ok (.invokestatic 188, 3) := by decide +kernel
theorem d_RM_decodeTo_63 : decode b_RM_decodeTo 63 = .ok (.iinc 3 1, 3) := by decide +kernel
theorem d_RM_decodeTo_66 : decode b_RM_decodeTo 66 = .ok (.goto (-56), 3) := by decide +kernel
theorem d_RM_decodeTo_69 : decode b_RM_decodeTo 69 = .ok (.return_, 1) := by decide +kernel
def rm_RM_decodeTo : Room := { frames := 1, cells := 0, slots := 0, locals := 23 }
theorem mf_RM_decodeTo : zMV y_RM_decodeTo b_RM_decodeTo 4 none 1 := ⟨q1292, qs88, q13, q1293, by decide +kernel⟩
def B_RM_decodeTo_48 (K : zH → Prop) (L10 : Int × Int × zH → Prop) (p0 : Nat) (p1 : Nat) (x2 : Int) (x3 : Int)  (h : zH) : Prop :=
  (188 : Int) < ((zln p1 : Nat) : Int) ∧ ((0 ≤ x3 ∧ x3 < 40) ∧ (M_RM_put p1 (h p1 188) (h (p0 + 17) x3.toNat) h (fun h_3 => zr (x3 + 1) ∧ (L10 (x2, x3 + 1, h_3)))))
set_option maxRecDepth 100000 in
theorem s_RM_decodeTo_48 {Wf : Heap → List Loc → JFrame → Prop} {m : MethodId} {g : zG} {n : Nat} {H0 : Heap} (X : zX Wf m rm_RM_decodeTo b_RM_decodeTo "AliasStreamsModel" 4 g n H0) {K : zH → Prop} (E : zEx Wf m b_RM_decodeTo none 4 g n H0 (zPv K)) {L10 : Int × Int × zH → Prop} {p0 : Nat} {p1 : Nat} {x2 : Int} {x3 : Int} (hL10 : ∀ q : Int × Int × zH, L10 q → zr q.1 → zr q.2.1 → zh (q.2.2) → zW Wf m 4 g n H0 10 [(0, .ref (g.2.2 p0)), (1, .ref (g.2.2 p1)), (2, zi q.1), (3, zi q.2.1)] [] (q.2.2)) (op0 : zO n p0 11) (op1 : zO n p1 12) (rx2 : zr x2) (rx3 : zr x3)   {h : zH} (hh : zh h) (hv : B_RM_decodeTo_48 K L10 p0 p1 x2 x3  h) : zW Wf m 4 g n H0 48 [(0, .ref (g.2.2 p0)), (1, .ref (g.2.2 p1)), (2, zi x2), (3, zi x3)] [] h := by
  unfold B_RM_decodeTo_48 at hv
  refine z_aload_n (pc := 48) (q := 1) X d_RM_decodeTo_48 rfl ?_
  refine z_aload_n (pc := 49) (q := 1) X d_RM_decodeTo_49 rfl ?_
  refine z_sipush (pc := 50) X d_RM_decodeTo_50 (by decide) ?_
  obtain ⟨v_1, hv⟩ := hv
  refine z_ialdj (pc := 53) (j := 188) X op1 rfl (show zr 188 from by decide) ⟨by decide, v_1⟩ rfl d_RM_decodeTo_53 ?_
  refine z_aload_n (pc := 54) (q := 0) X d_RM_decodeTo_54 rfl ?_
  refine z_getr (pc := 55) (j := 24) (dd := 17) X cf_RM op0 (by decide) q1045 rfl rfl d_RM_decodeTo_55 ?_
  refine z_iload_n (pc := 58) (q := 3) X d_RM_decodeTo_58 rfl ?_
  obtain ⟨v_2, hv⟩ := hv
  refine z_ialdj (pc := 59) (j := x3.toNat) X (gf_RM_24 op0) (gl_RM_24 op0) rx3 v_2 rfl d_RM_decodeTo_59 ?_
  refine z_callSv (pc := 60) (As := [.ref (g.2.2 p1), zi (h p1 188), zi (h (p0 + 17) x3.toNat)]) (rest := []) X (fun l hl => c_RM_put hl op1 (hh.1 _ _ (zO.ne op1 (by decide))) (hh.1 _ _ (zO.ne (gf_RM_24 op0) (by decide))) hh hv) mf_RM_put q1248 ⟨⟨by decide, by decide⟩, rfl, rfl⟩ rfl d_RM_decodeTo_60 rfl (Nat.le_of_ble_eq_true rfl) (fun h_3 zh_3 hv => ?_)
  obtain ⟨v_5, hv⟩ := hv
  refine z_iinc (pc := 63) (q := 3) (lv' := [(3, zi (x3 + 1)), (0, .ref (g.2.2 p0)), (1, .ref (g.2.2 p1)), (2, zi x2)]) X d_RM_decodeTo_63 rfl (by decide) rfl ?_
  refine z_goto (pc := 66) (tgt := 10) X d_RM_decodeTo_66 (by decide) ?_
  refine z_perm [1, 2, 3, 0] rfl ?_
  exact hL10 _ hv rx2 v_5 zh_3
def F_RM_decodeTo_10 (K : zH → Prop)  (L10 : Int × Int × zH → Prop) (p0 : Nat) (p1 : Nat) (x2 : Int) (x3 : Int) (h : zH) : Prop :=
  (h p0 27 ≤ x3 → (K h)) ∧ (x3 < h p0 27 → (zr (64 + x3) ∧ ((0 ≤ 64 + x3 ∧ 64 + x3 < ((zln p1 : Nat) : Int)) ∧ ((h p1 ((64 + x3).toNat) = x2 → (B_RM_decodeTo_48 K L10 p0 p1 x2 x3  h)) ∧ (h p1 ((64 + x3).toNat) ≠ x2 → (zr (64 + x3) ∧ ((0 ≤ 64 + x3 ∧ 64 + x3 < ((zln p1 : Nat) : Int)) ∧ ((∀ x2_5 : Int, x2_5 = h p1 ((64 + x3).toNat) → ((188 : Int) < ((zln p1 : Nat) : Int) ∧ (zr (10 + x2_5) ∧ (M_RM_put p1 (h p1 188) (10 + x2_5) h (fun h_8 => B_RM_decodeTo_48 K L10 p0 p1 x2_5 x3  h_8)))))))))))))
set_option maxRecDepth 100000 in
theorem s_RM_decodeTo_10 {Wf : Heap → List Loc → JFrame → Prop} {m : MethodId} {g : zG} {n : Nat} {H0 : Heap} (X : zX Wf m rm_RM_decodeTo b_RM_decodeTo "AliasStreamsModel" 4 g n H0) {K : zH → Prop} (E : zEx Wf m b_RM_decodeTo none 4 g n H0 (zPv K))  {p0 : Nat} {p1 : Nat}  (op0 : zO n p0 11) (op1 : zO n p1 12) {q0 : Int × Int × zH} (hv0 : zLoop (fun L q => F_RM_decodeTo_10 K  L p0 p1 q.1 q.2.1 q.2.2) q0) : zr q0.1 → zr q0.2.1 → zh (q0.2.2) → zW Wf m 4 g n H0 10 [(0, .ref (g.2.2 p0)), (1, .ref (g.2.2 p1)), (2, zi q0.1), (3, zi q0.2.1)] [] (q0.2.2) := by
  refine zLoop_use (G := fun q => zr q.1 → zr q.2.1 → zh (q.2.2) → zW Wf m 4 g n H0 10 [(0, .ref (g.2.2 p0)), (1, .ref (g.2.2 p1)), (2, zi q.1), (3, zi q.2.1)] [] (q.2.2)) ?_ hv0
  rintro L10 ⟨x2, x3, h⟩ hL10 hv rx2 rx3 hh
  have hv : F_RM_decodeTo_10 K  L10 p0 p1 x2 x3 h := hv
  unfold F_RM_decodeTo_10 at hv
  show zW Wf m 4 g n H0 10 [(0, .ref (g.2.2 p0)), (1, .ref (g.2.2 p1)), (2, zi x2), (3, zi x3)] [] h
  refine z_iload_n (pc := 10) (q := 3) X d_RM_decodeTo_10 rfl ?_
  refine z_aload_n (pc := 11) (q := 0) X d_RM_decodeTo_11 rfl ?_
  refine z_geti (pc := 12) (j := 27) X cf_RM op0 (by decide) q1048 rfl rfl d_RM_decodeTo_12 ?_
  refine z_icmp_ge (pc := 15) (tgt := 69) X rx3 (hh.1 _ _ (zO.ne op0 (by decide))) d_RM_decodeTo_15 (by decide) (fun hc => ?_) (fun hc => ?_)
  · replace hv := hv.1 hc
    exact E.1 rfl _ _ _ d_RM_decodeTo_69 ⟨rfl, hh, hv⟩
  · replace hv := hv.2 hc
    refine z_aload_n (pc := 18) (q := 1) X d_RM_decodeTo_18 rfl ?_
    refine z_bipush (pc := 19) X d_RM_decodeTo_19 (by decide) ?_
    refine z_iload_n (pc := 21) (q := 3) X d_RM_decodeTo_21 rfl ?_
    obtain ⟨v_1, hv⟩ := hv
    refine z_iadd (pc := 22) X d_RM_decodeTo_22 ?_
    obtain ⟨v_2, hv⟩ := hv
    refine z_ialdj (pc := 23) (j := (64 + x3).toNat) X op1 rfl v_1 v_2 rfl d_RM_decodeTo_23 ?_
    refine z_iload_n (pc := 24) (q := 2) X d_RM_decodeTo_24 rfl ?_
    refine z_icmp_eq (pc := 25) (tgt := 48) X (hh.1 _ _ (zO.ne op1 (by decide))) rx2 d_RM_decodeTo_25 (by decide) (fun hc => ?_) (fun hc => ?_)
    · replace hv := hv.1 hc
      exact s_RM_decodeTo_48 X E hL10 op0 op1 rx2 rx3  hh hv
    · replace hv := hv.2 hc
      refine z_aload_n (pc := 28) (q := 1) X d_RM_decodeTo_28 rfl ?_
      refine z_bipush (pc := 29) X d_RM_decodeTo_29 (by decide) ?_
      refine z_iload_n (pc := 31) (q := 3) X d_RM_decodeTo_31 rfl ?_
      obtain ⟨v_3, hv⟩ := hv
      refine z_iadd (pc := 32) X d_RM_decodeTo_32 ?_
      obtain ⟨v_4, hv⟩ := hv
      refine z_ialdj (pc := 33) (j := (64 + x3).toNat) X op1 rfl v_3 v_4 rfl d_RM_decodeTo_33 ?_
      refine z_topi (fun x2_5 ex2_5 => ?_)
      have rx2_5 : zr x2_5 := by rw [ex2_5]; exact (hh.1 _ _ (zO.ne op1 (by decide)))
      replace hv := hv x2_5 ex2_5
      refine z_istore_n (pc := 34) (lv' := [(2, zi x2_5), (0, .ref (g.2.2 p0)), (1, .ref (g.2.2 p1)), (3, zi x3)]) X d_RM_decodeTo_34 (by decide) rfl ?_
      refine z_aload_n (pc := 35) (q := 2) X d_RM_decodeTo_35 rfl ?_
      refine z_aload_n (pc := 36) (q := 2) X d_RM_decodeTo_36 rfl ?_
      refine z_sipush (pc := 37) X d_RM_decodeTo_37 (by decide) ?_
      obtain ⟨v_6, hv⟩ := hv
      refine z_ialdj (pc := 40) (j := 188) X op1 rfl (show zr 188 from by decide) ⟨by decide, v_6⟩ rfl d_RM_decodeTo_40 ?_
      refine z_bipush (pc := 41) X d_RM_decodeTo_41 (by decide) ?_
      refine z_iload_n (pc := 43) (q := 0) X d_RM_decodeTo_43 rfl ?_
      obtain ⟨v_7, hv⟩ := hv
      refine z_iadd (pc := 44) X d_RM_decodeTo_44 ?_
      refine z_callSv (pc := 45) (As := [.ref (g.2.2 p1), zi (h p1 188), zi (10 + x2_5)]) (rest := []) X (fun l hl => c_RM_put hl op1 (hh.1 _ _ (zO.ne op1 (by decide))) v_7 hh hv) mf_RM_put q1248 ⟨⟨by decide, by decide⟩, rfl, rfl⟩ rfl d_RM_decodeTo_45 rfl (Nat.le_of_ble_eq_true rfl) (fun h_8 zh_8 hv => ?_)
      refine z_perm [1, 2, 0, 3] rfl ?_
      exact s_RM_decodeTo_48 X E hL10 op0 op1 rx2_5 rx3  zh_8 hv
def M_RM_decodeTo (p0 : Nat) (p1 : Nat) (h : zH) (K : zH → Prop) : Prop :=
  (188 : Int) < ((zln p1 : Nat) : Int) ∧ (∀ h_2 : zH, h_2 = zs h p1 188 0 → (zLoop (fun L q => F_RM_decodeTo_10 K  L p0 p1 q.1 q.2.1 q.2.2) (0, 0, h_2)))
set_option maxRecDepth 100000 in
theorem c_RM_decodeTo {l : Launch} (hfl : l.flags = flags0) {g : zG} {n : Nat} {p0 : Nat} {p1 : Nat} (op0 : zO n p0 11) (op1 : zO n p1 12) {h : zH} (hh : zh h) {K : zH → Prop} (hv : M_RM_decodeTo p0 p1 h K) : zMet l y_RM_decodeTo b_RM_decodeTo 4 none rm_RM_decodeTo g n [.ref (g.2.2 p0), .ref (g.2.2 p1)] h (zPv K) := by
  refine zMet_of (own := "AliasStreamsModel") hfl (by decide) rfl (Nat.le_of_ble_eq_true rfl) (fun Wf m H0 X E => ?_)
  unfold M_RM_decodeTo at hv
  show zW Wf m 4 g n H0 0 [(0, .ref (g.2.2 p0)), (1, .ref (g.2.2 p1))] [] h
  refine z_aload_n (pc := 0) (q := 1) X d_RM_decodeTo_0 rfl ?_
  refine z_sipush (pc := 1) X d_RM_decodeTo_1 (by decide) ?_
  refine z_iconst (pc := 4) X d_RM_decodeTo_4 ?_
  obtain ⟨v_1, hv⟩ := hv
  refine z_iastj (pc := 5) (j := 188) X op1 rfl (show zr 188 from by decide) ⟨by decide, v_1⟩ rfl d_RM_decodeTo_5 ?_
  refine z_toph (fun h_2 eh_2 => ?_)
  have zh_2 : zh h_2 := by rw [eh_2]; exact zh_set hh (zO.ne op1 (by decide)) (show zr 0 from by decide)
  replace hv := hv h_2 eh_2
  refine z_iconst (pc := 6) X d_RM_decodeTo_6 ?_
  refine z_istore_n (pc := 7) (lv' := [(2, zi 0), (0, .ref (g.2.2 p0)), (1, .ref (g.2.2 p1))]) X d_RM_decodeTo_7 (by decide) rfl ?_
  refine z_iconst (pc := 8) X d_RM_decodeTo_8 ?_
  refine z_istore_n (pc := 9) (lv' := [(3, zi 0), (2, zi 0), (0, .ref (g.2.2 p0)), (1, .ref (g.2.2 p1))]) X d_RM_decodeTo_9 (by decide) rfl ?_
  refine z_perm [2, 3, 1, 0] rfl ?_
  exact s_RM_decodeTo_10 X E  op0 op1 hv (show zr 0 from by decide) (show zr 0 from by decide) zh_2
theorem d_RM_decode_0 : decode b_RM_decode 0 = .ok (.aload_n 0, 1) := by decide +kernel
theorem d_RM_decode_1 : decode b_RM_decode 1 = .ok (.aload_n 0, 1) := by decide +kernel
theorem d_RM_decode_2 : decode b_RM_decode 2 = .ok (.aload_n 0, 1) := by decide +kernel
theorem d_RM_decode_3 : decode b_RM_decode 3 = .ok (.getfield 23, 3) := by decide +kernel
theorem d_RM_decode_6 : decode b_RM_decode 6 = .ok (.invokevirtual 213, 3) := by decide +kernel
theorem d_RM_decode_9 : decode b_RM_decode 9 = .ok (.ifCond .eq 7, 3) := by decide +kernel
theorem d_RM_decode_12 : decode b_RM_decode 12 = .ok (.iconst 0, 1) := by decide +kernel
theorem d_RM_decode_13 : decode b_RM_decode 13 = .ok (.goto 4, 3) := by decide +kernel
theorem d_RM_decode_16 : decode b_RM_decode 16 = .ok (.iconst 1, 1) := by decide +kernel
theorem d_RM_decode_17 : decode b_RM_decode 17 = .ok (.invokevirtual 114, 3) := by decide +kernel
theorem d_RM_decode_20 : decode b_RM_decode 20 = .ok (.ifCond .eq 5, 3) := by decide +kernel
theorem d_RM_decode_23 : decode b_RM_decode 23 = .ok (.iconst 0, 1) := by decide +kernel
theorem d_RM_decode_24 : decode b_RM_decode 24 = .ok (.ireturn, 1) := by decide +kernel
theorem d_RM_decode_25 : decode b_RM_decode 25 = .ok (.aload_n 0, 1) := by decide +kernel
theorem d_RM_decode_26 : decode b_RM_decode 26 = .ok (.invokevirtual 182, 3) := by decide +kernel
theorem d_RM_decode_29 : decode b_RM_decode 29 = .ok (.aload_n 0, 1) := by decide +kernel
theorem d_RM_decode_30 : decode b_RM_decode 30 = .ok (.aload_n 0, 1) := by decide +kernel
theorem d_RM_decode_31 : decode b_RM_decode 31 = .ok (.getfield 23, 3) := by decide +kernel
theorem d_RM_decode_34 : decode b_RM_decode 34 = .ok (.invokevirtual 216, 3) := by decide +kernel
theorem d_RM_decode_37 : decode b_RM_decode 37 = .ok (.aload_n 0, 1) := by decide +kernel
theorem d_RM_decode_38 : decode b_RM_decode 38 = .ok (.getfield 23, 3) := by decide +kernel
theorem d_RM_decode_41 : decode b_RM_decode 41 = .ok (.sipush 188, 3) := by decide +kernel
theorem d_RM_decode_44 : decode b_RM_decode 44 = .ok (.iaload, 1) := by decide +kernel
theorem d_RM_decode_45 : decode b_RM_decode 45 = .ok (.ireturn, 1) := by decide +kernel
def rm_RM_decode : Room := { frames := 3, cells := 0, slots := 0, locals := 71 }
theorem mf_RM_decode : zMV y_RM_decode b_RM_decode 1 (some .int) 0 := ⟨q1275, q1276, q13, q1277, by decide +kernel⟩
def B_RM_decode_17 (K : Int → zH → Prop)  (p0 : Nat) (w0 : Nat) (u1 : Int) (h : zH) : Prop :=
  M_RM_refused w0 u1 h (fun r_2 h_1 => (r_2 = 0 → (M_RM_note p0 h_1 (fun h_3 => M_RM_decodeTo p0 (p0 + 3) h_3 (fun h_5 => K (h_5 (p0 + 3) 188) h_5)))) ∧ (r_2 ≠ 0 → (K 0 h_1)))
set_option maxRecDepth 100000 in
theorem s_RM_decode_17 {Wf : Heap → List Loc → JFrame → Prop} {m : MethodId} {g : zG} {n : Nat} {H0 : Heap} (X : zX Wf m rm_RM_decode b_RM_decode "AliasStreamsModel" 1 g n H0) {K : Int → zH → Prop} (E : zEx Wf m b_RM_decode (some .int) 1 g n H0 (zPi K))  {p0 : Nat}  (op0 : zO n p0 11) {w0 : Nat} {u1 : Int} (ow0 : zO n w0 11) (ru1 : zr u1) {h : zH} (hh : zh h) (hv : B_RM_decode_17 K  p0 w0 u1 h) : zW Wf m 1 g n H0 17 [(0, .ref (g.2.2 p0))] [zi u1, .ref (g.2.2 w0)] h := by
  unfold B_RM_decode_17 at hv
  refine z_callVi (pc := 17) (As := [zi u1]) (rest := []) X (fun l hl => c_RM_refused hl ow0 ru1 hh hv) cf_RM ow0 rfl mf_RM_refused q1130 ⟨⟨by decide, by decide⟩, rfl, rfl⟩ rfl d_RM_decode_17 rfl (Nat.le_of_ble_eq_true rfl) (fun r_2 h_1 rr_2 zh_1 hv => ?_)
  refine z_if_eq (pc := 20) (tgt := 25) X rr_2 d_RM_decode_20 (by decide) (fun hc => ?_) (fun hc => ?_)
  · replace hv := hv.1 hc
    refine z_aload_n (pc := 25) (q := 0) X d_RM_decode_25 rfl ?_
    refine z_callVv (pc := 26) (As := []) (rest := []) X (fun l hl => c_RM_note hl op0 zh_1 hv) cf_RM op0 rfl mf_RM_note q1236 ⟨⟨by decide, by decide⟩, rfl, rfl⟩ rfl d_RM_decode_26 rfl (Nat.le_of_ble_eq_true rfl) (fun h_3 zh_3 hv => ?_)
    refine z_aload_n (pc := 29) (q := 0) X d_RM_decode_29 rfl ?_
    refine z_aload_n (pc := 30) (q := 0) X d_RM_decode_30 rfl ?_
    refine z_getr (pc := 31) (j := 9) (dd := 3) X cf_RM op0 (by decide) q1030 rfl rfl d_RM_decode_31 ?_
    refine z_callVv (pc := 34) (As := [.ref (g.2.2 (p0 + 3))]) (rest := []) X (fun l hl => c_RM_decodeTo hl op0 (gf_RM_9 op0) zh_3 hv) cf_RM op0 rfl mf_RM_decodeTo q1290 ⟨⟨by decide, by decide⟩, rfl, rfl⟩ rfl d_RM_decode_34 rfl (Nat.le_of_ble_eq_true rfl) (fun h_5 zh_5 hv => ?_)
    refine z_aload_n (pc := 37) (q := 0) X d_RM_decode_37 rfl ?_
    refine z_getr (pc := 38) (j := 9) (dd := 3) X cf_RM op0 (by decide) q1030 rfl rfl d_RM_decode_38 ?_
    refine z_sipush (pc := 41) X d_RM_decode_41 (by decide) ?_
    refine z_ialdj (pc := 44) (j := 188) X (gf_RM_9 op0) (gl_RM_9 op0) (show zr 188 from by decide) ⟨by decide, by decide⟩ rfl d_RM_decode_44 ?_
    exact E.2.1 rfl _ _ _ _ d_RM_decode_45 ⟨_, rfl, (zh_5.1 _ _ (zO.ne (gf_RM_9 op0) (by decide))), zh_5, hv⟩
  · replace hv := hv.2 hc
    refine z_iconst (pc := 23) X d_RM_decode_23 ?_
    exact E.2.1 rfl _ _ _ _ d_RM_decode_24 ⟨_, rfl, (show zr 0 from by decide), zh_1, hv⟩
def M_RM_decode (p0 : Nat) (h : zH) (K : Int → zH → Prop) : Prop :=
  M_RM_canDecode p0 (p0 + 3) h (fun r_2 h_1 => (r_2 = 0 → (B_RM_decode_17 K  p0 p0 1 h_1)) ∧ (r_2 ≠ 0 → (B_RM_decode_17 K  p0 p0 0 h_1)))
set_option maxRecDepth 100000 in
theorem c_RM_decode {l : Launch} (hfl : l.flags = flags0) {g : zG} {n : Nat} {p0 : Nat} (op0 : zO n p0 11) {h : zH} (hh : zh h) {K : Int → zH → Prop} (hv : M_RM_decode p0 h K) : zMet l y_RM_decode b_RM_decode 1 (some .int) rm_RM_decode g n [.ref (g.2.2 p0)] h (zPi K) := by
  refine zMet_of (own := "AliasStreamsModel") hfl (by decide) rfl (Nat.le_of_ble_eq_true rfl) (fun Wf m H0 X E => ?_)
  unfold M_RM_decode at hv
  show zW Wf m 1 g n H0 0 [(0, .ref (g.2.2 p0))] [] h
  refine z_aload_n (pc := 0) (q := 0) X d_RM_decode_0 rfl ?_
  refine z_aload_n (pc := 1) (q := 0) X d_RM_decode_1 rfl ?_
  refine z_aload_n (pc := 2) (q := 0) X d_RM_decode_2 rfl ?_
  refine z_getr (pc := 3) (j := 9) (dd := 3) X cf_RM op0 (by decide) q1030 rfl rfl d_RM_decode_3 ?_
  refine z_callVi (pc := 6) (As := [.ref (g.2.2 (p0 + 3))]) (rest := [.ref (g.2.2 p0)]) X (fun l hl => c_RM_canDecode hl op0 (gf_RM_9 op0) hh hv) cf_RM op0 rfl mf_RM_canDecode q1278 ⟨⟨by decide, by decide⟩, rfl, rfl⟩ rfl d_RM_decode_6 rfl (Nat.le_of_ble_eq_true rfl) (fun r_2 h_1 rr_2 zh_1 hv => ?_)
  refine z_if_eq (pc := 9) (tgt := 16) X rr_2 d_RM_decode_9 (by decide) (fun hc => ?_) (fun hc => ?_)
  · replace hv := hv.1 hc
    refine z_iconst (pc := 16) X d_RM_decode_16 ?_
    exact s_RM_decode_17 X E  op0 op0 (show zr 1 from by decide) zh_1 hv
  · replace hv := hv.2 hc
    refine z_iconst (pc := 12) X d_RM_decode_12 ?_
    refine z_goto (pc := 13) (tgt := 17) X d_RM_decode_13 (by decide) ?_
    exact s_RM_decode_17 X E  op0 op0 (show zr 0 from by decide) zh_1 hv
theorem d_RM_isDigit_0 : decode b_RM_isDigit 0 = .ok (.iload_n 1, 1) := by decide +kernel
theorem d_RM_isDigit_1 : decode b_RM_isDigit 1 = .ok (.i2l, 1) := by decide +kernel
theorem d_RM_isDigit_2 : decode b_RM_isDigit 2 = .ok (.lconst 0, 1) := by decide +kernel
theorem d_RM_isDigit_3 : decode b_RM_isDigit 3 = .ok (.aload_n 0, 1) := by decide +kernel
theorem d_RM_isDigit_4 : decode b_RM_isDigit 4 = .ok (.getfield 23, 3) := by decide +kernel
theorem d_RM_isDigit_7 : decode b_RM_isDigit 7 = .ok (.sipush 190, 3) := by decide +kernel
theorem d_RM_isDigit_10 : decode b_RM_isDigit 10 = .ok (.iaload, 1) := by decide +kernel
theorem d_RM_isDigit_11 : decode b_RM_isDigit 11 = .ok (.iconst 1, 1) := by decide +kernel
theorem d_RM_isDigit_12 : decode b_RM_isDigit 12 = .ok (.isub, 1) := by decide +kernel
theorem d_RM_isDigit_13 : decode b_RM_isDigit 13 = .ok (.i2l, 1) := by decide +kernel
theorem d_RM_isDigit_14 : decode b_RM_isDigit 14 = .ok (.invokestatic 87, 3) := by decide +kernel
theorem d_RM_isDigit_17 : decode b_RM_isDigit 17 = .ok (.ireturn, 1) := by decide +kernel
def rm_RM_isDigit : Room := { frames := 1, cells := 0, slots := 0, locals := 25 }
theorem mf_RM_isDigit : zMV y_RM_isDigit b_RM_isDigit 2 (some .boolean) 1 := ⟨q1300, qs89, q13, q1301, by decide +kernel⟩
def M_RM_isDigit (p0 : Nat) (x1 : Int) (h : zH) (K : Int → zH → Prop) : Prop :=
  zr ((h (p0 + 3) 190) - 1) ∧ (M_RM_in x1 0 ((h (p0 + 3) 190) - 1) h (fun r_3 h_2 => (r_3 = 0 ∨ r_3 = 1) ∧ K r_3 h_2))
set_option maxRecDepth 100000 in
theorem c_RM_isDigit {l : Launch} (hfl : l.flags = flags0) {g : zG} {n : Nat} {p0 : Nat} {x1 : Int} (op0 : zO n p0 11) (rx1 : zr x1) {h : zH} (hh : zh h) {K : Int → zH → Prop} (hv : M_RM_isDigit p0 x1 h K) : zMet l y_RM_isDigit b_RM_isDigit 2 (some .boolean) rm_RM_isDigit g n [.ref (g.2.2 p0), zi x1] h (zPi K) := by
  refine zMet_of (own := "AliasStreamsModel") hfl (by decide) rfl (Nat.le_of_ble_eq_true rfl) (fun Wf m H0 X E => ?_)
  unfold M_RM_isDigit at hv
  show zW Wf m 2 g n H0 0 [(0, .ref (g.2.2 p0)), (1, zi x1)] [] h
  refine z_iload_n (pc := 0) (q := 1) X d_RM_isDigit_0 rfl ?_
  refine z_i2l (pc := 1) X rx1 d_RM_isDigit_1 ?_
  refine z_lconst (pc := 2) (x := 0) X d_RM_isDigit_2 (by decide) ?_
  refine z_aload_n (pc := 3) (q := 0) X d_RM_isDigit_3 rfl ?_
  refine z_getr (pc := 4) (j := 9) (dd := 3) X cf_RM op0 (by decide) q1030 rfl rfl d_RM_isDigit_4 ?_
  refine z_sipush (pc := 7) X d_RM_isDigit_7 (by decide) ?_
  refine z_ialdj (pc := 10) (j := 190) X (gf_RM_9 op0) (gl_RM_9 op0) (show zr 190 from by decide) ⟨by decide, by decide⟩ rfl d_RM_isDigit_10 ?_
  refine z_iconst (pc := 11) X d_RM_isDigit_11 ?_
  obtain ⟨v_1, hv⟩ := hv
  refine z_isub (pc := 12) X d_RM_isDigit_12 ?_
  refine z_i2l (pc := 13) X v_1 d_RM_isDigit_13 ?_
  refine z_callSi (pc := 14) (As := [zj x1, zj 0, zj ((h (p0 + 3) 190) - 1)]) (rest := []) X (fun l hl => c_RM_in hl (zr_l rx1) (show zrl 0 from by decide) (zr_l v_1) hh hv) mf_RM_in q1127 ⟨⟨by decide, by decide⟩, rfl, rfl⟩ rfl d_RM_isDigit_14 rfl (Nat.le_of_ble_eq_true rfl) (fun r_3 h_2 rr_3 zh_2 hv => ?_)
  obtain ⟨v_4, hv⟩ := hv
  exact E.2.2.1 rfl _ _ _ _ v_4 d_RM_isDigit_17 ⟨_, rfl, rr_3, zh_2, hv⟩
theorem d_RM_setDigit_0 : decode b_RM_setDigit 0 = .ok (.aload_n 0, 1) := by decide +kernel
theorem d_RM_setDigit_1 : decode b_RM_setDigit 1 = .ok (.aload_n 0, 1) := by decide +kernel
theorem d_RM_setDigit_2 : decode b_RM_setDigit 2 = .ok (.iload_n 1, 1) := by decide +kernel
theorem d_RM_setDigit_3 : decode b_RM_setDigit 3 = .ok (.invokevirtual 219, 3) := by decide +kernel
theorem d_RM_setDigit_6 : decode b_RM_setDigit 6 = .ok (.ifCond .ne 7, 3) := by decide +kernel
theorem d_RM_setDigit_9 : decode b_RM_setDigit 9 = .ok (.iconst 1, 1) := by decide +kernel
theorem d_RM_setDigit_10 : decode b_RM_setDigit 10 = .ok (.goto 20, 3) := by decide +kernel
theorem d_RM_setDigit_13 : decode b_RM_setDigit 13 = .ok (.iload_n 2, 1) := by decide +kernel
theorem d_RM_setDigit_14 : decode b_RM_setDigit 14 = .ok (.i2l, 1) := by decide +kernel
theorem d_RM_setDigit_15 : decode b_RM_setDigit 15 = .ok (.lconst 0, 1) := by decide +kernel
theorem d_RM_setDigit_16 : decode b_RM_setDigit 16 = .ok (.ldc2_w 222, 3) := by decide +kernel
theorem d_RM_setDigit_19 : decode b_RM_setDigit 19 = .ok (.invokestatic 87, 3) := by decide +kernel
theorem d_RM_setDigit_22 : decode b_RM_setDigit 22 = .ok (.ifCond .ne 7, 3) := by decide +kernel
theorem d_RM_setDigit_25 : decode b_RM_setDigit 25 = .ok (.iconst 2, 1) := by decide +kernel
theorem d_RM_setDigit_26 : decode b_RM_setDigit 26 = .ok (.goto 4, 3) := by decide +kernel
theorem d_RM_setDigit_29 : decode b_RM_setDigit 29 = .ok (.iconst 0, 1) := by decide +kernel
theorem d_RM_setDigit_30 : decode b_RM_setDigit 30 = .ok (.invokevirtual 114, 3) := by decide +kernel
theorem d_RM_setDigit_33 : decode b_RM_setDigit 33 = .ok (.ifCond .eq 5, 3) := by decide +kernel
theorem d_RM_setDigit_36 : decode b_RM_setDigit 36 = .ok (.iconst 0, 1) := by decide +kernel
theorem d_RM_setDigit_37 : decode b_RM_setDigit 37 = .ok (.ireturn, 1) := by decide +kernel
theorem d_RM_setDigit_38 : decode b_RM_setDigit 38 = .ok (.aload_n 0, 1) := by decide +kernel
theorem d_RM_setDigit_39 : decode b_RM_setDigit 39 = .ok (.invokevirtual 182, 3) := by decide +kernel
theorem d_RM_setDigit_42 : decode b_RM_setDigit 42 = .ok (.aload_n 0, 1) := by decide +kernel
theorem d_RM_setDigit_43 : decode b_RM_setDigit 43 = .ok (.getfield 23, 3) := by decide +kernel
theorem d_RM_setDigit_46 : decode b_RM_setDigit 46 = .ok (.bipush 104, 2) := by decide +kernel
theorem d_RM_setDigit_48 : decode b_RM_setDigit 48 = .ok (.iload_n 1, 1) := by decide +kernel
theorem d_RM_setDigit_49 : decode b_RM_setDigit 49 = .ok (.iadd, 1) := by decide +kernel
theorem d_RM_setDigit_50 : decode b_RM_setDigit 50 = .ok (.iaload, 1) := by decide +kernel
theorem d_RM_setDigit_51 : decode b_RM_setDigit 51 = .ok (.istore_n 3, 1) := by decide +kernel
theorem d_RM_setDigit_52 : decode b_RM_setDigit 52 = .ok (.aload_n 0, 1) := by decide +kernel
theorem d_RM_setDigit_53 : decode b_RM_setDigit 53 = .ok (.getfield 23, 3) := by decide +kernel
theorem d_RM_setDigit_56 : decode b_RM_setDigit 56 = .ok (.bipush 104, 2) := by decide +kernel
theorem d_RM_setDigit_58 : decode b_RM_setDigit 58 = .ok (.iload_n 1, 1) := by decide +kernel
theorem d_RM_setDigit_59 : decode b_RM_setDigit 59 = .ok (.iadd, 1) := by decide +kernel
theorem d_RM_setDigit_60 : decode b_RM_setDigit 60 = .ok (.iload_n 2, 1) := by decide +kernel
theorem d_RM_setDigit_61 : decode b_RM_setDigit 61 = .ok (.iastore, 1) := by decide +kernel
theorem d_RM_setDigit_62 : decode b_RM_setDigit 62 = .ok (.iload_n 3, 1) := by decide +kernel
theorem d_RM_setDigit_63 : decode b_RM_setDigit 63 = .ok (.ireturn, 1) := by decide +kernel
def rm_RM_setDigit : Room := { frames := 2, cells := 0, slots := 0, locals := 46 }
theorem mf_RM_setDigit : zMV y_RM_setDigit b_RM_setDigit 4 (some .int) 2 := ⟨q1295, q1296, q13, q1297, by decide +kernel⟩
def B_RM_setDigit_30 (K : Int → zH → Prop)  (p0 : Nat) (x1 : Int) (x2 : Int) (w0 : Nat) (u1 : Int) (h : zH) : Prop :=
  M_RM_refused w0 u1 h (fun r_2 h_1 => (r_2 = 0 → (M_RM_note p0 h_1 (fun h_3 => zr (104 + x1) ∧ ((0 ≤ 104 + x1 ∧ 104 + x1 < 193) ∧ ((∀ x3_7 : Int, x3_7 = h_3 (p0 + 3) ((104 + x1).toNat) → (zr (104 + x1) ∧ ((0 ≤ 104 + x1 ∧ 104 + x1 < 193) ∧ (∀ h_10 : zH, h_10 = zs h_3 (p0 + 3) ((104 + x1).toNat) x2 → (K x3_7 h_10)))))))))) ∧ (r_2 ≠ 0 → (K 0 h_1)))
set_option maxRecDepth 100000 in
theorem s_RM_setDigit_30 {Wf : Heap → List Loc → JFrame → Prop} {m : MethodId} {g : zG} {n : Nat} {H0 : Heap} (X : zX Wf m rm_RM_setDigit b_RM_setDigit "AliasStreamsModel" 4 g n H0) {K : Int → zH → Prop} (E : zEx Wf m b_RM_setDigit (some .int) 4 g n H0 (zPi K))  {p0 : Nat} {x1 : Int} {x2 : Int}  (op0 : zO n p0 11) (rx1 : zr x1) (rx2 : zr x2) {w0 : Nat} {u1 : Int} (ow0 : zO n w0 11) (ru1 : zr u1) {h : zH} (hh : zh h) (hv : B_RM_setDigit_30 K  p0 x1 x2 w0 u1 h) : zW Wf m 4 g n H0 30 [(0, .ref (g.2.2 p0)), (1, zi x1), (2, zi x2)] [zi u1, .ref (g.2.2 w0)] h := by
  unfold B_RM_setDigit_30 at hv
  refine z_callVi (pc := 30) (As := [zi u1]) (rest := []) X (fun l hl => c_RM_refused hl ow0 ru1 hh hv) cf_RM ow0 rfl mf_RM_refused q1130 ⟨⟨by decide, by decide⟩, rfl, rfl⟩ rfl d_RM_setDigit_30 rfl (Nat.le_of_ble_eq_true rfl) (fun r_2 h_1 rr_2 zh_1 hv => ?_)
  refine z_if_eq (pc := 33) (tgt := 38) X rr_2 d_RM_setDigit_33 (by decide) (fun hc => ?_) (fun hc => ?_)
  · replace hv := hv.1 hc
    refine z_aload_n (pc := 38) (q := 0) X d_RM_setDigit_38 rfl ?_
    refine z_callVv (pc := 39) (As := []) (rest := []) X (fun l hl => c_RM_note hl op0 zh_1 hv) cf_RM op0 rfl mf_RM_note q1236 ⟨⟨by decide, by decide⟩, rfl, rfl⟩ rfl d_RM_setDigit_39 rfl (Nat.le_of_ble_eq_true rfl) (fun h_3 zh_3 hv => ?_)
    refine z_aload_n (pc := 42) (q := 0) X d_RM_setDigit_42 rfl ?_
    refine z_getr (pc := 43) (j := 9) (dd := 3) X cf_RM op0 (by decide) q1030 rfl rfl d_RM_setDigit_43 ?_
    refine z_bipush (pc := 46) X d_RM_setDigit_46 (by decide) ?_
    refine z_iload_n (pc := 48) (q := 1) X d_RM_setDigit_48 rfl ?_
    obtain ⟨v_5, hv⟩ := hv
    refine z_iadd (pc := 49) X d_RM_setDigit_49 ?_
    obtain ⟨v_6, hv⟩ := hv
    refine z_ialdj (pc := 50) (j := (104 + x1).toNat) X (gf_RM_9 op0) (gl_RM_9 op0) v_5 v_6 rfl d_RM_setDigit_50 ?_
    refine z_topi (fun x3_7 ex3_7 => ?_)
    have rx3_7 : zr x3_7 := by rw [ex3_7]; exact (zh_3.1 _ _ (zO.ne (gf_RM_9 op0) (by decide)))
    replace hv := hv x3_7 ex3_7
    refine z_istore_n (pc := 51) (lv' := [(3, zi x3_7), (0, .ref (g.2.2 p0)), (1, zi x1), (2, zi x2)]) X d_RM_setDigit_51 (by decide) rfl ?_
    refine z_aload_n (pc := 52) (q := 1) X d_RM_setDigit_52 rfl ?_
    refine z_getr (pc := 53) (j := 9) (dd := 3) X cf_RM op0 (by decide) q1030 rfl rfl d_RM_setDigit_53 ?_
    refine z_bipush (pc := 56) X d_RM_setDigit_56 (by decide) ?_
    refine z_iload_n (pc := 58) (q := 2) X d_RM_setDigit_58 rfl ?_
    obtain ⟨v_8, hv⟩ := hv
    refine z_iadd (pc := 59) X d_RM_setDigit_59 ?_
    refine z_iload_n (pc := 60) (q := 3) X d_RM_setDigit_60 rfl ?_
    obtain ⟨v_9, hv⟩ := hv
    refine z_iastj (pc := 61) (j := (104 + x1).toNat) X (gf_RM_9 op0) (gl_RM_9 op0) v_8 v_9 rfl d_RM_setDigit_61 ?_
    refine z_toph (fun h_10 eh_10 => ?_)
    have zh_10 : zh h_10 := by rw [eh_10]; exact zh_set zh_3 (zO.ne (gf_RM_9 op0) (by decide)) rx2
    replace hv := hv h_10 eh_10
    refine z_iload_n (pc := 62) (q := 0) X d_RM_setDigit_62 rfl ?_
    exact E.2.1 rfl _ _ _ _ d_RM_setDigit_63 ⟨_, rfl, rx3_7, zh_10, hv⟩
  · replace hv := hv.2 hc
    refine z_iconst (pc := 36) X d_RM_setDigit_36 ?_
    exact E.2.1 rfl _ _ _ _ d_RM_setDigit_37 ⟨_, rfl, (show zr 0 from by decide), zh_1, hv⟩
def M_RM_setDigit (p0 : Nat) (x1 : Int) (x2 : Int) (h : zH) (K : Int → zH → Prop) : Prop :=
  M_RM_isDigit p0 x1 h (fun r_2 h_1 => (r_2 ≠ 0 → (M_RM_in x2 0 15 h_1 (fun r_4 h_3 => (r_4 ≠ 0 → (B_RM_setDigit_30 K  p0 x1 x2 p0 0 h_3)) ∧ (r_4 = 0 → (B_RM_setDigit_30 K  p0 x1 x2 p0 2 h_3))))) ∧ (r_2 = 0 → (B_RM_setDigit_30 K  p0 x1 x2 p0 1 h_1)))
set_option maxRecDepth 100000 in
theorem c_RM_setDigit {l : Launch} (hfl : l.flags = flags0) {g : zG} {n : Nat} {p0 : Nat} {x1 : Int} {x2 : Int} (op0 : zO n p0 11) (rx1 : zr x1) (rx2 : zr x2) {h : zH} (hh : zh h) {K : Int → zH → Prop} (hv : M_RM_setDigit p0 x1 x2 h K) : zMet l y_RM_setDigit b_RM_setDigit 4 (some .int) rm_RM_setDigit g n [.ref (g.2.2 p0), zi x1, zi x2] h (zPi K) := by
  refine zMet_of (own := "AliasStreamsModel") hfl (by decide) rfl (Nat.le_of_ble_eq_true rfl) (fun Wf m H0 X E => ?_)
  unfold M_RM_setDigit at hv
  show zW Wf m 4 g n H0 0 [(0, .ref (g.2.2 p0)), (1, zi x1), (2, zi x2)] [] h
  refine z_aload_n (pc := 0) (q := 0) X d_RM_setDigit_0 rfl ?_
  refine z_aload_n (pc := 1) (q := 0) X d_RM_setDigit_1 rfl ?_
  refine z_iload_n (pc := 2) (q := 1) X d_RM_setDigit_2 rfl ?_
  refine z_callVi (pc := 3) (As := [zi x1]) (rest := [.ref (g.2.2 p0)]) X (fun l hl => c_RM_isDigit hl op0 rx1 hh hv) cf_RM op0 rfl mf_RM_isDigit q1298 ⟨⟨by decide, by decide⟩, rfl, rfl⟩ rfl d_RM_setDigit_3 rfl (Nat.le_of_ble_eq_true rfl) (fun r_2 h_1 rr_2 zh_1 hv => ?_)
  refine z_if_ne (pc := 6) (tgt := 13) X rr_2 d_RM_setDigit_6 (by decide) (fun hc => ?_) (fun hc => ?_)
  · replace hv := hv.1 hc
    refine z_iload_n (pc := 13) (q := 2) X d_RM_setDigit_13 rfl ?_
    refine z_i2l (pc := 14) X rx2 d_RM_setDigit_14 ?_
    refine z_lconst (pc := 15) (x := 0) X d_RM_setDigit_15 (by decide) ?_
    refine z_ldc2 (pc := 16) (x := 15) X d_RM_setDigit_16 q1302 (by decide) ?_
    refine z_callSi (pc := 19) (As := [zj x2, zj 0, zj 15]) (rest := [.ref (g.2.2 p0)]) X (fun l hl => c_RM_in hl (zr_l rx2) (show zrl 0 from by decide) (show zrl 15 from by decide) zh_1 hv) mf_RM_in q1127 ⟨⟨by decide, by decide⟩, rfl, rfl⟩ rfl d_RM_setDigit_19 rfl (Nat.le_of_ble_eq_true rfl) (fun r_4 h_3 rr_4 zh_3 hv => ?_)
    refine z_if_ne (pc := 22) (tgt := 29) X rr_4 d_RM_setDigit_22 (by decide) (fun hc => ?_) (fun hc => ?_)
    · replace hv := hv.1 hc
      refine z_iconst (pc := 29) X d_RM_setDigit_29 ?_
      exact s_RM_setDigit_30 X E  op0 rx1 rx2 op0 (show zr 0 from by decide) zh_3 hv
    · replace hv := hv.2 hc
      refine z_iconst (pc := 25) X d_RM_setDigit_25 ?_
      refine z_goto (pc := 26) (tgt := 30) X d_RM_setDigit_26 (by decide) ?_
      exact s_RM_setDigit_30 X E  op0 rx1 rx2 op0 (show zr 2 from by decide) zh_3 hv
  · replace hv := hv.2 hc
    refine z_iconst (pc := 9) X d_RM_setDigit_9 ?_
    refine z_goto (pc := 10) (tgt := 30) X d_RM_setDigit_10 (by decide) ?_
    exact s_RM_setDigit_30 X E  op0 rx1 rx2 op0 (show zr 1 from by decide) zh_1 hv
theorem d_RM_setHead_0 : decode b_RM_setHead 0 = .ok (.aload_n 0, 1) := by decide +kernel
theorem d_RM_setHead_1 : decode b_RM_setHead 1 = .ok (.iload_n 1, 1) := by decide +kernel
theorem d_RM_setHead_2 : decode b_RM_setHead 2 = .ok (.i2l, 1) := by decide +kernel
theorem d_RM_setHead_3 : decode b_RM_setHead 3 = .ok (.lconst 0, 1) := by decide +kernel
theorem d_RM_setHead_4 : decode b_RM_setHead 4 = .ok (.lconst 1, 1) := by decide +kernel
theorem d_RM_setHead_5 : decode b_RM_setHead 5 = .ok (.invokestatic 87, 3) := by decide +kernel
theorem d_RM_setHead_8 : decode b_RM_setHead 8 = .ok (.ifCond .ne 7, 3) := by decide +kernel
theorem d_RM_setHead_11 : decode b_RM_setHead 11 = .ok (.iconst 1, 1) := by decide +kernel
theorem d_RM_setHead_12 : decode b_RM_setHead 12 = .ok (.goto 22, 3) := by decide +kernel
theorem d_RM_setHead_15 : decode b_RM_setHead 15 = .ok (.iload_n 2, 1) := by decide +kernel
theorem d_RM_setHead_16 : decode b_RM_setHead 16 = .ok (.i2l, 1) := by decide +kernel
theorem d_RM_setHead_17 : decode b_RM_setHead 17 = .ok (.ldc2_w 224, 3) := by decide +kernel
theorem d_RM_setHead_20 : decode b_RM_setHead 20 = .ok (.ldc2_w 226, 3) := by decide +kernel
theorem d_RM_setHead_23 : decode b_RM_setHead 23 = .ok (.invokestatic 87, 3) := by decide +kernel
theorem d_RM_setHead_26 : decode b_RM_setHead 26 = .ok (.ifCond .ne 7, 3) := by decide +kernel
theorem d_RM_setHead_29 : decode b_RM_setHead 29 = .ok (.iconst 2, 1) := by decide +kernel
theorem d_RM_setHead_30 : decode b_RM_setHead 30 = .ok (.goto 4, 3) := by decide +kernel
theorem d_RM_setHead_33 : decode b_RM_setHead 33 = .ok (.iconst 0, 1) := by decide +kernel
theorem d_RM_setHead_34 : decode b_RM_setHead 34 = .ok (.invokevirtual 114, 3) := by decide +kernel
theorem d_RM_setHead_37 : decode b_RM_setHead 37 = .ok (.ifCond .eq 5, 3) := by decide +kernel
theorem d_RM_setHead_40 : decode b_RM_setHead 40 = .ok (.iconst 0, 1) := by decide +kernel
theorem d_RM_setHead_41 : decode b_RM_setHead 41 = .ok (.ireturn, 1) := by decide +kernel
theorem d_RM_setHead_42 : decode b_RM_setHead 42 = .ok (.aload_n 0, 1) := by decide +kernel
theorem d_RM_setHead_43 : decode b_RM_setHead 43 = .ok (.invokevirtual 182, 3) := by decide +kernel
theorem d_RM_setHead_46 : decode b_RM_setHead 46 = .ok (.aload_n 0, 1) := by decide +kernel
theorem d_RM_setHead_47 : decode b_RM_setHead 47 = .ok (.getfield 23, 3) := by decide +kernel
theorem d_RM_setHead_50 : decode b_RM_setHead 50 = .ok (.sipush 191, 3) := by decide +kernel
theorem d_RM_setHead_53 : decode b_RM_setHead 53 = .ok (.iload_n 1, 1) := by decide +kernel
theorem d_RM_setHead_54 : decode b_RM_setHead 54 = .ok (.iadd, 1) := by decide +kernel
theorem d_RM_setHead_55 : decode b_RM_setHead 55 = .ok (.iaload, 1) := by decide +kernel
theorem d_RM_setHead_56 : decode b_RM_setHead 56 = .ok (.istore_n 3, 1) := by decide +kernel
theorem d_RM_setHead_57 : decode b_RM_setHead 57 = .ok (.aload_n 0, 1) := by decide +kernel
theorem d_RM_setHead_58 : decode b_RM_setHead 58 = .ok (.getfield 23, 3) := by decide +kernel
theorem d_RM_setHead_61 : decode b_RM_setHead 61 = .ok (.sipush 191, 3) := by decide +kernel
theorem d_RM_setHead_64 : decode b_RM_setHead 64 = .ok (.iload_n 1, 1) := by decide +kernel
theorem d_RM_setHead_65 : decode b_RM_setHead 65 = .ok (.iadd, 1) := by decide +kernel
theorem d_RM_setHead_66 : decode b_RM_setHead 66 = .ok (.iload_n 2, 1) := by decide +kernel
theorem d_RM_setHead_67 : decode b_RM_setHead 67 = .ok (.iastore, 1) := by decide +kernel
theorem d_RM_setHead_68 : decode b_RM_setHead 68 = .ok (.iload_n 3, 1) := by decide +kernel
theorem d_RM_setHead_69 : decode b_RM_setHead 69 = .ok (.ireturn, 1) := by decide +kernel
def rm_RM_setHead : Room := { frames := 2, cells := 0, slots := 0, locals := 45 }
theorem mf_RM_setHead : zMV y_RM_setHead b_RM_setHead 4 (some .int) 2 := ⟨q1304, q1305, q13, q1306, by decide +kernel⟩
def B_RM_setHead_34 (K : Int → zH → Prop)  (p0 : Nat) (x1 : Int) (x2 : Int) (w0 : Nat) (u1 : Int) (h : zH) : Prop :=
  M_RM_refused w0 u1 h (fun r_2 h_1 => (r_2 = 0 → (M_RM_note p0 h_1 (fun h_3 => zr (191 + x1) ∧ ((0 ≤ 191 + x1 ∧ 191 + x1 < 193) ∧ ((∀ x3_7 : Int, x3_7 = h_3 (p0 + 3) ((191 + x1).toNat) → (zr (191 + x1) ∧ ((0 ≤ 191 + x1 ∧ 191 + x1 < 193) ∧ (∀ h_10 : zH, h_10 = zs h_3 (p0 + 3) ((191 + x1).toNat) x2 → (K x3_7 h_10)))))))))) ∧ (r_2 ≠ 0 → (K 0 h_1)))
set_option maxRecDepth 100000 in
theorem s_RM_setHead_34 {Wf : Heap → List Loc → JFrame → Prop} {m : MethodId} {g : zG} {n : Nat} {H0 : Heap} (X : zX Wf m rm_RM_setHead b_RM_setHead "AliasStreamsModel" 4 g n H0) {K : Int → zH → Prop} (E : zEx Wf m b_RM_setHead (some .int) 4 g n H0 (zPi K))  {p0 : Nat} {x1 : Int} {x2 : Int}  (op0 : zO n p0 11) (rx1 : zr x1) (rx2 : zr x2) {w0 : Nat} {u1 : Int} (ow0 : zO n w0 11) (ru1 : zr u1) {h : zH} (hh : zh h) (hv : B_RM_setHead_34 K  p0 x1 x2 w0 u1 h) : zW Wf m 4 g n H0 34 [(0, .ref (g.2.2 p0)), (1, zi x1), (2, zi x2)] [zi u1, .ref (g.2.2 w0)] h := by
  unfold B_RM_setHead_34 at hv
  refine z_callVi (pc := 34) (As := [zi u1]) (rest := []) X (fun l hl => c_RM_refused hl ow0 ru1 hh hv) cf_RM ow0 rfl mf_RM_refused q1130 ⟨⟨by decide, by decide⟩, rfl, rfl⟩ rfl d_RM_setHead_34 rfl (Nat.le_of_ble_eq_true rfl) (fun r_2 h_1 rr_2 zh_1 hv => ?_)
  refine z_if_eq (pc := 37) (tgt := 42) X rr_2 d_RM_setHead_37 (by decide) (fun hc => ?_) (fun hc => ?_)
  · replace hv := hv.1 hc
    refine z_aload_n (pc := 42) (q := 0) X d_RM_setHead_42 rfl ?_
    refine z_callVv (pc := 43) (As := []) (rest := []) X (fun l hl => c_RM_note hl op0 zh_1 hv) cf_RM op0 rfl mf_RM_note q1236 ⟨⟨by decide, by decide⟩, rfl, rfl⟩ rfl d_RM_setHead_43 rfl (Nat.le_of_ble_eq_true rfl) (fun h_3 zh_3 hv => ?_)
    refine z_aload_n (pc := 46) (q := 0) X d_RM_setHead_46 rfl ?_
    refine z_getr (pc := 47) (j := 9) (dd := 3) X cf_RM op0 (by decide) q1030 rfl rfl d_RM_setHead_47 ?_
    refine z_sipush (pc := 50) X d_RM_setHead_50 (by decide) ?_
    refine z_iload_n (pc := 53) (q := 1) X d_RM_setHead_53 rfl ?_
    obtain ⟨v_5, hv⟩ := hv
    refine z_iadd (pc := 54) X d_RM_setHead_54 ?_
    obtain ⟨v_6, hv⟩ := hv
    refine z_ialdj (pc := 55) (j := (191 + x1).toNat) X (gf_RM_9 op0) (gl_RM_9 op0) v_5 v_6 rfl d_RM_setHead_55 ?_
    refine z_topi (fun x3_7 ex3_7 => ?_)
    have rx3_7 : zr x3_7 := by rw [ex3_7]; exact (zh_3.1 _ _ (zO.ne (gf_RM_9 op0) (by decide)))
    replace hv := hv x3_7 ex3_7
    refine z_istore_n (pc := 56) (lv' := [(3, zi x3_7), (0, .ref (g.2.2 p0)), (1, zi x1), (2, zi x2)]) X d_RM_setHead_56 (by decide) rfl ?_
    refine z_aload_n (pc := 57) (q := 1) X d_RM_setHead_57 rfl ?_
    refine z_getr (pc := 58) (j := 9) (dd := 3) X cf_RM op0 (by decide) q1030 rfl rfl d_RM_setHead_58 ?_
    refine z_sipush (pc := 61) X d_RM_setHead_61 (by decide) ?_
    refine z_iload_n (pc := 64) (q := 2) X d_RM_setHead_64 rfl ?_
    obtain ⟨v_8, hv⟩ := hv
    refine z_iadd (pc := 65) X d_RM_setHead_65 ?_
    refine z_iload_n (pc := 66) (q := 3) X d_RM_setHead_66 rfl ?_
    obtain ⟨v_9, hv⟩ := hv
    refine z_iastj (pc := 67) (j := (191 + x1).toNat) X (gf_RM_9 op0) (gl_RM_9 op0) v_8 v_9 rfl d_RM_setHead_67 ?_
    refine z_toph (fun h_10 eh_10 => ?_)
    have zh_10 : zh h_10 := by rw [eh_10]; exact zh_set zh_3 (zO.ne (gf_RM_9 op0) (by decide)) rx2
    replace hv := hv h_10 eh_10
    refine z_iload_n (pc := 68) (q := 0) X d_RM_setHead_68 rfl ?_
    exact E.2.1 rfl _ _ _ _ d_RM_setHead_69 ⟨_, rfl, rx3_7, zh_10, hv⟩
  · replace hv := hv.2 hc
    refine z_iconst (pc := 40) X d_RM_setHead_40 ?_
    exact E.2.1 rfl _ _ _ _ d_RM_setHead_41 ⟨_, rfl, (show zr 0 from by decide), zh_1, hv⟩
def M_RM_setHead (p0 : Nat) (x1 : Int) (x2 : Int) (h : zH) (K : Int → zH → Prop) : Prop :=
  M_RM_in x1 0 1 h (fun r_2 h_1 => (r_2 ≠ 0 → (M_RM_in x2 512 8191 h_1 (fun r_4 h_3 => (r_4 ≠ 0 → (B_RM_setHead_34 K  p0 x1 x2 p0 0 h_3)) ∧ (r_4 = 0 → (B_RM_setHead_34 K  p0 x1 x2 p0 2 h_3))))) ∧ (r_2 = 0 → (B_RM_setHead_34 K  p0 x1 x2 p0 1 h_1)))
set_option maxRecDepth 100000 in
theorem c_RM_setHead {l : Launch} (hfl : l.flags = flags0) {g : zG} {n : Nat} {p0 : Nat} {x1 : Int} {x2 : Int} (op0 : zO n p0 11) (rx1 : zr x1) (rx2 : zr x2) {h : zH} (hh : zh h) {K : Int → zH → Prop} (hv : M_RM_setHead p0 x1 x2 h K) : zMet l y_RM_setHead b_RM_setHead 4 (some .int) rm_RM_setHead g n [.ref (g.2.2 p0), zi x1, zi x2] h (zPi K) := by
  refine zMet_of (own := "AliasStreamsModel") hfl (by decide) rfl (Nat.le_of_ble_eq_true rfl) (fun Wf m H0 X E => ?_)
  unfold M_RM_setHead at hv
  show zW Wf m 4 g n H0 0 [(0, .ref (g.2.2 p0)), (1, zi x1), (2, zi x2)] [] h
  refine z_aload_n (pc := 0) (q := 0) X d_RM_setHead_0 rfl ?_
  refine z_iload_n (pc := 1) (q := 1) X d_RM_setHead_1 rfl ?_
  refine z_i2l (pc := 2) X rx1 d_RM_setHead_2 ?_
  refine z_lconst (pc := 3) (x := 0) X d_RM_setHead_3 (by decide) ?_
  refine z_lconst (pc := 4) (x := 1) X d_RM_setHead_4 (by decide) ?_
  refine z_callSi (pc := 5) (As := [zj x1, zj 0, zj 1]) (rest := [.ref (g.2.2 p0)]) X (fun l hl => c_RM_in hl (zr_l rx1) (show zrl 0 from by decide) (show zrl 1 from by decide) hh hv) mf_RM_in q1127 ⟨⟨by decide, by decide⟩, rfl, rfl⟩ rfl d_RM_setHead_5 rfl (Nat.le_of_ble_eq_true rfl) (fun r_2 h_1 rr_2 zh_1 hv => ?_)
  refine z_if_ne (pc := 8) (tgt := 15) X rr_2 d_RM_setHead_8 (by decide) (fun hc => ?_) (fun hc => ?_)
  · replace hv := hv.1 hc
    refine z_iload_n (pc := 15) (q := 2) X d_RM_setHead_15 rfl ?_
    refine z_i2l (pc := 16) X rx2 d_RM_setHead_16 ?_
    refine z_ldc2 (pc := 17) (x := 512) X d_RM_setHead_17 q1307 (by decide) ?_
    refine z_ldc2 (pc := 20) (x := 8191) X d_RM_setHead_20 q1308 (by decide) ?_
    refine z_callSi (pc := 23) (As := [zj x2, zj 512, zj 8191]) (rest := [.ref (g.2.2 p0)]) X (fun l hl => c_RM_in hl (zr_l rx2) (show zrl 512 from by decide) (show zrl 8191 from by decide) zh_1 hv) mf_RM_in q1127 ⟨⟨by decide, by decide⟩, rfl, rfl⟩ rfl d_RM_setHead_23 rfl (Nat.le_of_ble_eq_true rfl) (fun r_4 h_3 rr_4 zh_3 hv => ?_)
    refine z_if_ne (pc := 26) (tgt := 33) X rr_4 d_RM_setHead_26 (by decide) (fun hc => ?_) (fun hc => ?_)
    · replace hv := hv.1 hc
      refine z_iconst (pc := 33) X d_RM_setHead_33 ?_
      exact s_RM_setHead_34 X E  op0 rx1 rx2 op0 (show zr 0 from by decide) zh_3 hv
    · replace hv := hv.2 hc
      refine z_iconst (pc := 29) X d_RM_setHead_29 ?_
      refine z_goto (pc := 30) (tgt := 34) X d_RM_setHead_30 (by decide) ?_
      exact s_RM_setHead_34 X E  op0 rx1 rx2 op0 (show zr 2 from by decide) zh_3 hv
  · replace hv := hv.2 hc
    refine z_iconst (pc := 11) X d_RM_setHead_11 ?_
    refine z_goto (pc := 12) (tgt := 34) X d_RM_setHead_12 (by decide) ?_
    exact s_RM_setHead_34 X E  op0 rx1 rx2 op0 (show zr 1 from by decide) zh_1 hv
theorem d_RM_isPlanned_0 : decode b_RM_isPlanned 0 = .ok (.iload_n 1, 1) := by decide +kernel
theorem d_RM_isPlanned_1 : decode b_RM_isPlanned 1 = .ok (.i2l, 1) := by decide +kernel
theorem d_RM_isPlanned_2 : decode b_RM_isPlanned 2 = .ok (.lconst 0, 1) := by decide +kernel
theorem d_RM_isPlanned_3 : decode b_RM_isPlanned 3 = .ok (.aload_n 0, 1) := by decide +kernel
theorem d_RM_isPlanned_4 : decode b_RM_isPlanned 4 = .ok (.getfield 23, 3) := by decide +kernel
theorem d_RM_isPlanned_7 : decode b_RM_isPlanned 7 = .ok (.sipush 189, 3) := by decide +kernel
theorem d_RM_isPlanned_10 : decode b_RM_isPlanned 10 = .ok (.iaload, 1) := by decide +kernel
theorem d_RM_isPlanned_11 : decode b_RM_isPlanned 11 = .ok (.iconst 1, 1) := by decide +kernel
theorem d_RM_isPlanned_12 : decode b_RM_isPlanned 12 = .ok (.isub, 1) := by decide +kernel
theorem d_RM_isPlanned_13 : decode b_RM_isPlanned 13 = .ok (.i2l, 1) := by decide +kernel
theorem d_RM_isPlanned_14 : decode b_RM_isPlanned 14 = .ok (.invokestatic 87, 3) := by decide +kernel
theorem d_RM_isPlanned_17 : decode b_RM_isPlanned 17 = .ok (.ireturn, 1) := by decide +kernel
def rm_RM_isPlanned : Room := { frames := 1, cells := 0, slots := 0, locals := 25 }
theorem mf_RM_isPlanned : zMV y_RM_isPlanned b_RM_isPlanned 2 (some .boolean) 1 := ⟨q1315, qs90, q13, q1316, by decide +kernel⟩
def M_RM_isPlanned (p0 : Nat) (x1 : Int) (h : zH) (K : Int → zH → Prop) : Prop :=
  zr ((h (p0 + 3) 189) - 1) ∧ (M_RM_in x1 0 ((h (p0 + 3) 189) - 1) h (fun r_3 h_2 => (r_3 = 0 ∨ r_3 = 1) ∧ K r_3 h_2))
set_option maxRecDepth 100000 in
theorem c_RM_isPlanned {l : Launch} (hfl : l.flags = flags0) {g : zG} {n : Nat} {p0 : Nat} {x1 : Int} (op0 : zO n p0 11) (rx1 : zr x1) {h : zH} (hh : zh h) {K : Int → zH → Prop} (hv : M_RM_isPlanned p0 x1 h K) : zMet l y_RM_isPlanned b_RM_isPlanned 2 (some .boolean) rm_RM_isPlanned g n [.ref (g.2.2 p0), zi x1] h (zPi K) := by
  refine zMet_of (own := "AliasStreamsModel") hfl (by decide) rfl (Nat.le_of_ble_eq_true rfl) (fun Wf m H0 X E => ?_)
  unfold M_RM_isPlanned at hv
  show zW Wf m 2 g n H0 0 [(0, .ref (g.2.2 p0)), (1, zi x1)] [] h
  refine z_iload_n (pc := 0) (q := 1) X d_RM_isPlanned_0 rfl ?_
  refine z_i2l (pc := 1) X rx1 d_RM_isPlanned_1 ?_
  refine z_lconst (pc := 2) (x := 0) X d_RM_isPlanned_2 (by decide) ?_
  refine z_aload_n (pc := 3) (q := 0) X d_RM_isPlanned_3 rfl ?_
  refine z_getr (pc := 4) (j := 9) (dd := 3) X cf_RM op0 (by decide) q1030 rfl rfl d_RM_isPlanned_4 ?_
  refine z_sipush (pc := 7) X d_RM_isPlanned_7 (by decide) ?_
  refine z_ialdj (pc := 10) (j := 189) X (gf_RM_9 op0) (gl_RM_9 op0) (show zr 189 from by decide) ⟨by decide, by decide⟩ rfl d_RM_isPlanned_10 ?_
  refine z_iconst (pc := 11) X d_RM_isPlanned_11 ?_
  obtain ⟨v_1, hv⟩ := hv
  refine z_isub (pc := 12) X d_RM_isPlanned_12 ?_
  refine z_i2l (pc := 13) X v_1 d_RM_isPlanned_13 ?_
  refine z_callSi (pc := 14) (As := [zj x1, zj 0, zj ((h (p0 + 3) 189) - 1)]) (rest := []) X (fun l hl => c_RM_in hl (zr_l rx1) (show zrl 0 from by decide) (zr_l v_1) hh hv) mf_RM_in q1127 ⟨⟨by decide, by decide⟩, rfl, rfl⟩ rfl d_RM_isPlanned_14 rfl (Nat.le_of_ble_eq_true rfl) (fun r_3 h_2 rr_3 zh_2 hv => ?_)
  obtain ⟨v_4, hv⟩ := hv
  exact E.2.2.1 rfl _ _ _ _ v_4 d_RM_isPlanned_17 ⟨_, rfl, rr_3, zh_2, hv⟩
theorem d_RM_setPlan_0 : decode b_RM_setPlan 0 = .ok (.aload_n 0, 1) := by decide +kernel
theorem d_RM_setPlan_1 : decode b_RM_setPlan 1 = .ok (.aload_n 0, 1) := by decide +kernel
theorem d_RM_setPlan_2 : decode b_RM_setPlan 2 = .ok (.iload_n 1, 1) := by decide +kernel
theorem d_RM_setPlan_3 : decode b_RM_setPlan 3 = .ok (.invokevirtual 228, 3) := by decide +kernel
theorem d_RM_setPlan_6 : decode b_RM_setPlan 6 = .ok (.ifCond .eq 15, 3) := by decide +kernel
theorem d_RM_setPlan_9 : decode b_RM_setPlan 9 = .ok (.aload_n 0, 1) := by decide +kernel
theorem d_RM_setPlan_10 : decode b_RM_setPlan 10 = .ok (.iload_n 2, 1) := by decide +kernel
theorem d_RM_setPlan_11 : decode b_RM_setPlan 11 = .ok (.invokevirtual 167, 3) := by decide +kernel
theorem d_RM_setPlan_14 : decode b_RM_setPlan 14 = .ok (.ifCond .eq 7, 3) := by decide +kernel
theorem d_RM_setPlan_17 : decode b_RM_setPlan 17 = .ok (.iconst 0, 1) := by decide +kernel
theorem d_RM_setPlan_18 : decode b_RM_setPlan 18 = .ok (.goto 4, 3) := by decide +kernel
theorem d_RM_setPlan_21 : decode b_RM_setPlan 21 = .ok (.iconst 1, 1) := by decide +kernel
theorem d_RM_setPlan_22 : decode b_RM_setPlan 22 = .ok (.invokevirtual 114, 3) := by decide +kernel
theorem d_RM_setPlan_25 : decode b_RM_setPlan 25 = .ok (.ifCond .eq 5, 3) := by decide +kernel
theorem d_RM_setPlan_28 : decode b_RM_setPlan 28 = .ok (.iconst 0, 1) := by decide +kernel
theorem d_RM_setPlan_29 : decode b_RM_setPlan 29 = .ok (.ireturn, 1) := by decide +kernel
theorem d_RM_setPlan_30 : decode b_RM_setPlan 30 = .ok (.aload_n 0, 1) := by decide +kernel
theorem d_RM_setPlan_31 : decode b_RM_setPlan 31 = .ok (.invokevirtual 182, 3) := by decide +kernel
theorem d_RM_setPlan_34 : decode b_RM_setPlan 34 = .ok (.aload_n 0, 1) := by decide +kernel
theorem d_RM_setPlan_35 : decode b_RM_setPlan 35 = .ok (.getfield 23, 3) := by decide +kernel
theorem d_RM_setPlan_38 : decode b_RM_setPlan 38 = .ok (.bipush 64, 2) := by decide +kernel
theorem d_RM_setPlan_40 : decode b_RM_setPlan 40 = .ok (.iload_n 1, 1) := by decide +kernel
theorem d_RM_setPlan_41 : decode b_RM_setPlan 41 = .ok (.iadd, 1) := by decide +kernel
theorem d_RM_setPlan_42 : decode b_RM_setPlan 42 = .ok (.iaload, 1) := by decide +kernel
theorem d_RM_setPlan_43 : decode b_RM_setPlan 43 = .ok (.istore_n 3, 1) := by decide +kernel
theorem d_RM_setPlan_44 : decode b_RM_setPlan 44 = .ok (.aload_n 0, 1) := by decide +kernel
theorem d_RM_setPlan_45 : decode b_RM_setPlan 45 = .ok (.getfield 23, 3) := by decide +kernel
theorem d_RM_setPlan_48 : decode b_RM_setPlan 48 = .ok (.bipush 64, 2) := by decide +kernel
theorem d_RM_setPlan_50 : decode b_RM_setPlan 50 = .ok (.iload_n 1, 1) := by decide +kernel
theorem d_RM_setPlan_51 : decode b_RM_setPlan 51 = .ok (.iadd, 1) := by decide +kernel
theorem d_RM_setPlan_52 : decode b_RM_setPlan 52 = .ok (.iload_n 2, 1) := by decide +kernel
theorem d_RM_setPlan_53 : decode b_RM_setPlan 53 = .ok (.iastore, 1) := by decide +kernel
theorem d_RM_setPlan_54 : decode b_RM_setPlan 54 = .ok (.iload_n 3, 1) := by decide +kernel
theorem d_RM_setPlan_55 : decode b_RM_setPlan 55 = .ok (.ireturn, 1) := by decide +kernel
def rm_RM_setPlan : Room := { frames := 2, cells := 0, slots := 0, locals := 46 }
theorem mf_RM_setPlan : zMV y_RM_setPlan b_RM_setPlan 4 (some .int) 2 := ⟨q1310, q1311, q13, q1312, by decide +kernel⟩
def B_RM_setPlan_22 (K : Int → zH → Prop)  (p0 : Nat) (x1 : Int) (x2 : Int) (w0 : Nat) (u1 : Int) (h : zH) : Prop :=
  M_RM_refused w0 u1 h (fun r_2 h_1 => (r_2 = 0 → (M_RM_note p0 h_1 (fun h_3 => zr (64 + x1) ∧ ((0 ≤ 64 + x1 ∧ 64 + x1 < 193) ∧ ((∀ x3_7 : Int, x3_7 = h_3 (p0 + 3) ((64 + x1).toNat) → (zr (64 + x1) ∧ ((0 ≤ 64 + x1 ∧ 64 + x1 < 193) ∧ (∀ h_10 : zH, h_10 = zs h_3 (p0 + 3) ((64 + x1).toNat) x2 → (K x3_7 h_10)))))))))) ∧ (r_2 ≠ 0 → (K 0 h_1)))
set_option maxRecDepth 100000 in
theorem s_RM_setPlan_22 {Wf : Heap → List Loc → JFrame → Prop} {m : MethodId} {g : zG} {n : Nat} {H0 : Heap} (X : zX Wf m rm_RM_setPlan b_RM_setPlan "AliasStreamsModel" 4 g n H0) {K : Int → zH → Prop} (E : zEx Wf m b_RM_setPlan (some .int) 4 g n H0 (zPi K))  {p0 : Nat} {x1 : Int} {x2 : Int}  (op0 : zO n p0 11) (rx1 : zr x1) (rx2 : zr x2) {w0 : Nat} {u1 : Int} (ow0 : zO n w0 11) (ru1 : zr u1) {h : zH} (hh : zh h) (hv : B_RM_setPlan_22 K  p0 x1 x2 w0 u1 h) : zW Wf m 4 g n H0 22 [(0, .ref (g.2.2 p0)), (1, zi x1), (2, zi x2)] [zi u1, .ref (g.2.2 w0)] h := by
  unfold B_RM_setPlan_22 at hv
  refine z_callVi (pc := 22) (As := [zi u1]) (rest := []) X (fun l hl => c_RM_refused hl ow0 ru1 hh hv) cf_RM ow0 rfl mf_RM_refused q1130 ⟨⟨by decide, by decide⟩, rfl, rfl⟩ rfl d_RM_setPlan_22 rfl (Nat.le_of_ble_eq_true rfl) (fun r_2 h_1 rr_2 zh_1 hv => ?_)
  refine z_if_eq (pc := 25) (tgt := 30) X rr_2 d_RM_setPlan_25 (by decide) (fun hc => ?_) (fun hc => ?_)
  · replace hv := hv.1 hc
    refine z_aload_n (pc := 30) (q := 0) X d_RM_setPlan_30 rfl ?_
    refine z_callVv (pc := 31) (As := []) (rest := []) X (fun l hl => c_RM_note hl op0 zh_1 hv) cf_RM op0 rfl mf_RM_note q1236 ⟨⟨by decide, by decide⟩, rfl, rfl⟩ rfl d_RM_setPlan_31 rfl (Nat.le_of_ble_eq_true rfl) (fun h_3 zh_3 hv => ?_)
    refine z_aload_n (pc := 34) (q := 0) X d_RM_setPlan_34 rfl ?_
    refine z_getr (pc := 35) (j := 9) (dd := 3) X cf_RM op0 (by decide) q1030 rfl rfl d_RM_setPlan_35 ?_
    refine z_bipush (pc := 38) X d_RM_setPlan_38 (by decide) ?_
    refine z_iload_n (pc := 40) (q := 1) X d_RM_setPlan_40 rfl ?_
    obtain ⟨v_5, hv⟩ := hv
    refine z_iadd (pc := 41) X d_RM_setPlan_41 ?_
    obtain ⟨v_6, hv⟩ := hv
    refine z_ialdj (pc := 42) (j := (64 + x1).toNat) X (gf_RM_9 op0) (gl_RM_9 op0) v_5 v_6 rfl d_RM_setPlan_42 ?_
    refine z_topi (fun x3_7 ex3_7 => ?_)
    have rx3_7 : zr x3_7 := by rw [ex3_7]; exact (zh_3.1 _ _ (zO.ne (gf_RM_9 op0) (by decide)))
    replace hv := hv x3_7 ex3_7
    refine z_istore_n (pc := 43) (lv' := [(3, zi x3_7), (0, .ref (g.2.2 p0)), (1, zi x1), (2, zi x2)]) X d_RM_setPlan_43 (by decide) rfl ?_
    refine z_aload_n (pc := 44) (q := 1) X d_RM_setPlan_44 rfl ?_
    refine z_getr (pc := 45) (j := 9) (dd := 3) X cf_RM op0 (by decide) q1030 rfl rfl d_RM_setPlan_45 ?_
    refine z_bipush (pc := 48) X d_RM_setPlan_48 (by decide) ?_
    refine z_iload_n (pc := 50) (q := 2) X d_RM_setPlan_50 rfl ?_
    obtain ⟨v_8, hv⟩ := hv
    refine z_iadd (pc := 51) X d_RM_setPlan_51 ?_
    refine z_iload_n (pc := 52) (q := 3) X d_RM_setPlan_52 rfl ?_
    obtain ⟨v_9, hv⟩ := hv
    refine z_iastj (pc := 53) (j := (64 + x1).toNat) X (gf_RM_9 op0) (gl_RM_9 op0) v_8 v_9 rfl d_RM_setPlan_53 ?_
    refine z_toph (fun h_10 eh_10 => ?_)
    have zh_10 : zh h_10 := by rw [eh_10]; exact zh_set zh_3 (zO.ne (gf_RM_9 op0) (by decide)) rx2
    replace hv := hv h_10 eh_10
    refine z_iload_n (pc := 54) (q := 0) X d_RM_setPlan_54 rfl ?_
    exact E.2.1 rfl _ _ _ _ d_RM_setPlan_55 ⟨_, rfl, rx3_7, zh_10, hv⟩
  · replace hv := hv.2 hc
    refine z_iconst (pc := 28) X d_RM_setPlan_28 ?_
    exact E.2.1 rfl _ _ _ _ d_RM_setPlan_29 ⟨_, rfl, (show zr 0 from by decide), zh_1, hv⟩
def B_RM_setPlan_21 (K : Int → zH → Prop)  (p0 : Nat) (x1 : Int) (x2 : Int) (w0 : Nat) (h : zH) : Prop :=
  B_RM_setPlan_22 K  p0 x1 x2 w0 1 h
set_option maxRecDepth 100000 in
theorem s_RM_setPlan_21 {Wf : Heap → List Loc → JFrame → Prop} {m : MethodId} {g : zG} {n : Nat} {H0 : Heap} (X : zX Wf m rm_RM_setPlan b_RM_setPlan "AliasStreamsModel" 4 g n H0) {K : Int → zH → Prop} (E : zEx Wf m b_RM_setPlan (some .int) 4 g n H0 (zPi K))  {p0 : Nat} {x1 : Int} {x2 : Int}  (op0 : zO n p0 11) (rx1 : zr x1) (rx2 : zr x2) {w0 : Nat} (ow0 : zO n w0 11) {h : zH} (hh : zh h) (hv : B_RM_setPlan_21 K  p0 x1 x2 w0 h) : zW Wf m 4 g n H0 21 [(0, .ref (g.2.2 p0)), (1, zi x1), (2, zi x2)] [.ref (g.2.2 w0)] h := by
  unfold B_RM_setPlan_21 at hv
  refine z_iconst (pc := 21) X d_RM_setPlan_21 ?_
  exact s_RM_setPlan_22 X E  op0 rx1 rx2 ow0 (show zr 1 from by decide) hh hv
def M_RM_setPlan (p0 : Nat) (x1 : Int) (x2 : Int) (h : zH) (K : Int → zH → Prop) : Prop :=
  M_RM_isPlanned p0 x1 h (fun r_2 h_1 => (r_2 = 0 → (B_RM_setPlan_21 K  p0 x1 x2 p0 h_1)) ∧ (r_2 ≠ 0 → (M_RM_isModel p0 x2 h_1 (fun r_4 h_3 => (r_4 = 0 → (B_RM_setPlan_21 K  p0 x1 x2 p0 h_3)) ∧ (r_4 ≠ 0 → (B_RM_setPlan_22 K  p0 x1 x2 p0 0 h_3))))))
set_option maxRecDepth 100000 in
theorem c_RM_setPlan {l : Launch} (hfl : l.flags = flags0) {g : zG} {n : Nat} {p0 : Nat} {x1 : Int} {x2 : Int} (op0 : zO n p0 11) (rx1 : zr x1) (rx2 : zr x2) {h : zH} (hh : zh h) {K : Int → zH → Prop} (hv : M_RM_setPlan p0 x1 x2 h K) : zMet l y_RM_setPlan b_RM_setPlan 4 (some .int) rm_RM_setPlan g n [.ref (g.2.2 p0), zi x1, zi x2] h (zPi K) := by
  refine zMet_of (own := "AliasStreamsModel") hfl (by decide) rfl (Nat.le_of_ble_eq_true rfl) (fun Wf m H0 X E => ?_)
  unfold M_RM_setPlan at hv
  show zW Wf m 4 g n H0 0 [(0, .ref (g.2.2 p0)), (1, zi x1), (2, zi x2)] [] h
  refine z_aload_n (pc := 0) (q := 0) X d_RM_setPlan_0 rfl ?_
  refine z_aload_n (pc := 1) (q := 0) X d_RM_setPlan_1 rfl ?_
  refine z_iload_n (pc := 2) (q := 1) X d_RM_setPlan_2 rfl ?_
  refine z_callVi (pc := 3) (As := [zi x1]) (rest := [.ref (g.2.2 p0)]) X (fun l hl => c_RM_isPlanned hl op0 rx1 hh hv) cf_RM op0 rfl mf_RM_isPlanned q1313 ⟨⟨by decide, by decide⟩, rfl, rfl⟩ rfl d_RM_setPlan_3 rfl (Nat.le_of_ble_eq_true rfl) (fun r_2 h_1 rr_2 zh_1 hv => ?_)
  refine z_if_eq (pc := 6) (tgt := 21) X rr_2 d_RM_setPlan_6 (by decide) (fun hc => ?_) (fun hc => ?_)
  · replace hv := hv.1 hc
    exact s_RM_setPlan_21 X E  op0 rx1 rx2 op0 zh_1 hv
  · replace hv := hv.2 hc
    refine z_aload_n (pc := 9) (q := 0) X d_RM_setPlan_9 rfl ?_
    refine z_iload_n (pc := 10) (q := 2) X d_RM_setPlan_10 rfl ?_
    refine z_callVi (pc := 11) (As := [zi x2]) (rest := [.ref (g.2.2 p0)]) X (fun l hl => c_RM_isModel hl op0 rx2 zh_1 hv) cf_RM op0 rfl mf_RM_isModel q1201 ⟨⟨by decide, by decide⟩, rfl, rfl⟩ rfl d_RM_setPlan_11 rfl (Nat.le_of_ble_eq_true rfl) (fun r_4 h_3 rr_4 zh_3 hv => ?_)
    refine z_if_eq (pc := 14) (tgt := 21) X rr_4 d_RM_setPlan_14 (by decide) (fun hc => ?_) (fun hc => ?_)
    · replace hv := hv.1 hc
      exact s_RM_setPlan_21 X E  op0 rx1 rx2 op0 zh_3 hv
    · replace hv := hv.2 hc
      refine z_iconst (pc := 17) X d_RM_setPlan_17 ?_
      refine z_goto (pc := 18) (tgt := 22) X d_RM_setPlan_18 (by decide) ?_
      exact s_RM_setPlan_22 X E  op0 rx1 rx2 op0 (show zr 0 from by decide) zh_3 hv
theorem d_RM_undo_0 : decode b_RM_undo 0 = .ok (.aload_n 0, 1) := by decide +kernel
theorem d_RM_undo_1 : decode b_RM_undo 1 = .ok (.aload_n 0, 1) := by decide +kernel
theorem d_RM_undo_2 : decode b_RM_undo 2 = .ok (.getfield 155, 3) := by decide +kernel
theorem d_RM_undo_5 : decode b_RM_undo 5 = .ok (.ifCond .ne 7, 3) := by decide +kernel
theorem d_RM_undo_8 : decode b_RM_undo 8 = .ok (.iconst 1, 1) := by decide +kernel
theorem d_RM_undo_9 : decode b_RM_undo 9 = .ok (.goto 4, 3) := by decide +kernel
theorem d_RM_undo_12 : decode b_RM_undo 12 = .ok (.iconst 0, 1) := by decide +kernel
theorem d_RM_undo_13 : decode b_RM_undo 13 = .ok (.invokevirtual 114, 3) := by decide +kernel
theorem d_RM_undo_16 : decode b_RM_undo 16 = .ok (.ifCond .eq 5, 3) := by decide +kernel
theorem d_RM_undo_19 : decode b_RM_undo 19 = .ok (.iconst 0, 1) := by decide +kernel
theorem d_RM_undo_20 : decode b_RM_undo 20 = .ok (.ireturn, 1) := by decide +kernel
theorem d_RM_undo_21 : decode b_RM_undo 21 = .ok (.aload_n 0, 1) := by decide +kernel
theorem d_RM_undo_22 : decode b_RM_undo 22 = .ok (.dup, 1) := by decide +kernel
theorem d_RM_undo_23 : decode b_RM_undo 23 = .ok (.getfield 155, 3) := by decide +kernel
theorem d_RM_undo_26 : decode b_RM_undo 26 = .ok (.iconst 1, 1) := by decide +kernel
theorem d_RM_undo_27 : decode b_RM_undo 27 = .ok (.isub, 1) := by decide +kernel
theorem d_RM_undo_28 : decode b_RM_undo 28 = .ok (.putfield 155, 3) := by decide +kernel
theorem d_RM_undo_31 : decode b_RM_undo 31 = .ok (.aload_n 0, 1) := by decide +kernel
theorem d_RM_undo_32 : decode b_RM_undo 32 = .ok (.getfield 32, 3) := by decide +kernel
theorem d_RM_undo_35 : decode b_RM_undo 35 = .ok (.sipush 193, 3) := by decide +kernel
theorem d_RM_undo_38 : decode b_RM_undo 38 = .ok (.aload_n 0, 1) := by decide +kernel
theorem d_RM_undo_39 : decode b_RM_undo 39 = .ok (.getfield 155, 3) := by decide +kernel
theorem d_RM_undo_42 : decode b_RM_undo 42 = .ok (.imul, 1) := by decide +kernel
theorem d_RM_undo_43 : decode b_RM_undo 43 = .ok (.aload_n 0, 1) := by decide +kernel
theorem d_RM_undo_44 : decode b_RM_undo 44 = .ok (.getfield 23, 3) := by decide +kernel
theorem d_RM_undo_47 : decode b_RM_undo 47 = .ok (.iconst 0, 1) := by decide +kernel
theorem d_RM_undo_48 : decode b_RM_undo 48 = .ok (.invokestatic 151, 3) := by decide +kernel
theorem d_RM_undo_51 : decode b_RM_undo 51 = .ok (.aload_n 0, 1) := by decide +kernel
theorem d_RM_undo_52 : decode b_RM_undo 52 = .ok (.getfield 155, 3) := by decide +kernel
theorem d_RM_undo_55 : decode b_RM_undo 55 = .ok (.ireturn, 1) := by decide +kernel
def rm_RM_undo : Room := { frames := 1, cells := 0, slots := 0, locals := 24 }
theorem mf_RM_undo : zMV y_RM_undo b_RM_undo 1 (some .int) 0 := ⟨q1318, q1319, q13, q1320, by decide +kernel⟩
def B_RM_undo_13 (K : Int → zH → Prop)  (p0 : Nat) (w0 : Nat) (u1 : Int) (h : zH) : Prop :=
  M_RM_refused w0 u1 h (fun r_2 h_1 => (r_2 = 0 → (zr ((h_1 p0 13) - 1) ∧ ((∀ h_4 : zH, h_4 = zs h_1 p0 13 ((h_1 p0 13) - 1) → (zr (193 * (h_4 p0 13)) ∧ (M_RM_copyPage (p0 + 6) (193 * (h_4 p0 13)) (p0 + 3) 0 h_4 (fun h_6 => K (h_6 p0 13) h_6))))))) ∧ (r_2 ≠ 0 → (K 0 h_1)))
set_option maxRecDepth 100000 in
theorem s_RM_undo_13 {Wf : Heap → List Loc → JFrame → Prop} {m : MethodId} {g : zG} {n : Nat} {H0 : Heap} (X : zX Wf m rm_RM_undo b_RM_undo "AliasStreamsModel" 1 g n H0) {K : Int → zH → Prop} (E : zEx Wf m b_RM_undo (some .int) 1 g n H0 (zPi K))  {p0 : Nat}  (op0 : zO n p0 11) {w0 : Nat} {u1 : Int} (ow0 : zO n w0 11) (ru1 : zr u1) {h : zH} (hh : zh h) (hv : B_RM_undo_13 K  p0 w0 u1 h) : zW Wf m 1 g n H0 13 [(0, .ref (g.2.2 p0))] [zi u1, .ref (g.2.2 w0)] h := by
  unfold B_RM_undo_13 at hv
  refine z_callVi (pc := 13) (As := [zi u1]) (rest := []) X (fun l hl => c_RM_refused hl ow0 ru1 hh hv) cf_RM ow0 rfl mf_RM_refused q1130 ⟨⟨by decide, by decide⟩, rfl, rfl⟩ rfl d_RM_undo_13 rfl (Nat.le_of_ble_eq_true rfl) (fun r_2 h_1 rr_2 zh_1 hv => ?_)
  refine z_if_eq (pc := 16) (tgt := 21) X rr_2 d_RM_undo_16 (by decide) (fun hc => ?_) (fun hc => ?_)
  · replace hv := hv.1 hc
    refine z_aload_n (pc := 21) (q := 0) X d_RM_undo_21 rfl ?_
    refine z_dup (pc := 22) X d_RM_undo_22 rfl ?_
    refine z_geti (pc := 23) (j := 13) X cf_RM op0 (by decide) q1034 rfl rfl d_RM_undo_23 ?_
    refine z_iconst (pc := 26) X d_RM_undo_26 ?_
    obtain ⟨v_3, hv⟩ := hv
    refine z_isub (pc := 27) X d_RM_undo_27 ?_
    refine z_put (pc := 28) (j := 13) X cf_RM op0 (by decide) q1034 rfl rfl rfl rfl d_RM_undo_28 ?_
    refine z_toph (fun h_4 eh_4 => ?_)
    have zh_4 : zh h_4 := by rw [eh_4]; exact zh_set zh_1 (zO.ne op0 (by decide)) v_3
    replace hv := hv h_4 eh_4
    refine z_aload_n (pc := 31) (q := 0) X d_RM_undo_31 rfl ?_
    refine z_getr (pc := 32) (j := 12) (dd := 6) X cf_RM op0 (by decide) q1033 rfl rfl d_RM_undo_32 ?_
    refine z_sipush (pc := 35) X d_RM_undo_35 (by decide) ?_
    refine z_aload_n (pc := 38) (q := 0) X d_RM_undo_38 rfl ?_
    refine z_geti (pc := 39) (j := 13) X cf_RM op0 (by decide) q1034 rfl rfl d_RM_undo_39 ?_
    obtain ⟨v_5, hv⟩ := hv
    refine z_imul (pc := 42) X d_RM_undo_42 ?_
    refine z_aload_n (pc := 43) (q := 0) X d_RM_undo_43 rfl ?_
    refine z_getr (pc := 44) (j := 9) (dd := 3) X cf_RM op0 (by decide) q1030 rfl rfl d_RM_undo_44 ?_
    refine z_iconst (pc := 47) X d_RM_undo_47 ?_
    refine z_callSv (pc := 48) (As := [.ref (g.2.2 (p0 + 6)), zi (193 * (h_4 p0 13)), .ref (g.2.2 (p0 + 3)), zi 0]) (rest := []) X (fun l hl => c_RM_copyPage hl (gf_RM_12 op0) v_5 (gf_RM_9 op0) (show zr 0 from by decide) zh_4 hv) mf_RM_copyPage q1169 ⟨⟨by decide, by decide⟩, rfl, rfl⟩ rfl d_RM_undo_48 rfl (Nat.le_of_ble_eq_true rfl) (fun h_6 zh_6 hv => ?_)
    refine z_aload_n (pc := 51) (q := 0) X d_RM_undo_51 rfl ?_
    refine z_geti (pc := 52) (j := 13) X cf_RM op0 (by decide) q1034 rfl rfl d_RM_undo_52 ?_
    exact E.2.1 rfl _ _ _ _ d_RM_undo_55 ⟨_, rfl, (zh_6.1 _ _ (zO.ne op0 (by decide))), zh_6, hv⟩
  · replace hv := hv.2 hc
    refine z_iconst (pc := 19) X d_RM_undo_19 ?_
    exact E.2.1 rfl _ _ _ _ d_RM_undo_20 ⟨_, rfl, (show zr 0 from by decide), zh_1, hv⟩
def M_RM_undo (p0 : Nat) (h : zH) (K : Int → zH → Prop) : Prop :=
  (h p0 13 ≠ 0 → (B_RM_undo_13 K  p0 p0 0 h)) ∧ (h p0 13 = 0 → (B_RM_undo_13 K  p0 p0 1 h))
set_option maxRecDepth 100000 in
theorem c_RM_undo {l : Launch} (hfl : l.flags = flags0) {g : zG} {n : Nat} {p0 : Nat} (op0 : zO n p0 11) {h : zH} (hh : zh h) {K : Int → zH → Prop} (hv : M_RM_undo p0 h K) : zMet l y_RM_undo b_RM_undo 1 (some .int) rm_RM_undo g n [.ref (g.2.2 p0)] h (zPi K) := by
  refine zMet_of (own := "AliasStreamsModel") hfl (by decide) rfl (Nat.le_of_ble_eq_true rfl) (fun Wf m H0 X E => ?_)
  unfold M_RM_undo at hv
  show zW Wf m 1 g n H0 0 [(0, .ref (g.2.2 p0))] [] h
  refine z_aload_n (pc := 0) (q := 0) X d_RM_undo_0 rfl ?_
  refine z_aload_n (pc := 1) (q := 0) X d_RM_undo_1 rfl ?_
  refine z_geti (pc := 2) (j := 13) X cf_RM op0 (by decide) q1034 rfl rfl d_RM_undo_2 ?_
  refine z_if_ne (pc := 5) (tgt := 12) X (hh.1 _ _ (zO.ne op0 (by decide))) d_RM_undo_5 (by decide) (fun hc => ?_) (fun hc => ?_)
  · replace hv := hv.1 hc
    refine z_iconst (pc := 12) X d_RM_undo_12 ?_
    exact s_RM_undo_13 X E  op0 op0 (show zr 0 from by decide) hh hv
  · replace hv := hv.2 hc
    refine z_iconst (pc := 8) X d_RM_undo_8 ?_
    refine z_goto (pc := 9) (tgt := 13) X d_RM_undo_9 (by decide) ?_
    exact s_RM_undo_13 X E  op0 op0 (show zr 1 from by decide) hh hv
theorem d_RM_taken_0 : decode b_RM_taken 0 = .ok (.aload_n 0, 1) := by decide +kernel
theorem d_RM_taken_1 : decode b_RM_taken 1 = .ok (.aload_n 0, 1) := by decide +kernel
theorem d_RM_taken_2 : decode b_RM_taken 2 = .ok (.iload_n 1, 1) := by decide +kernel
theorem d_RM_taken_3 : decode b_RM_taken 3 = .ok (.invokevirtual 228, 3) := by decide +kernel
theorem d_RM_taken_6 : decode b_RM_taken 6 = .ok (.ifCond .ne 7, 3) := by decide +kernel
theorem d_RM_taken_9 : decode b_RM_taken 9 = .ok (.iconst 1, 1) := by decide +kernel
theorem d_RM_taken_10 : decode b_RM_taken 10 = .ok (.goto 20, 3) := by decide +kernel
theorem d_RM_taken_13 : decode b_RM_taken 13 = .ok (.iload_n 2, 1) := by decide +kernel
theorem d_RM_taken_14 : decode b_RM_taken 14 = .ok (.i2l, 1) := by decide +kernel
theorem d_RM_taken_15 : decode b_RM_taken 15 = .ok (.lconst 0, 1) := by decide +kernel
theorem d_RM_taken_16 : decode b_RM_taken 16 = .ok (.ldc2_w 231, 3) := by decide +kernel
theorem d_RM_taken_19 : decode b_RM_taken 19 = .ok (.invokestatic 87, 3) := by decide +kernel
theorem d_RM_taken_22 : decode b_RM_taken 22 = .ok (.ifCond .ne 7, 3) := by decide +kernel
theorem d_RM_taken_25 : decode b_RM_taken 25 = .ok (.iconst 2, 1) := by decide +kernel
theorem d_RM_taken_26 : decode b_RM_taken 26 = .ok (.goto 4, 3) := by decide +kernel
theorem d_RM_taken_29 : decode b_RM_taken 29 = .ok (.iconst 0, 1) := by decide +kernel
theorem d_RM_taken_30 : decode b_RM_taken 30 = .ok (.invokevirtual 114, 3) := by decide +kernel
theorem d_RM_taken_33 : decode b_RM_taken 33 = .ok (.ifCond .eq 5, 3) := by decide +kernel
theorem d_RM_taken_36 : decode b_RM_taken 36 = .ok (.iconst 0, 1) := by decide +kernel
theorem d_RM_taken_37 : decode b_RM_taken 37 = .ok (.ireturn, 1) := by decide +kernel
theorem d_RM_taken_38 : decode b_RM_taken 38 = .ok (.aload_n 0, 1) := by decide +kernel
theorem d_RM_taken_39 : decode b_RM_taken 39 = .ok (.aload_n 0, 1) := by decide +kernel
theorem d_RM_taken_40 : decode b_RM_taken 40 = .ok (.getfield 23, 3) := by decide +kernel
theorem d_RM_taken_43 : decode b_RM_taken 43 = .ok (.invokevirtual 164, 3) := by decide +kernel
theorem d_RM_taken_46 : decode b_RM_taken 46 = .ok (.aload_n 0, 1) := by decide +kernel
theorem d_RM_taken_47 : decode b_RM_taken 47 = .ok (.aload_n 0, 1) := by decide +kernel
theorem d_RM_taken_48 : decode b_RM_taken 48 = .ok (.getfield 23, 3) := by decide +kernel
theorem d_RM_taken_51 : decode b_RM_taken 51 = .ok (.invokevirtual 105, 3) := by decide +kernel
theorem d_RM_taken_54 : decode b_RM_taken 54 = .ok (.pop, 1) := by decide +kernel
theorem d_RM_taken_55 : decode b_RM_taken 55 = .ok (.iload_n 1, 1) := by decide +kernel
theorem d_RM_taken_56 : decode b_RM_taken 56 = .ok (.aload_n 0, 1) := by decide +kernel
theorem d_RM_taken_57 : decode b_RM_taken 57 = .ok (.getfield 102, 3) := by decide +kernel
theorem d_RM_taken_60 : decode b_RM_taken 60 = .ok (.if_icmp .lt 21, 3) := by decide +kernel
theorem d_RM_taken_63 : decode b_RM_taken 63 = .ok (.iload_n 1, 1) := by decide +kernel
theorem d_RM_taken_64 : decode b_RM_taken 64 = .ok (.aload_n 0, 1) := by decide +kernel
theorem d_RM_taken_65 : decode b_RM_taken 65 = .ok (.getfield 102, 3) := by decide +kernel
theorem d_RM_taken_68 : decode b_RM_taken 68 = .ok (.if_icmp .ne 17, 3) := by decide +kernel
theorem d_RM_taken_71 : decode b_RM_taken 71 = .ok (.iload_n 2, 1) := by decide +kernel
theorem d_RM_taken_72 : decode b_RM_taken 72 = .ok (.iconst 1, 1) := by decide +kernel
theorem d_RM_taken_73 : decode b_RM_taken 73 = .ok (.if_icmp .eq 8, 3) := by decide +kernel
theorem d_RM_taken_76 : decode b_RM_taken 76 = .ok (.iload_n 2, 1) := by decide +kernel
theorem d_RM_taken_77 : decode b_RM_taken 77 = .ok (.iconst 2, 1) := by decide +kernel
theorem d_RM_taken_78 : decode b_RM_taken 78 = .ok (.if_icmp .ne 7, 3) := by decide +kernel
theorem d_RM_taken_81 : decode b_RM_taken 81 = .ok (.iconst 1, 1) := by decide +kernel
theorem d_RM_taken_82 : decode b_RM_taken 82 = .ok (.goto 4, 3) := by decide +kernel
theorem d_RM_taken_85 : decode b_RM_taken 85 = .ok (.iconst 0, 1) := by decide +kernel
theorem d_RM_taken_86 : decode b_RM_taken 86 = .ok (.istore_n 3, 1) := by decide +kernel
theorem d_RM_taken_87 : decode b_RM_taken 87 = .ok (.iload_n 3, 1) := by decide +kernel
theorem d_RM_taken_88 : decode b_RM_taken 88 = .ok (.ifCond .ne 8, 3) := by decide +kernel
theorem d_RM_taken_91 : decode b_RM_taken 91 = .ok (.bipush (-9), 2) := by decide +kernel
theorem d_RM_taken_93 : decode b_RM_taken 93 = .ok (.goto 59, 3) := by decide +kernel
theorem d_RM_taken_96 : decode b_RM_taken 96 = .ok (.iload_n 2, 1) := by decide +kernel
theorem d_RM_taken_97 : decode b_RM_taken 97 = .ok (.ifCond .ne 12, 3) := by decide +kernel
theorem d_RM_taken_100 : decode b_RM_taken 100 = .ok (.aload_n 0, 1) := by decide +kernel
theorem d_RM_taken_101 : decode b_RM_taken 101 = .ok (.getfield 66, 3) := by decide +kernel
theorem d_RM_taken_104 : decode b_RM_taken 104 = .ok (.iload_n 1, 1) := by decide +kernel
theorem d_RM_taken_105 : decode b_RM_taken 105 = .ok (.iaload, 1) := by decide +kernel
theorem d_RM_taken_106 : decode b_RM_taken 106 = .ok (.goto 46, 3) := by decide +kernel
theorem d_RM_taken_109 : decode b_RM_taken 109 = .ok (.iload_n 2, 1) := by decide +kernel
theorem d_RM_taken_110 : decode b_RM_taken 110 = .ok (.iconst 1, 1) := by decide +kernel
theorem d_RM_taken_111 : decode b_RM_taken 111 = .ok (.if_icmp .ne 12, 3) := by decide +kernel
theorem d_RM_taken_114 : decode b_RM_taken 114 = .ok (.aload_n 0, 1) := by decide +kernel
theorem d_RM_taken_115 : decode b_RM_taken 115 = .ok (.getfield 69, 3) := by decide +kernel
theorem d_RM_taken_118 : decode b_RM_taken 118 = .ok (.iload_n 1, 1) := by decide +kernel
theorem d_RM_taken_119 : decode b_RM_taken 119 = .ok (.iaload, 1) := by decide +kernel
theorem d_RM_taken_120 : decode b_RM_taken 120 = .ok (.goto 32, 3) := by decide +kernel
theorem d_RM_taken_123 : decode b_RM_taken 123 = .ok (.iload_n 2, 1) := by decide +kernel
theorem d_RM_taken_124 : decode b_RM_taken 124 = .ok (.iconst 2, 1) := by decide +kernel
theorem d_RM_taken_125 : decode b_RM_taken 125 = .ok (.if_icmp .ne 12, 3) := by decide +kernel
theorem d_RM_taken_128 : decode b_RM_taken 128 = .ok (.aload_n 0, 1) := by decide +kernel
theorem d_RM_taken_129 : decode b_RM_taken 129 = .ok (.getfield 72, 3) := by decide +kernel
theorem d_RM_taken_132 : decode b_RM_taken 132 = .ok (.iload_n 1, 1) := by decide +kernel
theorem d_RM_taken_133 : decode b_RM_taken 133 = .ok (.iaload, 1) := by decide +kernel
theorem d_RM_taken_134 : decode b_RM_taken 134 = .ok (.goto 18, 3) := by decide +kernel
theorem d_RM_taken_137 : decode b_RM_taken 137 = .ok (.aload_n 0, 1) := by decide +kernel
theorem d_RM_taken_138 : decode b_RM_taken 138 = .ok (.getfield 72, 3) := by decide +kernel
theorem d_RM_taken_141 : decode b_RM_taken 141 = .ok (.iload_n 1, 1) := by decide +kernel
theorem d_RM_taken_142 : decode b_RM_taken 142 = .ok (.iaload, 1) := by decide +kernel
theorem d_RM_taken_143 : decode b_RM_taken 143 = .ok (.aload_n 0, 1) := by decide +kernel
theorem d_RM_taken_144 : decode b_RM_taken 144 = .ok (.getfield 72, 3) := by decide +kernel
theorem d_RM_taken_147 : decode b_RM_taken 147 = .ok (.iload_n 1, 1) := by decide +kernel
theorem d_RM_taken_148 : decode b_RM_taken 148 = .ok (.iconst 1, 1) := by decide +kernel
theorem d_RM_taken_149 : decode b_RM_taken 149 = .ok (.iadd, 1) := by decide +kernel
theorem d_RM_taken_150 : decode b_RM_taken 150 = .ok (.iaload, 1) := by decide +kernel
theorem d_RM_taken_151 : decode b_RM_taken 151 = .ok (.isub, 1) := by decide +kernel
theorem d_RM_taken_152 : decode b_RM_taken 152 = .ok (.ireturn, 1) := by decide +kernel
def rm_RM_taken : Room := { frames := 2, cells := 0, slots := 0, locals := 50 }
theorem mf_RM_taken : zMV y_RM_taken b_RM_taken 4 (some .int) 2 := ⟨q1322, q1323, q13, q1324, by decide +kernel⟩
def B_RM_taken_86 (K : Int → zH → Prop)  (p0 : Nat) (x1 : Int) (x2 : Int) (u0 : Int) (h : zH) : Prop :=
  (u0 ≠ 0 → ((x2 ≠ 0 → ((x2 ≠ 1 → ((x2 ≠ 2 → ((0 ≤ x1 ∧ x1 < 41) ∧ (zr (x1 + 1) ∧ ((0 ≤ x1 + 1 ∧ x1 + 1 < 41) ∧ (zr ((h (p0 + 19) x1.toNat) - (h (p0 + 19) ((x1 + 1).toNat))) ∧ (K ((h (p0 + 19) x1.toNat) - (h (p0 + 19) ((x1 + 1).toNat))) h)))))) ∧ (x2 = 2 → ((0 ≤ x1 ∧ x1 < 41) ∧ (K (h (p0 + 19) x1.toNat) h))))) ∧ (x2 = 1 → ((0 ≤ x1 ∧ x1 < 40) ∧ (K (h (p0 + 18) x1.toNat) h))))) ∧ (x2 = 0 → ((0 ≤ x1 ∧ x1 < 40) ∧ (K (h (p0 + 17) x1.toNat) h))))) ∧ (u0 = 0 → (K (-9) h))
set_option maxRecDepth 100000 in
theorem s_RM_taken_86 {Wf : Heap → List Loc → JFrame → Prop} {m : MethodId} {g : zG} {n : Nat} {H0 : Heap} (X : zX Wf m rm_RM_taken b_RM_taken "AliasStreamsModel" 4 g n H0) {K : Int → zH → Prop} (E : zEx Wf m b_RM_taken (some .int) 4 g n H0 (zPi K))  {p0 : Nat} {x1 : Int} {x2 : Int}  (op0 : zO n p0 11) (rx1 : zr x1) (rx2 : zr x2) {u0 : Int} (ru0 : zr u0) {h : zH} (hh : zh h) (hv : B_RM_taken_86 K  p0 x1 x2 u0 h) : zW Wf m 4 g n H0 86 [(0, .ref (g.2.2 p0)), (1, zi x1), (2, zi x2)] [zi u0] h := by
  unfold B_RM_taken_86 at hv
  refine z_istore_n (pc := 86) (lv' := [(3, zi u0), (0, .ref (g.2.2 p0)), (1, zi x1), (2, zi x2)]) X d_RM_taken_86 (by decide) rfl ?_
  refine z_iload_n (pc := 87) (q := 0) X d_RM_taken_87 rfl ?_
  refine z_if_ne (pc := 88) (tgt := 96) X ru0 d_RM_taken_88 (by decide) (fun hc => ?_) (fun hc => ?_)
  · replace hv := hv.1 hc
    refine z_iload_n (pc := 96) (q := 3) X d_RM_taken_96 rfl ?_
    refine z_if_ne (pc := 97) (tgt := 109) X rx2 d_RM_taken_97 (by decide) (fun hc => ?_) (fun hc => ?_)
    · replace hv := hv.1 hc
      refine z_iload_n (pc := 109) (q := 3) X d_RM_taken_109 rfl ?_
      refine z_iconst (pc := 110) X d_RM_taken_110 ?_
      refine z_icmp_ne (pc := 111) (tgt := 123) X rx2 (show zr 1 from by decide) d_RM_taken_111 (by decide) (fun hc => ?_) (fun hc => ?_)
      · replace hv := hv.1 hc
        refine z_iload_n (pc := 123) (q := 3) X d_RM_taken_123 rfl ?_
        refine z_iconst (pc := 124) X d_RM_taken_124 ?_
        refine z_icmp_ne (pc := 125) (tgt := 137) X rx2 (show zr 2 from by decide) d_RM_taken_125 (by decide) (fun hc => ?_) (fun hc => ?_)
        · replace hv := hv.1 hc
          refine z_aload_n (pc := 137) (q := 1) X d_RM_taken_137 rfl ?_
          refine z_getr (pc := 138) (j := 26) (dd := 19) X cf_RM op0 (by decide) q1047 rfl rfl d_RM_taken_138 ?_
          refine z_iload_n (pc := 141) (q := 2) X d_RM_taken_141 rfl ?_
          obtain ⟨v_1, hv⟩ := hv
          refine z_ialdj (pc := 142) (j := x1.toNat) X (gf_RM_26 op0) (gl_RM_26 op0) rx1 v_1 rfl d_RM_taken_142 ?_
          refine z_aload_n (pc := 143) (q := 1) X d_RM_taken_143 rfl ?_
          refine z_getr (pc := 144) (j := 26) (dd := 19) X cf_RM op0 (by decide) q1047 rfl rfl d_RM_taken_144 ?_
          refine z_iload_n (pc := 147) (q := 2) X d_RM_taken_147 rfl ?_
          refine z_iconst (pc := 148) X d_RM_taken_148 ?_
          obtain ⟨v_2, hv⟩ := hv
          refine z_iadd (pc := 149) X d_RM_taken_149 ?_
          obtain ⟨v_3, hv⟩ := hv
          refine z_ialdj (pc := 150) (j := (x1 + 1).toNat) X (gf_RM_26 op0) (gl_RM_26 op0) v_2 v_3 rfl d_RM_taken_150 ?_
          obtain ⟨v_4, hv⟩ := hv
          refine z_isub (pc := 151) X d_RM_taken_151 ?_
          exact E.2.1 rfl _ _ _ _ d_RM_taken_152 ⟨_, rfl, v_4, hh, hv⟩
        · replace hv := hv.2 hc
          refine z_aload_n (pc := 128) (q := 1) X d_RM_taken_128 rfl ?_
          refine z_getr (pc := 129) (j := 26) (dd := 19) X cf_RM op0 (by decide) q1047 rfl rfl d_RM_taken_129 ?_
          refine z_iload_n (pc := 132) (q := 2) X d_RM_taken_132 rfl ?_
          obtain ⟨v_5, hv⟩ := hv
          refine z_ialdj (pc := 133) (j := x1.toNat) X (gf_RM_26 op0) (gl_RM_26 op0) rx1 v_5 rfl d_RM_taken_133 ?_
          refine z_goto (pc := 134) (tgt := 152) X d_RM_taken_134 (by decide) ?_
          exact E.2.1 rfl _ _ _ _ d_RM_taken_152 ⟨_, rfl, (hh.1 _ _ (zO.ne (gf_RM_26 op0) (by decide))), hh, hv⟩
      · replace hv := hv.2 hc
        refine z_aload_n (pc := 114) (q := 1) X d_RM_taken_114 rfl ?_
        refine z_getr (pc := 115) (j := 25) (dd := 18) X cf_RM op0 (by decide) q1046 rfl rfl d_RM_taken_115 ?_
        refine z_iload_n (pc := 118) (q := 2) X d_RM_taken_118 rfl ?_
        obtain ⟨v_6, hv⟩ := hv
        refine z_ialdj (pc := 119) (j := x1.toNat) X (gf_RM_25 op0) (gl_RM_25 op0) rx1 v_6 rfl d_RM_taken_119 ?_
        refine z_goto (pc := 120) (tgt := 152) X d_RM_taken_120 (by decide) ?_
        exact E.2.1 rfl _ _ _ _ d_RM_taken_152 ⟨_, rfl, (hh.1 _ _ (zO.ne (gf_RM_25 op0) (by decide))), hh, hv⟩
    · replace hv := hv.2 hc
      refine z_aload_n (pc := 100) (q := 1) X d_RM_taken_100 rfl ?_
      refine z_getr (pc := 101) (j := 24) (dd := 17) X cf_RM op0 (by decide) q1045 rfl rfl d_RM_taken_101 ?_
      refine z_iload_n (pc := 104) (q := 2) X d_RM_taken_104 rfl ?_
      obtain ⟨v_7, hv⟩ := hv
      refine z_ialdj (pc := 105) (j := x1.toNat) X (gf_RM_24 op0) (gl_RM_24 op0) rx1 v_7 rfl d_RM_taken_105 ?_
      refine z_goto (pc := 106) (tgt := 152) X d_RM_taken_106 (by decide) ?_
      exact E.2.1 rfl _ _ _ _ d_RM_taken_152 ⟨_, rfl, (hh.1 _ _ (zO.ne (gf_RM_24 op0) (by decide))), hh, hv⟩
  · replace hv := hv.2 hc
    refine z_bipush (pc := 91) X d_RM_taken_91 (by decide) ?_
    refine z_goto (pc := 93) (tgt := 152) X d_RM_taken_93 (by decide) ?_
    exact E.2.1 rfl _ _ _ _ d_RM_taken_152 ⟨_, rfl, (show zr (-9) from by decide), hh, hv⟩
def B_RM_taken_81 (K : Int → zH → Prop)  (p0 : Nat) (x1 : Int) (x2 : Int)  (h : zH) : Prop :=
  B_RM_taken_86 K  p0 x1 x2 1 h
set_option maxRecDepth 100000 in
theorem s_RM_taken_81 {Wf : Heap → List Loc → JFrame → Prop} {m : MethodId} {g : zG} {n : Nat} {H0 : Heap} (X : zX Wf m rm_RM_taken b_RM_taken "AliasStreamsModel" 4 g n H0) {K : Int → zH → Prop} (E : zEx Wf m b_RM_taken (some .int) 4 g n H0 (zPi K))  {p0 : Nat} {x1 : Int} {x2 : Int}  (op0 : zO n p0 11) (rx1 : zr x1) (rx2 : zr x2)   {h : zH} (hh : zh h) (hv : B_RM_taken_81 K  p0 x1 x2  h) : zW Wf m 4 g n H0 81 [(0, .ref (g.2.2 p0)), (1, zi x1), (2, zi x2)] [] h := by
  unfold B_RM_taken_81 at hv
  refine z_iconst (pc := 81) X d_RM_taken_81 ?_
  refine z_goto (pc := 82) (tgt := 86) X d_RM_taken_82 (by decide) ?_
  exact s_RM_taken_86 X E  op0 rx1 rx2 (show zr 1 from by decide) hh hv
def B_RM_taken_85 (K : Int → zH → Prop)  (p0 : Nat) (x1 : Int) (x2 : Int)  (h : zH) : Prop :=
  B_RM_taken_86 K  p0 x1 x2 0 h
set_option maxRecDepth 100000 in
theorem s_RM_taken_85 {Wf : Heap → List Loc → JFrame → Prop} {m : MethodId} {g : zG} {n : Nat} {H0 : Heap} (X : zX Wf m rm_RM_taken b_RM_taken "AliasStreamsModel" 4 g n H0) {K : Int → zH → Prop} (E : zEx Wf m b_RM_taken (some .int) 4 g n H0 (zPi K))  {p0 : Nat} {x1 : Int} {x2 : Int}  (op0 : zO n p0 11) (rx1 : zr x1) (rx2 : zr x2)   {h : zH} (hh : zh h) (hv : B_RM_taken_85 K  p0 x1 x2  h) : zW Wf m 4 g n H0 85 [(0, .ref (g.2.2 p0)), (1, zi x1), (2, zi x2)] [] h := by
  unfold B_RM_taken_85 at hv
  refine z_iconst (pc := 85) X d_RM_taken_85 ?_
  exact s_RM_taken_86 X E  op0 rx1 rx2 (show zr 0 from by decide) hh hv
def B_RM_taken_30 (K : Int → zH → Prop)  (p0 : Nat) (x1 : Int) (x2 : Int) (w0 : Nat) (u1 : Int) (h : zH) : Prop :=
  M_RM_refused w0 u1 h (fun r_2 h_1 => (r_2 = 0 → (M_RM_layTables p0 (p0 + 3) h_1 (fun h_3 => M_RM_take p0 (p0 + 3) h_3 (fun r_6 h_5 => (x1 < h_5 p0 27 → (B_RM_taken_81 K  p0 x1 x2  h_5)) ∧ (h_5 p0 27 ≤ x1 → ((x1 ≠ h_5 p0 27 → (B_RM_taken_85 K  p0 x1 x2  h_5)) ∧ (x1 = h_5 p0 27 → ((x2 = 1 → (B_RM_taken_81 K  p0 x1 x2  h_5)) ∧ (x2 ≠ 1 → ((x2 ≠ 2 → (B_RM_taken_85 K  p0 x1 x2  h_5)) ∧ (x2 = 2 → (B_RM_taken_81 K  p0 x1 x2  h_5)))))))))))) ∧ (r_2 ≠ 0 → (K 0 h_1)))
set_option maxRecDepth 100000 in
theorem s_RM_taken_30 {Wf : Heap → List Loc → JFrame → Prop} {m : MethodId} {g : zG} {n : Nat} {H0 : Heap} (X : zX Wf m rm_RM_taken b_RM_taken "AliasStreamsModel" 4 g n H0) {K : Int → zH → Prop} (E : zEx Wf m b_RM_taken (some .int) 4 g n H0 (zPi K))  {p0 : Nat} {x1 : Int} {x2 : Int}  (op0 : zO n p0 11) (rx1 : zr x1) (rx2 : zr x2) {w0 : Nat} {u1 : Int} (ow0 : zO n w0 11) (ru1 : zr u1) {h : zH} (hh : zh h) (hv : B_RM_taken_30 K  p0 x1 x2 w0 u1 h) : zW Wf m 4 g n H0 30 [(0, .ref (g.2.2 p0)), (1, zi x1), (2, zi x2)] [zi u1, .ref (g.2.2 w0)] h := by
  unfold B_RM_taken_30 at hv
  refine z_callVi (pc := 30) (As := [zi u1]) (rest := []) X (fun l hl => c_RM_refused hl ow0 ru1 hh hv) cf_RM ow0 rfl mf_RM_refused q1130 ⟨⟨by decide, by decide⟩, rfl, rfl⟩ rfl d_RM_taken_30 rfl (Nat.le_of_ble_eq_true rfl) (fun r_2 h_1 rr_2 zh_1 hv => ?_)
  refine z_if_eq (pc := 33) (tgt := 38) X rr_2 d_RM_taken_33 (by decide) (fun hc => ?_) (fun hc => ?_)
  · replace hv := hv.1 hc
    refine z_aload_n (pc := 38) (q := 0) X d_RM_taken_38 rfl ?_
    refine z_aload_n (pc := 39) (q := 0) X d_RM_taken_39 rfl ?_
    refine z_getr (pc := 40) (j := 9) (dd := 3) X cf_RM op0 (by decide) q1030 rfl rfl d_RM_taken_40 ?_
    refine z_callVv (pc := 43) (As := [.ref (g.2.2 (p0 + 3))]) (rest := []) X (fun l hl => c_RM_layTables hl op0 (gf_RM_9 op0) zh_1 hv) cf_RM op0 rfl mf_RM_layTables q1181 ⟨⟨by decide, by decide⟩, rfl, rfl⟩ rfl d_RM_taken_43 rfl (Nat.le_of_ble_eq_true rfl) (fun h_3 zh_3 hv => ?_)
    refine z_aload_n (pc := 46) (q := 0) X d_RM_taken_46 rfl ?_
    refine z_aload_n (pc := 47) (q := 0) X d_RM_taken_47 rfl ?_
    refine z_getr (pc := 48) (j := 9) (dd := 3) X cf_RM op0 (by decide) q1030 rfl rfl d_RM_taken_48 ?_
    refine z_callVi (pc := 51) (As := [.ref (g.2.2 (p0 + 3))]) (rest := []) X (fun l hl => c_RM_take hl op0 (gf_RM_9 op0) zh_3 hv) cf_RM op0 rfl mf_RM_take q1193 ⟨⟨by decide, by decide⟩, rfl, rfl⟩ rfl d_RM_taken_51 rfl (Nat.le_of_ble_eq_true rfl) (fun r_6 h_5 rr_6 zh_5 hv => ?_)
    refine z_pop (pc := 54) X d_RM_taken_54 rfl ?_
    refine z_iload_n (pc := 55) (q := 1) X d_RM_taken_55 rfl ?_
    refine z_aload_n (pc := 56) (q := 0) X d_RM_taken_56 rfl ?_
    refine z_geti (pc := 57) (j := 27) X cf_RM op0 (by decide) q1048 rfl rfl d_RM_taken_57 ?_
    refine z_icmp_lt (pc := 60) (tgt := 81) X rx1 (zh_5.1 _ _ (zO.ne op0 (by decide))) d_RM_taken_60 (by decide) (fun hc => ?_) (fun hc => ?_)
    · replace hv := hv.1 hc
      exact s_RM_taken_81 X E  op0 rx1 rx2  zh_5 hv
    · replace hv := hv.2 hc
      refine z_iload_n (pc := 63) (q := 1) X d_RM_taken_63 rfl ?_
      refine z_aload_n (pc := 64) (q := 0) X d_RM_taken_64 rfl ?_
      refine z_geti (pc := 65) (j := 27) X cf_RM op0 (by decide) q1048 rfl rfl d_RM_taken_65 ?_
      refine z_icmp_ne (pc := 68) (tgt := 85) X rx1 (zh_5.1 _ _ (zO.ne op0 (by decide))) d_RM_taken_68 (by decide) (fun hc => ?_) (fun hc => ?_)
      · replace hv := hv.1 hc
        exact s_RM_taken_85 X E  op0 rx1 rx2  zh_5 hv
      · replace hv := hv.2 hc
        refine z_iload_n (pc := 71) (q := 2) X d_RM_taken_71 rfl ?_
        refine z_iconst (pc := 72) X d_RM_taken_72 ?_
        refine z_icmp_eq (pc := 73) (tgt := 81) X rx2 (show zr 1 from by decide) d_RM_taken_73 (by decide) (fun hc => ?_) (fun hc => ?_)
        · replace hv := hv.1 hc
          exact s_RM_taken_81 X E  op0 rx1 rx2  zh_5 hv
        · replace hv := hv.2 hc
          refine z_iload_n (pc := 76) (q := 2) X d_RM_taken_76 rfl ?_
          refine z_iconst (pc := 77) X d_RM_taken_77 ?_
          refine z_icmp_ne (pc := 78) (tgt := 85) X rx2 (show zr 2 from by decide) d_RM_taken_78 (by decide) (fun hc => ?_) (fun hc => ?_)
          · replace hv := hv.1 hc
            exact s_RM_taken_85 X E  op0 rx1 rx2  zh_5 hv
          · replace hv := hv.2 hc
            exact s_RM_taken_81 X E  op0 rx1 rx2  zh_5 hv
  · replace hv := hv.2 hc
    refine z_iconst (pc := 36) X d_RM_taken_36 ?_
    exact E.2.1 rfl _ _ _ _ d_RM_taken_37 ⟨_, rfl, (show zr 0 from by decide), zh_1, hv⟩
def M_RM_taken (p0 : Nat) (x1 : Int) (x2 : Int) (h : zH) (K : Int → zH → Prop) : Prop :=
  M_RM_isPlanned p0 x1 h (fun r_2 h_1 => (r_2 ≠ 0 → (M_RM_in x2 0 3 h_1 (fun r_4 h_3 => (r_4 ≠ 0 → (B_RM_taken_30 K  p0 x1 x2 p0 0 h_3)) ∧ (r_4 = 0 → (B_RM_taken_30 K  p0 x1 x2 p0 2 h_3))))) ∧ (r_2 = 0 → (B_RM_taken_30 K  p0 x1 x2 p0 1 h_1)))
set_option maxRecDepth 100000 in
theorem c_RM_taken {l : Launch} (hfl : l.flags = flags0) {g : zG} {n : Nat} {p0 : Nat} {x1 : Int} {x2 : Int} (op0 : zO n p0 11) (rx1 : zr x1) (rx2 : zr x2) {h : zH} (hh : zh h) {K : Int → zH → Prop} (hv : M_RM_taken p0 x1 x2 h K) : zMet l y_RM_taken b_RM_taken 4 (some .int) rm_RM_taken g n [.ref (g.2.2 p0), zi x1, zi x2] h (zPi K) := by
  refine zMet_of (own := "AliasStreamsModel") hfl (by decide) rfl (Nat.le_of_ble_eq_true rfl) (fun Wf m H0 X E => ?_)
  unfold M_RM_taken at hv
  show zW Wf m 4 g n H0 0 [(0, .ref (g.2.2 p0)), (1, zi x1), (2, zi x2)] [] h
  refine z_aload_n (pc := 0) (q := 0) X d_RM_taken_0 rfl ?_
  refine z_aload_n (pc := 1) (q := 0) X d_RM_taken_1 rfl ?_
  refine z_iload_n (pc := 2) (q := 1) X d_RM_taken_2 rfl ?_
  refine z_callVi (pc := 3) (As := [zi x1]) (rest := [.ref (g.2.2 p0)]) X (fun l hl => c_RM_isPlanned hl op0 rx1 hh hv) cf_RM op0 rfl mf_RM_isPlanned q1313 ⟨⟨by decide, by decide⟩, rfl, rfl⟩ rfl d_RM_taken_3 rfl (Nat.le_of_ble_eq_true rfl) (fun r_2 h_1 rr_2 zh_1 hv => ?_)
  refine z_if_ne (pc := 6) (tgt := 13) X rr_2 d_RM_taken_6 (by decide) (fun hc => ?_) (fun hc => ?_)
  · replace hv := hv.1 hc
    refine z_iload_n (pc := 13) (q := 2) X d_RM_taken_13 rfl ?_
    refine z_i2l (pc := 14) X rx2 d_RM_taken_14 ?_
    refine z_lconst (pc := 15) (x := 0) X d_RM_taken_15 (by decide) ?_
    refine z_ldc2 (pc := 16) (x := 3) X d_RM_taken_16 q1325 (by decide) ?_
    refine z_callSi (pc := 19) (As := [zj x2, zj 0, zj 3]) (rest := [.ref (g.2.2 p0)]) X (fun l hl => c_RM_in hl (zr_l rx2) (show zrl 0 from by decide) (show zrl 3 from by decide) zh_1 hv) mf_RM_in q1127 ⟨⟨by decide, by decide⟩, rfl, rfl⟩ rfl d_RM_taken_19 rfl (Nat.le_of_ble_eq_true rfl) (fun r_4 h_3 rr_4 zh_3 hv => ?_)
    refine z_if_ne (pc := 22) (tgt := 29) X rr_4 d_RM_taken_22 (by decide) (fun hc => ?_) (fun hc => ?_)
    · replace hv := hv.1 hc
      refine z_iconst (pc := 29) X d_RM_taken_29 ?_
      exact s_RM_taken_30 X E  op0 rx1 rx2 op0 (show zr 0 from by decide) zh_3 hv
    · replace hv := hv.2 hc
      refine z_iconst (pc := 25) X d_RM_taken_25 ?_
      refine z_goto (pc := 26) (tgt := 30) X d_RM_taken_26 (by decide) ?_
      exact s_RM_taken_30 X E  op0 rx1 rx2 op0 (show zr 2 from by decide) zh_3 hv
  · replace hv := hv.2 hc
    refine z_iconst (pc := 9) X d_RM_taken_9 ?_
    refine z_goto (pc := 10) (tgt := 30) X d_RM_taken_10 (by decide) ?_
    exact s_RM_taken_30 X E  op0 rx1 rx2 op0 (show zr 1 from by decide) zh_1 hv
theorem d_RM_failure_0 : decode b_RM_failure 0 = .ok (.aload_n 0, 1) := by decide +kernel
theorem d_RM_failure_1 : decode b_RM_failure 1 = .ok (.iconst 0, 1) := by decide +kernel
theorem d_RM_failure_2 : decode b_RM_failure 2 = .ok (.putfield 84, 3) := by decide +kernel
theorem d_RM_failure_5 : decode b_RM_failure 5 = .ok (.aload_n 0, 1) := by decide +kernel
theorem d_RM_failure_6 : decode b_RM_failure 6 = .ok (.aload_n 0, 1) := by decide +kernel
theorem d_RM_failure_7 : decode b_RM_failure 7 = .ok (.getfield 23, 3) := by decide +kernel
theorem d_RM_failure_10 : decode b_RM_failure 10 = .ok (.invokevirtual 164, 3) := by decide +kernel
theorem d_RM_failure_13 : decode b_RM_failure 13 = .ok (.aload_n 0, 1) := by decide +kernel
theorem d_RM_failure_14 : decode b_RM_failure 14 = .ok (.aload_n 0, 1) := by decide +kernel
theorem d_RM_failure_15 : decode b_RM_failure 15 = .ok (.getfield 23, 3) := by decide +kernel
theorem d_RM_failure_18 : decode b_RM_failure 18 = .ok (.invokevirtual 206, 3) := by decide +kernel
theorem d_RM_failure_21 : decode b_RM_failure 21 = .ok (.ifCond .eq 10, 3) := by decide +kernel
theorem d_RM_failure_24 : decode b_RM_failure 24 = .ok (.aload_n 0, 1) := by decide +kernel
theorem d_RM_failure_25 : decode b_RM_failure 25 = .ok (.getfield 102, 3) := by decide +kernel
theorem d_RM_failure_28 : decode b_RM_failure 28 = .ok (.goto 5, 3) := by decide +kernel
theorem d_RM_failure_31 : decode b_RM_failure 31 = .ok (.bipush (-9), 2) := by decide +kernel
theorem d_RM_failure_33 : decode b_RM_failure 33 = .ok (.ireturn, 1) := by decide +kernel
def rm_RM_failure : Room := { frames := 2, cells := 0, slots := 0, locals := 50 }
theorem mf_RM_failure : zMV y_RM_failure b_RM_failure 1 (some .int) 0 := ⟨q1327, q1328, q13, q1329, by decide +kernel⟩
def M_RM_failure (p0 : Nat) (h : zH) (K : Int → zH → Prop) : Prop :=
  (∀ h_1 : zH, h_1 = zs h p0 0 0 → (M_RM_layTables p0 (p0 + 3) h_1 (fun h_2 => M_RM_fails p0 (p0 + 3) h_2 (fun r_5 h_4 => (r_5 = 0 → (K (-9) h_4)) ∧ (r_5 ≠ 0 → (K (h_4 p0 27) h_4))))))
set_option maxRecDepth 100000 in
theorem c_RM_failure {l : Launch} (hfl : l.flags = flags0) {g : zG} {n : Nat} {p0 : Nat} (op0 : zO n p0 11) {h : zH} (hh : zh h) {K : Int → zH → Prop} (hv : M_RM_failure p0 h K) : zMet l y_RM_failure b_RM_failure 1 (some .int) rm_RM_failure g n [.ref (g.2.2 p0)] h (zPi K) := by
  refine zMet_of (own := "AliasStreamsModel") hfl (by decide) rfl (Nat.le_of_ble_eq_true rfl) (fun Wf m H0 X E => ?_)
  unfold M_RM_failure at hv
  show zW Wf m 1 g n H0 0 [(0, .ref (g.2.2 p0))] [] h
  refine z_aload_n (pc := 0) (q := 0) X d_RM_failure_0 rfl ?_
  refine z_iconst (pc := 1) X d_RM_failure_1 ?_
  refine z_put (pc := 2) (j := 0) X cf_RM op0 (by decide) q1021 rfl rfl rfl rfl d_RM_failure_2 ?_
  refine z_toph (fun h_1 eh_1 => ?_)
  have zh_1 : zh h_1 := by rw [eh_1]; exact zh_set hh (zO.ne op0 (by decide)) (show zr 0 from by decide)
  replace hv := hv h_1 eh_1
  refine z_aload_n (pc := 5) (q := 0) X d_RM_failure_5 rfl ?_
  refine z_aload_n (pc := 6) (q := 0) X d_RM_failure_6 rfl ?_
  refine z_getr (pc := 7) (j := 9) (dd := 3) X cf_RM op0 (by decide) q1030 rfl rfl d_RM_failure_7 ?_
  refine z_callVv (pc := 10) (As := [.ref (g.2.2 (p0 + 3))]) (rest := []) X (fun l hl => c_RM_layTables hl op0 (gf_RM_9 op0) zh_1 hv) cf_RM op0 rfl mf_RM_layTables q1181 ⟨⟨by decide, by decide⟩, rfl, rfl⟩ rfl d_RM_failure_10 rfl (Nat.le_of_ble_eq_true rfl) (fun h_2 zh_2 hv => ?_)
  refine z_aload_n (pc := 13) (q := 0) X d_RM_failure_13 rfl ?_
  refine z_aload_n (pc := 14) (q := 0) X d_RM_failure_14 rfl ?_
  refine z_getr (pc := 15) (j := 9) (dd := 3) X cf_RM op0 (by decide) q1030 rfl rfl d_RM_failure_15 ?_
  refine z_callVi (pc := 18) (As := [.ref (g.2.2 (p0 + 3))]) (rest := []) X (fun l hl => c_RM_fails hl op0 (gf_RM_9 op0) zh_2 hv) cf_RM op0 rfl mf_RM_fails q1282 ⟨⟨by decide, by decide⟩, rfl, rfl⟩ rfl d_RM_failure_18 rfl (Nat.le_of_ble_eq_true rfl) (fun r_5 h_4 rr_5 zh_4 hv => ?_)
  refine z_if_eq (pc := 21) (tgt := 31) X rr_5 d_RM_failure_21 (by decide) (fun hc => ?_) (fun hc => ?_)
  · replace hv := hv.1 hc
    refine z_bipush (pc := 31) X d_RM_failure_31 (by decide) ?_
    exact E.2.1 rfl _ _ _ _ d_RM_failure_33 ⟨_, rfl, (show zr (-9) from by decide), zh_4, hv⟩
  · replace hv := hv.2 hc
    refine z_aload_n (pc := 24) (q := 0) X d_RM_failure_24 rfl ?_
    refine z_geti (pc := 25) (j := 27) X cf_RM op0 (by decide) q1048 rfl rfl d_RM_failure_25 ?_
    refine z_goto (pc := 28) (tgt := 33) X d_RM_failure_28 (by decide) ?_
    exact E.2.1 rfl _ _ _ _ d_RM_failure_33 ⟨_, rfl, (zh_4.1 _ _ (zO.ne op0 (by decide))), zh_4, hv⟩
theorem d_RM_unfit_0 : decode b_RM_unfit 0 = .ok (.aload_n 0, 1) := by decide +kernel
theorem d_RM_unfit_1 : decode b_RM_unfit 1 = .ok (.iconst 0, 1) := by decide +kernel
theorem d_RM_unfit_2 : decode b_RM_unfit 2 = .ok (.putfield 84, 3) := by decide +kernel
theorem d_RM_unfit_5 : decode b_RM_unfit 5 = .ok (.aload_n 0, 1) := by decide +kernel
theorem d_RM_unfit_6 : decode b_RM_unfit 6 = .ok (.aload_n 0, 1) := by decide +kernel
theorem d_RM_unfit_7 : decode b_RM_unfit 7 = .ok (.getfield 23, 3) := by decide +kernel
theorem d_RM_unfit_10 : decode b_RM_unfit 10 = .ok (.invokevirtual 164, 3) := by decide +kernel
theorem d_RM_unfit_13 : decode b_RM_unfit 13 = .ok (.aload_n 0, 1) := by decide +kernel
theorem d_RM_unfit_14 : decode b_RM_unfit 14 = .ok (.aload_n 0, 1) := by decide +kernel
theorem d_RM_unfit_15 : decode b_RM_unfit 15 = .ok (.getfield 23, 3) := by decide +kernel
theorem d_RM_unfit_18 : decode b_RM_unfit 18 = .ok (.invokevirtual 160, 3) := by decide +kernel
theorem d_RM_unfit_21 : decode b_RM_unfit 21 = .ok (.aload_n 0, 1) := by decide +kernel
theorem d_RM_unfit_22 : decode b_RM_unfit 22 = .ok (.invokevirtual 196, 3) := by decide +kernel
theorem d_RM_unfit_25 : decode b_RM_unfit 25 = .ok (.ireturn, 1) := by decide +kernel
def rm_RM_unfit : Room := { frames := 2, cells := 0, slots := 0, locals := 50 }
theorem mf_RM_unfit : zMV y_RM_unfit b_RM_unfit 1 (some .int) 0 := ⟨q1331, q1332, q13, q1333, by decide +kernel⟩
def M_RM_unfit (p0 : Nat) (h : zH) (K : Int → zH → Prop) : Prop :=
  (∀ h_1 : zH, h_1 = zs h p0 0 0 → (M_RM_layTables p0 (p0 + 3) h_1 (fun h_2 => M_RM_layMessage p0 (p0 + 3) h_2 (fun h_4 => M_RM_unfitOf p0 h_4 (fun r_7 h_6 => K r_7 h_6)))))
set_option maxRecDepth 100000 in
theorem c_RM_unfit {l : Launch} (hfl : l.flags = flags0) {g : zG} {n : Nat} {p0 : Nat} (op0 : zO n p0 11) {h : zH} (hh : zh h) {K : Int → zH → Prop} (hv : M_RM_unfit p0 h K) : zMet l y_RM_unfit b_RM_unfit 1 (some .int) rm_RM_unfit g n [.ref (g.2.2 p0)] h (zPi K) := by
  refine zMet_of (own := "AliasStreamsModel") hfl (by decide) rfl (Nat.le_of_ble_eq_true rfl) (fun Wf m H0 X E => ?_)
  unfold M_RM_unfit at hv
  show zW Wf m 1 g n H0 0 [(0, .ref (g.2.2 p0))] [] h
  refine z_aload_n (pc := 0) (q := 0) X d_RM_unfit_0 rfl ?_
  refine z_iconst (pc := 1) X d_RM_unfit_1 ?_
  refine z_put (pc := 2) (j := 0) X cf_RM op0 (by decide) q1021 rfl rfl rfl rfl d_RM_unfit_2 ?_
  refine z_toph (fun h_1 eh_1 => ?_)
  have zh_1 : zh h_1 := by rw [eh_1]; exact zh_set hh (zO.ne op0 (by decide)) (show zr 0 from by decide)
  replace hv := hv h_1 eh_1
  refine z_aload_n (pc := 5) (q := 0) X d_RM_unfit_5 rfl ?_
  refine z_aload_n (pc := 6) (q := 0) X d_RM_unfit_6 rfl ?_
  refine z_getr (pc := 7) (j := 9) (dd := 3) X cf_RM op0 (by decide) q1030 rfl rfl d_RM_unfit_7 ?_
  refine z_callVv (pc := 10) (As := [.ref (g.2.2 (p0 + 3))]) (rest := []) X (fun l hl => c_RM_layTables hl op0 (gf_RM_9 op0) zh_1 hv) cf_RM op0 rfl mf_RM_layTables q1181 ⟨⟨by decide, by decide⟩, rfl, rfl⟩ rfl d_RM_unfit_10 rfl (Nat.le_of_ble_eq_true rfl) (fun h_2 zh_2 hv => ?_)
  refine z_aload_n (pc := 13) (q := 0) X d_RM_unfit_13 rfl ?_
  refine z_aload_n (pc := 14) (q := 0) X d_RM_unfit_14 rfl ?_
  refine z_getr (pc := 15) (j := 9) (dd := 3) X cf_RM op0 (by decide) q1030 rfl rfl d_RM_unfit_15 ?_
  refine z_callVv (pc := 18) (As := [.ref (g.2.2 (p0 + 3))]) (rest := []) X (fun l hl => c_RM_layMessage hl op0 (gf_RM_9 op0) zh_2 hv) cf_RM op0 rfl mf_RM_layMessage q1177 ⟨⟨by decide, by decide⟩, rfl, rfl⟩ rfl d_RM_unfit_18 rfl (Nat.le_of_ble_eq_true rfl) (fun h_4 zh_4 hv => ?_)
  refine z_aload_n (pc := 21) (q := 0) X d_RM_unfit_21 rfl ?_
  refine z_callVi (pc := 22) (As := []) (rest := []) X (fun l hl => c_RM_unfitOf hl op0 zh_4 hv) cf_RM op0 rfl mf_RM_unfitOf q1266 ⟨⟨by decide, by decide⟩, rfl, rfl⟩ rfl d_RM_unfit_22 rfl (Nat.le_of_ble_eq_true rfl) (fun r_7 h_6 rr_7 zh_6 hv => ?_)
  exact E.2.1 rfl _ _ _ _ d_RM_unfit_25 ⟨_, rfl, rr_7, zh_6, hv⟩
theorem d_RM_digitsWith_0 : decode b_RM_digitsWith 0 = .ok (.aload_n 0, 1) := by decide +kernel
theorem d_RM_digitsWith_1 : decode b_RM_digitsWith 1 = .ok (.aload_n 0, 1) := by decide +kernel
theorem d_RM_digitsWith_2 : decode b_RM_digitsWith 2 = .ok (.iload_n 1, 1) := by decide +kernel
theorem d_RM_digitsWith_3 : decode b_RM_digitsWith 3 = .ok (.invokevirtual 167, 3) := by decide +kernel
theorem d_RM_digitsWith_6 : decode b_RM_digitsWith 6 = .ok (.ifCond .eq 7, 3) := by decide +kernel
theorem d_RM_digitsWith_9 : decode b_RM_digitsWith 9 = .ok (.iconst 0, 1) := by decide +kernel
theorem d_RM_digitsWith_10 : decode b_RM_digitsWith 10 = .ok (.goto 4, 3) := by decide +kernel
theorem d_RM_digitsWith_13 : decode b_RM_digitsWith 13 = .ok (.iconst 1, 1) := by decide +kernel
theorem d_RM_digitsWith_14 : decode b_RM_digitsWith 14 = .ok (.invokevirtual 114, 3) := by decide +kernel
theorem d_RM_digitsWith_17 : decode b_RM_digitsWith 17 = .ok (.ifCond .eq 5, 3) := by decide +kernel
theorem d_RM_digitsWith_20 : decode b_RM_digitsWith 20 = .ok (.iconst 0, 1) := by decide +kernel
theorem d_RM_digitsWith_21 : decode b_RM_digitsWith 21 = .ok (.ireturn, 1) := by decide +kernel
theorem d_RM_digitsWith_22 : decode b_RM_digitsWith 22 = .ok (.aload_n 0, 1) := by decide +kernel
theorem d_RM_digitsWith_23 : decode b_RM_digitsWith 23 = .ok (.aload_n 0, 1) := by decide +kernel
theorem d_RM_digitsWith_24 : decode b_RM_digitsWith 24 = .ok (.getfield 23, 3) := by decide +kernel
theorem d_RM_digitsWith_27 : decode b_RM_digitsWith 27 = .ok (.invokevirtual 164, 3) := by decide +kernel
theorem d_RM_digitsWith_30 : decode b_RM_digitsWith 30 = .ok (.aload_n 0, 1) := by decide +kernel
theorem d_RM_digitsWith_31 : decode b_RM_digitsWith 31 = .ok (.aload_n 0, 1) := by decide +kernel
theorem d_RM_digitsWith_32 : decode b_RM_digitsWith 32 = .ok (.getfield 23, 3) := by decide +kernel
theorem d_RM_digitsWith_35 : decode b_RM_digitsWith 35 = .ok (.invokevirtual 160, 3) := by decide +kernel
theorem d_RM_digitsWith_38 : decode b_RM_digitsWith 38 = .ok (.iconst 0, 1) := by decide +kernel
theorem d_RM_digitsWith_39 : decode b_RM_digitsWith 39 = .ok (.istore_n 2, 1) := by decide +kernel
theorem d_RM_digitsWith_40 : decode b_RM_digitsWith 40 = .ok (.iload_n 2, 1) := by decide +kernel
theorem d_RM_digitsWith_41 : decode b_RM_digitsWith 41 = .ok (.aload_n 0, 1) := by decide +kernel
theorem d_RM_digitsWith_42 : decode b_RM_digitsWith 42 = .ok (.getfield 99, 3) := by decide +kernel
theorem d_RM_digitsWith_45 : decode b_RM_digitsWith 45 = .ok (.if_icmp .ge 16, 3) := by decide +kernel
theorem d_RM_digitsWith_48 : decode b_RM_digitsWith 48 = .ok (.aload_n 0, 1) := by decide +kernel
theorem d_RM_digitsWith_49 : decode b_RM_digitsWith 49 = .ok (.getfield 81, 3) := by decide +kernel
theorem d_RM_digitsWith_52 : decode b_RM_digitsWith 52 = .ok (.iload_n 2, 1) := by decide +kernel
theorem d_RM_digitsWith_53 : decode b_RM_digitsWith 53 = .ok (.iload_n 1, 1) := by decide +kernel
theorem d_RM_digitsWith_54 : decode b_RM_digitsWith 54 = .ok (.iastore, 1) := by decide +kernel
theorem d_RM_digitsWith_55 : decode b_RM_digitsWith 55 = .ok (.iinc 2 1, 3) := by decide +kernel
theorem d_RM_digitsWith_58 : decode b_RM_digitsWith 58 = .ok (.goto (-18), 3) := by decide +kernel
theorem d_RM_digitsWith_61 : decode b_RM_digitsWith 61 = .ok (.aload_n 0, 1) := by decide +kernel
theorem d_RM_digitsWith_62 : decode b_RM_digitsWith 62 = .ok (.invokevirtual 196, 3) := by decide +kernel
theorem d_RM_digitsWith_65 : decode b_RM_digitsWith 65 = .ok (.bipush (-9), 2) := by decide +kernel
theorem d_RM_digitsWith_67 : decode b_RM_digitsWith 67 = .ok (.if_icmp .eq 6, 3) := by decide +kernel
theorem d_RM_digitsWith_70 : decode b_RM_digitsWith 70 = .ok (.bipush (-9), 2) := by decide +kernel
theorem d_RM_digitsWith_72 : decode b_RM_digitsWith 72 = .ok (.ireturn, 1) := by decide +kernel
theorem d_RM_digitsWith_73 : decode b_RM_digitsWith 73 = .ok (.aload_n 0, 1) := by decide +kernel
theorem d_RM_digitsWith_74 : decode b_RM_digitsWith 74 = .ok (.aload_n 0, 1) := by decide +kernel
theorem d_RM_digitsWith_75 : decode b_RM_digitsWith 75 = .ok (.getfield 26, 3) := by decide +kernel
theorem d_RM_digitsWith_78 : decode b_RM_digitsWith 78 = .ok (.invokevirtual 203, 3) := by decide +kernel
theorem d_RM_digitsWith_81 : decode b_RM_digitsWith 81 = .ok (.aload_n 0, 1) := by decide +kernel
theorem d_RM_digitsWith_82 : decode b_RM_digitsWith 82 = .ok (.getfield 26, 3) := by decide +kernel
theorem d_RM_digitsWith_85 : decode b_RM_digitsWith 85 = .ok (.sipush 190, 3) := by decide +kernel
theorem d_RM_digitsWith_88 : decode b_RM_digitsWith 88 = .ok (.iaload, 1) := by decide +kernel
theorem d_RM_digitsWith_89 : decode b_RM_digitsWith 89 = .ok (.ireturn, 1) := by decide +kernel
def rm_RM_digitsWith : Room := { frames := 2, cells := 0, slots := 0, locals := 50 }
theorem mf_RM_digitsWith : zMV y_RM_digitsWith b_RM_digitsWith 3 (some .int) 1 := ⟨q1335, q1336, q13, q1337, by decide +kernel⟩
def F_RM_digitsWith_40 (K : Int → zH → Prop)  (L40 : Int × zH → Prop) (p0 : Nat) (x1 : Int) (x2 : Int) (h : zH) : Prop :=
  (h p0 31 ≤ x2 → (M_RM_unfitOf p0 h (fun r_2 h_1 => (r_2 = (-9) → (M_RM_encodeTo p0 (p0 + 4) h_1 (fun h_3 => K (h_3 (p0 + 4) 190) h_3))) ∧ (r_2 ≠ (-9) → (K (-9) h_1))))) ∧ (x2 < h p0 31 → ((0 ≤ x2 ∧ x2 < 40) ∧ (∀ h_6 : zH, h_6 = zs h (p0 + 22) x2.toNat x1 → (zr (x2 + 1) ∧ (L40 (x2 + 1, h_6))))))
set_option maxRecDepth 100000 in
theorem s_RM_digitsWith_40 {Wf : Heap → List Loc → JFrame → Prop} {m : MethodId} {g : zG} {n : Nat} {H0 : Heap} (X : zX Wf m rm_RM_digitsWith b_RM_digitsWith "AliasStreamsModel" 3 g n H0) {K : Int → zH → Prop} (E : zEx Wf m b_RM_digitsWith (some .int) 3 g n H0 (zPi K))  {p0 : Nat} {x1 : Int}  (op0 : zO n p0 11) (rx1 : zr x1) {q0 : Int × zH} (hv0 : zLoop (fun L q => F_RM_digitsWith_40 K  L p0 x1 q.1 q.2) q0) : zr q0.1 → zh (q0.2) → zW Wf m 3 g n H0 40 [(0, .ref (g.2.2 p0)), (1, zi x1), (2, zi q0.1)] [] (q0.2) := by
  refine zLoop_use (G := fun q => zr q.1 → zh (q.2) → zW Wf m 3 g n H0 40 [(0, .ref (g.2.2 p0)), (1, zi x1), (2, zi q.1)] [] (q.2)) ?_ hv0
  rintro L40 ⟨x2, h⟩ hL40 hv rx2 hh
  have hv : F_RM_digitsWith_40 K  L40 p0 x1 x2 h := hv
  unfold F_RM_digitsWith_40 at hv
  show zW Wf m 3 g n H0 40 [(0, .ref (g.2.2 p0)), (1, zi x1), (2, zi x2)] [] h
  refine z_iload_n (pc := 40) (q := 2) X d_RM_digitsWith_40 rfl ?_
  refine z_aload_n (pc := 41) (q := 0) X d_RM_digitsWith_41 rfl ?_
  refine z_geti (pc := 42) (j := 31) X cf_RM op0 (by decide) q1052 rfl rfl d_RM_digitsWith_42 ?_
  refine z_icmp_ge (pc := 45) (tgt := 61) X rx2 (hh.1 _ _ (zO.ne op0 (by decide))) d_RM_digitsWith_45 (by decide) (fun hc => ?_) (fun hc => ?_)
  · replace hv := hv.1 hc
    refine z_aload_n (pc := 61) (q := 0) X d_RM_digitsWith_61 rfl ?_
    refine z_callVi (pc := 62) (As := []) (rest := []) X (fun l hl => c_RM_unfitOf hl op0 hh hv) cf_RM op0 rfl mf_RM_unfitOf q1266 ⟨⟨by decide, by decide⟩, rfl, rfl⟩ rfl d_RM_digitsWith_62 rfl (Nat.le_of_ble_eq_true rfl) (fun r_2 h_1 rr_2 zh_1 hv => ?_)
    refine z_bipush (pc := 65) X d_RM_digitsWith_65 (by decide) ?_
    refine z_icmp_eq (pc := 67) (tgt := 73) X rr_2 (show zr (-9) from by decide) d_RM_digitsWith_67 (by decide) (fun hc => ?_) (fun hc => ?_)
    · replace hv := hv.1 hc
      refine z_aload_n (pc := 73) (q := 0) X d_RM_digitsWith_73 rfl ?_
      refine z_aload_n (pc := 74) (q := 0) X d_RM_digitsWith_74 rfl ?_
      refine z_getr (pc := 75) (j := 10) (dd := 4) X cf_RM op0 (by decide) q1031 rfl rfl d_RM_digitsWith_75 ?_
      refine z_callVv (pc := 78) (As := [.ref (g.2.2 (p0 + 4))]) (rest := []) X (fun l hl => c_RM_encodeTo hl op0 (gf_RM_10 op0) zh_1 hv) cf_RM op0 rfl mf_RM_encodeTo q1270 ⟨⟨by decide, by decide⟩, rfl, rfl⟩ rfl d_RM_digitsWith_78 rfl (Nat.le_of_ble_eq_true rfl) (fun h_3 zh_3 hv => ?_)
      refine z_aload_n (pc := 81) (q := 0) X d_RM_digitsWith_81 rfl ?_
      refine z_getr (pc := 82) (j := 10) (dd := 4) X cf_RM op0 (by decide) q1031 rfl rfl d_RM_digitsWith_82 ?_
      refine z_sipush (pc := 85) X d_RM_digitsWith_85 (by decide) ?_
      refine z_ialdj (pc := 88) (j := 190) X (gf_RM_10 op0) (gl_RM_10 op0) (show zr 190 from by decide) ⟨by decide, by decide⟩ rfl d_RM_digitsWith_88 ?_
      exact E.2.1 rfl _ _ _ _ d_RM_digitsWith_89 ⟨_, rfl, (zh_3.1 _ _ (zO.ne (gf_RM_10 op0) (by decide))), zh_3, hv⟩
    · replace hv := hv.2 hc
      refine z_bipush (pc := 70) X d_RM_digitsWith_70 (by decide) ?_
      exact E.2.1 rfl _ _ _ _ d_RM_digitsWith_72 ⟨_, rfl, (show zr (-9) from by decide), zh_1, hv⟩
  · replace hv := hv.2 hc
    refine z_aload_n (pc := 48) (q := 0) X d_RM_digitsWith_48 rfl ?_
    refine z_getr (pc := 49) (j := 30) (dd := 22) X cf_RM op0 (by decide) q1051 rfl rfl d_RM_digitsWith_49 ?_
    refine z_iload_n (pc := 52) (q := 2) X d_RM_digitsWith_52 rfl ?_
    refine z_iload_n (pc := 53) (q := 1) X d_RM_digitsWith_53 rfl ?_
    obtain ⟨v_5, hv⟩ := hv
    refine z_iastj (pc := 54) (j := x2.toNat) X (gf_RM_30 op0) (gl_RM_30 op0) rx2 v_5 rfl d_RM_digitsWith_54 ?_
    refine z_toph (fun h_6 eh_6 => ?_)
    have zh_6 : zh h_6 := by rw [eh_6]; exact zh_set hh (zO.ne (gf_RM_30 op0) (by decide)) rx1
    replace hv := hv h_6 eh_6
    obtain ⟨v_7, hv⟩ := hv
    refine z_iinc (pc := 55) (q := 2) (lv' := [(2, zi (x2 + 1)), (0, .ref (g.2.2 p0)), (1, zi x1)]) X d_RM_digitsWith_55 rfl (by decide) rfl ?_
    refine z_goto (pc := 58) (tgt := 40) X d_RM_digitsWith_58 (by decide) ?_
    refine z_perm [1, 2, 0] rfl ?_
    exact hL40 _ hv v_7 zh_6
def B_RM_digitsWith_14 (K : Int → zH → Prop)  (p0 : Nat) (x1 : Int) (w0 : Nat) (u1 : Int) (h : zH) : Prop :=
  M_RM_refused w0 u1 h (fun r_2 h_1 => (r_2 = 0 → (M_RM_layTables p0 (p0 + 3) h_1 (fun h_3 => M_RM_layMessage p0 (p0 + 3) h_3 (fun h_5 => zLoop (fun L q => F_RM_digitsWith_40 K  L p0 x1 q.1 q.2) (0, h_5))))) ∧ (r_2 ≠ 0 → (K 0 h_1)))
set_option maxRecDepth 100000 in
theorem s_RM_digitsWith_14 {Wf : Heap → List Loc → JFrame → Prop} {m : MethodId} {g : zG} {n : Nat} {H0 : Heap} (X : zX Wf m rm_RM_digitsWith b_RM_digitsWith "AliasStreamsModel" 3 g n H0) {K : Int → zH → Prop} (E : zEx Wf m b_RM_digitsWith (some .int) 3 g n H0 (zPi K))  {p0 : Nat} {x1 : Int}  (op0 : zO n p0 11) (rx1 : zr x1) {w0 : Nat} {u1 : Int} (ow0 : zO n w0 11) (ru1 : zr u1) {h : zH} (hh : zh h) (hv : B_RM_digitsWith_14 K  p0 x1 w0 u1 h) : zW Wf m 3 g n H0 14 [(0, .ref (g.2.2 p0)), (1, zi x1)] [zi u1, .ref (g.2.2 w0)] h := by
  unfold B_RM_digitsWith_14 at hv
  refine z_callVi (pc := 14) (As := [zi u1]) (rest := []) X (fun l hl => c_RM_refused hl ow0 ru1 hh hv) cf_RM ow0 rfl mf_RM_refused q1130 ⟨⟨by decide, by decide⟩, rfl, rfl⟩ rfl d_RM_digitsWith_14 rfl (Nat.le_of_ble_eq_true rfl) (fun r_2 h_1 rr_2 zh_1 hv => ?_)
  refine z_if_eq (pc := 17) (tgt := 22) X rr_2 d_RM_digitsWith_17 (by decide) (fun hc => ?_) (fun hc => ?_)
  · replace hv := hv.1 hc
    refine z_aload_n (pc := 22) (q := 0) X d_RM_digitsWith_22 rfl ?_
    refine z_aload_n (pc := 23) (q := 0) X d_RM_digitsWith_23 rfl ?_
    refine z_getr (pc := 24) (j := 9) (dd := 3) X cf_RM op0 (by decide) q1030 rfl rfl d_RM_digitsWith_24 ?_
    refine z_callVv (pc := 27) (As := [.ref (g.2.2 (p0 + 3))]) (rest := []) X (fun l hl => c_RM_layTables hl op0 (gf_RM_9 op0) zh_1 hv) cf_RM op0 rfl mf_RM_layTables q1181 ⟨⟨by decide, by decide⟩, rfl, rfl⟩ rfl d_RM_digitsWith_27 rfl (Nat.le_of_ble_eq_true rfl) (fun h_3 zh_3 hv => ?_)
    refine z_aload_n (pc := 30) (q := 0) X d_RM_digitsWith_30 rfl ?_
    refine z_aload_n (pc := 31) (q := 0) X d_RM_digitsWith_31 rfl ?_
    refine z_getr (pc := 32) (j := 9) (dd := 3) X cf_RM op0 (by decide) q1030 rfl rfl d_RM_digitsWith_32 ?_
    refine z_callVv (pc := 35) (As := [.ref (g.2.2 (p0 + 3))]) (rest := []) X (fun l hl => c_RM_layMessage hl op0 (gf_RM_9 op0) zh_3 hv) cf_RM op0 rfl mf_RM_layMessage q1177 ⟨⟨by decide, by decide⟩, rfl, rfl⟩ rfl d_RM_digitsWith_35 rfl (Nat.le_of_ble_eq_true rfl) (fun h_5 zh_5 hv => ?_)
    refine z_iconst (pc := 38) X d_RM_digitsWith_38 ?_
    refine z_istore_n (pc := 39) (lv' := [(2, zi 0), (0, .ref (g.2.2 p0)), (1, zi x1)]) X d_RM_digitsWith_39 (by decide) rfl ?_
    refine z_perm [1, 2, 0] rfl ?_
    exact s_RM_digitsWith_40 X E  op0 rx1 hv (show zr 0 from by decide) zh_5
  · replace hv := hv.2 hc
    refine z_iconst (pc := 20) X d_RM_digitsWith_20 ?_
    exact E.2.1 rfl _ _ _ _ d_RM_digitsWith_21 ⟨_, rfl, (show zr 0 from by decide), zh_1, hv⟩
def M_RM_digitsWith (p0 : Nat) (x1 : Int) (h : zH) (K : Int → zH → Prop) : Prop :=
  M_RM_isModel p0 x1 h (fun r_2 h_1 => (r_2 = 0 → (B_RM_digitsWith_14 K  p0 x1 p0 1 h_1)) ∧ (r_2 ≠ 0 → (B_RM_digitsWith_14 K  p0 x1 p0 0 h_1)))
set_option maxRecDepth 100000 in
theorem c_RM_digitsWith {l : Launch} (hfl : l.flags = flags0) {g : zG} {n : Nat} {p0 : Nat} {x1 : Int} (op0 : zO n p0 11) (rx1 : zr x1) {h : zH} (hh : zh h) {K : Int → zH → Prop} (hv : M_RM_digitsWith p0 x1 h K) : zMet l y_RM_digitsWith b_RM_digitsWith 3 (some .int) rm_RM_digitsWith g n [.ref (g.2.2 p0), zi x1] h (zPi K) := by
  refine zMet_of (own := "AliasStreamsModel") hfl (by decide) rfl (Nat.le_of_ble_eq_true rfl) (fun Wf m H0 X E => ?_)
  unfold M_RM_digitsWith at hv
  show zW Wf m 3 g n H0 0 [(0, .ref (g.2.2 p0)), (1, zi x1)] [] h
  refine z_aload_n (pc := 0) (q := 0) X d_RM_digitsWith_0 rfl ?_
  refine z_aload_n (pc := 1) (q := 0) X d_RM_digitsWith_1 rfl ?_
  refine z_iload_n (pc := 2) (q := 1) X d_RM_digitsWith_2 rfl ?_
  refine z_callVi (pc := 3) (As := [zi x1]) (rest := [.ref (g.2.2 p0)]) X (fun l hl => c_RM_isModel hl op0 rx1 hh hv) cf_RM op0 rfl mf_RM_isModel q1201 ⟨⟨by decide, by decide⟩, rfl, rfl⟩ rfl d_RM_digitsWith_3 rfl (Nat.le_of_ble_eq_true rfl) (fun r_2 h_1 rr_2 zh_1 hv => ?_)
  refine z_if_eq (pc := 6) (tgt := 13) X rr_2 d_RM_digitsWith_6 (by decide) (fun hc => ?_) (fun hc => ?_)
  · replace hv := hv.1 hc
    refine z_iconst (pc := 13) X d_RM_digitsWith_13 ?_
    exact s_RM_digitsWith_14 X E  op0 rx1 op0 (show zr 1 from by decide) zh_1 hv
  · replace hv := hv.2 hc
    refine z_iconst (pc := 9) X d_RM_digitsWith_9 ?_
    refine z_goto (pc := 10) (tgt := 14) X d_RM_digitsWith_10 (by decide) ?_
    exact s_RM_digitsWith_14 X E  op0 rx1 op0 (show zr 0 from by decide) zh_1 hv

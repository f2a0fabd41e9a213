/-! 30.RMe (printed by wip/whole/methgen.py) -/
theorem d_RM_productOf_0 : decode b_RM_productOf 0 = .ok (.lconst 1, 1) := by decide +kernel
theorem d_RM_productOf_1 : decode b_RM_productOf 1 = .ok (.lstore 4, 2) := by decide +kernel
theorem d_RM_productOf_3 : decode b_RM_productOf 3 = .ok (.iload_n 2, 1) := by decide +kernel
theorem d_RM_productOf_4 : decode b_RM_productOf 4 = .ok (.istore 6, 2) := by decide +kernel
theorem d_RM_productOf_6 : decode b_RM_productOf 6 = .ok (.iload 6, 2) := by decide +kernel
theorem d_RM_productOf_8 : decode b_RM_productOf 8 = .ok (.iload_n 2, 1) := by decide +kernel
theorem d_RM_productOf_9 : decode b_RM_productOf 9 = .ok (.iload_n 3, 1) := by decide +kernel
theorem d_RM_productOf_10 : decode b_RM_productOf 10 = .ok (.iadd, 1) := by decide +kernel
theorem d_RM_productOf_11 : decode b_RM_productOf 11 = .ok (.if_icmp .ge 41, 3) := by decide +kernel
theorem d_RM_productOf_14 : decode b_RM_productOf 14 = .ok (.iload 6, 2) := by decide +kernel
theorem d_RM_productOf_16 : decode b_RM_productOf 16 = .ok (.aload_n 0, 1) := by decide +kernel
theorem d_RM_productOf_17 : decode b_RM_productOf 17 = .ok (.getfield 99, 3) := by decide +kernel
theorem d_RM_productOf_20 : decode b_RM_productOf 20 = .ok (.if_icmp .ge 32, 3) := by decide +kernel
theorem d_RM_productOf_23 : decode b_RM_productOf 23 = .ok (.lload 4, 2) := by decide +kernel
theorem d_RM_productOf_25 : decode b_RM_productOf 25 = .ok (.aload_n 0, 1) := by decide +kernel
theorem d_RM_productOf_26 : decode b_RM_productOf 26 = .ok (.getfield 42, 3) := by decide +kernel
theorem d_RM_productOf_29 : decode b_RM_productOf 29 = .ok (.bipush 8, 2) := by decide +kernel
theorem d_RM_productOf_31 : decode b_RM_productOf 31 = .ok (.iload_n 1, 1) := by decide +kernel
theorem d_RM_productOf_32 : decode b_RM_productOf 32 = .ok (.imul, 1) := by decide +kernel
theorem d_RM_productOf_33 : decode b_RM_productOf 33 = .ok (.aload_n 0, 1) := by decide +kernel
theorem d_RM_productOf_34 : decode b_RM_productOf 34 = .ok (.getfield 78, 3) := by decide +kernel
theorem d_RM_productOf_37 : decode b_RM_productOf 37 = .ok (.iload 6, 2) := by decide +kernel
theorem d_RM_productOf_39 : decode b_RM_productOf 39 = .ok (.iaload, 1) := by decide +kernel
theorem d_RM_productOf_40 : decode b_RM_productOf 40 = .ok (.iadd, 1) := by decide +kernel
theorem d_RM_productOf_41 : decode b_RM_productOf 41 = .ok (.iaload, 1) := by decide +kernel
theorem d_RM_productOf_42 : decode b_RM_productOf 42 = .ok (.i2l, 1) := by decide +kernel
theorem d_RM_productOf_43 : decode b_RM_productOf 43 = .ok (.lmul, 1) := by decide +kernel
theorem d_RM_productOf_44 : decode b_RM_productOf 44 = .ok (.lstore 4, 2) := by decide +kernel
theorem d_RM_productOf_46 : decode b_RM_productOf 46 = .ok (.iinc 6 1, 3) := by decide +kernel
theorem d_RM_productOf_49 : decode b_RM_productOf 49 = .ok (.goto (-43), 3) := by decide +kernel
theorem d_RM_productOf_52 : decode b_RM_productOf 52 = .ok (.lload 4, 2) := by decide +kernel
theorem d_RM_productOf_54 : decode b_RM_productOf 54 = .ok (.lreturn, 1) := by decide +kernel
def rm_RM_productOf : Room := { frames := 0, cells := 0, slots := 0, locals := 0 }
theorem mf_RM_productOf : zMV y_RM_productOf b_RM_productOf 7 (some .long) 3 := ⟨q1349, qs92, q13, q1350, by decide +kernel⟩
def F_RM_productOf_6 (K : Int → zH → Prop)  (L6 : Int × Int × zH → Prop) (p0 : Nat) (x1 : Int) (x2 : Int) (x3 : Int) (x4 : Int) (x6 : Int) (h : zH) : Prop :=
  zr (x2 + x3) ∧ ((x2 + x3 ≤ x6 → (K x4 h)) ∧ (x6 < x2 + x3 → ((h p0 31 ≤ x6 → (K x4 h)) ∧ (x6 < h p0 31 → (zr (8 * x1) ∧ ((0 ≤ x6 ∧ x6 < 40) ∧ (zr ((8 * x1) + (h (p0 + 21) x6.toNat)) ∧ ((0 ≤ (8 * x1) + (h (p0 + 21) x6.toNat) ∧ (8 * x1) + (h (p0 + 21) x6.toNat) < 24) ∧ (zrl (x4 * (h (p0 + 9) (((8 * x1) + (h (p0 + 21) x6.toNat)).toNat))) ∧ ((∀ x4_7 : Int, x4_7 = x4 * (h (p0 + 9) (((8 * x1) + (h (p0 + 21) x6.toNat)).toNat)) → (zr (x6 + 1) ∧ (L6 (x4_7, x6 + 1, h))))))))))))))
set_option maxRecDepth 100000 in
theorem s_RM_productOf_6 {Wf : Heap → List Loc → JFrame → Prop} {m : MethodId} {g : zG} {n : Nat} {H0 : Heap} (X : zX Wf m rm_RM_productOf b_RM_productOf "AliasStreamsModel" 7 g n H0) {K : Int → zH → Prop} (E : zEx Wf m b_RM_productOf (some .long) 7 g n H0 (zPj K))  {p0 : Nat} {x1 : Int} {x2 : Int} {x3 : Int}  (op0 : zO n p0 11) (rx1 : zr x1) (rx2 : zr x2) (rx3 : zr x3) {q0 : Int × Int × zH} (hv0 : zLoop (fun L q => F_RM_productOf_6 K  L p0 x1 x2 x3 q.1 q.2.1 q.2.2) q0) : zrl q0.1 → zr q0.2.1 → zh (q0.2.2) → zW Wf m 7 g n H0 6 [(0, .ref (g.2.2 p0)), (1, zi x1), (2, zi x2), (3, zi x3), (4, zj q0.1), (6, zi q0.2.1)] [] (q0.2.2) := by
  refine zLoop_use (G := fun q => zrl q.1 → zr q.2.1 → zh (q.2.2) → zW Wf m 7 g n H0 6 [(0, .ref (g.2.2 p0)), (1, zi x1), (2, zi x2), (3, zi x3), (4, zj q.1), (6, zi q.2.1)] [] (q.2.2)) ?_ hv0
  rintro L6 ⟨x4, x6, h⟩ hL6 hv rx4 rx6 hh
  have hv : F_RM_productOf_6 K  L6 p0 x1 x2 x3 x4 x6 h := hv
  unfold F_RM_productOf_6 at hv
  show zW Wf m 7 g n H0 6 [(0, .ref (g.2.2 p0)), (1, zi x1), (2, zi x2), (3, zi x3), (4, zj x4), (6, zi x6)] [] h
  refine z_iload (pc := 6) (q := 5) X d_RM_productOf_6 rfl ?_
  refine z_iload_n (pc := 8) (q := 2) X d_RM_productOf_8 rfl ?_
  refine z_iload_n (pc := 9) (q := 3) X d_RM_productOf_9 rfl ?_
  obtain ⟨v_1, hv⟩ := hv
  refine z_iadd (pc := 10) X d_RM_productOf_10 ?_
  refine z_icmp_ge (pc := 11) (tgt := 52) X rx6 v_1 d_RM_productOf_11 (by decide) (fun hc => ?_) (fun hc => ?_)
  · replace hv := hv.1 hc
    refine z_lload (pc := 52) (q := 4) X d_RM_productOf_52 rfl ?_
    exact E.2.2.2.1 rfl _ _ _ _ d_RM_productOf_54 ⟨_, rfl, rx4, hh, hv⟩
  · replace hv := hv.2 hc
    refine z_iload (pc := 14) (q := 5) X d_RM_productOf_14 rfl ?_
    refine z_aload_n (pc := 16) (q := 0) X d_RM_productOf_16 rfl ?_
    refine z_geti (pc := 17) (j := 31) X cf_RM op0 (by decide) q1052 rfl rfl d_RM_productOf_17 ?_
    refine z_icmp_ge (pc := 20) (tgt := 52) X rx6 (hh.1 _ _ (zO.ne op0 (by decide))) d_RM_productOf_20 (by decide) (fun hc => ?_) (fun hc => ?_)
    · replace hv := hv.1 hc
      refine z_lload (pc := 52) (q := 4) X d_RM_productOf_52 rfl ?_
      exact E.2.2.2.1 rfl _ _ _ _ d_RM_productOf_54 ⟨_, rfl, rx4, hh, hv⟩
    · replace hv := hv.2 hc
      refine z_lload (pc := 23) (q := 4) X d_RM_productOf_23 rfl ?_
      refine z_aload_n (pc := 25) (q := 0) X d_RM_productOf_25 rfl ?_
      refine z_getr (pc := 26) (j := 16) (dd := 9) X cf_RM op0 (by decide) q1037 rfl rfl d_RM_productOf_26 ?_
      refine z_bipush (pc := 29) X d_RM_productOf_29 (by decide) ?_
      refine z_iload_n (pc := 31) (q := 1) X d_RM_productOf_31 rfl ?_
      obtain ⟨v_2, hv⟩ := hv
      refine z_imul (pc := 32) X d_RM_productOf_32 ?_
      refine z_aload_n (pc := 33) (q := 0) X d_RM_productOf_33 rfl ?_
      refine z_getr (pc := 34) (j := 29) (dd := 21) X cf_RM op0 (by decide) q1050 rfl rfl d_RM_productOf_34 ?_
      refine z_iload (pc := 37) (q := 5) X d_RM_productOf_37 rfl ?_
      obtain ⟨v_3, hv⟩ := hv
      refine z_ialdj (pc := 39) (j := x6.toNat) X (gf_RM_29 op0) (gl_RM_29 op0) rx6 v_3 rfl d_RM_productOf_39 ?_
      obtain ⟨v_4, hv⟩ := hv
      refine z_iadd (pc := 40) X d_RM_productOf_40 ?_
      obtain ⟨v_5, hv⟩ := hv
      refine z_ialdj (pc := 41) (j := ((8 * x1) + (h (p0 + 21) x6.toNat)).toNat) X (gf_RM_16 op0) (gl_RM_16 op0) v_4 v_5 rfl d_RM_productOf_41 ?_
      refine z_i2l (pc := 42) X (hh.1 _ _ (zO.ne (gf_RM_16 op0) (by decide))) d_RM_productOf_42 ?_
      obtain ⟨v_6, hv⟩ := hv
      refine z_lmul (pc := 43) X d_RM_productOf_43 ?_
      refine z_topj (fun x4_7 ex4_7 => ?_)
      have rx4_7 : zrl x4_7 := by rw [ex4_7]; exact v_6
      replace hv := hv x4_7 ex4_7
      refine z_lstore (pc := 44) (lv' := [(4, zj x4_7), (0, .ref (g.2.2 p0)), (1, zi x1), (2, zi x2), (3, zi x3), (6, zi x6)]) X d_RM_productOf_44 (by decide) rfl ?_
      obtain ⟨v_8, hv⟩ := hv
      refine z_iinc (pc := 46) (q := 5) (lv' := [(6, zi (x6 + 1)), (4, zj x4_7), (0, .ref (g.2.2 p0)), (1, zi x1), (2, zi x2), (3, zi x3)]) X d_RM_productOf_46 rfl (by decide) rfl ?_
      refine z_goto (pc := 49) (tgt := 6) X d_RM_productOf_49 (by decide) ?_
      refine z_perm [2, 3, 4, 5, 1, 0] rfl ?_
      exact hL6 _ hv rx4_7 v_8 hh
def M_RM_productOf (p0 : Nat) (x1 : Int) (x2 : Int) (x3 : Int) (h : zH) (K : Int → zH → Prop) : Prop :=
  zLoop (fun L q => F_RM_productOf_6 K  L p0 x1 x2 x3 q.1 q.2.1 q.2.2) (1, x2, h)
set_option maxRecDepth 100000 in
theorem c_RM_productOf {l : Launch} (hfl : l.flags = flags0) {g : zG} {n : Nat} {p0 : Nat} {x1 : Int} {x2 : Int} {x3 : Int} (op0 : zO n p0 11) (rx1 : zr x1) (rx2 : zr x2) (rx3 : zr x3) {h : zH} (hh : zh h) {K : Int → zH → Prop} (hv : M_RM_productOf p0 x1 x2 x3 h K) : zMet l y_RM_productOf b_RM_productOf 7 (some .long) rm_RM_productOf g n [.ref (g.2.2 p0), zi x1, zi x2, zi x3] h (zPj K) := by
  refine zMet_of (own := "AliasStreamsModel") hfl (by decide) rfl (Nat.le_of_ble_eq_true rfl) (fun Wf m H0 X E => ?_)
  unfold M_RM_productOf at hv
  show zW Wf m 7 g n H0 0 [(0, .ref (g.2.2 p0)), (1, zi x1), (2, zi x2), (3, zi x3)] [] h
  refine z_lconst (pc := 0) (x := 1) X d_RM_productOf_0 (by decide) ?_
  refine z_lstore (pc := 1) (lv' := [(4, zj 1), (0, .ref (g.2.2 p0)), (1, zi x1), (2, zi x2), (3, zi x3)]) X d_RM_productOf_1 (by decide) rfl ?_
  refine z_iload_n (pc := 3) (q := 3) X d_RM_productOf_3 rfl ?_
  refine z_istore (pc := 4) (lv' := [(6, zi x2), (4, zj 1), (0, .ref (g.2.2 p0)), (1, zi x1), (2, zi x2), (3, zi x3)]) X d_RM_productOf_4 (by decide) rfl ?_
  refine z_perm [2, 3, 4, 5, 1, 0] rfl ?_
  exact s_RM_productOf_6 X E  op0 rx1 rx2 rx3 hv (show zrl 1 from by decide) rx2 hh
theorem d_RM_isSequenced_0 : decode b_RM_isSequenced 0 = .ok (.aload_n 0, 1) := by decide +kernel
theorem d_RM_isSequenced_1 : decode b_RM_isSequenced 1 = .ok (.aload_n 0, 1) := by decide +kernel
theorem d_RM_isSequenced_2 : decode b_RM_isSequenced 2 = .ok (.getfield 23, 3) := by decide +kernel
theorem d_RM_isSequenced_5 : decode b_RM_isSequenced 5 = .ok (.invokevirtual 160, 3) := by decide +kernel
theorem d_RM_isSequenced_8 : decode b_RM_isSequenced 8 = .ok (.iload_n 1, 1) := by decide +kernel
theorem d_RM_isSequenced_9 : decode b_RM_isSequenced 9 = .ok (.i2l, 1) := by decide +kernel
theorem d_RM_isSequenced_10 : decode b_RM_isSequenced 10 = .ok (.lconst 0, 1) := by decide +kernel
theorem d_RM_isSequenced_11 : decode b_RM_isSequenced 11 = .ok (.aload_n 0, 1) := by decide +kernel
theorem d_RM_isSequenced_12 : decode b_RM_isSequenced 12 = .ok (.getfield 99, 3) := by decide +kernel
theorem d_RM_isSequenced_15 : decode b_RM_isSequenced 15 = .ok (.iconst 1, 1) := by decide +kernel
theorem d_RM_isSequenced_16 : decode b_RM_isSequenced 16 = .ok (.isub, 1) := by decide +kernel
theorem d_RM_isSequenced_17 : decode b_RM_isSequenced 17 = .ok (.i2l, 1) := by decide +kernel
theorem d_RM_isSequenced_18 : decode b_RM_isSequenced 18 = .ok (.invokestatic 87, 3) := by decide +kernel
theorem d_RM_isSequenced_21 : decode b_RM_isSequenced 21 = .ok (.ireturn, 1) := by decide +kernel
def rm_RM_isSequenced : Room := { frames := 1, cells := 0, slots := 0, locals := 25 }
theorem mf_RM_isSequenced : zMV y_RM_isSequenced b_RM_isSequenced 2 (some .boolean) 1 := ⟨q1344, qs91, q13, q1345, by decide +kernel⟩
def M_RM_isSequenced (p0 : Nat) (x1 : Int) (h : zH) (K : Int → zH → Prop) : Prop :=
  M_RM_layMessage p0 (p0 + 3) h (fun h_1 => zr ((h_1 p0 31) - 1) ∧ (M_RM_in x1 0 ((h_1 p0 31) - 1) h_1 (fun r_5 h_4 => (r_5 = 0 ∨ r_5 = 1) ∧ K r_5 h_4)))
set_option maxRecDepth 100000 in
theorem c_RM_isSequenced {l : Launch} (hfl : l.flags = flags0) {g : zG} {n : Nat} {p0 : Nat} {x1 : Int} (op0 : zO n p0 11) (rx1 : zr x1) {h : zH} (hh : zh h) {K : Int → zH → Prop} (hv : M_RM_isSequenced p0 x1 h K) : zMet l y_RM_isSequenced b_RM_isSequenced 2 (some .boolean) rm_RM_isSequenced g n [.ref (g.2.2 p0), zi x1] h (zPi K) := by
  refine zMet_of (own := "AliasStreamsModel") hfl (by decide) rfl (Nat.le_of_ble_eq_true rfl) (fun Wf m H0 X E => ?_)
  unfold M_RM_isSequenced at hv
  show zW Wf m 2 g n H0 0 [(0, .ref (g.2.2 p0)), (1, zi x1)] [] h
  refine z_aload_n (pc := 0) (q := 0) X d_RM_isSequenced_0 rfl ?_
  refine z_aload_n (pc := 1) (q := 0) X d_RM_isSequenced_1 rfl ?_
  refine z_getr (pc := 2) (j := 9) (dd := 3) X cf_RM op0 (by decide) q1030 rfl rfl d_RM_isSequenced_2 ?_
  refine z_callVv (pc := 5) (As := [.ref (g.2.2 (p0 + 3))]) (rest := []) X (fun l hl => c_RM_layMessage hl op0 (gf_RM_9 op0) hh hv) cf_RM op0 rfl mf_RM_layMessage q1177 ⟨⟨by decide, by decide⟩, rfl, rfl⟩ rfl d_RM_isSequenced_5 rfl (Nat.le_of_ble_eq_true rfl) (fun h_1 zh_1 hv => ?_)
  refine z_iload_n (pc := 8) (q := 1) X d_RM_isSequenced_8 rfl ?_
  refine z_i2l (pc := 9) X rx1 d_RM_isSequenced_9 ?_
  refine z_lconst (pc := 10) (x := 0) X d_RM_isSequenced_10 (by decide) ?_
  refine z_aload_n (pc := 11) (q := 0) X d_RM_isSequenced_11 rfl ?_
  refine z_geti (pc := 12) (j := 31) X cf_RM op0 (by decide) q1052 rfl rfl d_RM_isSequenced_12 ?_
  refine z_iconst (pc := 15) X d_RM_isSequenced_15 ?_
  obtain ⟨v_3, hv⟩ := hv
  refine z_isub (pc := 16) X d_RM_isSequenced_16 ?_
  refine z_i2l (pc := 17) X v_3 d_RM_isSequenced_17 ?_
  refine z_callSi (pc := 18) (As := [zj x1, zj 0, zj ((h_1 p0 31) - 1)]) (rest := []) X (fun l hl => c_RM_in hl (zr_l rx1) (show zrl 0 from by decide) (zr_l v_3) zh_1 hv) mf_RM_in q1127 ⟨⟨by decide, by decide⟩, rfl, rfl⟩ rfl d_RM_isSequenced_18 rfl (Nat.le_of_ble_eq_true rfl) (fun r_5 h_4 rr_5 zh_4 hv => ?_)
  obtain ⟨v_6, hv⟩ := hv
  exact E.2.2.1 rfl _ _ _ _ v_6 d_RM_isSequenced_21 ⟨_, rfl, rr_5, zh_4, hv⟩
theorem d_RM_product_0 : decode b_RM_product 0 = .ok (.aload_n 0, 1) := by decide +kernel
theorem d_RM_product_1 : decode b_RM_product 1 = .ok (.aload_n 0, 1) := by decide +kernel
theorem d_RM_product_2 : decode b_RM_product 2 = .ok (.iload_n 1, 1) := by decide +kernel
theorem d_RM_product_3 : decode b_RM_product 3 = .ok (.invokevirtual 167, 3) := by decide +kernel
theorem d_RM_product_6 : decode b_RM_product 6 = .ok (.ifCond .eq 11, 3) := by decide +kernel
theorem d_RM_product_9 : decode b_RM_product 9 = .ok (.aload_n 0, 1) := by decide +kernel
theorem d_RM_product_10 : decode b_RM_product 10 = .ok (.iload_n 2, 1) := by decide +kernel
theorem d_RM_product_11 : decode b_RM_product 11 = .ok (.invokevirtual 233, 3) := by decide +kernel
theorem d_RM_product_14 : decode b_RM_product 14 = .ok (.ifCond .ne 7, 3) := by decide +kernel
theorem d_RM_product_17 : decode b_RM_product 17 = .ok (.iconst 1, 1) := by decide +kernel
theorem d_RM_product_18 : decode b_RM_product 18 = .ok (.goto 20, 3) := by decide +kernel
theorem d_RM_product_21 : decode b_RM_product 21 = .ok (.iload_n 3, 1) := by decide +kernel
theorem d_RM_product_22 : decode b_RM_product 22 = .ok (.i2l, 1) := by decide +kernel
theorem d_RM_product_23 : decode b_RM_product 23 = .ok (.lconst 1, 1) := by decide +kernel
theorem d_RM_product_24 : decode b_RM_product 24 = .ok (.ldc2_w 236, 3) := by decide +kernel
theorem d_RM_product_27 : decode b_RM_product 27 = .ok (.invokestatic 87, 3) := by decide +kernel
theorem d_RM_product_30 : decode b_RM_product 30 = .ok (.ifCond .ne 7, 3) := by decide +kernel
theorem d_RM_product_33 : decode b_RM_product 33 = .ok (.iconst 2, 1) := by decide +kernel
theorem d_RM_product_34 : decode b_RM_product 34 = .ok (.goto 4, 3) := by decide +kernel
theorem d_RM_product_37 : decode b_RM_product 37 = .ok (.iconst 0, 1) := by decide +kernel
theorem d_RM_product_38 : decode b_RM_product 38 = .ok (.invokevirtual 114, 3) := by decide +kernel
theorem d_RM_product_41 : decode b_RM_product 41 = .ok (.ifCond .eq 5, 3) := by decide +kernel
theorem d_RM_product_44 : decode b_RM_product 44 = .ok (.lconst 0, 1) := by decide +kernel
theorem d_RM_product_45 : decode b_RM_product 45 = .ok (.lreturn, 1) := by decide +kernel
theorem d_RM_product_46 : decode b_RM_product 46 = .ok (.aload_n 0, 1) := by decide +kernel
theorem d_RM_product_47 : decode b_RM_product 47 = .ok (.aload_n 0, 1) := by decide +kernel
theorem d_RM_product_48 : decode b_RM_product 48 = .ok (.getfield 23, 3) := by decide +kernel
theorem d_RM_product_51 : decode b_RM_product 51 = .ok (.invokevirtual 164, 3) := by decide +kernel
theorem d_RM_product_54 : decode b_RM_product 54 = .ok (.aload_n 0, 1) := by decide +kernel
theorem d_RM_product_55 : decode b_RM_product 55 = .ok (.iload_n 1, 1) := by decide +kernel
theorem d_RM_product_56 : decode b_RM_product 56 = .ok (.iload_n 2, 1) := by decide +kernel
theorem d_RM_product_57 : decode b_RM_product 57 = .ok (.iload_n 3, 1) := by decide +kernel
theorem d_RM_product_58 : decode b_RM_product 58 = .ok (.invokevirtual 238, 3) := by decide +kernel
theorem d_RM_product_61 : decode b_RM_product 61 = .ok (.lreturn, 1) := by decide +kernel
def rm_RM_product : Room := { frames := 2, cells := 0, slots := 0, locals := 50 }
theorem mf_RM_product : zMV y_RM_product b_RM_product 4 (some .long) 3 := ⟨q1339, q1340, q13, q1341, by decide +kernel⟩
def B_RM_product_38 (K : Int → zH → Prop)  (p0 : Nat) (x1 : Int) (x2 : Int) (x3 : Int) (w0 : Nat) (u1 : Int) (h : zH) : Prop :=
  M_RM_refused w0 u1 h (fun r_2 h_1 => (r_2 = 0 → (M_RM_layTables p0 (p0 + 3) h_1 (fun h_3 => M_RM_productOf p0 x1 x2 x3 h_3 (fun r_6 h_5 => K r_6 h_5)))) ∧ (r_2 ≠ 0 → (K 0 h_1)))
set_option maxRecDepth 100000 in
theorem s_RM_product_38 {Wf : Heap → List Loc → JFrame → Prop} {m : MethodId} {g : zG} {n : Nat} {H0 : Heap} (X : zX Wf m rm_RM_product b_RM_product "AliasStreamsModel" 4 g n H0) {K : Int → zH → Prop} (E : zEx Wf m b_RM_product (some .long) 4 g n H0 (zPj K))  {p0 : Nat} {x1 : Int} {x2 : Int} {x3 : Int}  (op0 : zO n p0 11) (rx1 : zr x1) (rx2 : zr x2) (rx3 : zr x3) {w0 : Nat} {u1 : Int} (ow0 : zO n w0 11) (ru1 : zr u1) {h : zH} (hh : zh h) (hv : B_RM_product_38 K  p0 x1 x2 x3 w0 u1 h) : zW Wf m 4 g n H0 38 [(0, .ref (g.2.2 p0)), (1, zi x1), (2, zi x2), (3, zi x3)] [zi u1, .ref (g.2.2 w0)] h := by
  unfold B_RM_product_38 at hv
  refine z_callVi (pc := 38) (As := [zi u1]) (rest := []) X (fun l hl => c_RM_refused hl ow0 ru1 hh hv) cf_RM ow0 rfl mf_RM_refused q1130 ⟨⟨by decide, by decide⟩, rfl, rfl⟩ rfl d_RM_product_38 rfl (Nat.le_of_ble_eq_true rfl) (fun r_2 h_1 rr_2 zh_1 hv => ?_)
  refine z_if_eq (pc := 41) (tgt := 46) X rr_2 d_RM_product_41 (by decide) (fun hc => ?_) (fun hc => ?_)
  · replace hv := hv.1 hc
    refine z_aload_n (pc := 46) (q := 0) X d_RM_product_46 rfl ?_
    refine z_aload_n (pc := 47) (q := 0) X d_RM_product_47 rfl ?_
    refine z_getr (pc := 48) (j := 9) (dd := 3) X cf_RM op0 (by decide) q1030 rfl rfl d_RM_product_48 ?_
    refine z_callVv (pc := 51) (As := [.ref (g.2.2 (p0 + 3))]) (rest := []) X (fun l hl => c_RM_layTables hl op0 (gf_RM_9 op0) zh_1 hv) cf_RM op0 rfl mf_RM_layTables q1181 ⟨⟨by decide, by decide⟩, rfl, rfl⟩ rfl d_RM_product_51 rfl (Nat.le_of_ble_eq_true rfl) (fun h_3 zh_3 hv => ?_)
    refine z_aload_n (pc := 54) (q := 0) X d_RM_product_54 rfl ?_
    refine z_iload_n (pc := 55) (q := 1) X d_RM_product_55 rfl ?_
    refine z_iload_n (pc := 56) (q := 2) X d_RM_product_56 rfl ?_
    refine z_iload_n (pc := 57) (q := 3) X d_RM_product_57 rfl ?_
    refine z_callVj (pc := 58) (As := [zi x1, zi x2, zi x3]) (rest := []) X (fun l hl => c_RM_productOf hl op0 rx1 rx2 rx3 zh_3 hv) cf_RM op0 rfl mf_RM_productOf q1347 ⟨⟨by decide, by decide⟩, rfl, rfl⟩ rfl d_RM_product_58 rfl (Nat.le_of_ble_eq_true rfl) (fun r_6 h_5 rr_6 zh_5 hv => ?_)
    exact E.2.2.2.1 rfl _ _ _ _ d_RM_product_61 ⟨_, rfl, rr_6, zh_5, hv⟩
  · replace hv := hv.2 hc
    refine z_lconst (pc := 44) (x := 0) X d_RM_product_44 (by decide) ?_
    exact E.2.2.2.1 rfl _ _ _ _ d_RM_product_45 ⟨_, rfl, (show zrl 0 from by decide), zh_1, hv⟩
def B_RM_product_17 (K : Int → zH → Prop)  (p0 : Nat) (x1 : Int) (x2 : Int) (x3 : Int) (w0 : Nat) (h : zH) : Prop :=
  B_RM_product_38 K  p0 x1 x2 x3 w0 1 h
set_option maxRecDepth 100000 in
theorem s_RM_product_17 {Wf : Heap → List Loc → JFrame → Prop} {m : MethodId} {g : zG} {n : Nat} {H0 : Heap} (X : zX Wf m rm_RM_product b_RM_product "AliasStreamsModel" 4 g n H0) {K : Int → zH → Prop} (E : zEx Wf m b_RM_product (some .long) 4 g n H0 (zPj K))  {p0 : Nat} {x1 : Int} {x2 : Int} {x3 : Int}  (op0 : zO n p0 11) (rx1 : zr x1) (rx2 : zr x2) (rx3 : zr x3) {w0 : Nat} (ow0 : zO n w0 11) {h : zH} (hh : zh h) (hv : B_RM_product_17 K  p0 x1 x2 x3 w0 h) : zW Wf m 4 g n H0 17 [(0, .ref (g.2.2 p0)), (1, zi x1), (2, zi x2), (3, zi x3)] [.ref (g.2.2 w0)] h := by
  unfold B_RM_product_17 at hv
  refine z_iconst (pc := 17) X d_RM_product_17 ?_
  refine z_goto (pc := 18) (tgt := 38) X d_RM_product_18 (by decide) ?_
  exact s_RM_product_38 X E  op0 rx1 rx2 rx3 ow0 (show zr 1 from by decide) hh hv
def M_RM_product (p0 : Nat) (x1 : Int) (x2 : Int) (x3 : Int) (h : zH) (K : Int → zH → Prop) : Prop :=
  M_RM_isModel p0 x1 h (fun r_2 h_1 => (r_2 = 0 → (B_RM_product_17 K  p0 x1 x2 x3 p0 h_1)) ∧ (r_2 ≠ 0 → (M_RM_isSequenced p0 x2 h_1 (fun r_4 h_3 => (r_4 ≠ 0 → (M_RM_in x3 1 12 h_3 (fun r_6 h_5 => (r_6 ≠ 0 → (B_RM_product_38 K  p0 x1 x2 x3 p0 0 h_5)) ∧ (r_6 = 0 → (B_RM_product_38 K  p0 x1 x2 x3 p0 2 h_5))))) ∧ (r_4 = 0 → (B_RM_product_17 K  p0 x1 x2 x3 p0 h_3))))))
set_option maxRecDepth 100000 in
theorem c_RM_product {l : Launch} (hfl : l.flags = flags0) {g : zG} {n : Nat} {p0 : Nat} {x1 : Int} {x2 : Int} {x3 : Int} (op0 : zO n p0 11) (rx1 : zr x1) (rx2 : zr x2) (rx3 : zr x3) {h : zH} (hh : zh h) {K : Int → zH → Prop} (hv : M_RM_product p0 x1 x2 x3 h K) : zMet l y_RM_product b_RM_product 4 (some .long) rm_RM_product g n [.ref (g.2.2 p0), zi x1, zi x2, zi x3] h (zPj K) := by
  refine zMet_of (own := "AliasStreamsModel") hfl (by decide) rfl (Nat.le_of_ble_eq_true rfl) (fun Wf m H0 X E => ?_)
  unfold M_RM_product at hv
  show zW Wf m 4 g n H0 0 [(0, .ref (g.2.2 p0)), (1, zi x1), (2, zi x2), (3, zi x3)] [] h
  refine z_aload_n (pc := 0) (q := 0) X d_RM_product_0 rfl ?_
  refine z_aload_n (pc := 1) (q := 0) X d_RM_product_1 rfl ?_
  refine z_iload_n (pc := 2) (q := 1) X d_RM_product_2 rfl ?_
  refine z_callVi (pc := 3) (As := [zi x1]) (rest := [.ref (g.2.2 p0)]) X (fun l hl => c_RM_isModel hl op0 rx1 hh hv) cf_RM op0 rfl mf_RM_isModel q1201 ⟨⟨by decide, by decide⟩, rfl, rfl⟩ rfl d_RM_product_3 rfl (Nat.le_of_ble_eq_true rfl) (fun r_2 h_1 rr_2 zh_1 hv => ?_)
  refine z_if_eq (pc := 6) (tgt := 17) X rr_2 d_RM_product_6 (by decide) (fun hc => ?_) (fun hc => ?_)
  · replace hv := hv.1 hc
    exact s_RM_product_17 X E  op0 rx1 rx2 rx3 op0 zh_1 hv
  · replace hv := hv.2 hc
    refine z_aload_n (pc := 9) (q := 0) X d_RM_product_9 rfl ?_
    refine z_iload_n (pc := 10) (q := 2) X d_RM_product_10 rfl ?_
    refine z_callVi (pc := 11) (As := [zi x2]) (rest := [.ref (g.2.2 p0)]) X (fun l hl => c_RM_isSequenced hl op0 rx2 zh_1 hv) cf_RM op0 rfl mf_RM_isSequenced q1342 ⟨⟨by decide, by decide⟩, rfl, rfl⟩ rfl d_RM_product_11 rfl (Nat.le_of_ble_eq_true rfl) (fun r_4 h_3 rr_4 zh_3 hv => ?_)
    refine z_if_ne (pc := 14) (tgt := 21) X rr_4 d_RM_product_14 (by decide) (fun hc => ?_) (fun hc => ?_)
    · replace hv := hv.1 hc
      refine z_iload_n (pc := 21) (q := 3) X d_RM_product_21 rfl ?_
      refine z_i2l (pc := 22) X rx3 d_RM_product_22 ?_
      refine z_lconst (pc := 23) (x := 1) X d_RM_product_23 (by decide) ?_
      refine z_ldc2 (pc := 24) (x := 12) X d_RM_product_24 q1346 (by decide) ?_
      refine z_callSi (pc := 27) (As := [zj x3, zj 1, zj 12]) (rest := [.ref (g.2.2 p0)]) X (fun l hl => c_RM_in hl (zr_l rx3) (show zrl 1 from by decide) (show zrl 12 from by decide) zh_3 hv) mf_RM_in q1127 ⟨⟨by decide, by decide⟩, rfl, rfl⟩ rfl d_RM_product_27 rfl (Nat.le_of_ble_eq_true rfl) (fun r_6 h_5 rr_6 zh_5 hv => ?_)
      refine z_if_ne (pc := 30) (tgt := 37) X rr_6 d_RM_product_30 (by decide) (fun hc => ?_) (fun hc => ?_)
      · replace hv := hv.1 hc
        refine z_iconst (pc := 37) X d_RM_product_37 ?_
        exact s_RM_product_38 X E  op0 rx1 rx2 rx3 op0 (show zr 0 from by decide) zh_5 hv
      · replace hv := hv.2 hc
        refine z_iconst (pc := 33) X d_RM_product_33 ?_
        refine z_goto (pc := 34) (tgt := 38) X d_RM_product_34 (by decide) ?_
        exact s_RM_product_38 X E  op0 rx1 rx2 rx3 op0 (show zr 2 from by decide) zh_5 hv
    · replace hv := hv.2 hc
      exact s_RM_product_17 X E  op0 rx1 rx2 rx3 op0 zh_3 hv
theorem d_RM_bestModel_0 : decode b_RM_bestModel 0 = .ok (.aload_n 0, 1) := by decide +kernel
theorem d_RM_bestModel_1 : decode b_RM_bestModel 1 = .ok (.aload_n 0, 1) := by decide +kernel
theorem d_RM_bestModel_2 : decode b_RM_bestModel 2 = .ok (.iload_n 1, 1) := by decide +kernel
theorem d_RM_bestModel_3 : decode b_RM_bestModel 3 = .ok (.invokevirtual 233, 3) := by decide +kernel
theorem d_RM_bestModel_6 : decode b_RM_bestModel 6 = .ok (.ifCond .ne 7, 3) := by decide +kernel
theorem d_RM_bestModel_9 : decode b_RM_bestModel 9 = .ok (.iconst 1, 1) := by decide +kernel
theorem d_RM_bestModel_10 : decode b_RM_bestModel 10 = .ok (.goto 20, 3) := by decide +kernel
theorem d_RM_bestModel_13 : decode b_RM_bestModel 13 = .ok (.iload_n 2, 1) := by decide +kernel
theorem d_RM_bestModel_14 : decode b_RM_bestModel 14 = .ok (.i2l, 1) := by decide +kernel
theorem d_RM_bestModel_15 : decode b_RM_bestModel 15 = .ok (.lconst 1, 1) := by decide +kernel
theorem d_RM_bestModel_16 : decode b_RM_bestModel 16 = .ok (.ldc2_w 236, 3) := by decide +kernel
theorem d_RM_bestModel_19 : decode b_RM_bestModel 19 = .ok (.invokestatic 87, 3) := by decide +kernel
theorem d_RM_bestModel_22 : decode b_RM_bestModel 22 = .ok (.ifCond .ne 7, 3) := by decide +kernel
theorem d_RM_bestModel_25 : decode b_RM_bestModel 25 = .ok (.iconst 2, 1) := by decide +kernel
theorem d_RM_bestModel_26 : decode b_RM_bestModel 26 = .ok (.goto 4, 3) := by decide +kernel
theorem d_RM_bestModel_29 : decode b_RM_bestModel 29 = .ok (.iconst 0, 1) := by decide +kernel
theorem d_RM_bestModel_30 : decode b_RM_bestModel 30 = .ok (.invokevirtual 114, 3) := by decide +kernel
theorem d_RM_bestModel_33 : decode b_RM_bestModel 33 = .ok (.ifCond .eq 5, 3) := by decide +kernel
theorem d_RM_bestModel_36 : decode b_RM_bestModel 36 = .ok (.iconst 0, 1) := by decide +kernel
theorem d_RM_bestModel_37 : decode b_RM_bestModel 37 = .ok (.ireturn, 1) := by decide +kernel
theorem d_RM_bestModel_38 : decode b_RM_bestModel 38 = .ok (.aload_n 0, 1) := by decide +kernel
theorem d_RM_bestModel_39 : decode b_RM_bestModel 39 = .ok (.aload_n 0, 1) := by decide +kernel
theorem d_RM_bestModel_40 : decode b_RM_bestModel 40 = .ok (.getfield 23, 3) := by decide +kernel
theorem d_RM_bestModel_43 : decode b_RM_bestModel 43 = .ok (.invokevirtual 164, 3) := by decide +kernel
theorem d_RM_bestModel_46 : decode b_RM_bestModel 46 = .ok (.iconst 0, 1) := by decide +kernel
theorem d_RM_bestModel_47 : decode b_RM_bestModel 47 = .ok (.istore_n 3, 1) := by decide +kernel
theorem d_RM_bestModel_48 : decode b_RM_bestModel 48 = .ok (.iconst 1, 1) := by decide +kernel
theorem d_RM_bestModel_49 : decode b_RM_bestModel 49 = .ok (.istore 4, 2) := by decide +kernel
theorem d_RM_bestModel_51 : decode b_RM_bestModel 51 = .ok (.iload 4, 2) := by decide +kernel
theorem d_RM_bestModel_53 : decode b_RM_bestModel 53 = .ok (.aload_n 0, 1) := by decide +kernel
theorem d_RM_bestModel_54 : decode b_RM_bestModel 54 = .ok (.getfield 17, 3) := by decide +kernel
theorem d_RM_bestModel_57 : decode b_RM_bestModel 57 = .ok (.if_icmp .ge 35, 3) := by decide +kernel
theorem d_RM_bestModel_60 : decode b_RM_bestModel 60 = .ok (.aload_n 0, 1) := by decide +kernel
theorem d_RM_bestModel_61 : decode b_RM_bestModel 61 = .ok (.iload 4, 2) := by decide +kernel
theorem d_RM_bestModel_63 : decode b_RM_bestModel 63 = .ok (.iload_n 1, 1) := by decide +kernel
theorem d_RM_bestModel_64 : decode b_RM_bestModel 64 = .ok (.iload_n 2, 1) := by decide +kernel
theorem d_RM_bestModel_65 : decode b_RM_bestModel 65 = .ok (.invokevirtual 238, 3) := by decide +kernel
theorem d_RM_bestModel_68 : decode b_RM_bestModel 68 = .ok (.aload_n 0, 1) := by decide +kernel
theorem d_RM_bestModel_69 : decode b_RM_bestModel 69 = .ok (.iload_n 3, 1) := by decide +kernel
theorem d_RM_bestModel_70 : decode b_RM_bestModel 70 = .ok (.iload_n 1, 1) := by decide +kernel
theorem d_RM_bestModel_71 : decode b_RM_bestModel 71 = .ok (.iload_n 2, 1) := by decide +kernel
theorem d_RM_bestModel_72 : decode b_RM_bestModel 72 = .ok (.invokevirtual 238, 3) := by decide +kernel
theorem d_RM_bestModel_75 : decode b_RM_bestModel 75 = .ok (.lcmp, 1) := by decide +kernel
theorem d_RM_bestModel_76 : decode b_RM_bestModel 76 = .ok (.ifCond .le 8, 3) := by decide +kernel
theorem d_RM_bestModel_79 : decode b_RM_bestModel 79 = .ok (.iload 4, 2) := by decide +kernel
theorem d_RM_bestModel_81 : decode b_RM_bestModel 81 = .ok (.goto 4, 3) := by decide +kernel
theorem d_RM_bestModel_84 : decode b_RM_bestModel 84 = .ok (.iload_n 3, 1) := by decide +kernel
theorem d_RM_bestModel_85 : decode b_RM_bestModel 85 = .ok (.istore_n 3, 1) := by decide +kernel
theorem d_RM_bestModel_86 : decode b_RM_bestModel 86 = .ok (.iinc 4 1, 3) := by decide +kernel
theorem d_RM_bestModel_89 : decode b_RM_bestModel 89 = .ok (.goto (-38), 3) := by decide +kernel
theorem d_RM_bestModel_92 : decode b_RM_bestModel 92 = .ok (.iload_n 3, 1) := by decide +kernel
theorem d_RM_bestModel_93 : decode b_RM_bestModel 93 = .ok (.ireturn, 1) := by decide +kernel
def rm_RM_bestModel : Room := { frames := 2, cells := 0, slots := 0, locals := 50 }
theorem mf_RM_bestModel : zMV y_RM_bestModel b_RM_bestModel 5 (some .int) 2 := ⟨q1352, q1353, q13, q1354, by decide +kernel⟩
def F_RM_bestModel_51 (K : Int → zH → Prop)  (L51 : Int × Int × zH → Prop) (p0 : Nat) (x1 : Int) (x2 : Int) (x3 : Int) (x4 : Int) (h : zH) : Prop :=
  (h p0 5 ≤ x4 → (K x3 h)) ∧ (x4 < h p0 5 → (M_RM_productOf p0 x4 x1 x2 h (fun r_2 h_1 => M_RM_productOf p0 x3 x1 x2 h_1 (fun r_4 h_3 => (r_2 ≤ r_4 → (zr (x4 + 1) ∧ (L51 (x3, x4 + 1, h_3)))) ∧ (r_4 < r_2 → (zr (x4 + 1) ∧ (L51 (x4, x4 + 1, h_3))))))))
set_option maxRecDepth 100000 in
theorem s_RM_bestModel_51 {Wf : Heap → List Loc → JFrame → Prop} {m : MethodId} {g : zG} {n : Nat} {H0 : Heap} (X : zX Wf m rm_RM_bestModel b_RM_bestModel "AliasStreamsModel" 5 g n H0) {K : Int → zH → Prop} (E : zEx Wf m b_RM_bestModel (some .int) 5 g n H0 (zPi K))  {p0 : Nat} {x1 : Int} {x2 : Int}  (op0 : zO n p0 11) (rx1 : zr x1) (rx2 : zr x2) {q0 : Int × Int × zH} (hv0 : zLoop (fun L q => F_RM_bestModel_51 K  L p0 x1 x2 q.1 q.2.1 q.2.2) q0) : zr q0.1 → zr q0.2.1 → zh (q0.2.2) → zW Wf m 5 g n H0 51 [(0, .ref (g.2.2 p0)), (1, zi x1), (2, zi x2), (3, zi q0.1), (4, zi q0.2.1)] [] (q0.2.2) := by
  refine zLoop_use (G := fun q => zr q.1 → zr q.2.1 → zh (q.2.2) → zW Wf m 5 g n H0 51 [(0, .ref (g.2.2 p0)), (1, zi x1), (2, zi x2), (3, zi q.1), (4, zi q.2.1)] [] (q.2.2)) ?_ hv0
  rintro L51 ⟨x3, x4, h⟩ hL51 hv rx3 rx4 hh
  have hv : F_RM_bestModel_51 K  L51 p0 x1 x2 x3 x4 h := hv
  unfold F_RM_bestModel_51 at hv
  show zW Wf m 5 g n H0 51 [(0, .ref (g.2.2 p0)), (1, zi x1), (2, zi x2), (3, zi x3), (4, zi x4)] [] h
  refine z_iload (pc := 51) (q := 4) X d_RM_bestModel_51 rfl ?_
  refine z_aload_n (pc := 53) (q := 0) X d_RM_bestModel_53 rfl ?_
  refine z_geti (pc := 54) (j := 5) X cf_RM op0 (by decide) q1026 rfl rfl d_RM_bestModel_54 ?_
  refine z_icmp_ge (pc := 57) (tgt := 92) X rx4 (hh.1 _ _ (zO.ne op0 (by decide))) d_RM_bestModel_57 (by decide) (fun hc => ?_) (fun hc => ?_)
  · replace hv := hv.1 hc
    refine z_iload_n (pc := 92) (q := 3) X d_RM_bestModel_92 rfl ?_
    exact E.2.1 rfl _ _ _ _ d_RM_bestModel_93 ⟨_, rfl, rx3, hh, hv⟩
  · replace hv := hv.2 hc
    refine z_aload_n (pc := 60) (q := 0) X d_RM_bestModel_60 rfl ?_
    refine z_iload (pc := 61) (q := 4) X d_RM_bestModel_61 rfl ?_
    refine z_iload_n (pc := 63) (q := 1) X d_RM_bestModel_63 rfl ?_
    refine z_iload_n (pc := 64) (q := 2) X d_RM_bestModel_64 rfl ?_
    refine z_callVj (pc := 65) (As := [zi x4, zi x1, zi x2]) (rest := []) X (fun l hl => c_RM_productOf hl op0 rx4 rx1 rx2 hh hv) cf_RM op0 rfl mf_RM_productOf q1347 ⟨⟨by decide, by decide⟩, rfl, rfl⟩ rfl d_RM_bestModel_65 rfl (Nat.le_of_ble_eq_true rfl) (fun r_2 h_1 rr_2 zh_1 hv => ?_)
    refine z_aload_n (pc := 68) (q := 0) X d_RM_bestModel_68 rfl ?_
    refine z_iload_n (pc := 69) (q := 3) X d_RM_bestModel_69 rfl ?_
    refine z_iload_n (pc := 70) (q := 1) X d_RM_bestModel_70 rfl ?_
    refine z_iload_n (pc := 71) (q := 2) X d_RM_bestModel_71 rfl ?_
    refine z_callVj (pc := 72) (As := [zi x3, zi x1, zi x2]) (rest := [zj r_2]) X (fun l hl => c_RM_productOf hl op0 rx3 rx1 rx2 zh_1 hv) cf_RM op0 rfl mf_RM_productOf q1347 ⟨⟨by decide, by decide⟩, rfl, rfl⟩ rfl d_RM_bestModel_72 rfl (Nat.le_of_ble_eq_true rfl) (fun r_4 h_3 rr_4 zh_3 hv => ?_)
    refine z_lif_le (pc := 75) (tgt := 84) X rr_2 rr_4 d_RM_bestModel_75 d_RM_bestModel_76 (by decide) (fun hc => ?_) (fun hc => ?_)
    · replace hv := hv.1 hc
      refine z_iload_n (pc := 84) (q := 3) X d_RM_bestModel_84 rfl ?_
      refine z_istore_n (pc := 85) (lv' := [(3, zi x3), (0, .ref (g.2.2 p0)), (1, zi x1), (2, zi x2), (4, zi x4)]) X d_RM_bestModel_85 (by decide) rfl ?_
      obtain ⟨v_5, hv⟩ := hv
      refine z_iinc (pc := 86) (q := 4) (lv' := [(4, zi (x4 + 1)), (3, zi x3), (0, .ref (g.2.2 p0)), (1, zi x1), (2, zi x2)]) X d_RM_bestModel_86 rfl (by decide) rfl ?_
      refine z_goto (pc := 89) (tgt := 51) X d_RM_bestModel_89 (by decide) ?_
      refine z_perm [2, 3, 4, 1, 0] rfl ?_
      exact hL51 _ hv rx3 v_5 zh_3
    · replace hv := hv.2 hc
      refine z_iload (pc := 79) (q := 4) X d_RM_bestModel_79 rfl ?_
      refine z_goto (pc := 81) (tgt := 85) X d_RM_bestModel_81 (by decide) ?_
      refine z_istore_n (pc := 85) (lv' := [(3, zi x4), (0, .ref (g.2.2 p0)), (1, zi x1), (2, zi x2), (4, zi x4)]) X d_RM_bestModel_85 (by decide) rfl ?_
      obtain ⟨v_6, hv⟩ := hv
      refine z_iinc (pc := 86) (q := 4) (lv' := [(4, zi (x4 + 1)), (3, zi x4), (0, .ref (g.2.2 p0)), (1, zi x1), (2, zi x2)]) X d_RM_bestModel_86 rfl (by decide) rfl ?_
      refine z_goto (pc := 89) (tgt := 51) X d_RM_bestModel_89 (by decide) ?_
      refine z_perm [2, 3, 4, 1, 0] rfl ?_
      exact hL51 _ hv rx4 v_6 zh_3
def B_RM_bestModel_30 (K : Int → zH → Prop)  (p0 : Nat) (x1 : Int) (x2 : Int) (w0 : Nat) (u1 : Int) (h : zH) : Prop :=
  M_RM_refused w0 u1 h (fun r_2 h_1 => (r_2 = 0 → (M_RM_layTables p0 (p0 + 3) h_1 (fun h_3 => zLoop (fun L q => F_RM_bestModel_51 K  L p0 x1 x2 q.1 q.2.1 q.2.2) (0, 1, h_3)))) ∧ (r_2 ≠ 0 → (K 0 h_1)))
set_option maxRecDepth 100000 in
theorem s_RM_bestModel_30 {Wf : Heap → List Loc → JFrame → Prop} {m : MethodId} {g : zG} {n : Nat} {H0 : Heap} (X : zX Wf m rm_RM_bestModel b_RM_bestModel "AliasStreamsModel" 5 g n H0) {K : Int → zH → Prop} (E : zEx Wf m b_RM_bestModel (some .int) 5 g n H0 (zPi K))  {p0 : Nat} {x1 : Int} {x2 : Int}  (op0 : zO n p0 11) (rx1 : zr x1) (rx2 : zr x2) {w0 : Nat} {u1 : Int} (ow0 : zO n w0 11) (ru1 : zr u1) {h : zH} (hh : zh h) (hv : B_RM_bestModel_30 K  p0 x1 x2 w0 u1 h) : zW Wf m 5 g n H0 30 [(0, .ref (g.2.2 p0)), (1, zi x1), (2, zi x2)] [zi u1, .ref (g.2.2 w0)] h := by
  unfold B_RM_bestModel_30 at hv
  refine z_callVi (pc := 30) (As := [zi u1]) (rest := []) X (fun l hl => c_RM_refused hl ow0 ru1 hh hv) cf_RM ow0 rfl mf_RM_refused q1130 ⟨⟨by decide, by decide⟩, rfl, rfl⟩ rfl d_RM_bestModel_30 rfl (Nat.le_of_ble_eq_true rfl) (fun r_2 h_1 rr_2 zh_1 hv => ?_)
  refine z_if_eq (pc := 33) (tgt := 38) X rr_2 d_RM_bestModel_33 (by decide) (fun hc => ?_) (fun hc => ?_)
  · replace hv := hv.1 hc
    refine z_aload_n (pc := 38) (q := 0) X d_RM_bestModel_38 rfl ?_
    refine z_aload_n (pc := 39) (q := 0) X d_RM_bestModel_39 rfl ?_
    refine z_getr (pc := 40) (j := 9) (dd := 3) X cf_RM op0 (by decide) q1030 rfl rfl d_RM_bestModel_40 ?_
    refine z_callVv (pc := 43) (As := [.ref (g.2.2 (p0 + 3))]) (rest := []) X (fun l hl => c_RM_layTables hl op0 (gf_RM_9 op0) zh_1 hv) cf_RM op0 rfl mf_RM_layTables q1181 ⟨⟨by decide, by decide⟩, rfl, rfl⟩ rfl d_RM_bestModel_43 rfl (Nat.le_of_ble_eq_true rfl) (fun h_3 zh_3 hv => ?_)
    refine z_iconst (pc := 46) X d_RM_bestModel_46 ?_
    refine z_istore_n (pc := 47) (lv' := [(3, zi 0), (0, .ref (g.2.2 p0)), (1, zi x1), (2, zi x2)]) X d_RM_bestModel_47 (by decide) rfl ?_
    refine z_iconst (pc := 48) X d_RM_bestModel_48 ?_
    refine z_istore (pc := 49) (lv' := [(4, zi 1), (3, zi 0), (0, .ref (g.2.2 p0)), (1, zi x1), (2, zi x2)]) X d_RM_bestModel_49 (by decide) rfl ?_
    refine z_perm [2, 3, 4, 1, 0] rfl ?_
    exact s_RM_bestModel_51 X E  op0 rx1 rx2 hv (show zr 0 from by decide) (show zr 1 from by decide) zh_3
  · replace hv := hv.2 hc
    refine z_iconst (pc := 36) X d_RM_bestModel_36 ?_
    exact E.2.1 rfl _ _ _ _ d_RM_bestModel_37 ⟨_, rfl, (show zr 0 from by decide), zh_1, hv⟩
def M_RM_bestModel (p0 : Nat) (x1 : Int) (x2 : Int) (h : zH) (K : Int → zH → Prop) : Prop :=
  M_RM_isSequenced p0 x1 h (fun r_2 h_1 => (r_2 ≠ 0 → (M_RM_in x2 1 12 h_1 (fun r_4 h_3 => (r_4 ≠ 0 → (B_RM_bestModel_30 K  p0 x1 x2 p0 0 h_3)) ∧ (r_4 = 0 → (B_RM_bestModel_30 K  p0 x1 x2 p0 2 h_3))))) ∧ (r_2 = 0 → (B_RM_bestModel_30 K  p0 x1 x2 p0 1 h_1)))
set_option maxRecDepth 100000 in
theorem c_RM_bestModel {l : Launch} (hfl : l.flags = flags0) {g : zG} {n : Nat} {p0 : Nat} {x1 : Int} {x2 : Int} (op0 : zO n p0 11) (rx1 : zr x1) (rx2 : zr x2) {h : zH} (hh : zh h) {K : Int → zH → Prop} (hv : M_RM_bestModel p0 x1 x2 h K) : zMet l y_RM_bestModel b_RM_bestModel 5 (some .int) rm_RM_bestModel g n [.ref (g.2.2 p0), zi x1, zi x2] h (zPi K) := by
  refine zMet_of (own := "AliasStreamsModel") hfl (by decide) rfl (Nat.le_of_ble_eq_true rfl) (fun Wf m H0 X E => ?_)
  unfold M_RM_bestModel at hv
  show zW Wf m 5 g n H0 0 [(0, .ref (g.2.2 p0)), (1, zi x1), (2, zi x2)] [] h
  refine z_aload_n (pc := 0) (q := 0) X d_RM_bestModel_0 rfl ?_
  refine z_aload_n (pc := 1) (q := 0) X d_RM_bestModel_1 rfl ?_
  refine z_iload_n (pc := 2) (q := 1) X d_RM_bestModel_2 rfl ?_
  refine z_callVi (pc := 3) (As := [zi x1]) (rest := [.ref (g.2.2 p0)]) X (fun l hl => c_RM_isSequenced hl op0 rx1 hh hv) cf_RM op0 rfl mf_RM_isSequenced q1342 ⟨⟨by decide, by decide⟩, rfl, rfl⟩ rfl d_RM_bestModel_3 rfl (Nat.le_of_ble_eq_true rfl) (fun r_2 h_1 rr_2 zh_1 hv => ?_)
  refine z_if_ne (pc := 6) (tgt := 13) X rr_2 d_RM_bestModel_6 (by decide) (fun hc => ?_) (fun hc => ?_)
  · replace hv := hv.1 hc
    refine z_iload_n (pc := 13) (q := 2) X d_RM_bestModel_13 rfl ?_
    refine z_i2l (pc := 14) X rx2 d_RM_bestModel_14 ?_
    refine z_lconst (pc := 15) (x := 1) X d_RM_bestModel_15 (by decide) ?_
    refine z_ldc2 (pc := 16) (x := 12) X d_RM_bestModel_16 q1346 (by decide) ?_
    refine z_callSi (pc := 19) (As := [zj x2, zj 1, zj 12]) (rest := [.ref (g.2.2 p0)]) X (fun l hl => c_RM_in hl (zr_l rx2) (show zrl 1 from by decide) (show zrl 12 from by decide) zh_1 hv) mf_RM_in q1127 ⟨⟨by decide, by decide⟩, rfl, rfl⟩ rfl d_RM_bestModel_19 rfl (Nat.le_of_ble_eq_true rfl) (fun r_4 h_3 rr_4 zh_3 hv => ?_)
    refine z_if_ne (pc := 22) (tgt := 29) X rr_4 d_RM_bestModel_22 (by decide) (fun hc => ?_) (fun hc => ?_)
    · replace hv := hv.1 hc
      refine z_iconst (pc := 29) X d_RM_bestModel_29 ?_
      exact s_RM_bestModel_30 X E  op0 rx1 rx2 op0 (show zr 0 from by decide) zh_3 hv
    · replace hv := hv.2 hc
      refine z_iconst (pc := 25) X d_RM_bestModel_25 ?_
      refine z_goto (pc := 26) (tgt := 30) X d_RM_bestModel_26 (by decide) ?_
      exact s_RM_bestModel_30 X E  op0 rx1 rx2 op0 (show zr 2 from by decide) zh_3 hv
  · replace hv := hv.2 hc
    refine z_iconst (pc := 9) X d_RM_bestModel_9 ?_
    refine z_goto (pc := 10) (tgt := 30) X d_RM_bestModel_10 (by decide) ?_
    exact s_RM_bestModel_30 X E  op0 rx1 rx2 op0 (show zr 1 from by decide) zh_1 hv
theorem d_RM_difference_0 : decode b_RM_difference 0 = .ok (.aload_n 0, 1) := by decide +kernel
theorem d_RM_difference_1 : decode b_RM_difference 1 = .ok (.iconst 0, 1) := by decide +kernel
theorem d_RM_difference_2 : decode b_RM_difference 2 = .ok (.putfield 84, 3) := by decide +kernel
theorem d_RM_difference_5 : decode b_RM_difference 5 = .ok (.aload_n 0, 1) := by decide +kernel
theorem d_RM_difference_6 : decode b_RM_difference 6 = .ok (.aload_n 0, 1) := by decide +kernel
theorem d_RM_difference_7 : decode b_RM_difference 7 = .ok (.getfield 23, 3) := by decide +kernel
theorem d_RM_difference_10 : decode b_RM_difference 10 = .ok (.invokevirtual 164, 3) := by decide +kernel
theorem d_RM_difference_13 : decode b_RM_difference 13 = .ok (.aload_n 0, 1) := by decide +kernel
theorem d_RM_difference_14 : decode b_RM_difference 14 = .ok (.aload_n 0, 1) := by decide +kernel
theorem d_RM_difference_15 : decode b_RM_difference 15 = .ok (.getfield 23, 3) := by decide +kernel
theorem d_RM_difference_18 : decode b_RM_difference 18 = .ok (.invokevirtual 160, 3) := by decide +kernel
theorem d_RM_difference_21 : decode b_RM_difference 21 = .ok (.aload_n 0, 1) := by decide +kernel
theorem d_RM_difference_22 : decode b_RM_difference 22 = .ok (.aload_n 0, 1) := by decide +kernel
theorem d_RM_difference_23 : decode b_RM_difference 23 = .ok (.getfield 23, 3) := by decide +kernel
theorem d_RM_difference_26 : decode b_RM_difference 26 = .ok (.invokevirtual 105, 3) := by decide +kernel
theorem d_RM_difference_29 : decode b_RM_difference 29 = .ok (.pop, 1) := by decide +kernel
theorem d_RM_difference_30 : decode b_RM_difference 30 = .ok (.aload_n 0, 1) := by decide +kernel
theorem d_RM_difference_31 : decode b_RM_difference 31 = .ok (.getfield 102, 3) := by decide +kernel
theorem d_RM_difference_34 : decode b_RM_difference 34 = .ok (.aload_n 0, 1) := by decide +kernel
theorem d_RM_difference_35 : decode b_RM_difference 35 = .ok (.getfield 99, 3) := by decide +kernel
theorem d_RM_difference_38 : decode b_RM_difference 38 = .ok (.if_icmp .ge 10, 3) := by decide +kernel
theorem d_RM_difference_41 : decode b_RM_difference 41 = .ok (.aload_n 0, 1) := by decide +kernel
theorem d_RM_difference_42 : decode b_RM_difference 42 = .ok (.getfield 102, 3) := by decide +kernel
theorem d_RM_difference_45 : decode b_RM_difference 45 = .ok (.goto 7, 3) := by decide +kernel
theorem d_RM_difference_48 : decode b_RM_difference 48 = .ok (.aload_n 0, 1) := by decide +kernel
theorem d_RM_difference_49 : decode b_RM_difference 49 = .ok (.getfield 99, 3) := by decide +kernel
theorem d_RM_difference_52 : decode b_RM_difference 52 = .ok (.istore_n 1, 1) := by decide +kernel
theorem d_RM_difference_53 : decode b_RM_difference 53 = .ok (.iconst 0, 1) := by decide +kernel
theorem d_RM_difference_54 : decode b_RM_difference 54 = .ok (.istore_n 2, 1) := by decide +kernel
theorem d_RM_difference_55 : decode b_RM_difference 55 = .ok (.iload_n 2, 1) := by decide +kernel
theorem d_RM_difference_56 : decode b_RM_difference 56 = .ok (.iload_n 1, 1) := by decide +kernel
theorem d_RM_difference_57 : decode b_RM_difference 57 = .ok (.if_icmp .ge 26, 3) := by decide +kernel
theorem d_RM_difference_60 : decode b_RM_difference 60 = .ok (.aload_n 0, 1) := by decide +kernel
theorem d_RM_difference_61 : decode b_RM_difference 61 = .ok (.getfield 66, 3) := by decide +kernel
theorem d_RM_difference_64 : decode b_RM_difference 64 = .ok (.iload_n 2, 1) := by decide +kernel
theorem d_RM_difference_65 : decode b_RM_difference 65 = .ok (.iaload, 1) := by decide +kernel
theorem d_RM_difference_66 : decode b_RM_difference 66 = .ok (.aload_n 0, 1) := by decide +kernel
theorem d_RM_difference_67 : decode b_RM_difference 67 = .ok (.getfield 78, 3) := by decide +kernel
theorem d_RM_difference_70 : decode b_RM_difference 70 = .ok (.iload_n 2, 1) := by decide +kernel
theorem d_RM_difference_71 : decode b_RM_difference 71 = .ok (.iaload, 1) := by decide +kernel
theorem d_RM_difference_72 : decode b_RM_difference 72 = .ok (.if_icmp .eq 5, 3) := by decide +kernel
theorem d_RM_difference_75 : decode b_RM_difference 75 = .ok (.iload_n 2, 1) := by decide +kernel
theorem d_RM_difference_76 : decode b_RM_difference 76 = .ok (.ireturn, 1) := by decide +kernel
theorem d_RM_difference_77 : decode b_RM_difference 77 = .ok (.iinc 2 1, 3) := by decide +kernel
theorem d_RM_difference_80 : decode b_RM_difference 80 = .ok (.goto (-25), 3) := by decide +kernel
theorem d_RM_difference_83 : decode b_RM_difference 83 = .ok (.aload_n 0, 1) := by decide +kernel
theorem d_RM_difference_84 : decode b_RM_difference 84 = .ok (.getfield 102, 3) := by decide +kernel
theorem d_RM_difference_87 : decode b_RM_difference 87 = .ok (.aload_n 0, 1) := by decide +kernel
theorem d_RM_difference_88 : decode b_RM_difference 88 = .ok (.getfield 99, 3) := by decide +kernel
theorem d_RM_difference_91 : decode b_RM_difference 91 = .ok (.if_icmp .ne 8, 3) := by decide +kernel
theorem d_RM_difference_94 : decode b_RM_difference 94 = .ok (.bipush (-9), 2) := by decide +kernel
theorem d_RM_difference_96 : decode b_RM_difference 96 = .ok (.goto 4, 3) := by decide +kernel
theorem d_RM_difference_99 : decode b_RM_difference 99 = .ok (.iload_n 1, 1) := by decide +kernel
theorem d_RM_difference_100 : decode b_RM_difference 100 = .ok (.ireturn, 1) := by decide +kernel
def rm_RM_difference : Room := { frames := 2, cells := 0, slots := 0, locals := 50 }
theorem mf_RM_difference : zMV y_RM_difference b_RM_difference 3 (some .int) 0 := ⟨q1356, q1357, q13, q1358, by decide +kernel⟩
def F_RM_difference_55 (K : Int → zH → Prop)  (L55 : Int × zH → Prop) (p0 : Nat) (x1 : Int) (x2 : Int) (h : zH) : Prop :=
  (x1 ≤ x2 → ((h p0 27 ≠ h p0 31 → (K x1 h)) ∧ (h p0 27 = h p0 31 → (K (-9) h)))) ∧ (x2 < x1 → ((0 ≤ x2 ∧ x2 < 40) ∧ ((0 ≤ x2 ∧ x2 < 40) ∧ ((h (p0 + 17) x2.toNat = h (p0 + 21) x2.toNat → (zr (x2 + 1) ∧ (L55 (x2 + 1, h)))) ∧ (h (p0 + 17) x2.toNat ≠ h (p0 + 21) x2.toNat → (K x2 h))))))
set_option maxRecDepth 100000 in
theorem s_RM_difference_55 {Wf : Heap → List Loc → JFrame → Prop} {m : MethodId} {g : zG} {n : Nat} {H0 : Heap} (X : zX Wf m rm_RM_difference b_RM_difference "AliasStreamsModel" 3 g n H0) {K : Int → zH → Prop} (E : zEx Wf m b_RM_difference (some .int) 3 g n H0 (zPi K))  {p0 : Nat} {x1 : Int}  (op0 : zO n p0 11) (rx1 : zr x1) {q0 : Int × zH} (hv0 : zLoop (fun L q => F_RM_difference_55 K  L p0 x1 q.1 q.2) q0) : zr q0.1 → zh (q0.2) → zW Wf m 3 g n H0 55 [(0, .ref (g.2.2 p0)), (1, zi x1), (2, zi q0.1)] [] (q0.2) := by
  refine zLoop_use (G := fun q => zr q.1 → zh (q.2) → zW Wf m 3 g n H0 55 [(0, .ref (g.2.2 p0)), (1, zi x1), (2, zi q.1)] [] (q.2)) ?_ hv0
  rintro L55 ⟨x2, h⟩ hL55 hv rx2 hh
  have hv : F_RM_difference_55 K  L55 p0 x1 x2 h := hv
  unfold F_RM_difference_55 at hv
  show zW Wf m 3 g n H0 55 [(0, .ref (g.2.2 p0)), (1, zi x1), (2, zi x2)] [] h
  refine z_iload_n (pc := 55) (q := 2) X d_RM_difference_55 rfl ?_
  refine z_iload_n (pc := 56) (q := 1) X d_RM_difference_56 rfl ?_
  refine z_icmp_ge (pc := 57) (tgt := 83) X rx2 rx1 d_RM_difference_57 (by decide) (fun hc => ?_) (fun hc => ?_)
  · replace hv := hv.1 hc
    refine z_aload_n (pc := 83) (q := 0) X d_RM_difference_83 rfl ?_
    refine z_geti (pc := 84) (j := 27) X cf_RM op0 (by decide) q1048 rfl rfl d_RM_difference_84 ?_
    refine z_aload_n (pc := 87) (q := 0) X d_RM_difference_87 rfl ?_
    refine z_geti (pc := 88) (j := 31) X cf_RM op0 (by decide) q1052 rfl rfl d_RM_difference_88 ?_
    refine z_icmp_ne (pc := 91) (tgt := 99) X (hh.1 _ _ (zO.ne op0 (by decide))) (hh.1 _ _ (zO.ne op0 (by decide))) d_RM_difference_91 (by decide) (fun hc => ?_) (fun hc => ?_)
    · replace hv := hv.1 hc
      refine z_iload_n (pc := 99) (q := 1) X d_RM_difference_99 rfl ?_
      exact E.2.1 rfl _ _ _ _ d_RM_difference_100 ⟨_, rfl, rx1, hh, hv⟩
    · replace hv := hv.2 hc
      refine z_bipush (pc := 94) X d_RM_difference_94 (by decide) ?_
      refine z_goto (pc := 96) (tgt := 100) X d_RM_difference_96 (by decide) ?_
      exact E.2.1 rfl _ _ _ _ d_RM_difference_100 ⟨_, rfl, (show zr (-9) from by decide), hh, hv⟩
  · replace hv := hv.2 hc
    refine z_aload_n (pc := 60) (q := 0) X d_RM_difference_60 rfl ?_
    refine z_getr (pc := 61) (j := 24) (dd := 17) X cf_RM op0 (by decide) q1045 rfl rfl d_RM_difference_61 ?_
    refine z_iload_n (pc := 64) (q := 2) X d_RM_difference_64 rfl ?_
    obtain ⟨v_1, hv⟩ := hv
    refine z_ialdj (pc := 65) (j := x2.toNat) X (gf_RM_24 op0) (gl_RM_24 op0) rx2 v_1 rfl d_RM_difference_65 ?_
    refine z_aload_n (pc := 66) (q := 0) X d_RM_difference_66 rfl ?_
    refine z_getr (pc := 67) (j := 29) (dd := 21) X cf_RM op0 (by decide) q1050 rfl rfl d_RM_difference_67 ?_
    refine z_iload_n (pc := 70) (q := 2) X d_RM_difference_70 rfl ?_
    obtain ⟨v_2, hv⟩ := hv
    refine z_ialdj (pc := 71) (j := x2.toNat) X (gf_RM_29 op0) (gl_RM_29 op0) rx2 v_2 rfl d_RM_difference_71 ?_
    refine z_icmp_eq (pc := 72) (tgt := 77) X (hh.1 _ _ (zO.ne (gf_RM_24 op0) (by decide))) (hh.1 _ _ (zO.ne (gf_RM_29 op0) (by decide))) d_RM_difference_72 (by decide) (fun hc => ?_) (fun hc => ?_)
    · replace hv := hv.1 hc
      obtain ⟨v_3, hv⟩ := hv
      refine z_iinc (pc := 77) (q := 2) (lv' := [(2, zi (x2 + 1)), (0, .ref (g.2.2 p0)), (1, zi x1)]) X d_RM_difference_77 rfl (by decide) rfl ?_
      refine z_goto (pc := 80) (tgt := 55) X d_RM_difference_80 (by decide) ?_
      refine z_perm [1, 2, 0] rfl ?_
      exact hL55 _ hv v_3 hh
    · replace hv := hv.2 hc
      refine z_iload_n (pc := 75) (q := 2) X d_RM_difference_75 rfl ?_
      exact E.2.1 rfl _ _ _ _ d_RM_difference_76 ⟨_, rfl, rx2, hh, hv⟩
def M_RM_difference (p0 : Nat) (h : zH) (K : Int → zH → Prop) : Prop :=
  (∀ h_1 : zH, h_1 = zs h p0 0 0 → (M_RM_layTables p0 (p0 + 3) h_1 (fun h_2 => M_RM_layMessage p0 (p0 + 3) h_2 (fun h_4 => M_RM_take p0 (p0 + 3) h_4 (fun r_7 h_6 => (h_6 p0 31 ≤ h_6 p0 27 → ((∀ x1_8 : Int, x1_8 = h_6 p0 31 → (zLoop (fun L q => F_RM_difference_55 K  L p0 x1_8 q.1 q.2) (0, h_6))))) ∧ (h_6 p0 27 < h_6 p0 31 → ((∀ x1_9 : Int, x1_9 = h_6 p0 27 → (zLoop (fun L q => F_RM_difference_55 K  L p0 x1_9 q.1 q.2) (0, h_6))))))))))
set_option maxRecDepth 100000 in
theorem c_RM_difference {l : Launch} (hfl : l.flags = flags0) {g : zG} {n : Nat} {p0 : Nat} (op0 : zO n p0 11) {h : zH} (hh : zh h) {K : Int → zH → Prop} (hv : M_RM_difference p0 h K) : zMet l y_RM_difference b_RM_difference 3 (some .int) rm_RM_difference g n [.ref (g.2.2 p0)] h (zPi K) := by
  refine zMet_of (own := "AliasStreamsModel") hfl (by decide) rfl (Nat.le_of_ble_eq_true rfl) (fun Wf m H0 X E => ?_)
  unfold M_RM_difference at hv
  show zW Wf m 3 g n H0 0 [(0, .ref (g.2.2 p0))] [] h
  refine z_aload_n (pc := 0) (q := 0) X d_RM_difference_0 rfl ?_
  refine z_iconst (pc := 1) X d_RM_difference_1 ?_
  refine z_put (pc := 2) (j := 0) X cf_RM op0 (by decide) q1021 rfl rfl rfl rfl d_RM_difference_2 ?_
  refine z_toph (fun h_1 eh_1 => ?_)
  have zh_1 : zh h_1 := by rw [eh_1]; exact zh_set hh (zO.ne op0 (by decide)) (show zr 0 from by decide)
  replace hv := hv h_1 eh_1
  refine z_aload_n (pc := 5) (q := 0) X d_RM_difference_5 rfl ?_
  refine z_aload_n (pc := 6) (q := 0) X d_RM_difference_6 rfl ?_
  refine z_getr (pc := 7) (j := 9) (dd := 3) X cf_RM op0 (by decide) q1030 rfl rfl d_RM_difference_7 ?_
  refine z_callVv (pc := 10) (As := [.ref (g.2.2 (p0 + 3))]) (rest := []) X (fun l hl => c_RM_layTables hl op0 (gf_RM_9 op0) zh_1 hv) cf_RM op0 rfl mf_RM_layTables q1181 ⟨⟨by decide, by decide⟩, rfl, rfl⟩ rfl d_RM_difference_10 rfl (Nat.le_of_ble_eq_true rfl) (fun h_2 zh_2 hv => ?_)
  refine z_aload_n (pc := 13) (q := 0) X d_RM_difference_13 rfl ?_
  refine z_aload_n (pc := 14) (q := 0) X d_RM_difference_14 rfl ?_
  refine z_getr (pc := 15) (j := 9) (dd := 3) X cf_RM op0 (by decide) q1030 rfl rfl d_RM_difference_15 ?_
  refine z_callVv (pc := 18) (As := [.ref (g.2.2 (p0 + 3))]) (rest := []) X (fun l hl => c_RM_layMessage hl op0 (gf_RM_9 op0) zh_2 hv) cf_RM op0 rfl mf_RM_layMessage q1177 ⟨⟨by decide, by decide⟩, rfl, rfl⟩ rfl d_RM_difference_18 rfl (Nat.le_of_ble_eq_true rfl) (fun h_4 zh_4 hv => ?_)
  refine z_aload_n (pc := 21) (q := 0) X d_RM_difference_21 rfl ?_
  refine z_aload_n (pc := 22) (q := 0) X d_RM_difference_22 rfl ?_
  refine z_getr (pc := 23) (j := 9) (dd := 3) X cf_RM op0 (by decide) q1030 rfl rfl d_RM_difference_23 ?_
  refine z_callVi (pc := 26) (As := [.ref (g.2.2 (p0 + 3))]) (rest := []) X (fun l hl => c_RM_take hl op0 (gf_RM_9 op0) zh_4 hv) cf_RM op0 rfl mf_RM_take q1193 ⟨⟨by decide, by decide⟩, rfl, rfl⟩ rfl d_RM_difference_26 rfl (Nat.le_of_ble_eq_true rfl) (fun r_7 h_6 rr_7 zh_6 hv => ?_)
  refine z_pop (pc := 29) X d_RM_difference_29 rfl ?_
  refine z_aload_n (pc := 30) (q := 0) X d_RM_difference_30 rfl ?_
  refine z_geti (pc := 31) (j := 27) X cf_RM op0 (by decide) q1048 rfl rfl d_RM_difference_31 ?_
  refine z_aload_n (pc := 34) (q := 0) X d_RM_difference_34 rfl ?_
  refine z_geti (pc := 35) (j := 31) X cf_RM op0 (by decide) q1052 rfl rfl d_RM_difference_35 ?_
  refine z_icmp_ge (pc := 38) (tgt := 48) X (zh_6.1 _ _ (zO.ne op0 (by decide))) (zh_6.1 _ _ (zO.ne op0 (by decide))) d_RM_difference_38 (by decide) (fun hc => ?_) (fun hc => ?_)
  · replace hv := hv.1 hc
    refine z_aload_n (pc := 48) (q := 0) X d_RM_difference_48 rfl ?_
    refine z_geti (pc := 49) (j := 31) X cf_RM op0 (by decide) q1052 rfl rfl d_RM_difference_49 ?_
    refine z_topi (fun x1_8 ex1_8 => ?_)
    have rx1_8 : zr x1_8 := by rw [ex1_8]; exact (zh_6.1 _ _ (zO.ne op0 (by decide)))
    replace hv := hv x1_8 ex1_8
    refine z_istore_n (pc := 52) (lv' := [(1, zi x1_8), (0, .ref (g.2.2 p0))]) X d_RM_difference_52 (by decide) rfl ?_
    refine z_iconst (pc := 53) X d_RM_difference_53 ?_
    refine z_istore_n (pc := 54) (lv' := [(2, zi 0), (1, zi x1_8), (0, .ref (g.2.2 p0))]) X d_RM_difference_54 (by decide) rfl ?_
    refine z_perm [2, 1, 0] rfl ?_
    exact s_RM_difference_55 X E  op0 rx1_8 hv (show zr 0 from by decide) zh_6
  · replace hv := hv.2 hc
    refine z_aload_n (pc := 41) (q := 0) X d_RM_difference_41 rfl ?_
    refine z_geti (pc := 42) (j := 27) X cf_RM op0 (by decide) q1048 rfl rfl d_RM_difference_42 ?_
    refine z_goto (pc := 45) (tgt := 52) X d_RM_difference_45 (by decide) ?_
    refine z_topi (fun x1_9 ex1_9 => ?_)
    have rx1_9 : zr x1_9 := by rw [ex1_9]; exact (zh_6.1 _ _ (zO.ne op0 (by decide)))
    replace hv := hv x1_9 ex1_9
    refine z_istore_n (pc := 52) (lv' := [(1, zi x1_9), (0, .ref (g.2.2 p0))]) X d_RM_difference_52 (by decide) rfl ?_
    refine z_iconst (pc := 53) X d_RM_difference_53 ?_
    refine z_istore_n (pc := 54) (lv' := [(2, zi 0), (1, zi x1_9), (0, .ref (g.2.2 p0))]) X d_RM_difference_54 (by decide) rfl ?_
    refine z_perm [2, 1, 0] rfl ?_
    exact s_RM_difference_55 X E  op0 rx1_9 hv (show zr 0 from by decide) zh_6
theorem d_RM_effect_0 : decode b_RM_effect 0 = .ok (.aload_n 0, 1) := by decide +kernel
theorem d_RM_effect_1 : decode b_RM_effect 1 = .ok (.aload_n 0, 1) := by decide +kernel
theorem d_RM_effect_2 : decode b_RM_effect 2 = .ok (.iload_n 1, 1) := by decide +kernel
theorem d_RM_effect_3 : decode b_RM_effect 3 = .ok (.invokevirtual 219, 3) := by decide +kernel
theorem d_RM_effect_6 : decode b_RM_effect 6 = .ok (.ifCond .ne 7, 3) := by decide +kernel
theorem d_RM_effect_9 : decode b_RM_effect 9 = .ok (.iconst 1, 1) := by decide +kernel
theorem d_RM_effect_10 : decode b_RM_effect 10 = .ok (.goto 30, 3) := by decide +kernel
theorem d_RM_effect_13 : decode b_RM_effect 13 = .ok (.iload_n 2, 1) := by decide +kernel
theorem d_RM_effect_14 : decode b_RM_effect 14 = .ok (.i2l, 1) := by decide +kernel
theorem d_RM_effect_15 : decode b_RM_effect 15 = .ok (.lconst 0, 1) := by decide +kernel
theorem d_RM_effect_16 : decode b_RM_effect 16 = .ok (.ldc2_w 222, 3) := by decide +kernel
theorem d_RM_effect_19 : decode b_RM_effect 19 = .ok (.invokestatic 87, 3) := by decide +kernel
theorem d_RM_effect_22 : decode b_RM_effect 22 = .ok (.ifCond .eq 13, 3) := by decide +kernel
theorem d_RM_effect_25 : decode b_RM_effect 25 = .ok (.iload_n 3, 1) := by decide +kernel
theorem d_RM_effect_26 : decode b_RM_effect 26 = .ok (.i2l, 1) := by decide +kernel
theorem d_RM_effect_27 : decode b_RM_effect 27 = .ok (.lconst 0, 1) := by decide +kernel
theorem d_RM_effect_28 : decode b_RM_effect 28 = .ok (.lconst 1, 1) := by decide +kernel
theorem d_RM_effect_29 : decode b_RM_effect 29 = .ok (.invokestatic 87, 3) := by decide +kernel
theorem d_RM_effect_32 : decode b_RM_effect 32 = .ok (.ifCond .ne 7, 3) := by decide +kernel
theorem d_RM_effect_35 : decode b_RM_effect 35 = .ok (.iconst 2, 1) := by decide +kernel
theorem d_RM_effect_36 : decode b_RM_effect 36 = .ok (.goto 4, 3) := by decide +kernel
theorem d_RM_effect_39 : decode b_RM_effect 39 = .ok (.iconst 0, 1) := by decide +kernel
theorem d_RM_effect_40 : decode b_RM_effect 40 = .ok (.invokevirtual 114, 3) := by decide +kernel
theorem d_RM_effect_43 : decode b_RM_effect 43 = .ok (.ifCond .eq 5, 3) := by decide +kernel
theorem d_RM_effect_46 : decode b_RM_effect 46 = .ok (.iconst 0, 1) := by decide +kernel
theorem d_RM_effect_47 : decode b_RM_effect 47 = .ok (.ireturn, 1) := by decide +kernel
theorem d_RM_effect_48 : decode b_RM_effect 48 = .ok (.aload_n 0, 1) := by decide +kernel
theorem d_RM_effect_49 : decode b_RM_effect 49 = .ok (.aload_n 0, 1) := by decide +kernel
theorem d_RM_effect_50 : decode b_RM_effect 50 = .ok (.getfield 23, 3) := by decide +kernel
theorem d_RM_effect_53 : decode b_RM_effect 53 = .ok (.invokevirtual 164, 3) := by decide +kernel
theorem d_RM_effect_56 : decode b_RM_effect 56 = .ok (.aload_n 0, 1) := by decide +kernel
theorem d_RM_effect_57 : decode b_RM_effect 57 = .ok (.aload_n 0, 1) := by decide +kernel
theorem d_RM_effect_58 : decode b_RM_effect 58 = .ok (.getfield 23, 3) := by decide +kernel
theorem d_RM_effect_61 : decode b_RM_effect 61 = .ok (.invokevirtual 105, 3) := by decide +kernel
theorem d_RM_effect_64 : decode b_RM_effect 64 = .ok (.pop, 1) := by decide +kernel
theorem d_RM_effect_65 : decode b_RM_effect 65 = .ok (.iconst 0, 1) := by decide +kernel
theorem d_RM_effect_66 : decode b_RM_effect 66 = .ok (.istore 4, 2) := by decide +kernel
theorem d_RM_effect_68 : decode b_RM_effect 68 = .ok (.iload 4, 2) := by decide +kernel
theorem d_RM_effect_70 : decode b_RM_effect 70 = .ok (.bipush 40, 2) := by decide +kernel
theorem d_RM_effect_72 : decode b_RM_effect 72 = .ok (.if_icmp .ge 37, 3) := by decide +kernel
theorem d_RM_effect_75 : decode b_RM_effect 75 = .ok (.aload_n 0, 1) := by decide +kernel
theorem d_RM_effect_76 : decode b_RM_effect 76 = .ok (.getfield 75, 3) := by decide +kernel
theorem d_RM_effect_79 : decode b_RM_effect 79 = .ok (.iload 4, 2) := by decide +kernel
theorem d_RM_effect_81 : decode b_RM_effect 81 = .ok (.iload 4, 2) := by decide +kernel
theorem d_RM_effect_83 : decode b_RM_effect 83 = .ok (.aload_n 0, 1) := by decide +kernel
theorem d_RM_effect_84 : decode b_RM_effect 84 = .ok (.getfield 102, 3) := by decide +kernel
theorem d_RM_effect_87 : decode b_RM_effect 87 = .ok (.if_icmp .ge 13, 3) := by decide +kernel
theorem d_RM_effect_90 : decode b_RM_effect 90 = .ok (.aload_n 0, 1) := by decide +kernel
theorem d_RM_effect_91 : decode b_RM_effect 91 = .ok (.getfield 66, 3) := by decide +kernel
theorem d_RM_effect_94 : decode b_RM_effect 94 = .ok (.iload 4, 2) := by decide +kernel
theorem d_RM_effect_96 : decode b_RM_effect 96 = .ok (.iaload, 1) := by decide +kernel
theorem d_RM_effect_97 : decode b_RM_effect 97 = .ok (.goto 5, 3) := by decide +kernel
theorem d_RM_effect_100 : decode b_RM_effect 100 = .ok (.bipush (-9), 2) := by decide +kernel
theorem d_RM_effect_102 : decode b_RM_effect 102 = .ok (.iastore, 1) := by decide +kernel
theorem d_RM_effect_103 : decode b_RM_effect 103 = .ok (.iinc 4 1, 3) := by decide +kernel
theorem d_RM_effect_106 : decode b_RM_effect 106 = .ok (.goto (-38), 3) := by decide +kernel
theorem d_RM_effect_109 : decode b_RM_effect 109 = .ok (.aload_n 0, 1) := by decide +kernel
theorem d_RM_effect_110 : decode b_RM_effect 110 = .ok (.getfield 23, 3) := by decide +kernel
theorem d_RM_effect_113 : decode b_RM_effect 113 = .ok (.iconst 0, 1) := by decide +kernel
theorem d_RM_effect_114 : decode b_RM_effect 114 = .ok (.aload_n 0, 1) := by decide +kernel
theorem d_RM_effect_115 : decode b_RM_effect 115 = .ok (.getfield 26, 3) := by decide +kernel
theorem d_RM_effect_118 : decode b_RM_effect 118 = .ok (.iconst 0, 1) := by decide +kernel
theorem d_RM_effect_119 : decode b_RM_effect 119 = .ok (.invokestatic 151, 3) := by decide +kernel
theorem d_RM_effect_122 : decode b_RM_effect 122 = .ok (.aload_n 0, 1) := by decide +kernel
theorem d_RM_effect_123 : decode b_RM_effect 123 = .ok (.getfield 26, 3) := by decide +kernel
theorem d_RM_effect_126 : decode b_RM_effect 126 = .ok (.bipush 104, 2) := by decide +kernel
theorem d_RM_effect_128 : decode b_RM_effect 128 = .ok (.iload_n 1, 1) := by decide +kernel
theorem d_RM_effect_129 : decode b_RM_effect 129 = .ok (.iadd, 1) := by decide +kernel
theorem d_RM_effect_130 : decode b_RM_effect 130 = .ok (.iload_n 2, 1) := by decide +kernel
theorem d_RM_effect_131 : decode b_RM_effect 131 = .ok (.iastore, 1) := by decide +kernel
theorem d_RM_effect_132 : decode b_RM_effect 132 = .ok (.aload_n 0, 1) := by decide +kernel
theorem d_RM_effect_133 : decode b_RM_effect 133 = .ok (.aload_n 0, 1) := by decide +kernel
theorem d_RM_effect_134 : decode b_RM_effect 134 = .ok (.getfield 26, 3) := by decide +kernel
theorem d_RM_effect_137 : decode b_RM_effect 137 = .ok (.invokevirtual 105, 3) := by decide +kernel
theorem d_RM_effect_140 : decode b_RM_effect 140 = .ok (.istore 4, 2) := by decide +kernel
theorem d_RM_effect_142 : decode b_RM_effect 142 = .ok (.iconst 0, 1) := by decide +kernel
theorem d_RM_effect_143 : decode b_RM_effect 143 = .ok (.istore 5, 2) := by decide +kernel
theorem d_RM_effect_145 : decode b_RM_effect 145 = .ok (.iconst 0, 1) := by decide +kernel
theorem d_RM_effect_146 : decode b_RM_effect 146 = .ok (.istore 6, 2) := by decide +kernel
theorem d_RM_effect_148 : decode b_RM_effect 148 = .ok (.iload 6, 2) := by decide +kernel
theorem d_RM_effect_150 : decode b_RM_effect 150 = .ok (.aload_n 0, 1) := by decide +kernel
theorem d_RM_effect_151 : decode b_RM_effect 151 = .ok (.getfield 23, 3) := by decide +kernel
theorem d_RM_effect_154 : decode b_RM_effect 154 = .ok (.sipush 189, 3) := by decide +kernel
theorem d_RM_effect_157 : decode b_RM_effect 157 = .ok (.iaload, 1) := by decide +kernel
theorem d_RM_effect_158 : decode b_RM_effect 158 = .ok (.if_icmp .ge 50, 3) := by decide +kernel
theorem d_RM_effect_161 : decode b_RM_effect 161 = .ok (.iload 5, 2) := by decide +kernel
theorem d_RM_effect_163 : decode b_RM_effect 163 = .ok (.aload_n 0, 1) := by decide +kernel
theorem d_RM_effect_164 : decode b_RM_effect 164 = .ok (.getfield 75, 3) := by decide +kernel
theorem d_RM_effect_167 : decode b_RM_effect 167 = .ok (.iload 6, 2) := by decide +kernel
theorem d_RM_effect_169 : decode b_RM_effect 169 = .ok (.iaload, 1) := by decide +kernel
theorem d_RM_effect_170 : decode b_RM_effect 170 = .ok (.iload 6, 2) := by decide +kernel
theorem d_RM_effect_172 : decode b_RM_effect 172 = .ok (.aload_n 0, 1) := by decide +kernel
theorem d_RM_effect_173 : decode b_RM_effect 173 = .ok (.getfield 102, 3) := by decide +kernel
theorem d_RM_effect_176 : decode b_RM_effect 176 = .ok (.if_icmp .ge 13, 3) := by decide +kernel
theorem d_RM_effect_179 : decode b_RM_effect 179 = .ok (.aload_n 0, 1) := by decide +kernel
theorem d_RM_effect_180 : decode b_RM_effect 180 = .ok (.getfield 66, 3) := by decide +kernel
theorem d_RM_effect_183 : decode b_RM_effect 183 = .ok (.iload 6, 2) := by decide +kernel
theorem d_RM_effect_185 : decode b_RM_effect 185 = .ok (.iaload, 1) := by decide +kernel
theorem d_RM_effect_186 : decode b_RM_effect 186 = .ok (.goto 5, 3) := by decide +kernel
theorem d_RM_effect_189 : decode b_RM_effect 189 = .ok (.bipush (-9), 2) := by decide +kernel
theorem d_RM_effect_191 : decode b_RM_effect 191 = .ok (.if_icmp .ne 7, 3) := by decide +kernel
theorem d_RM_effect_194 : decode b_RM_effect 194 = .ok (.iconst 0, 1) := by decide +kernel
theorem d_RM_effect_195 : decode b_RM_effect 195 = .ok (.goto 4, 3) := by decide +kernel
theorem d_RM_effect_198 : decode b_RM_effect 198 = .ok (.iconst 1, 1) := by decide +kernel
theorem d_RM_effect_199 : decode b_RM_effect 199 = .ok (.iadd, 1) := by decide +kernel
theorem d_RM_effect_200 : decode b_RM_effect 200 = .ok (.istore 5, 2) := by decide +kernel
theorem d_RM_effect_202 : decode b_RM_effect 202 = .ok (.iinc 6 1, 3) := by decide +kernel
theorem d_RM_effect_205 : decode b_RM_effect 205 = .ok (.goto (-57), 3) := by decide +kernel
theorem d_RM_effect_208 : decode b_RM_effect 208 = .ok (.iload_n 3, 1) := by decide +kernel
theorem d_RM_effect_209 : decode b_RM_effect 209 = .ok (.ifCond .ne 8, 3) := by decide +kernel
theorem d_RM_effect_212 : decode b_RM_effect 212 = .ok (.iload 5, 2) := by decide +kernel
theorem d_RM_effect_214 : decode b_RM_effect 214 = .ok (.goto 13, 3) := by decide +kernel
theorem d_RM_effect_217 : decode b_RM_effect 217 = .ok (.iload 4, 2) := by decide +kernel
theorem d_RM_effect_219 : decode b_RM_effect 219 = .ok (.ifCond .eq 7, 3) := by decide +kernel
theorem d_RM_effect_222 : decode b_RM_effect 222 = .ok (.iconst 1, 1) := by decide +kernel
theorem d_RM_effect_223 : decode b_RM_effect 223 = .ok (.goto 4, 3) := by decide +kernel
theorem d_RM_effect_226 : decode b_RM_effect 226 = .ok (.iconst 0, 1) := by decide +kernel
theorem d_RM_effect_227 : decode b_RM_effect 227 = .ok (.ireturn, 1) := by decide +kernel
def rm_RM_effect : Room := { frames := 2, cells := 0, slots := 0, locals := 50 }
theorem mf_RM_effect : zMV y_RM_effect b_RM_effect 7 (some .int) 3 := ⟨q1360, q1361, q13, q1362, by decide +kernel⟩
def B_RM_effect_191 (K : Int → zH → Prop) (L148 : Int × Int × zH → Prop) (p0 : Nat) (x3 : Int) (x4 : Int) (x6 : Int) (u0 : Int) (u1 : Int) (u2 : Int) (h : zH) : Prop :=
  (u1 ≠ u2 → (zr (u0 + 1) ∧ ((∀ x5_2 : Int, x5_2 = u0 + 1 → (zr (x6 + 1) ∧ (L148 (x5_2, x6 + 1, h))))))) ∧ (u1 = u2 → (zr (u0 + 0) ∧ ((∀ x5_5 : Int, x5_5 = u0 + 0 → (zr (x6 + 1) ∧ (L148 (x5_5, x6 + 1, h)))))))
set_option maxRecDepth 100000 in
theorem s_RM_effect_191 {Wf : Heap → List Loc → JFrame → Prop} {m : MethodId} {g : zG} {n : Nat} {H0 : Heap} (X : zX Wf m rm_RM_effect b_RM_effect "AliasStreamsModel" 7 g n H0) {K : Int → zH → Prop} (E : zEx Wf m b_RM_effect (some .int) 7 g n H0 (zPi K)) {L148 : Int × Int × zH → Prop} {p0 : Nat} {x3 : Int} {x4 : Int} {x6 : Int} (hL148 : ∀ q : Int × Int × zH, L148 q → zr q.1 → zr q.2.1 → zh (q.2.2) → zW Wf m 7 g n H0 148 [(0, .ref (g.2.2 p0)), (3, zi x3), (4, zi x4), (5, zi q.1), (6, zi q.2.1)] [] (q.2.2)) (op0 : zO n p0 11) (rx3 : zr x3) (rx4 : zr x4) (rx6 : zr x6) {u0 : Int} {u1 : Int} {u2 : Int} (ru0 : zr u0) (ru1 : zr u1) (ru2 : zr u2) {h : zH} (hh : zh h) (hv : B_RM_effect_191 K L148 p0 x3 x4 x6 u0 u1 u2 h) : zW Wf m 7 g n H0 191 [(0, .ref (g.2.2 p0)), (3, zi x3), (4, zi x4), (6, zi x6)] [zi u2, zi u1, zi u0] h := by
  unfold B_RM_effect_191 at hv
  refine z_icmp_ne (pc := 191) (tgt := 198) X ru1 ru2 d_RM_effect_191 (by decide) (fun hc => ?_) (fun hc => ?_)
  · replace hv := hv.1 hc
    refine z_iconst (pc := 198) X d_RM_effect_198 ?_
    obtain ⟨v_1, hv⟩ := hv
    refine z_iadd (pc := 199) X d_RM_effect_199 ?_
    refine z_topi (fun x5_2 ex5_2 => ?_)
    have rx5_2 : zr x5_2 := by rw [ex5_2]; exact v_1
    replace hv := hv x5_2 ex5_2
    refine z_istore (pc := 200) (lv' := [(5, zi x5_2), (0, .ref (g.2.2 p0)), (3, zi x3), (4, zi x4), (6, zi x6)]) X d_RM_effect_200 (by decide) rfl ?_
    obtain ⟨v_3, hv⟩ := hv
    refine z_iinc (pc := 202) (q := 4) (lv' := [(6, zi (x6 + 1)), (5, zi x5_2), (0, .ref (g.2.2 p0)), (3, zi x3), (4, zi x4)]) X d_RM_effect_202 rfl (by decide) rfl ?_
    refine z_goto (pc := 205) (tgt := 148) X d_RM_effect_205 (by decide) ?_
    refine z_perm [2, 3, 4, 1, 0] rfl ?_
    exact hL148 _ hv rx5_2 v_3 hh
  · replace hv := hv.2 hc
    refine z_iconst (pc := 194) X d_RM_effect_194 ?_
    refine z_goto (pc := 195) (tgt := 199) X d_RM_effect_195 (by decide) ?_
    obtain ⟨v_4, hv⟩ := hv
    refine z_iadd (pc := 199) X d_RM_effect_199 ?_
    refine z_topi (fun x5_5 ex5_5 => ?_)
    have rx5_5 : zr x5_5 := by rw [ex5_5]; exact v_4
    replace hv := hv x5_5 ex5_5
    refine z_istore (pc := 200) (lv' := [(5, zi x5_5), (0, .ref (g.2.2 p0)), (3, zi x3), (4, zi x4), (6, zi x6)]) X d_RM_effect_200 (by decide) rfl ?_
    obtain ⟨v_6, hv⟩ := hv
    refine z_iinc (pc := 202) (q := 4) (lv' := [(6, zi (x6 + 1)), (5, zi x5_5), (0, .ref (g.2.2 p0)), (3, zi x3), (4, zi x4)]) X d_RM_effect_202 rfl (by decide) rfl ?_
    refine z_goto (pc := 205) (tgt := 148) X d_RM_effect_205 (by decide) ?_
    refine z_perm [2, 3, 4, 1, 0] rfl ?_
    exact hL148 _ hv rx5_5 v_6 hh
def F_RM_effect_148 (K : Int → zH → Prop)  (L148 : Int × Int × zH → Prop) (p0 : Nat) (x3 : Int) (x4 : Int) (x5 : Int) (x6 : Int) (h : zH) : Prop :=
  (h (p0 + 3) 189 ≤ x6 → ((x3 ≠ 0 → ((x4 = 0 → (K 0 h)) ∧ (x4 ≠ 0 → (K 1 h)))) ∧ (x3 = 0 → (K x5 h)))) ∧ (x6 < h (p0 + 3) 189 → ((0 ≤ x6 ∧ x6 < 40) ∧ ((h p0 27 ≤ x6 → (B_RM_effect_191 K L148 p0 x3 x4 x6 x5 (h (p0 + 20) x6.toNat) (-9) h)) ∧ (x6 < h p0 27 → ((0 ≤ x6 ∧ x6 < 40) ∧ (B_RM_effect_191 K L148 p0 x3 x4 x6 x5 (h (p0 + 20) x6.toNat) (h (p0 + 17) x6.toNat) h))))))
set_option maxRecDepth 100000 in
theorem s_RM_effect_148 {Wf : Heap → List Loc → JFrame → Prop} {m : MethodId} {g : zG} {n : Nat} {H0 : Heap} (X : zX Wf m rm_RM_effect b_RM_effect "AliasStreamsModel" 7 g n H0) {K : Int → zH → Prop} (E : zEx Wf m b_RM_effect (some .int) 7 g n H0 (zPi K))  {p0 : Nat} {x3 : Int} {x4 : Int}  (op0 : zO n p0 11) (rx3 : zr x3) (rx4 : zr x4) {q0 : Int × Int × zH} (hv0 : zLoop (fun L q => F_RM_effect_148 K  L p0 x3 x4 q.1 q.2.1 q.2.2) q0) : zr q0.1 → zr q0.2.1 → zh (q0.2.2) → zW Wf m 7 g n H0 148 [(0, .ref (g.2.2 p0)), (3, zi x3), (4, zi x4), (5, zi q0.1), (6, zi q0.2.1)] [] (q0.2.2) := by
  refine zLoop_use (G := fun q => zr q.1 → zr q.2.1 → zh (q.2.2) → zW Wf m 7 g n H0 148 [(0, .ref (g.2.2 p0)), (3, zi x3), (4, zi x4), (5, zi q.1), (6, zi q.2.1)] [] (q.2.2)) ?_ hv0
  rintro L148 ⟨x5, x6, h⟩ hL148 hv rx5 rx6 hh
  have hv : F_RM_effect_148 K  L148 p0 x3 x4 x5 x6 h := hv
  unfold F_RM_effect_148 at hv
  show zW Wf m 7 g n H0 148 [(0, .ref (g.2.2 p0)), (3, zi x3), (4, zi x4), (5, zi x5), (6, zi x6)] [] h
  refine z_iload (pc := 148) (q := 4) X d_RM_effect_148 rfl ?_
  refine z_aload_n (pc := 150) (q := 0) X d_RM_effect_150 rfl ?_
  refine z_getr (pc := 151) (j := 9) (dd := 3) X cf_RM op0 (by decide) q1030 rfl rfl d_RM_effect_151 ?_
  refine z_sipush (pc := 154) X d_RM_effect_154 (by decide) ?_
  refine z_ialdj (pc := 157) (j := 189) X (gf_RM_9 op0) (gl_RM_9 op0) (show zr 189 from by decide) ⟨by decide, by decide⟩ rfl d_RM_effect_157 ?_
  refine z_icmp_ge (pc := 158) (tgt := 208) X rx6 (hh.1 _ _ (zO.ne (gf_RM_9 op0) (by decide))) d_RM_effect_158 (by decide) (fun hc => ?_) (fun hc => ?_)
  · replace hv := hv.1 hc
    refine z_iload_n (pc := 208) (q := 1) X d_RM_effect_208 rfl ?_
    refine z_if_ne (pc := 209) (tgt := 217) X rx3 d_RM_effect_209 (by decide) (fun hc => ?_) (fun hc => ?_)
    · replace hv := hv.1 hc
      refine z_iload (pc := 217) (q := 2) X d_RM_effect_217 rfl ?_
      refine z_if_eq (pc := 219) (tgt := 226) X rx4 d_RM_effect_219 (by decide) (fun hc => ?_) (fun hc => ?_)
      · replace hv := hv.1 hc
        refine z_iconst (pc := 226) X d_RM_effect_226 ?_
        exact E.2.1 rfl _ _ _ _ d_RM_effect_227 ⟨_, rfl, (show zr 0 from by decide), hh, hv⟩
      · replace hv := hv.2 hc
        refine z_iconst (pc := 222) X d_RM_effect_222 ?_
        refine z_goto (pc := 223) (tgt := 227) X d_RM_effect_223 (by decide) ?_
        exact E.2.1 rfl _ _ _ _ d_RM_effect_227 ⟨_, rfl, (show zr 1 from by decide), hh, hv⟩
    · replace hv := hv.2 hc
      refine z_iload (pc := 212) (q := 3) X d_RM_effect_212 rfl ?_
      refine z_goto (pc := 214) (tgt := 227) X d_RM_effect_214 (by decide) ?_
      exact E.2.1 rfl _ _ _ _ d_RM_effect_227 ⟨_, rfl, rx5, hh, hv⟩
  · replace hv := hv.2 hc
    refine z_iload (pc := 161) (q := 3) X d_RM_effect_161 rfl ?_
    refine z_aload_n (pc := 163) (q := 0) X d_RM_effect_163 rfl ?_
    refine z_getr (pc := 164) (j := 28) (dd := 20) X cf_RM op0 (by decide) q1049 rfl rfl d_RM_effect_164 ?_
    refine z_iload (pc := 167) (q := 4) X d_RM_effect_167 rfl ?_
    obtain ⟨v_1, hv⟩ := hv
    refine z_ialdj (pc := 169) (j := x6.toNat) X (gf_RM_28 op0) (gl_RM_28 op0) rx6 v_1 rfl d_RM_effect_169 ?_
    refine z_iload (pc := 170) (q := 4) X d_RM_effect_170 rfl ?_
    refine z_aload_n (pc := 172) (q := 0) X d_RM_effect_172 rfl ?_
    refine z_geti (pc := 173) (j := 27) X cf_RM op0 (by decide) q1048 rfl rfl d_RM_effect_173 ?_
    refine z_icmp_ge (pc := 176) (tgt := 189) X rx6 (hh.1 _ _ (zO.ne op0 (by decide))) d_RM_effect_176 (by decide) (fun hc => ?_) (fun hc => ?_)
    · replace hv := hv.1 hc
      refine z_bipush (pc := 189) X d_RM_effect_189 (by decide) ?_
      refine z_perm [0, 1, 2, 4] rfl ?_
      exact s_RM_effect_191 X E hL148 op0 rx3 rx4 rx6 rx5 (hh.1 _ _ (zO.ne (gf_RM_28 op0) (by decide))) (show zr (-9) from by decide) hh hv
    · replace hv := hv.2 hc
      refine z_aload_n (pc := 179) (q := 0) X d_RM_effect_179 rfl ?_
      refine z_getr (pc := 180) (j := 24) (dd := 17) X cf_RM op0 (by decide) q1045 rfl rfl d_RM_effect_180 ?_
      refine z_iload (pc := 183) (q := 4) X d_RM_effect_183 rfl ?_
      obtain ⟨v_2, hv⟩ := hv
      refine z_ialdj (pc := 185) (j := x6.toNat) X (gf_RM_24 op0) (gl_RM_24 op0) rx6 v_2 rfl d_RM_effect_185 ?_
      refine z_goto (pc := 186) (tgt := 191) X d_RM_effect_186 (by decide) ?_
      refine z_perm [0, 1, 2, 4] rfl ?_
      exact s_RM_effect_191 X E hL148 op0 rx3 rx4 rx6 rx5 (hh.1 _ _ (zO.ne (gf_RM_28 op0) (by decide))) (hh.1 _ _ (zO.ne (gf_RM_24 op0) (by decide))) hh hv
def F_RM_effect_68 (K : Int → zH → Prop)  (L68 : Int × zH → Prop) (p0 : Nat) (x1 : Int) (x2 : Int) (x3 : Int) (x4 : Int) (h : zH) : Prop :=
  (40 ≤ x4 → (M_RM_copyPage (p0 + 3) 0 (p0 + 4) 0 h (fun h_1 => zr (104 + x1) ∧ ((0 ≤ 104 + x1 ∧ 104 + x1 < 193) ∧ (∀ h_5 : zH, h_5 = zs h_1 (p0 + 4) ((104 + x1).toNat) x2 → (M_RM_take p0 (p0 + 4) h_5 (fun r_7 h_6 => zLoop (fun L q => F_RM_effect_148 K  L p0 x3 r_7 q.1 q.2.1 q.2.2) (0, 0, h_6)))))))) ∧ (x4 < 40 → ((h p0 27 ≤ x4 → ((0 ≤ x4 ∧ x4 < 40) ∧ (∀ h_9 : zH, h_9 = zs h (p0 + 20) x4.toNat (-9) → (zr (x4 + 1) ∧ (L68 (x4 + 1, h_9)))))) ∧ (x4 < h p0 27 → ((0 ≤ x4 ∧ x4 < 40) ∧ ((0 ≤ x4 ∧ x4 < 40) ∧ (∀ h_13 : zH, h_13 = zs h (p0 + 20) x4.toNat (h (p0 + 17) x4.toNat) → (zr (x4 + 1) ∧ (L68 (x4 + 1, h_13)))))))))
set_option maxRecDepth 100000 in
theorem s_RM_effect_68 {Wf : Heap → List Loc → JFrame → Prop} {m : MethodId} {g : zG} {n : Nat} {H0 : Heap} (X : zX Wf m rm_RM_effect b_RM_effect "AliasStreamsModel" 7 g n H0) {K : Int → zH → Prop} (E : zEx Wf m b_RM_effect (some .int) 7 g n H0 (zPi K))  {p0 : Nat} {x1 : Int} {x2 : Int} {x3 : Int}  (op0 : zO n p0 11) (rx1 : zr x1) (rx2 : zr x2) (rx3 : zr x3) {q0 : Int × zH} (hv0 : zLoop (fun L q => F_RM_effect_68 K  L p0 x1 x2 x3 q.1 q.2) q0) : zr q0.1 → zh (q0.2) → zW Wf m 7 g n H0 68 [(0, .ref (g.2.2 p0)), (1, zi x1), (2, zi x2), (3, zi x3), (4, zi q0.1)] [] (q0.2) := by
  refine zLoop_use (G := fun q => zr q.1 → zh (q.2) → zW Wf m 7 g n H0 68 [(0, .ref (g.2.2 p0)), (1, zi x1), (2, zi x2), (3, zi x3), (4, zi q.1)] [] (q.2)) ?_ hv0
  rintro L68 ⟨x4, h⟩ hL68 hv rx4 hh
  have hv : F_RM_effect_68 K  L68 p0 x1 x2 x3 x4 h := hv
  unfold F_RM_effect_68 at hv
  show zW Wf m 7 g n H0 68 [(0, .ref (g.2.2 p0)), (1, zi x1), (2, zi x2), (3, zi x3), (4, zi x4)] [] h
  refine z_iload (pc := 68) (q := 4) X d_RM_effect_68 rfl ?_
  refine z_bipush (pc := 70) X d_RM_effect_70 (by decide) ?_
  refine z_icmp_ge (pc := 72) (tgt := 109) X rx4 (show zr 40 from by decide) d_RM_effect_72 (by decide) (fun hc => ?_) (fun hc => ?_)
  · replace hv := hv.1 hc
    refine z_aload_n (pc := 109) (q := 0) X d_RM_effect_109 rfl ?_
    refine z_getr (pc := 110) (j := 9) (dd := 3) X cf_RM op0 (by decide) q1030 rfl rfl d_RM_effect_110 ?_
    refine z_iconst (pc := 113) X d_RM_effect_113 ?_
    refine z_aload_n (pc := 114) (q := 0) X d_RM_effect_114 rfl ?_
    refine z_getr (pc := 115) (j := 10) (dd := 4) X cf_RM op0 (by decide) q1031 rfl rfl d_RM_effect_115 ?_
    refine z_iconst (pc := 118) X d_RM_effect_118 ?_
    refine z_callSv (pc := 119) (As := [.ref (g.2.2 (p0 + 3)), zi 0, .ref (g.2.2 (p0 + 4)), zi 0]) (rest := []) X (fun l hl => c_RM_copyPage hl (gf_RM_9 op0) (show zr 0 from by decide) (gf_RM_10 op0) (show zr 0 from by decide) hh hv) mf_RM_copyPage q1169 ⟨⟨by decide, by decide⟩, rfl, rfl⟩ rfl d_RM_effect_119 rfl (Nat.le_of_ble_eq_true rfl) (fun h_1 zh_1 hv => ?_)
    refine z_aload_n (pc := 122) (q := 0) X d_RM_effect_122 rfl ?_
    refine z_getr (pc := 123) (j := 10) (dd := 4) X cf_RM op0 (by decide) q1031 rfl rfl d_RM_effect_123 ?_
    refine z_bipush (pc := 126) X d_RM_effect_126 (by decide) ?_
    refine z_iload_n (pc := 128) (q := 1) X d_RM_effect_128 rfl ?_
    obtain ⟨v_3, hv⟩ := hv
    refine z_iadd (pc := 129) X d_RM_effect_129 ?_
    refine z_iload_n (pc := 130) (q := 2) X d_RM_effect_130 rfl ?_
    obtain ⟨v_4, hv⟩ := hv
    refine z_iastj (pc := 131) (j := (104 + x1).toNat) X (gf_RM_10 op0) (gl_RM_10 op0) v_3 v_4 rfl d_RM_effect_131 ?_
    refine z_toph (fun h_5 eh_5 => ?_)
    have zh_5 : zh h_5 := by rw [eh_5]; exact zh_set zh_1 (zO.ne (gf_RM_10 op0) (by decide)) rx2
    replace hv := hv h_5 eh_5
    refine z_aload_n (pc := 132) (q := 0) X d_RM_effect_132 rfl ?_
    refine z_aload_n (pc := 133) (q := 0) X d_RM_effect_133 rfl ?_
    refine z_getr (pc := 134) (j := 10) (dd := 4) X cf_RM op0 (by decide) q1031 rfl rfl d_RM_effect_134 ?_
    refine z_callVi (pc := 137) (As := [.ref (g.2.2 (p0 + 4))]) (rest := []) X (fun l hl => c_RM_take hl op0 (gf_RM_10 op0) zh_5 hv) cf_RM op0 rfl mf_RM_take q1193 ⟨⟨by decide, by decide⟩, rfl, rfl⟩ rfl d_RM_effect_137 rfl (Nat.le_of_ble_eq_true rfl) (fun r_7 h_6 rr_7 zh_6 hv => ?_)
    refine z_istore (pc := 140) (lv' := [(4, zi r_7), (0, .ref (g.2.2 p0)), (1, zi x1), (2, zi x2), (3, zi x3)]) X d_RM_effect_140 (by decide) rfl ?_
    refine z_iconst (pc := 142) X d_RM_effect_142 ?_
    refine z_istore (pc := 143) (lv' := [(5, zi 0), (4, zi r_7), (0, .ref (g.2.2 p0)), (1, zi x1), (2, zi x2), (3, zi x3)]) X d_RM_effect_143 (by decide) rfl ?_
    refine z_iconst (pc := 145) X d_RM_effect_145 ?_
    refine z_istore (pc := 146) (lv' := [(6, zi 0), (5, zi 0), (4, zi r_7), (0, .ref (g.2.2 p0)), (1, zi x1), (2, zi x2), (3, zi x3)]) X d_RM_effect_146 (by decide) rfl ?_
    refine z_perm [3, 6, 2, 1, 0] rfl ?_
    exact s_RM_effect_148 X E  op0 rx3 rr_7 hv (show zr 0 from by decide) (show zr 0 from by decide) zh_6
  · replace hv := hv.2 hc
    refine z_aload_n (pc := 75) (q := 0) X d_RM_effect_75 rfl ?_
    refine z_getr (pc := 76) (j := 28) (dd := 20) X cf_RM op0 (by decide) q1049 rfl rfl d_RM_effect_76 ?_
    refine z_iload (pc := 79) (q := 4) X d_RM_effect_79 rfl ?_
    refine z_iload (pc := 81) (q := 4) X d_RM_effect_81 rfl ?_
    refine z_aload_n (pc := 83) (q := 0) X d_RM_effect_83 rfl ?_
    refine z_geti (pc := 84) (j := 27) X cf_RM op0 (by decide) q1048 rfl rfl d_RM_effect_84 ?_
    refine z_icmp_ge (pc := 87) (tgt := 100) X rx4 (hh.1 _ _ (zO.ne op0 (by decide))) d_RM_effect_87 (by decide) (fun hc => ?_) (fun hc => ?_)
    · replace hv := hv.1 hc
      refine z_bipush (pc := 100) X d_RM_effect_100 (by decide) ?_
      obtain ⟨v_8, hv⟩ := hv
      refine z_iastj (pc := 102) (j := x4.toNat) X (gf_RM_28 op0) (gl_RM_28 op0) rx4 v_8 rfl d_RM_effect_102 ?_
      refine z_toph (fun h_9 eh_9 => ?_)
      have zh_9 : zh h_9 := by rw [eh_9]; exact zh_set hh (zO.ne (gf_RM_28 op0) (by decide)) (show zr (-9) from by decide)
      replace hv := hv h_9 eh_9
      obtain ⟨v_10, hv⟩ := hv
      refine z_iinc (pc := 103) (q := 4) (lv' := [(4, zi (x4 + 1)), (0, .ref (g.2.2 p0)), (1, zi x1), (2, zi x2), (3, zi x3)]) X d_RM_effect_103 rfl (by decide) rfl ?_
      refine z_goto (pc := 106) (tgt := 68) X d_RM_effect_106 (by decide) ?_
      refine z_perm [1, 2, 3, 4, 0] rfl ?_
      exact hL68 _ hv v_10 zh_9
    · replace hv := hv.2 hc
      refine z_aload_n (pc := 90) (q := 0) X d_RM_effect_90 rfl ?_
      refine z_getr (pc := 91) (j := 24) (dd := 17) X cf_RM op0 (by decide) q1045 rfl rfl d_RM_effect_91 ?_
      refine z_iload (pc := 94) (q := 4) X d_RM_effect_94 rfl ?_
      obtain ⟨v_11, hv⟩ := hv
      refine z_ialdj (pc := 96) (j := x4.toNat) X (gf_RM_24 op0) (gl_RM_24 op0) rx4 v_11 rfl d_RM_effect_96 ?_
      refine z_goto (pc := 97) (tgt := 102) X d_RM_effect_97 (by decide) ?_
      obtain ⟨v_12, hv⟩ := hv
      refine z_iastj (pc := 102) (j := x4.toNat) X (gf_RM_28 op0) (gl_RM_28 op0) rx4 v_12 rfl d_RM_effect_102 ?_
      refine z_toph (fun h_13 eh_13 => ?_)
      have zh_13 : zh h_13 := by rw [eh_13]; exact zh_set hh (zO.ne (gf_RM_28 op0) (by decide)) (hh.1 _ _ (zO.ne (gf_RM_24 op0) (by decide)))
      replace hv := hv h_13 eh_13
      obtain ⟨v_14, hv⟩ := hv
      refine z_iinc (pc := 103) (q := 4) (lv' := [(4, zi (x4 + 1)), (0, .ref (g.2.2 p0)), (1, zi x1), (2, zi x2), (3, zi x3)]) X d_RM_effect_103 rfl (by decide) rfl ?_
      refine z_goto (pc := 106) (tgt := 68) X d_RM_effect_106 (by decide) ?_
      refine z_perm [1, 2, 3, 4, 0] rfl ?_
      exact hL68 _ hv v_14 zh_13
def B_RM_effect_40 (K : Int → zH → Prop)  (p0 : Nat) (x1 : Int) (x2 : Int) (x3 : Int) (w0 : Nat) (u1 : Int) (h : zH) : Prop :=
  M_RM_refused w0 u1 h (fun r_2 h_1 => (r_2 = 0 → (M_RM_layTables p0 (p0 + 3) h_1 (fun h_3 => M_RM_take p0 (p0 + 3) h_3 (fun r_6 h_5 => zLoop (fun L q => F_RM_effect_68 K  L p0 x1 x2 x3 q.1 q.2) (0, h_5))))) ∧ (r_2 ≠ 0 → (K 0 h_1)))
set_option maxRecDepth 100000 in
theorem s_RM_effect_40 {Wf : Heap → List Loc → JFrame → Prop} {m : MethodId} {g : zG} {n : Nat} {H0 : Heap} (X : zX Wf m rm_RM_effect b_RM_effect "AliasStreamsModel" 7 g n H0) {K : Int → zH → Prop} (E : zEx Wf m b_RM_effect (some .int) 7 g n H0 (zPi K))  {p0 : Nat} {x1 : Int} {x2 : Int} {x3 : Int}  (op0 : zO n p0 11) (rx1 : zr x1) (rx2 : zr x2) (rx3 : zr x3) {w0 : Nat} {u1 : Int} (ow0 : zO n w0 11) (ru1 : zr u1) {h : zH} (hh : zh h) (hv : B_RM_effect_40 K  p0 x1 x2 x3 w0 u1 h) : zW Wf m 7 g n H0 40 [(0, .ref (g.2.2 p0)), (1, zi x1), (2, zi x2), (3, zi x3)] [zi u1, .ref (g.2.2 w0)] h := by
  unfold B_RM_effect_40 at hv
  refine z_callVi (pc := 40) (As := [zi u1]) (rest := []) X (fun l hl => c_RM_refused hl ow0 ru1 hh hv) cf_RM ow0 rfl mf_RM_refused q1130 ⟨⟨by decide, by decide⟩, rfl, rfl⟩ rfl d_RM_effect_40 rfl (Nat.le_of_ble_eq_true rfl) (fun r_2 h_1 rr_2 zh_1 hv => ?_)
  refine z_if_eq (pc := 43) (tgt := 48) X rr_2 d_RM_effect_43 (by decide) (fun hc => ?_) (fun hc => ?_)
  · replace hv := hv.1 hc
    refine z_aload_n (pc := 48) (q := 0) X d_RM_effect_48 rfl ?_
    refine z_aload_n (pc := 49) (q := 0) X d_RM_effect_49 rfl ?_
    refine z_getr (pc := 50) (j := 9) (dd := 3) X cf_RM op0 (by decide) q1030 rfl rfl d_RM_effect_50 ?_
    refine z_callVv (pc := 53) (As := [.ref (g.2.2 (p0 + 3))]) (rest := []) X (fun l hl => c_RM_layTables hl op0 (gf_RM_9 op0) zh_1 hv) cf_RM op0 rfl mf_RM_layTables q1181 ⟨⟨by decide, by decide⟩, rfl, rfl⟩ rfl d_RM_effect_53 rfl (Nat.le_of_ble_eq_true rfl) (fun h_3 zh_3 hv => ?_)
    refine z_aload_n (pc := 56) (q := 0) X d_RM_effect_56 rfl ?_
    refine z_aload_n (pc := 57) (q := 0) X d_RM_effect_57 rfl ?_
    refine z_getr (pc := 58) (j := 9) (dd := 3) X cf_RM op0 (by decide) q1030 rfl rfl d_RM_effect_58 ?_
    refine z_callVi (pc := 61) (As := [.ref (g.2.2 (p0 + 3))]) (rest := []) X (fun l hl => c_RM_take hl op0 (gf_RM_9 op0) zh_3 hv) cf_RM op0 rfl mf_RM_take q1193 ⟨⟨by decide, by decide⟩, rfl, rfl⟩ rfl d_RM_effect_61 rfl (Nat.le_of_ble_eq_true rfl) (fun r_6 h_5 rr_6 zh_5 hv => ?_)
    refine z_pop (pc := 64) X d_RM_effect_64 rfl ?_
    refine z_iconst (pc := 65) X d_RM_effect_65 ?_
    refine z_istore (pc := 66) (lv' := [(4, zi 0), (0, .ref (g.2.2 p0)), (1, zi x1), (2, zi x2), (3, zi x3)]) X d_RM_effect_66 (by decide) rfl ?_
    refine z_perm [1, 2, 3, 4, 0] rfl ?_
    exact s_RM_effect_68 X E  op0 rx1 rx2 rx3 hv (show zr 0 from by decide) zh_5
  · replace hv := hv.2 hc
    refine z_iconst (pc := 46) X d_RM_effect_46 ?_
    exact E.2.1 rfl _ _ _ _ d_RM_effect_47 ⟨_, rfl, (show zr 0 from by decide), zh_1, hv⟩
def B_RM_effect_35 (K : Int → zH → Prop)  (p0 : Nat) (x1 : Int) (x2 : Int) (x3 : Int) (w0 : Nat) (h : zH) : Prop :=
  B_RM_effect_40 K  p0 x1 x2 x3 w0 2 h
set_option maxRecDepth 100000 in
theorem s_RM_effect_35 {Wf : Heap → List Loc → JFrame → Prop} {m : MethodId} {g : zG} {n : Nat} {H0 : Heap} (X : zX Wf m rm_RM_effect b_RM_effect "AliasStreamsModel" 7 g n H0) {K : Int → zH → Prop} (E : zEx Wf m b_RM_effect (some .int) 7 g n H0 (zPi K))  {p0 : Nat} {x1 : Int} {x2 : Int} {x3 : Int}  (op0 : zO n p0 11) (rx1 : zr x1) (rx2 : zr x2) (rx3 : zr x3) {w0 : Nat} (ow0 : zO n w0 11) {h : zH} (hh : zh h) (hv : B_RM_effect_35 K  p0 x1 x2 x3 w0 h) : zW Wf m 7 g n H0 35 [(0, .ref (g.2.2 p0)), (1, zi x1), (2, zi x2), (3, zi x3)] [.ref (g.2.2 w0)] h := by
  unfold B_RM_effect_35 at hv
  refine z_iconst (pc := 35) X d_RM_effect_35 ?_
  refine z_goto (pc := 36) (tgt := 40) X d_RM_effect_36 (by decide) ?_
  exact s_RM_effect_40 X E  op0 rx1 rx2 rx3 ow0 (show zr 2 from by decide) hh hv
def M_RM_effect (p0 : Nat) (x1 : Int) (x2 : Int) (x3 : Int) (h : zH) (K : Int → zH → Prop) : Prop :=
  M_RM_isDigit p0 x1 h (fun r_2 h_1 => (r_2 ≠ 0 → (M_RM_in x2 0 15 h_1 (fun r_4 h_3 => (r_4 = 0 → (B_RM_effect_35 K  p0 x1 x2 x3 p0 h_3)) ∧ (r_4 ≠ 0 → (M_RM_in x3 0 1 h_3 (fun r_6 h_5 => (r_6 ≠ 0 → (B_RM_effect_40 K  p0 x1 x2 x3 p0 0 h_5)) ∧ (r_6 = 0 → (B_RM_effect_35 K  p0 x1 x2 x3 p0 h_5)))))))) ∧ (r_2 = 0 → (B_RM_effect_40 K  p0 x1 x2 x3 p0 1 h_1)))
set_option maxRecDepth 100000 in
theorem c_RM_effect {l : Launch} (hfl : l.flags = flags0) {g : zG} {n : Nat} {p0 : Nat} {x1 : Int} {x2 : Int} {x3 : Int} (op0 : zO n p0 11) (rx1 : zr x1) (rx2 : zr x2) (rx3 : zr x3) {h : zH} (hh : zh h) {K : Int → zH → Prop} (hv : M_RM_effect p0 x1 x2 x3 h K) : zMet l y_RM_effect b_RM_effect 7 (some .int) rm_RM_effect g n [.ref (g.2.2 p0), zi x1, zi x2, zi x3] h (zPi K) := by
  refine zMet_of (own := "AliasStreamsModel") hfl (by decide) rfl (Nat.le_of_ble_eq_true rfl) (fun Wf m H0 X E => ?_)
  unfold M_RM_effect at hv
  show zW Wf m 7 g n H0 0 [(0, .ref (g.2.2 p0)), (1, zi x1), (2, zi x2), (3, zi x3)] [] h
  refine z_aload_n (pc := 0) (q := 0) X d_RM_effect_0 rfl ?_
  refine z_aload_n (pc := 1) (q := 0) X d_RM_effect_1 rfl ?_
  refine z_iload_n (pc := 2) (q := 1) X d_RM_effect_2 rfl ?_
  refine z_callVi (pc := 3) (As := [zi x1]) (rest := [.ref (g.2.2 p0)]) X (fun l hl => c_RM_isDigit hl op0 rx1 hh hv) cf_RM op0 rfl mf_RM_isDigit q1298 ⟨⟨by decide, by decide⟩, rfl, rfl⟩ rfl d_RM_effect_3 rfl (Nat.le_of_ble_eq_true rfl) (fun r_2 h_1 rr_2 zh_1 hv => ?_)
  refine z_if_ne (pc := 6) (tgt := 13) X rr_2 d_RM_effect_6 (by decide) (fun hc => ?_) (fun hc => ?_)
  · replace hv := hv.1 hc
    refine z_iload_n (pc := 13) (q := 2) X d_RM_effect_13 rfl ?_
    refine z_i2l (pc := 14) X rx2 d_RM_effect_14 ?_
    refine z_lconst (pc := 15) (x := 0) X d_RM_effect_15 (by decide) ?_
    refine z_ldc2 (pc := 16) (x := 15) X d_RM_effect_16 q1302 (by decide) ?_
    refine z_callSi (pc := 19) (As := [zj x2, zj 0, zj 15]) (rest := [.ref (g.2.2 p0)]) X (fun l hl => c_RM_in hl (zr_l rx2) (show zrl 0 from by decide) (show zrl 15 from by decide) zh_1 hv) mf_RM_in q1127 ⟨⟨by decide, by decide⟩, rfl, rfl⟩ rfl d_RM_effect_19 rfl (Nat.le_of_ble_eq_true rfl) (fun r_4 h_3 rr_4 zh_3 hv => ?_)
    refine z_if_eq (pc := 22) (tgt := 35) X rr_4 d_RM_effect_22 (by decide) (fun hc => ?_) (fun hc => ?_)
    · replace hv := hv.1 hc
      exact s_RM_effect_35 X E  op0 rx1 rx2 rx3 op0 zh_3 hv
    · replace hv := hv.2 hc
      refine z_iload_n (pc := 25) (q := 3) X d_RM_effect_25 rfl ?_
      refine z_i2l (pc := 26) X rx3 d_RM_effect_26 ?_
      refine z_lconst (pc := 27) (x := 0) X d_RM_effect_27 (by decide) ?_
      refine z_lconst (pc := 28) (x := 1) X d_RM_effect_28 (by decide) ?_
      refine z_callSi (pc := 29) (As := [zj x3, zj 0, zj 1]) (rest := [.ref (g.2.2 p0)]) X (fun l hl => c_RM_in hl (zr_l rx3) (show zrl 0 from by decide) (show zrl 1 from by decide) zh_3 hv) mf_RM_in q1127 ⟨⟨by decide, by decide⟩, rfl, rfl⟩ rfl d_RM_effect_29 rfl (Nat.le_of_ble_eq_true rfl) (fun r_6 h_5 rr_6 zh_5 hv => ?_)
      refine z_if_ne (pc := 32) (tgt := 39) X rr_6 d_RM_effect_32 (by decide) (fun hc => ?_) (fun hc => ?_)
      · replace hv := hv.1 hc
        refine z_iconst (pc := 39) X d_RM_effect_39 ?_
        exact s_RM_effect_40 X E  op0 rx1 rx2 rx3 op0 (show zr 0 from by decide) zh_5 hv
      · replace hv := hv.2 hc
        exact s_RM_effect_35 X E  op0 rx1 rx2 rx3 op0 zh_5 hv
  · replace hv := hv.2 hc
    refine z_iconst (pc := 9) X d_RM_effect_9 ?_
    refine z_goto (pc := 10) (tgt := 40) X d_RM_effect_10 (by decide) ?_
    exact s_RM_effect_40 X E  op0 rx1 rx2 rx3 op0 (show zr 1 from by decide) zh_1 hv
theorem d_RM_does_0 : decode b_RM_does 0 = .ok (.iload_n 1, 1) := by decide +kernel
theorem d_RM_does_1 : decode b_RM_does 1 = .ok (.tableswitch 316 1 8 #[47, 92, 121, 152, 183, 209, 231, 275], 47) := by decide +kernel
theorem d_RM_does_48 : decode b_RM_does 48 = .ok (.iload_n 2, 1) := by decide +kernel
theorem d_RM_does_49 : decode b_RM_does 49 = .ok (.ifCond .ne 24, 3) := by decide +kernel
theorem d_RM_does_52 : decode b_RM_does 52 = .ok (.aload_n 0, 1) := by decide +kernel
theorem d_RM_does_53 : decode b_RM_does 53 = .ok (.iload_n 3, 1) := by decide +kernel
theorem d_RM_does_54 : decode b_RM_does 54 = .ok (.invokevirtual 185, 3) := by decide +kernel
theorem d_RM_does_57 : decode b_RM_does 57 = .ok (.ifCond .eq 16, 3) := by decide +kernel
theorem d_RM_does_60 : decode b_RM_does 60 = .ok (.aload_n 0, 1) := by decide +kernel
theorem d_RM_does_61 : decode b_RM_does 61 = .ok (.getfield 26, 3) := by decide +kernel
theorem d_RM_does_64 : decode b_RM_does 64 = .ok (.sipush 188, 3) := by decide +kernel
theorem d_RM_does_67 : decode b_RM_does 67 = .ok (.iaload, 1) := by decide +kernel
theorem d_RM_does_68 : decode b_RM_does 68 = .ok (.bipush 40, 2) := by decide +kernel
theorem d_RM_does_70 : decode b_RM_does 70 = .ok (.if_icmp .ne 5, 3) := by decide +kernel
theorem d_RM_does_73 : decode b_RM_does 73 = .ok (.iconst 0, 1) := by decide +kernel
theorem d_RM_does_74 : decode b_RM_does 74 = .ok (.ireturn, 1) := by decide +kernel
theorem d_RM_does_75 : decode b_RM_does 75 = .ok (.aload_n 0, 1) := by decide +kernel
theorem d_RM_does_76 : decode b_RM_does 76 = .ok (.getfield 26, 3) := by decide +kernel
theorem d_RM_does_79 : decode b_RM_does 79 = .ok (.aload_n 0, 1) := by decide +kernel
theorem d_RM_does_80 : decode b_RM_does 80 = .ok (.getfield 26, 3) := by decide +kernel
theorem d_RM_does_83 : decode b_RM_does 83 = .ok (.sipush 188, 3) := by decide +kernel
theorem d_RM_does_86 : decode b_RM_does 86 = .ok (.iaload, 1) := by decide +kernel
theorem d_RM_does_87 : decode b_RM_does 87 = .ok (.iload_n 3, 1) := by decide +kernel
theorem d_RM_does_88 : decode b_RM_does 88 = .ok (.invokestatic 188, 3) := by decide +kernel
theorem d_RM_does_91 : decode b_RM_does 91 = .ok (.iconst 1, 1) := by decide +kernel
theorem d_RM_does_92 : decode b_RM_does 92 = .ok (.ireturn, 1) := by decide +kernel
theorem d_RM_does_93 : decode b_RM_does 93 = .ok (.iload_n 2, 1) := by decide +kernel
theorem d_RM_does_94 : decode b_RM_does 94 = .ok (.ifCond .ne 15, 3) := by decide +kernel
theorem d_RM_does_97 : decode b_RM_does 97 = .ok (.iload_n 3, 1) := by decide +kernel
theorem d_RM_does_98 : decode b_RM_does 98 = .ok (.aload_n 0, 1) := by decide +kernel
theorem d_RM_does_99 : decode b_RM_does 99 = .ok (.getfield 26, 3) := by decide +kernel
theorem d_RM_does_102 : decode b_RM_does 102 = .ok (.sipush 188, 3) := by decide +kernel
theorem d_RM_does_105 : decode b_RM_does 105 = .ok (.iaload, 1) := by decide +kernel
theorem d_RM_does_106 : decode b_RM_does 106 = .ok (.if_icmp .lt 5, 3) := by decide +kernel
theorem d_RM_does_109 : decode b_RM_does 109 = .ok (.iconst 0, 1) := by decide +kernel
theorem d_RM_does_110 : decode b_RM_does 110 = .ok (.ireturn, 1) := by decide +kernel
theorem d_RM_does_111 : decode b_RM_does 111 = .ok (.aload_n 0, 1) := by decide +kernel
theorem d_RM_does_112 : decode b_RM_does 112 = .ok (.getfield 26, 3) := by decide +kernel
theorem d_RM_does_115 : decode b_RM_does 115 = .ok (.iload_n 3, 1) := by decide +kernel
theorem d_RM_does_116 : decode b_RM_does 116 = .ok (.invokestatic 192, 3) := by decide +kernel
theorem d_RM_does_119 : decode b_RM_does 119 = .ok (.pop, 1) := by decide +kernel
theorem d_RM_does_120 : decode b_RM_does 120 = .ok (.iconst 1, 1) := by decide +kernel
theorem d_RM_does_121 : decode b_RM_does 121 = .ok (.ireturn, 1) := by decide +kernel
theorem d_RM_does_122 : decode b_RM_does 122 = .ok (.iload_n 2, 1) := by decide +kernel
theorem d_RM_does_123 : decode b_RM_does 123 = .ok (.ifCond .ne 18, 3) := by decide +kernel
theorem d_RM_does_126 : decode b_RM_does 126 = .ok (.iload_n 3, 1) := by decide +kernel
theorem d_RM_does_127 : decode b_RM_does 127 = .ok (.ifCond .ne 14, 3) := by decide +kernel
theorem d_RM_does_130 : decode b_RM_does 130 = .ok (.aload_n 0, 1) := by decide +kernel
theorem d_RM_does_131 : decode b_RM_does 131 = .ok (.aload_n 0, 1) := by decide +kernel
theorem d_RM_does_132 : decode b_RM_does 132 = .ok (.getfield 26, 3) := by decide +kernel
theorem d_RM_does_135 : decode b_RM_does 135 = .ok (.invokevirtual 200, 3) := by decide +kernel
theorem d_RM_does_138 : decode b_RM_does 138 = .ok (.ifCond .ne 5, 3) := by decide +kernel
theorem d_RM_does_141 : decode b_RM_does 141 = .ok (.iconst 0, 1) := by decide +kernel
theorem d_RM_does_142 : decode b_RM_does 142 = .ok (.ireturn, 1) := by decide +kernel
theorem d_RM_does_143 : decode b_RM_does 143 = .ok (.aload_n 0, 1) := by decide +kernel
theorem d_RM_does_144 : decode b_RM_does 144 = .ok (.aload_n 0, 1) := by decide +kernel
theorem d_RM_does_145 : decode b_RM_does 145 = .ok (.getfield 26, 3) := by decide +kernel
theorem d_RM_does_148 : decode b_RM_does 148 = .ok (.invokevirtual 203, 3) := by decide +kernel
theorem d_RM_does_151 : decode b_RM_does 151 = .ok (.iconst 1, 1) := by decide +kernel
theorem d_RM_does_152 : decode b_RM_does 152 = .ok (.ireturn, 1) := by decide +kernel
theorem d_RM_does_153 : decode b_RM_does 153 = .ok (.iload_n 2, 1) := by decide +kernel
theorem d_RM_does_154 : decode b_RM_does 154 = .ok (.ifCond .ne 18, 3) := by decide +kernel
theorem d_RM_does_157 : decode b_RM_does 157 = .ok (.iload_n 3, 1) := by decide +kernel
theorem d_RM_does_158 : decode b_RM_does 158 = .ok (.ifCond .ne 14, 3) := by decide +kernel
theorem d_RM_does_161 : decode b_RM_does 161 = .ok (.aload_n 0, 1) := by decide +kernel
theorem d_RM_does_162 : decode b_RM_does 162 = .ok (.aload_n 0, 1) := by decide +kernel
theorem d_RM_does_163 : decode b_RM_does 163 = .ok (.getfield 26, 3) := by decide +kernel
theorem d_RM_does_166 : decode b_RM_does 166 = .ok (.invokevirtual 213, 3) := by decide +kernel
theorem d_RM_does_169 : decode b_RM_does 169 = .ok (.ifCond .ne 5, 3) := by decide +kernel
theorem d_RM_does_172 : decode b_RM_does 172 = .ok (.iconst 0, 1) := by decide +kernel
theorem d_RM_does_173 : decode b_RM_does 173 = .ok (.ireturn, 1) := by decide +kernel
theorem d_RM_does_174 : decode b_RM_does 174 = .ok (.aload_n 0, 1) := by decide +kernel
theorem d_RM_does_175 : decode b_RM_does 175 = .ok (.aload_n 0, 1) := by decide +kernel
theorem d_RM_does_176 : decode b_RM_does 176 = .ok (.getfield 26, 3) := by decide +kernel
theorem d_RM_does_179 : decode b_RM_does 179 = .ok (.invokevirtual 216, 3) := by decide +kernel
theorem d_RM_does_182 : decode b_RM_does 182 = .ok (.iconst 1, 1) := by decide +kernel
theorem d_RM_does_183 : decode b_RM_does 183 = .ok (.ireturn, 1) := by decide +kernel
theorem d_RM_does_184 : decode b_RM_does 184 = .ok (.iload_n 3, 1) := by decide +kernel
theorem d_RM_does_185 : decode b_RM_does 185 = .ok (.aload_n 0, 1) := by decide +kernel
theorem d_RM_does_186 : decode b_RM_does 186 = .ok (.getfield 26, 3) := by decide +kernel
theorem d_RM_does_189 : decode b_RM_does 189 = .ok (.sipush 190, 3) := by decide +kernel
theorem d_RM_does_192 : decode b_RM_does 192 = .ok (.iaload, 1) := by decide +kernel
theorem d_RM_does_193 : decode b_RM_does 193 = .ok (.if_icmp .lt 5, 3) := by decide +kernel
theorem d_RM_does_196 : decode b_RM_does 196 = .ok (.iconst 0, 1) := by decide +kernel
theorem d_RM_does_197 : decode b_RM_does 197 = .ok (.ireturn, 1) := by decide +kernel
theorem d_RM_does_198 : decode b_RM_does 198 = .ok (.aload_n 0, 1) := by decide +kernel
theorem d_RM_does_199 : decode b_RM_does 199 = .ok (.getfield 26, 3) := by decide +kernel
theorem d_RM_does_202 : decode b_RM_does 202 = .ok (.bipush 104, 2) := by decide +kernel
theorem d_RM_does_204 : decode b_RM_does 204 = .ok (.iload_n 3, 1) := by decide +kernel
theorem d_RM_does_205 : decode b_RM_does 205 = .ok (.iadd, 1) := by decide +kernel
theorem d_RM_does_206 : decode b_RM_does 206 = .ok (.iload_n 2, 1) := by decide +kernel
theorem d_RM_does_207 : decode b_RM_does 207 = .ok (.iastore, 1) := by decide +kernel
theorem d_RM_does_208 : decode b_RM_does 208 = .ok (.iconst 1, 1) := by decide +kernel
theorem d_RM_does_209 : decode b_RM_does 209 = .ok (.ireturn, 1) := by decide +kernel
theorem d_RM_does_210 : decode b_RM_does 210 = .ok (.iload_n 2, 1) := by decide +kernel
theorem d_RM_does_211 : decode b_RM_does 211 = .ok (.ifCond .ne 19, 3) := by decide +kernel
theorem d_RM_does_214 : decode b_RM_does 214 = .ok (.aload_n 0, 1) := by decide +kernel
theorem d_RM_does_215 : decode b_RM_does 215 = .ok (.getfield 26, 3) := by decide +kernel
theorem d_RM_does_218 : decode b_RM_does 218 = .ok (.sipush 190, 3) := by decide +kernel
theorem d_RM_does_221 : decode b_RM_does 221 = .ok (.iaload, 1) := by decide +kernel
theorem d_RM_does_222 : decode b_RM_does 222 = .ok (.iload_n 3, 1) := by decide +kernel
theorem d_RM_does_223 : decode b_RM_does 223 = .ok (.if_icmp .ne 7, 3) := by decide +kernel
theorem d_RM_does_226 : decode b_RM_does 226 = .ok (.iconst 1, 1) := by decide +kernel
theorem d_RM_does_227 : decode b_RM_does 227 = .ok (.goto 4, 3) := by decide +kernel
theorem d_RM_does_230 : decode b_RM_does 230 = .ok (.iconst 0, 1) := by decide +kernel
theorem d_RM_does_231 : decode b_RM_does 231 = .ok (.ireturn, 1) := by decide +kernel
theorem d_RM_does_232 : decode b_RM_does 232 = .ok (.aload_n 0, 1) := by decide +kernel
theorem d_RM_does_233 : decode b_RM_does 233 = .ok (.aload_n 0, 1) := by decide +kernel
theorem d_RM_does_234 : decode b_RM_does 234 = .ok (.getfield 26, 3) := by decide +kernel
theorem d_RM_does_237 : decode b_RM_does 237 = .ok (.invokevirtual 164, 3) := by decide +kernel
theorem d_RM_does_240 : decode b_RM_does 240 = .ok (.iload_n 2, 1) := by decide +kernel
theorem d_RM_does_241 : decode b_RM_does 241 = .ok (.ifCond .ne 33, 3) := by decide +kernel
theorem d_RM_does_244 : decode b_RM_does 244 = .ok (.iload_n 3, 1) := by decide +kernel
theorem d_RM_does_245 : decode b_RM_does 245 = .ok (.iconst 2, 1) := by decide +kernel
theorem d_RM_does_246 : decode b_RM_does 246 = .ok (.if_icmp .ge 28, 3) := by decide +kernel
theorem d_RM_does_249 : decode b_RM_does 249 = .ok (.aload_n 0, 1) := by decide +kernel
theorem d_RM_does_250 : decode b_RM_does 250 = .ok (.aload_n 0, 1) := by decide +kernel
theorem d_RM_does_251 : decode b_RM_does 251 = .ok (.getfield 26, 3) := by decide +kernel
theorem d_RM_does_254 : decode b_RM_does 254 = .ok (.invokevirtual 105, 3) := by decide +kernel
theorem d_RM_does_257 : decode b_RM_does 257 = .ok (.iload_n 3, 1) := by decide +kernel
theorem d_RM_does_258 : decode b_RM_does 258 = .ok (.iconst 1, 1) := by decide +kernel
theorem d_RM_does_259 : decode b_RM_does 259 = .ok (.if_icmp .ne 7, 3) := by decide +kernel
theorem d_RM_does_262 : decode b_RM_does 262 = .ok (.iconst 1, 1) := by decide +kernel
theorem d_RM_does_263 : decode b_RM_does 263 = .ok (.goto 4, 3) := by decide +kernel
theorem d_RM_does_266 : decode b_RM_does 266 = .ok (.iconst 0, 1) := by decide +kernel
theorem d_RM_does_267 : decode b_RM_does 267 = .ok (.if_icmp .ne 7, 3) := by decide +kernel
theorem d_RM_does_270 : decode b_RM_does 270 = .ok (.iconst 1, 1) := by decide +kernel
theorem d_RM_does_271 : decode b_RM_does 271 = .ok (.goto 4, 3) := by decide +kernel
theorem d_RM_does_274 : decode b_RM_does 274 = .ok (.iconst 0, 1) := by decide +kernel
theorem d_RM_does_275 : decode b_RM_does 275 = .ok (.ireturn, 1) := by decide +kernel
theorem d_RM_does_276 : decode b_RM_does 276 = .ok (.aload_n 0, 1) := by decide +kernel
theorem d_RM_does_277 : decode b_RM_does 277 = .ok (.aload_n 0, 1) := by decide +kernel
theorem d_RM_does_278 : decode b_RM_does 278 = .ok (.getfield 26, 3) := by decide +kernel
theorem d_RM_does_281 : decode b_RM_does 281 = .ok (.invokevirtual 164, 3) := by decide +kernel
theorem d_RM_does_284 : decode b_RM_does 284 = .ok (.aload_n 0, 1) := by decide +kernel
theorem d_RM_does_285 : decode b_RM_does 285 = .ok (.aload_n 0, 1) := by decide +kernel
theorem d_RM_does_286 : decode b_RM_does 286 = .ok (.getfield 26, 3) := by decide +kernel
theorem d_RM_does_289 : decode b_RM_does 289 = .ok (.invokevirtual 105, 3) := by decide +kernel
theorem d_RM_does_292 : decode b_RM_does 292 = .ok (.pop, 1) := by decide +kernel
theorem d_RM_does_293 : decode b_RM_does 293 = .ok (.iload_n 3, 1) := by decide +kernel
theorem d_RM_does_294 : decode b_RM_does 294 = .ok (.aload_n 0, 1) := by decide +kernel
theorem d_RM_does_295 : decode b_RM_does 295 = .ok (.getfield 102, 3) := by decide +kernel
theorem d_RM_does_298 : decode b_RM_does 298 = .ok (.if_icmp .ge 17, 3) := by decide +kernel
theorem d_RM_does_301 : decode b_RM_does 301 = .ok (.aload_n 0, 1) := by decide +kernel
theorem d_RM_does_302 : decode b_RM_does 302 = .ok (.getfield 66, 3) := by decide +kernel
theorem d_RM_does_305 : decode b_RM_does 305 = .ok (.iload_n 3, 1) := by decide +kernel
theorem d_RM_does_306 : decode b_RM_does 306 = .ok (.iaload, 1) := by decide +kernel
theorem d_RM_does_307 : decode b_RM_does 307 = .ok (.iload_n 2, 1) := by decide +kernel
theorem d_RM_does_308 : decode b_RM_does 308 = .ok (.if_icmp .ne 7, 3) := by decide +kernel
theorem d_RM_does_311 : decode b_RM_does 311 = .ok (.iconst 1, 1) := by decide +kernel
theorem d_RM_does_312 : decode b_RM_does 312 = .ok (.goto 4, 3) := by decide +kernel
theorem d_RM_does_315 : decode b_RM_does 315 = .ok (.iconst 0, 1) := by decide +kernel
theorem d_RM_does_316 : decode b_RM_does 316 = .ok (.ireturn, 1) := by decide +kernel
theorem d_RM_does_317 : decode b_RM_does 317 = .ok (.iconst 0, 1) := by decide +kernel
theorem d_RM_does_318 : decode b_RM_does 318 = .ok (.ireturn, 1) := by decide +kernel
def rm_RM_does : Room := { frames := 3, cells := 0, slots := 0, locals := 71 }
theorem mf_RM_does : zMV y_RM_does b_RM_does 4 (some .boolean) 3 := ⟨q1375, qs93, q13, q1376, by decide +kernel⟩
def B_RM_does_267 (K : Int → zH → Prop)   (u0 : Int) (u1 : Int) (h : zH) : Prop :=
  (u0 ≠ u1 → (K 0 h)) ∧ (u0 = u1 → (K 1 h))
set_option maxRecDepth 100000 in
theorem s_RM_does_267 {Wf : Heap → List Loc → JFrame → Prop} {m : MethodId} {g : zG} {n : Nat} {H0 : Heap} (X : zX Wf m rm_RM_does b_RM_does "AliasStreamsModel" 4 g n H0) {K : Int → zH → Prop} (E : zEx Wf m b_RM_does (some .boolean) 4 g n H0 (zPi K))     {u0 : Int} {u1 : Int} (ru0 : zr u0) (ru1 : zr u1) {h : zH} (hh : zh h) (hv : B_RM_does_267 K   u0 u1 h) : zW Wf m 4 g n H0 267 [] [zi u1, zi u0] h := by
  unfold B_RM_does_267 at hv
  refine z_icmp_ne (pc := 267) (tgt := 274) X ru0 ru1 d_RM_does_267 (by decide) (fun hc => ?_) (fun hc => ?_)
  · replace hv := hv.1 hc
    refine z_iconst (pc := 274) X d_RM_does_274 ?_
    exact E.2.2.1 rfl _ _ _ _ (by decide) d_RM_does_275 ⟨_, rfl, (show zr 0 from by decide), hh, hv⟩
  · replace hv := hv.2 hc
    refine z_iconst (pc := 270) X d_RM_does_270 ?_
    refine z_goto (pc := 271) (tgt := 275) X d_RM_does_271 (by decide) ?_
    exact E.2.2.1 rfl _ _ _ _ (by decide) d_RM_does_275 ⟨_, rfl, (show zr 1 from by decide), hh, hv⟩
def M_RM_does (p0 : Nat) (x1 : Int) (x2 : Int) (x3 : Int) (h : zH) (K : Int → zH → Prop) : Prop :=
  ((x1 < 1 ∨ 8 < x1) → (K 0 h)) ∧ (x1 = 1 → ((x2 ≠ 0 → (K 0 h)) ∧ (x2 = 0 → (M_RM_isThing p0 x3 h (fun r_2 h_1 => (r_2 = 0 → (K 0 h_1)) ∧ (r_2 ≠ 0 → ((h_1 (p0 + 4) 188 ≠ 40 → (M_RM_put (p0 + 4) (h_1 (p0 + 4) 188) x3 h_1 (fun h_3 => K 1 h_3))) ∧ (h_1 (p0 + 4) 188 = 40 → (K 0 h_1))))))))) ∧ (x1 = 2 → ((x2 ≠ 0 → (K 0 h)) ∧ (x2 = 0 → ((x3 < h (p0 + 4) 188 → (M_RM_drop (p0 + 4) x3 h (fun r_6 h_5 => K 1 h_5))) ∧ (h (p0 + 4) 188 ≤ x3 → (K 0 h)))))) ∧ (x1 = 3 → ((x2 ≠ 0 → (K 0 h)) ∧ (x2 = 0 → ((x3 ≠ 0 → (K 0 h)) ∧ (x3 = 0 → (M_RM_canEncode p0 (p0 + 4) h (fun r_8 h_7 => (r_8 ≠ 0 → (M_RM_encodeTo p0 (p0 + 4) h_7 (fun h_9 => K 1 h_9))) ∧ (r_8 = 0 → (K 0 h_7))))))))) ∧ (x1 = 4 → ((x2 ≠ 0 → (K 0 h)) ∧ (x2 = 0 → ((x3 ≠ 0 → (K 0 h)) ∧ (x3 = 0 → (M_RM_canDecode p0 (p0 + 4) h (fun r_12 h_11 => (r_12 ≠ 0 → (M_RM_decodeTo p0 (p0 + 4) h_11 (fun h_13 => K 1 h_13))) ∧ (r_12 = 0 → (K 0 h_11))))))))) ∧ (x1 = 5 → ((x3 < h (p0 + 4) 190 → (zr (104 + x3) ∧ ((0 ≤ 104 + x3 ∧ 104 + x3 < 193) ∧ (∀ h_17 : zH, h_17 = zs h (p0 + 4) ((104 + x3).toNat) x2 → (K 1 h_17))))) ∧ (h (p0 + 4) 190 ≤ x3 → (K 0 h)))) ∧ (x1 = 6 → ((x2 ≠ 0 → (K 0 h)) ∧ (x2 = 0 → ((h (p0 + 4) 190 ≠ x3 → (K 0 h)) ∧ (h (p0 + 4) 190 = x3 → (K 1 h)))))) ∧ (x1 = 7 → (M_RM_layTables p0 (p0 + 4) h (fun h_18 => (x2 ≠ 0 → (K 0 h_18)) ∧ (x2 = 0 → ((2 ≤ x3 → (K 0 h_18)) ∧ (x3 < 2 → (M_RM_take p0 (p0 + 4) h_18 (fun r_21 h_20 => (x3 ≠ 1 → (B_RM_does_267 K   r_21 0 h_20)) ∧ (x3 = 1 → (B_RM_does_267 K   r_21 1 h_20)))))))))) ∧ (x1 = 8 → (M_RM_layTables p0 (p0 + 4) h (fun h_22 => M_RM_take p0 (p0 + 4) h_22 (fun r_25 h_24 => (h_24 p0 27 ≤ x3 → (K 0 h_24)) ∧ (x3 < h_24 p0 27 → ((0 ≤ x3 ∧ x3 < 40) ∧ ((h_24 (p0 + 17) x3.toNat ≠ x2 → (K 0 h_24)) ∧ (h_24 (p0 + 17) x3.toNat = x2 → (K 1 h_24)))))))))
set_option maxRecDepth 100000 in
theorem c_RM_does {l : Launch} (hfl : l.flags = flags0) {g : zG} {n : Nat} {p0 : Nat} {x1 : Int} {x2 : Int} {x3 : Int} (op0 : zO n p0 11) (rx1 : zr x1) (rx2 : zr x2) (rx3 : zr x3) {h : zH} (hh : zh h) {K : Int → zH → Prop} (hv : M_RM_does p0 x1 x2 x3 h K) : zMet l y_RM_does b_RM_does 4 (some .boolean) rm_RM_does g n [.ref (g.2.2 p0), zi x1, zi x2, zi x3] h (zPi K) := by
  refine zMet_of (own := "AliasStreamsModel") hfl (by decide) rfl (Nat.le_of_ble_eq_true rfl) (fun Wf m H0 X E => ?_)
  unfold M_RM_does at hv
  show zW Wf m 4 g n H0 0 [(0, .ref (g.2.2 p0)), (1, zi x1), (2, zi x2), (3, zi x3)] [] h
  refine z_iload_n (pc := 0) (q := 1) X d_RM_does_0 rfl ?_
  rcases (show (x1 < 1 ∨ 8 < x1) ∨ x1 = 1 ∨ x1 = 2 ∨ x1 = 3 ∨ x1 = 4 ∨ x1 = 5 ∨ x1 = 6 ∨ x1 = 7 ∨ x1 = 8 by omega) with hc | hc | hc | hc | hc | hc | hc | hc | hc
  · replace hv := hv.1 hc
    refine z_tableOut (pc := 1) (tgt := 317) X rx1 d_RM_does_1 hc (by decide) ?_
    refine z_iconst (pc := 317) X d_RM_does_317 ?_
    exact E.2.2.1 rfl _ _ _ _ (by decide) d_RM_does_318 ⟨_, rfl, (show zr 0 from by decide), hh, hv⟩
  · replace hv := hv.2.1 hc
    refine z_tableIn (pc := 1) (tgt := 48) (off := 47) X rx1 d_RM_does_1 (by omega) (by omega) (by rw [hc]; rfl) (by decide) ?_
    refine z_iload_n (pc := 48) (q := 2) X d_RM_does_48 rfl ?_
    refine z_if_ne (pc := 49) (tgt := 73) X rx2 d_RM_does_49 (by decide) (fun hc => ?_) (fun hc => ?_)
    · replace hv := hv.1 hc
      refine z_iconst (pc := 73) X d_RM_does_73 ?_
      exact E.2.2.1 rfl _ _ _ _ (by decide) d_RM_does_74 ⟨_, rfl, (show zr 0 from by decide), hh, hv⟩
    · replace hv := hv.2 hc
      refine z_aload_n (pc := 52) (q := 0) X d_RM_does_52 rfl ?_
      refine z_iload_n (pc := 53) (q := 3) X d_RM_does_53 rfl ?_
      refine z_callVi (pc := 54) (As := [zi x3]) (rest := []) X (fun l hl => c_RM_isThing hl op0 rx3 hh hv) cf_RM op0 rfl mf_RM_isThing q1244 ⟨⟨by decide, by decide⟩, rfl, rfl⟩ rfl d_RM_does_54 rfl (Nat.le_of_ble_eq_true rfl) (fun r_2 h_1 rr_2 zh_1 hv => ?_)
      refine z_if_eq (pc := 57) (tgt := 73) X rr_2 d_RM_does_57 (by decide) (fun hc => ?_) (fun hc => ?_)
      · replace hv := hv.1 hc
        refine z_iconst (pc := 73) X d_RM_does_73 ?_
        exact E.2.2.1 rfl _ _ _ _ (by decide) d_RM_does_74 ⟨_, rfl, (show zr 0 from by decide), zh_1, hv⟩
      · replace hv := hv.2 hc
        refine z_aload_n (pc := 60) (q := 0) X d_RM_does_60 rfl ?_
        refine z_getr (pc := 61) (j := 10) (dd := 4) X cf_RM op0 (by decide) q1031 rfl rfl d_RM_does_61 ?_
        refine z_sipush (pc := 64) X d_RM_does_64 (by decide) ?_
        refine z_ialdj (pc := 67) (j := 188) X (gf_RM_10 op0) (gl_RM_10 op0) (show zr 188 from by decide) ⟨by decide, by decide⟩ rfl d_RM_does_67 ?_
        refine z_bipush (pc := 68) X d_RM_does_68 (by decide) ?_
        refine z_icmp_ne (pc := 70) (tgt := 75) X (zh_1.1 _ _ (zO.ne (gf_RM_10 op0) (by decide))) (show zr 40 from by decide) d_RM_does_70 (by decide) (fun hc => ?_) (fun hc => ?_)
        · replace hv := hv.1 hc
          refine z_aload_n (pc := 75) (q := 0) X d_RM_does_75 rfl ?_
          refine z_getr (pc := 76) (j := 10) (dd := 4) X cf_RM op0 (by decide) q1031 rfl rfl d_RM_does_76 ?_
          refine z_aload_n (pc := 79) (q := 0) X d_RM_does_79 rfl ?_
          refine z_getr (pc := 80) (j := 10) (dd := 4) X cf_RM op0 (by decide) q1031 rfl rfl d_RM_does_80 ?_
          refine z_sipush (pc := 83) X d_RM_does_83 (by decide) ?_
          refine z_ialdj (pc := 86) (j := 188) X (gf_RM_10 op0) (gl_RM_10 op0) (show zr 188 from by decide) ⟨by decide, by decide⟩ rfl d_RM_does_86 ?_
          refine z_iload_n (pc := 87) (q := 3) X d_RM_does_87 rfl ?_
          refine z_callSv (pc := 88) (As := [.ref (g.2.2 (p0 + 4)), zi (h_1 (p0 + 4) 188), zi x3]) (rest := []) X (fun l hl => c_RM_put hl (gf_RM_10 op0) (zh_1.1 _ _ (zO.ne (gf_RM_10 op0) (by decide))) rx3 zh_1 hv) mf_RM_put q1248 ⟨⟨by decide, by decide⟩, rfl, rfl⟩ rfl d_RM_does_88 rfl (Nat.le_of_ble_eq_true rfl) (fun h_3 zh_3 hv => ?_)
          refine z_iconst (pc := 91) X d_RM_does_91 ?_
          exact E.2.2.1 rfl _ _ _ _ (by decide) d_RM_does_92 ⟨_, rfl, (show zr 1 from by decide), zh_3, hv⟩
        · replace hv := hv.2 hc
          refine z_iconst (pc := 73) X d_RM_does_73 ?_
          exact E.2.2.1 rfl _ _ _ _ (by decide) d_RM_does_74 ⟨_, rfl, (show zr 0 from by decide), zh_1, hv⟩
  · replace hv := hv.2.2.1 hc
    refine z_tableIn (pc := 1) (tgt := 93) (off := 92) X rx1 d_RM_does_1 (by omega) (by omega) (by rw [hc]; rfl) (by decide) ?_
    refine z_iload_n (pc := 93) (q := 2) X d_RM_does_93 rfl ?_
    refine z_if_ne (pc := 94) (tgt := 109) X rx2 d_RM_does_94 (by decide) (fun hc => ?_) (fun hc => ?_)
    · replace hv := hv.1 hc
      refine z_iconst (pc := 109) X d_RM_does_109 ?_
      exact E.2.2.1 rfl _ _ _ _ (by decide) d_RM_does_110 ⟨_, rfl, (show zr 0 from by decide), hh, hv⟩
    · replace hv := hv.2 hc
      refine z_iload_n (pc := 97) (q := 3) X d_RM_does_97 rfl ?_
      refine z_aload_n (pc := 98) (q := 0) X d_RM_does_98 rfl ?_
      refine z_getr (pc := 99) (j := 10) (dd := 4) X cf_RM op0 (by decide) q1031 rfl rfl d_RM_does_99 ?_
      refine z_sipush (pc := 102) X d_RM_does_102 (by decide) ?_
      refine z_ialdj (pc := 105) (j := 188) X (gf_RM_10 op0) (gl_RM_10 op0) (show zr 188 from by decide) ⟨by decide, by decide⟩ rfl d_RM_does_105 ?_
      refine z_icmp_lt (pc := 106) (tgt := 111) X rx3 (hh.1 _ _ (zO.ne (gf_RM_10 op0) (by decide))) d_RM_does_106 (by decide) (fun hc => ?_) (fun hc => ?_)
      · replace hv := hv.1 hc
        refine z_aload_n (pc := 111) (q := 0) X d_RM_does_111 rfl ?_
        refine z_getr (pc := 112) (j := 10) (dd := 4) X cf_RM op0 (by decide) q1031 rfl rfl d_RM_does_112 ?_
        refine z_iload_n (pc := 115) (q := 3) X d_RM_does_115 rfl ?_
        refine z_callSi (pc := 116) (As := [.ref (g.2.2 (p0 + 4)), zi x3]) (rest := []) X (fun l hl => c_RM_drop hl (gf_RM_10 op0) rx3 hh hv) mf_RM_drop q1255 ⟨⟨by decide, by decide⟩, rfl, rfl⟩ rfl d_RM_does_116 rfl (Nat.le_of_ble_eq_true rfl) (fun r_6 h_5 rr_6 zh_5 hv => ?_)
        refine z_pop (pc := 119) X d_RM_does_119 rfl ?_
        refine z_iconst (pc := 120) X d_RM_does_120 ?_
        exact E.2.2.1 rfl _ _ _ _ (by decide) d_RM_does_121 ⟨_, rfl, (show zr 1 from by decide), zh_5, hv⟩
      · replace hv := hv.2 hc
        refine z_iconst (pc := 109) X d_RM_does_109 ?_
        exact E.2.2.1 rfl _ _ _ _ (by decide) d_RM_does_110 ⟨_, rfl, (show zr 0 from by decide), hh, hv⟩
  · replace hv := hv.2.2.2.1 hc
    refine z_tableIn (pc := 1) (tgt := 122) (off := 121) X rx1 d_RM_does_1 (by omega) (by omega) (by rw [hc]; rfl) (by decide) ?_
    refine z_iload_n (pc := 122) (q := 2) X d_RM_does_122 rfl ?_
    refine z_if_ne (pc := 123) (tgt := 141) X rx2 d_RM_does_123 (by decide) (fun hc => ?_) (fun hc => ?_)
    · replace hv := hv.1 hc
      refine z_iconst (pc := 141) X d_RM_does_141 ?_
      exact E.2.2.1 rfl _ _ _ _ (by decide) d_RM_does_142 ⟨_, rfl, (show zr 0 from by decide), hh, hv⟩
    · replace hv := hv.2 hc
      refine z_iload_n (pc := 126) (q := 3) X d_RM_does_126 rfl ?_
      refine z_if_ne (pc := 127) (tgt := 141) X rx3 d_RM_does_127 (by decide) (fun hc => ?_) (fun hc => ?_)
      · replace hv := hv.1 hc
        refine z_iconst (pc := 141) X d_RM_does_141 ?_
        exact E.2.2.1 rfl _ _ _ _ (by decide) d_RM_does_142 ⟨_, rfl, (show zr 0 from by decide), hh, hv⟩
      · replace hv := hv.2 hc
        refine z_aload_n (pc := 130) (q := 0) X d_RM_does_130 rfl ?_
        refine z_aload_n (pc := 131) (q := 0) X d_RM_does_131 rfl ?_
        refine z_getr (pc := 132) (j := 10) (dd := 4) X cf_RM op0 (by decide) q1031 rfl rfl d_RM_does_132 ?_
        refine z_callVi (pc := 135) (As := [.ref (g.2.2 (p0 + 4))]) (rest := []) X (fun l hl => c_RM_canEncode hl op0 (gf_RM_10 op0) hh hv) cf_RM op0 rfl mf_RM_canEncode q1262 ⟨⟨by decide, by decide⟩, rfl, rfl⟩ rfl d_RM_does_135 rfl (Nat.le_of_ble_eq_true rfl) (fun r_8 h_7 rr_8 zh_7 hv => ?_)
        refine z_if_ne (pc := 138) (tgt := 143) X rr_8 d_RM_does_138 (by decide) (fun hc => ?_) (fun hc => ?_)
        · replace hv := hv.1 hc
          refine z_aload_n (pc := 143) (q := 0) X d_RM_does_143 rfl ?_
          refine z_aload_n (pc := 144) (q := 0) X d_RM_does_144 rfl ?_
          refine z_getr (pc := 145) (j := 10) (dd := 4) X cf_RM op0 (by decide) q1031 rfl rfl d_RM_does_145 ?_
          refine z_callVv (pc := 148) (As := [.ref (g.2.2 (p0 + 4))]) (rest := []) X (fun l hl => c_RM_encodeTo hl op0 (gf_RM_10 op0) zh_7 hv) cf_RM op0 rfl mf_RM_encodeTo q1270 ⟨⟨by decide, by decide⟩, rfl, rfl⟩ rfl d_RM_does_148 rfl (Nat.le_of_ble_eq_true rfl) (fun h_9 zh_9 hv => ?_)
          refine z_iconst (pc := 151) X d_RM_does_151 ?_
          exact E.2.2.1 rfl _ _ _ _ (by decide) d_RM_does_152 ⟨_, rfl, (show zr 1 from by decide), zh_9, hv⟩
        · replace hv := hv.2 hc
          refine z_iconst (pc := 141) X d_RM_does_141 ?_
          exact E.2.2.1 rfl _ _ _ _ (by decide) d_RM_does_142 ⟨_, rfl, (show zr 0 from by decide), zh_7, hv⟩
  · replace hv := hv.2.2.2.2.1 hc
    refine z_tableIn (pc := 1) (tgt := 153) (off := 152) X rx1 d_RM_does_1 (by omega) (by omega) (by rw [hc]; rfl) (by decide) ?_
    refine z_iload_n (pc := 153) (q := 2) X d_RM_does_153 rfl ?_
    refine z_if_ne (pc := 154) (tgt := 172) X rx2 d_RM_does_154 (by decide) (fun hc => ?_) (fun hc => ?_)
    · replace hv := hv.1 hc
      refine z_iconst (pc := 172) X d_RM_does_172 ?_
      exact E.2.2.1 rfl _ _ _ _ (by decide) d_RM_does_173 ⟨_, rfl, (show zr 0 from by decide), hh, hv⟩
    · replace hv := hv.2 hc
      refine z_iload_n (pc := 157) (q := 3) X d_RM_does_157 rfl ?_
      refine z_if_ne (pc := 158) (tgt := 172) X rx3 d_RM_does_158 (by decide) (fun hc => ?_) (fun hc => ?_)
      · replace hv := hv.1 hc
        refine z_iconst (pc := 172) X d_RM_does_172 ?_
        exact E.2.2.1 rfl _ _ _ _ (by decide) d_RM_does_173 ⟨_, rfl, (show zr 0 from by decide), hh, hv⟩
      · replace hv := hv.2 hc
        refine z_aload_n (pc := 161) (q := 0) X d_RM_does_161 rfl ?_
        refine z_aload_n (pc := 162) (q := 0) X d_RM_does_162 rfl ?_
        refine z_getr (pc := 163) (j := 10) (dd := 4) X cf_RM op0 (by decide) q1031 rfl rfl d_RM_does_163 ?_
        refine z_callVi (pc := 166) (As := [.ref (g.2.2 (p0 + 4))]) (rest := []) X (fun l hl => c_RM_canDecode hl op0 (gf_RM_10 op0) hh hv) cf_RM op0 rfl mf_RM_canDecode q1278 ⟨⟨by decide, by decide⟩, rfl, rfl⟩ rfl d_RM_does_166 rfl (Nat.le_of_ble_eq_true rfl) (fun r_12 h_11 rr_12 zh_11 hv => ?_)
        refine z_if_ne (pc := 169) (tgt := 174) X rr_12 d_RM_does_169 (by decide) (fun hc => ?_) (fun hc => ?_)
        · replace hv := hv.1 hc
          refine z_aload_n (pc := 174) (q := 0) X d_RM_does_174 rfl ?_
          refine z_aload_n (pc := 175) (q := 0) X d_RM_does_175 rfl ?_
          refine z_getr (pc := 176) (j := 10) (dd := 4) X cf_RM op0 (by decide) q1031 rfl rfl d_RM_does_176 ?_
          refine z_callVv (pc := 179) (As := [.ref (g.2.2 (p0 + 4))]) (rest := []) X (fun l hl => c_RM_decodeTo hl op0 (gf_RM_10 op0) zh_11 hv) cf_RM op0 rfl mf_RM_decodeTo q1290 ⟨⟨by decide, by decide⟩, rfl, rfl⟩ rfl d_RM_does_179 rfl (Nat.le_of_ble_eq_true rfl) (fun h_13 zh_13 hv => ?_)
          refine z_iconst (pc := 182) X d_RM_does_182 ?_
          exact E.2.2.1 rfl _ _ _ _ (by decide) d_RM_does_183 ⟨_, rfl, (show zr 1 from by decide), zh_13, hv⟩
        · replace hv := hv.2 hc
          refine z_iconst (pc := 172) X d_RM_does_172 ?_
          exact E.2.2.1 rfl _ _ _ _ (by decide) d_RM_does_173 ⟨_, rfl, (show zr 0 from by decide), zh_11, hv⟩
  · replace hv := hv.2.2.2.2.2.1 hc
    refine z_tableIn (pc := 1) (tgt := 184) (off := 183) X rx1 d_RM_does_1 (by omega) (by omega) (by rw [hc]; rfl) (by decide) ?_
    refine z_iload_n (pc := 184) (q := 3) X d_RM_does_184 rfl ?_
    refine z_aload_n (pc := 185) (q := 0) X d_RM_does_185 rfl ?_
    refine z_getr (pc := 186) (j := 10) (dd := 4) X cf_RM op0 (by decide) q1031 rfl rfl d_RM_does_186 ?_
    refine z_sipush (pc := 189) X d_RM_does_189 (by decide) ?_
    refine z_ialdj (pc := 192) (j := 190) X (gf_RM_10 op0) (gl_RM_10 op0) (show zr 190 from by decide) ⟨by decide, by decide⟩ rfl d_RM_does_192 ?_
    refine z_icmp_lt (pc := 193) (tgt := 198) X rx3 (hh.1 _ _ (zO.ne (gf_RM_10 op0) (by decide))) d_RM_does_193 (by decide) (fun hc => ?_) (fun hc => ?_)
    · replace hv := hv.1 hc
      refine z_aload_n (pc := 198) (q := 0) X d_RM_does_198 rfl ?_
      refine z_getr (pc := 199) (j := 10) (dd := 4) X cf_RM op0 (by decide) q1031 rfl rfl d_RM_does_199 ?_
      refine z_bipush (pc := 202) X d_RM_does_202 (by decide) ?_
      refine z_iload_n (pc := 204) (q := 3) X d_RM_does_204 rfl ?_
      obtain ⟨v_15, hv⟩ := hv
      refine z_iadd (pc := 205) X d_RM_does_205 ?_
      refine z_iload_n (pc := 206) (q := 2) X d_RM_does_206 rfl ?_
      obtain ⟨v_16, hv⟩ := hv
      refine z_iastj (pc := 207) (j := (104 + x3).toNat) X (gf_RM_10 op0) (gl_RM_10 op0) v_15 v_16 rfl d_RM_does_207 ?_
      refine z_toph (fun h_17 eh_17 => ?_)
      have zh_17 : zh h_17 := by rw [eh_17]; exact zh_set hh (zO.ne (gf_RM_10 op0) (by decide)) rx2
      replace hv := hv h_17 eh_17
      refine z_iconst (pc := 208) X d_RM_does_208 ?_
      exact E.2.2.1 rfl _ _ _ _ (by decide) d_RM_does_209 ⟨_, rfl, (show zr 1 from by decide), zh_17, hv⟩
    · replace hv := hv.2 hc
      refine z_iconst (pc := 196) X d_RM_does_196 ?_
      exact E.2.2.1 rfl _ _ _ _ (by decide) d_RM_does_197 ⟨_, rfl, (show zr 0 from by decide), hh, hv⟩
  · replace hv := hv.2.2.2.2.2.2.1 hc
    refine z_tableIn (pc := 1) (tgt := 210) (off := 209) X rx1 d_RM_does_1 (by omega) (by omega) (by rw [hc]; rfl) (by decide) ?_
    refine z_iload_n (pc := 210) (q := 2) X d_RM_does_210 rfl ?_
    refine z_if_ne (pc := 211) (tgt := 230) X rx2 d_RM_does_211 (by decide) (fun hc => ?_) (fun hc => ?_)
    · replace hv := hv.1 hc
      refine z_iconst (pc := 230) X d_RM_does_230 ?_
      exact E.2.2.1 rfl _ _ _ _ (by decide) d_RM_does_231 ⟨_, rfl, (show zr 0 from by decide), hh, hv⟩
    · replace hv := hv.2 hc
      refine z_aload_n (pc := 214) (q := 0) X d_RM_does_214 rfl ?_
      refine z_getr (pc := 215) (j := 10) (dd := 4) X cf_RM op0 (by decide) q1031 rfl rfl d_RM_does_215 ?_
      refine z_sipush (pc := 218) X d_RM_does_218 (by decide) ?_
      refine z_ialdj (pc := 221) (j := 190) X (gf_RM_10 op0) (gl_RM_10 op0) (show zr 190 from by decide) ⟨by decide, by decide⟩ rfl d_RM_does_221 ?_
      refine z_iload_n (pc := 222) (q := 3) X d_RM_does_222 rfl ?_
      refine z_icmp_ne (pc := 223) (tgt := 230) X (hh.1 _ _ (zO.ne (gf_RM_10 op0) (by decide))) rx3 d_RM_does_223 (by decide) (fun hc => ?_) (fun hc => ?_)
      · replace hv := hv.1 hc
        refine z_iconst (pc := 230) X d_RM_does_230 ?_
        exact E.2.2.1 rfl _ _ _ _ (by decide) d_RM_does_231 ⟨_, rfl, (show zr 0 from by decide), hh, hv⟩
      · replace hv := hv.2 hc
        refine z_iconst (pc := 226) X d_RM_does_226 ?_
        refine z_goto (pc := 227) (tgt := 231) X d_RM_does_227 (by decide) ?_
        exact E.2.2.1 rfl _ _ _ _ (by decide) d_RM_does_231 ⟨_, rfl, (show zr 1 from by decide), hh, hv⟩
  · replace hv := hv.2.2.2.2.2.2.2.1 hc
    refine z_tableIn (pc := 1) (tgt := 232) (off := 231) X rx1 d_RM_does_1 (by omega) (by omega) (by rw [hc]; rfl) (by decide) ?_
    refine z_aload_n (pc := 232) (q := 0) X d_RM_does_232 rfl ?_
    refine z_aload_n (pc := 233) (q := 0) X d_RM_does_233 rfl ?_
    refine z_getr (pc := 234) (j := 10) (dd := 4) X cf_RM op0 (by decide) q1031 rfl rfl d_RM_does_234 ?_
    refine z_callVv (pc := 237) (As := [.ref (g.2.2 (p0 + 4))]) (rest := []) X (fun l hl => c_RM_layTables hl op0 (gf_RM_10 op0) hh hv) cf_RM op0 rfl mf_RM_layTables q1181 ⟨⟨by decide, by decide⟩, rfl, rfl⟩ rfl d_RM_does_237 rfl (Nat.le_of_ble_eq_true rfl) (fun h_18 zh_18 hv => ?_)
    refine z_iload_n (pc := 240) (q := 2) X d_RM_does_240 rfl ?_
    refine z_if_ne (pc := 241) (tgt := 274) X rx2 d_RM_does_241 (by decide) (fun hc => ?_) (fun hc => ?_)
    · replace hv := hv.1 hc
      refine z_iconst (pc := 274) X d_RM_does_274 ?_
      exact E.2.2.1 rfl _ _ _ _ (by decide) d_RM_does_275 ⟨_, rfl, (show zr 0 from by decide), zh_18, hv⟩
    · replace hv := hv.2 hc
      refine z_iload_n (pc := 244) (q := 3) X d_RM_does_244 rfl ?_
      refine z_iconst (pc := 245) X d_RM_does_245 ?_
      refine z_icmp_ge (pc := 246) (tgt := 274) X rx3 (show zr 2 from by decide) d_RM_does_246 (by decide) (fun hc => ?_) (fun hc => ?_)
      · replace hv := hv.1 hc
        refine z_iconst (pc := 274) X d_RM_does_274 ?_
        exact E.2.2.1 rfl _ _ _ _ (by decide) d_RM_does_275 ⟨_, rfl, (show zr 0 from by decide), zh_18, hv⟩
      · replace hv := hv.2 hc
        refine z_aload_n (pc := 249) (q := 0) X d_RM_does_249 rfl ?_
        refine z_aload_n (pc := 250) (q := 0) X d_RM_does_250 rfl ?_
        refine z_getr (pc := 251) (j := 10) (dd := 4) X cf_RM op0 (by decide) q1031 rfl rfl d_RM_does_251 ?_
        refine z_callVi (pc := 254) (As := [.ref (g.2.2 (p0 + 4))]) (rest := []) X (fun l hl => c_RM_take hl op0 (gf_RM_10 op0) zh_18 hv) cf_RM op0 rfl mf_RM_take q1193 ⟨⟨by decide, by decide⟩, rfl, rfl⟩ rfl d_RM_does_254 rfl (Nat.le_of_ble_eq_true rfl) (fun r_21 h_20 rr_21 zh_20 hv => ?_)
        refine z_iload_n (pc := 257) (q := 3) X d_RM_does_257 rfl ?_
        refine z_iconst (pc := 258) X d_RM_does_258 ?_
        refine z_icmp_ne (pc := 259) (tgt := 266) X rx3 (show zr 1 from by decide) d_RM_does_259 (by decide) (fun hc => ?_) (fun hc => ?_)
        · replace hv := hv.1 hc
          refine z_iconst (pc := 266) X d_RM_does_266 ?_
          refine z_perm [] rfl ?_
          exact s_RM_does_267 X E   rr_21 (show zr 0 from by decide) zh_20 hv
        · replace hv := hv.2 hc
          refine z_iconst (pc := 262) X d_RM_does_262 ?_
          refine z_goto (pc := 263) (tgt := 267) X d_RM_does_263 (by decide) ?_
          refine z_perm [] rfl ?_
          exact s_RM_does_267 X E   rr_21 (show zr 1 from by decide) zh_20 hv
  · replace hv := hv.2.2.2.2.2.2.2.2 hc
    refine z_tableIn (pc := 1) (tgt := 276) (off := 275) X rx1 d_RM_does_1 (by omega) (by omega) (by rw [hc]; rfl) (by decide) ?_
    refine z_aload_n (pc := 276) (q := 0) X d_RM_does_276 rfl ?_
    refine z_aload_n (pc := 277) (q := 0) X d_RM_does_277 rfl ?_
    refine z_getr (pc := 278) (j := 10) (dd := 4) X cf_RM op0 (by decide) q1031 rfl rfl d_RM_does_278 ?_
    refine z_callVv (pc := 281) (As := [.ref (g.2.2 (p0 + 4))]) (rest := []) X (fun l hl => c_RM_layTables hl op0 (gf_RM_10 op0) hh hv) cf_RM op0 rfl mf_RM_layTables q1181 ⟨⟨by decide, by decide⟩, rfl, rfl⟩ rfl d_RM_does_281 rfl (Nat.le_of_ble_eq_true rfl) (fun h_22 zh_22 hv => ?_)
    refine z_aload_n (pc := 284) (q := 0) X d_RM_does_284 rfl ?_
    refine z_aload_n (pc := 285) (q := 0) X d_RM_does_285 rfl ?_
    refine z_getr (pc := 286) (j := 10) (dd := 4) X cf_RM op0 (by decide) q1031 rfl rfl d_RM_does_286 ?_
    refine z_callVi (pc := 289) (As := [.ref (g.2.2 (p0 + 4))]) (rest := []) X (fun l hl => c_RM_take hl op0 (gf_RM_10 op0) zh_22 hv) cf_RM op0 rfl mf_RM_take q1193 ⟨⟨by decide, by decide⟩, rfl, rfl⟩ rfl d_RM_does_289 rfl (Nat.le_of_ble_eq_true rfl) (fun r_25 h_24 rr_25 zh_24 hv => ?_)
    refine z_pop (pc := 292) X d_RM_does_292 rfl ?_
    refine z_iload_n (pc := 293) (q := 3) X d_RM_does_293 rfl ?_
    refine z_aload_n (pc := 294) (q := 0) X d_RM_does_294 rfl ?_
    refine z_geti (pc := 295) (j := 27) X cf_RM op0 (by decide) q1048 rfl rfl d_RM_does_295 ?_
    refine z_icmp_ge (pc := 298) (tgt := 315) X rx3 (zh_24.1 _ _ (zO.ne op0 (by decide))) d_RM_does_298 (by decide) (fun hc => ?_) (fun hc => ?_)
    · replace hv := hv.1 hc
      refine z_iconst (pc := 315) X d_RM_does_315 ?_
      exact E.2.2.1 rfl _ _ _ _ (by decide) d_RM_does_316 ⟨_, rfl, (show zr 0 from by decide), zh_24, hv⟩
    · replace hv := hv.2 hc
      refine z_aload_n (pc := 301) (q := 0) X d_RM_does_301 rfl ?_
      refine z_getr (pc := 302) (j := 24) (dd := 17) X cf_RM op0 (by decide) q1045 rfl rfl d_RM_does_302 ?_
      refine z_iload_n (pc := 305) (q := 3) X d_RM_does_305 rfl ?_
      obtain ⟨v_26, hv⟩ := hv
      refine z_ialdj (pc := 306) (j := x3.toNat) X (gf_RM_24 op0) (gl_RM_24 op0) rx3 v_26 rfl d_RM_does_306 ?_
      refine z_iload_n (pc := 307) (q := 2) X d_RM_does_307 rfl ?_
      refine z_icmp_ne (pc := 308) (tgt := 315) X (zh_24.1 _ _ (zO.ne (gf_RM_24 op0) (by decide))) rx2 d_RM_does_308 (by decide) (fun hc => ?_) (fun hc => ?_)
      · replace hv := hv.1 hc
        refine z_iconst (pc := 315) X d_RM_does_315 ?_
        exact E.2.2.1 rfl _ _ _ _ (by decide) d_RM_does_316 ⟨_, rfl, (show zr 0 from by decide), zh_24, hv⟩
      · replace hv := hv.2 hc
        refine z_iconst (pc := 311) X d_RM_does_311 ?_
        refine z_goto (pc := 312) (tgt := 316) X d_RM_does_312 (by decide) ?_
        exact E.2.2.1 rfl _ _ _ _ (by decide) d_RM_does_316 ⟨_, rfl, (show zr 1 from by decide), zh_24, hv⟩
theorem d_RM_tenTo_0 : decode b_RM_tenTo 0 = .ok (.lconst 1, 1) := by decide +kernel
theorem d_RM_tenTo_1 : decode b_RM_tenTo 1 = .ok (.lstore_n 1, 1) := by decide +kernel
theorem d_RM_tenTo_2 : decode b_RM_tenTo 2 = .ok (.iconst 0, 1) := by decide +kernel
theorem d_RM_tenTo_3 : decode b_RM_tenTo 3 = .ok (.istore_n 3, 1) := by decide +kernel
theorem d_RM_tenTo_4 : decode b_RM_tenTo 4 = .ok (.iload_n 3, 1) := by decide +kernel
theorem d_RM_tenTo_5 : decode b_RM_tenTo 5 = .ok (.iload_n 0, 1) := by decide +kernel
theorem d_RM_tenTo_6 : decode b_RM_tenTo 6 = .ok (.if_icmp .ge 15, 3) := by decide +kernel
theorem d_RM_tenTo_9 : decode b_RM_tenTo 9 = .ok (.lload_n 1, 1) := by decide +kernel
theorem d_RM_tenTo_10 : decode b_RM_tenTo 10 = .ok (.ldc2_w 242, 3) := by decide +kernel
theorem d_RM_tenTo_13 : decode b_RM_tenTo 13 = .ok (.lmul, 1) := by decide +kernel
theorem d_RM_tenTo_14 : decode b_RM_tenTo 14 = .ok (.lstore_n 1, 1) := by decide +kernel
theorem d_RM_tenTo_15 : decode b_RM_tenTo 15 = .ok (.iinc 3 1, 3) := by decide +kernel
theorem d_RM_tenTo_18 : decode b_RM_tenTo 18 = .ok (.goto (-14), 3) := by decide +kernel
theorem d_RM_tenTo_21 : decode b_RM_tenTo 21 = .ok (.lload_n 1, 1) := by decide +kernel
theorem d_RM_tenTo_22 : decode b_RM_tenTo 22 = .ok (.lreturn, 1) := by decide +kernel
def rm_RM_tenTo : Room := { frames := 0, cells := 0, slots := 0, locals := 0 }
theorem mf_RM_tenTo : zMS y_RM_tenTo b_RM_tenTo 4 (some .long) 1 := ⟨q1369, q13, q1370, by decide +kernel⟩
def F_RM_tenTo_4 (K : Int → zH → Prop)  (L4 : Int × Int × zH → Prop) (x0 : Int) (x1 : Int) (x3 : Int) (h : zH) : Prop :=
  (x0 ≤ x3 → (K x1 h)) ∧ (x3 < x0 → (zrl (x1 * 10) ∧ ((∀ x1_2 : Int, x1_2 = x1 * 10 → (zr (x3 + 1) ∧ (L4 (x1_2, x3 + 1, h)))))))
set_option maxRecDepth 100000 in
theorem s_RM_tenTo_4 {Wf : Heap → List Loc → JFrame → Prop} {m : MethodId} {g : zG} {n : Nat} {H0 : Heap} (X : zX Wf m rm_RM_tenTo b_RM_tenTo "AliasStreamsModel" 4 g n H0) {K : Int → zH → Prop} (E : zEx Wf m b_RM_tenTo (some .long) 4 g n H0 (zPj K))  {x0 : Int}  (rx0 : zr x0) {q0 : Int × Int × zH} (hv0 : zLoop (fun L q => F_RM_tenTo_4 K  L x0 q.1 q.2.1 q.2.2) q0) : zrl q0.1 → zr q0.2.1 → zh (q0.2.2) → zW Wf m 4 g n H0 4 [(0, zi x0), (1, zj q0.1), (3, zi q0.2.1)] [] (q0.2.2) := by
  refine zLoop_use (G := fun q => zrl q.1 → zr q.2.1 → zh (q.2.2) → zW Wf m 4 g n H0 4 [(0, zi x0), (1, zj q.1), (3, zi q.2.1)] [] (q.2.2)) ?_ hv0
  rintro L4 ⟨x1, x3, h⟩ hL4 hv rx1 rx3 hh
  have hv : F_RM_tenTo_4 K  L4 x0 x1 x3 h := hv
  unfold F_RM_tenTo_4 at hv
  show zW Wf m 4 g n H0 4 [(0, zi x0), (1, zj x1), (3, zi x3)] [] h
  refine z_iload_n (pc := 4) (q := 2) X d_RM_tenTo_4 rfl ?_
  refine z_iload_n (pc := 5) (q := 0) X d_RM_tenTo_5 rfl ?_
  refine z_icmp_ge (pc := 6) (tgt := 21) X rx3 rx0 d_RM_tenTo_6 (by decide) (fun hc => ?_) (fun hc => ?_)
  · replace hv := hv.1 hc
    refine z_lload_n (pc := 21) (q := 1) X d_RM_tenTo_21 rfl ?_
    exact E.2.2.2.1 rfl _ _ _ _ d_RM_tenTo_22 ⟨_, rfl, rx1, hh, hv⟩
  · replace hv := hv.2 hc
    refine z_lload_n (pc := 9) (q := 1) X d_RM_tenTo_9 rfl ?_
    refine z_ldc2 (pc := 10) (x := 10) X d_RM_tenTo_10 q1371 (by decide) ?_
    obtain ⟨v_1, hv⟩ := hv
    refine z_lmul (pc := 13) X d_RM_tenTo_13 ?_
    refine z_topj (fun x1_2 ex1_2 => ?_)
    have rx1_2 : zrl x1_2 := by rw [ex1_2]; exact v_1
    replace hv := hv x1_2 ex1_2
    refine z_lstore_n (pc := 14) (lv' := [(1, zj x1_2), (0, zi x0), (3, zi x3)]) X d_RM_tenTo_14 (by decide) rfl ?_
    obtain ⟨v_3, hv⟩ := hv
    refine z_iinc (pc := 15) (q := 2) (lv' := [(3, zi (x3 + 1)), (1, zj x1_2), (0, zi x0)]) X d_RM_tenTo_15 rfl (by decide) rfl ?_
    refine z_goto (pc := 18) (tgt := 4) X d_RM_tenTo_18 (by decide) ?_
    refine z_perm [2, 1, 0] rfl ?_
    exact hL4 _ hv rx1_2 v_3 hh
def M_RM_tenTo (x0 : Int) (h : zH) (K : Int → zH → Prop) : Prop :=
  zLoop (fun L q => F_RM_tenTo_4 K  L x0 q.1 q.2.1 q.2.2) (1, 0, h)
set_option maxRecDepth 100000 in
theorem c_RM_tenTo {l : Launch} (hfl : l.flags = flags0) {g : zG} {n : Nat} {x0 : Int} (rx0 : zr x0) {h : zH} (hh : zh h) {K : Int → zH → Prop} (hv : M_RM_tenTo x0 h K) : zMet l y_RM_tenTo b_RM_tenTo 4 (some .long) rm_RM_tenTo g n [zi x0] h (zPj K) := by
  refine zMet_of (own := "AliasStreamsModel") hfl (by decide) rfl (Nat.le_of_ble_eq_true rfl) (fun Wf m H0 X E => ?_)
  unfold M_RM_tenTo at hv
  show zW Wf m 4 g n H0 0 [(0, zi x0)] [] h
  refine z_lconst (pc := 0) (x := 1) X d_RM_tenTo_0 (by decide) ?_
  refine z_lstore_n (pc := 1) (lv' := [(1, zj 1), (0, zi x0)]) X d_RM_tenTo_1 (by decide) rfl ?_
  refine z_iconst (pc := 2) X d_RM_tenTo_2 ?_
  refine z_istore_n (pc := 3) (lv' := [(3, zi 0), (1, zj 1), (0, zi x0)]) X d_RM_tenTo_3 (by decide) rfl ?_
  refine z_perm [2, 1, 0] rfl ?_
  exact s_RM_tenTo_4 X E  rx0 hv (show zrl 1 from by decide) (show zr 0 from by decide) hh
theorem d_RM_runScript_0 : decode b_RM_runScript 0 = .ok (.aload_n 0, 1) := by decide +kernel
theorem d_RM_runScript_1 : decode b_RM_runScript 1 = .ok (.iload_n 1, 1) := by decide +kernel
theorem d_RM_runScript_2 : decode b_RM_runScript 2 = .ok (.i2l, 1) := by decide +kernel
theorem d_RM_runScript_3 : decode b_RM_runScript 3 = .ok (.lconst 1, 1) := by decide +kernel
theorem d_RM_runScript_4 : decode b_RM_runScript 4 = .ok (.ldc2_w 244, 3) := by decide +kernel
theorem d_RM_runScript_7 : decode b_RM_runScript 7 = .ok (.invokestatic 87, 3) := by decide +kernel
theorem d_RM_runScript_10 : decode b_RM_runScript 10 = .ok (.ifCond .eq 23, 3) := by decide +kernel
theorem d_RM_runScript_13 : decode b_RM_runScript 13 = .ok (.lload_n 2, 1) := by decide +kernel
theorem d_RM_runScript_14 : decode b_RM_runScript 14 = .ok (.lconst 0, 1) := by decide +kernel
theorem d_RM_runScript_15 : decode b_RM_runScript 15 = .ok (.iconst 4, 1) := by decide +kernel
theorem d_RM_runScript_16 : decode b_RM_runScript 16 = .ok (.iload_n 1, 1) := by decide +kernel
theorem d_RM_runScript_17 : decode b_RM_runScript 17 = .ok (.imul, 1) := by decide +kernel
theorem d_RM_runScript_18 : decode b_RM_runScript 18 = .ok (.invokestatic 246, 3) := by decide +kernel
theorem d_RM_runScript_21 : decode b_RM_runScript 21 = .ok (.lconst 1, 1) := by decide +kernel
theorem d_RM_runScript_22 : decode b_RM_runScript 22 = .ok (.lsub, 1) := by decide +kernel
theorem d_RM_runScript_23 : decode b_RM_runScript 23 = .ok (.invokestatic 87, 3) := by decide +kernel
theorem d_RM_runScript_26 : decode b_RM_runScript 26 = .ok (.ifCond .eq 7, 3) := by decide +kernel
theorem d_RM_runScript_29 : decode b_RM_runScript 29 = .ok (.iconst 0, 1) := by decide +kernel
theorem d_RM_runScript_30 : decode b_RM_runScript 30 = .ok (.goto 4, 3) := by decide +kernel
theorem d_RM_runScript_33 : decode b_RM_runScript 33 = .ok (.iconst 1, 1) := by decide +kernel
theorem d_RM_runScript_34 : decode b_RM_runScript 34 = .ok (.invokevirtual 114, 3) := by decide +kernel
theorem d_RM_runScript_37 : decode b_RM_runScript 37 = .ok (.ifCond .eq 5, 3) := by decide +kernel
theorem d_RM_runScript_40 : decode b_RM_runScript 40 = .ok (.iconst 0, 1) := by decide +kernel
theorem d_RM_runScript_41 : decode b_RM_runScript 41 = .ok (.ireturn, 1) := by decide +kernel
theorem d_RM_runScript_42 : decode b_RM_runScript 42 = .ok (.aload_n 0, 1) := by decide +kernel
theorem d_RM_runScript_43 : decode b_RM_runScript 43 = .ok (.getfield 23, 3) := by decide +kernel
theorem d_RM_runScript_46 : decode b_RM_runScript 46 = .ok (.iconst 0, 1) := by decide +kernel
theorem d_RM_runScript_47 : decode b_RM_runScript 47 = .ok (.aload_n 0, 1) := by decide +kernel
theorem d_RM_runScript_48 : decode b_RM_runScript 48 = .ok (.getfield 26, 3) := by decide +kernel
theorem d_RM_runScript_51 : decode b_RM_runScript 51 = .ok (.iconst 0, 1) := by decide +kernel
theorem d_RM_runScript_52 : decode b_RM_runScript 52 = .ok (.invokestatic 151, 3) := by decide +kernel
theorem d_RM_runScript_55 : decode b_RM_runScript 55 = .ok (.iconst 0, 1) := by decide +kernel
theorem d_RM_runScript_56 : decode b_RM_runScript 56 = .ok (.istore 4, 2) := by decide +kernel
theorem d_RM_runScript_58 : decode b_RM_runScript 58 = .ok (.iload 4, 2) := by decide +kernel
theorem d_RM_runScript_60 : decode b_RM_runScript 60 = .ok (.iload_n 1, 1) := by decide +kernel
theorem d_RM_runScript_61 : decode b_RM_runScript 61 = .ok (.if_icmp .ge 58, 3) := by decide +kernel
theorem d_RM_runScript_64 : decode b_RM_runScript 64 = .ok (.lload_n 2, 1) := by decide +kernel
theorem d_RM_runScript_65 : decode b_RM_runScript 65 = .ok (.iconst 4, 1) := by decide +kernel
theorem d_RM_runScript_66 : decode b_RM_runScript 66 = .ok (.iload_n 1, 1) := by decide +kernel
theorem d_RM_runScript_67 : decode b_RM_runScript 67 = .ok (.iconst 1, 1) := by decide +kernel
theorem d_RM_runScript_68 : decode b_RM_runScript 68 = .ok (.isub, 1) := by decide +kernel
theorem d_RM_runScript_69 : decode b_RM_runScript 69 = .ok (.iload 4, 2) := by decide +kernel
theorem d_RM_runScript_71 : decode b_RM_runScript 71 = .ok (.isub, 1) := by decide +kernel
theorem d_RM_runScript_72 : decode b_RM_runScript 72 = .ok (.imul, 1) := by decide +kernel
theorem d_RM_runScript_73 : decode b_RM_runScript 73 = .ok (.invokestatic 246, 3) := by decide +kernel
theorem d_RM_runScript_76 : decode b_RM_runScript 76 = .ok (.ldiv, 1) := by decide +kernel
theorem d_RM_runScript_77 : decode b_RM_runScript 77 = .ok (.ldc2_w 250, 3) := by decide +kernel
theorem d_RM_runScript_80 : decode b_RM_runScript 80 = .ok (.lrem, 1) := by decide +kernel
theorem d_RM_runScript_81 : decode b_RM_runScript 81 = .ok (.l2i, 1) := by decide +kernel
theorem d_RM_runScript_82 : decode b_RM_runScript 82 = .ok (.istore 5, 2) := by decide +kernel
theorem d_RM_runScript_84 : decode b_RM_runScript 84 = .ok (.aload_n 0, 1) := by decide +kernel
theorem d_RM_runScript_85 : decode b_RM_runScript 85 = .ok (.iload 5, 2) := by decide +kernel
theorem d_RM_runScript_87 : decode b_RM_runScript 87 = .ok (.sipush 1000, 3) := by decide +kernel
theorem d_RM_runScript_90 : decode b_RM_runScript 90 = .ok (.idiv, 1) := by decide +kernel
theorem d_RM_runScript_91 : decode b_RM_runScript 91 = .ok (.iload 5, 2) := by decide +kernel
theorem d_RM_runScript_93 : decode b_RM_runScript 93 = .ok (.bipush 100, 2) := by decide +kernel
theorem d_RM_runScript_95 : decode b_RM_runScript 95 = .ok (.idiv, 1) := by decide +kernel
theorem d_RM_runScript_96 : decode b_RM_runScript 96 = .ok (.bipush 10, 2) := by decide +kernel
theorem d_RM_runScript_98 : decode b_RM_runScript 98 = .ok (.irem, 1) := by decide +kernel
theorem d_RM_runScript_99 : decode b_RM_runScript 99 = .ok (.iload 5, 2) := by decide +kernel
theorem d_RM_runScript_101 : decode b_RM_runScript 101 = .ok (.bipush 100, 2) := by decide +kernel
theorem d_RM_runScript_103 : decode b_RM_runScript 103 = .ok (.irem, 1) := by decide +kernel
theorem d_RM_runScript_104 : decode b_RM_runScript 104 = .ok (.invokevirtual 252, 3) := by decide +kernel
theorem d_RM_runScript_107 : decode b_RM_runScript 107 = .ok (.ifCond .ne 6, 3) := by decide +kernel
theorem d_RM_runScript_110 : decode b_RM_runScript 110 = .ok (.iload 4, 2) := by decide +kernel
theorem d_RM_runScript_112 : decode b_RM_runScript 112 = .ok (.ireturn, 1) := by decide +kernel
theorem d_RM_runScript_113 : decode b_RM_runScript 113 = .ok (.iinc 4 1, 3) := by decide +kernel
theorem d_RM_runScript_116 : decode b_RM_runScript 116 = .ok (.goto (-58), 3) := by decide +kernel
theorem d_RM_runScript_119 : decode b_RM_runScript 119 = .ok (.bipush (-9), 2) := by decide +kernel
theorem d_RM_runScript_121 : decode b_RM_runScript 121 = .ok (.ireturn, 1) := by decide +kernel
def rm_RM_runScript : Room := { frames := 4, cells := 0, slots := 0, locals := 94 }
theorem mf_RM_runScript : zMV y_RM_runScript b_RM_runScript 6 (some .int) 2 := ⟨q1364, q1365, q13, q1366, by decide +kernel⟩
def F_RM_runScript_58 (K : Int → zH → Prop)  (L58 : Int × zH → Prop) (p0 : Nat) (x1 : Int) (x2 : Int) (x4 : Int) (h : zH) : Prop :=
  (x1 ≤ x4 → (K (-9) h)) ∧ (x4 < x1 → (zr (x1 - 1) ∧ (zr ((x1 - 1) - x4) ∧ (zr (4 * ((x1 - 1) - x4)) ∧ (M_RM_tenTo (4 * ((x1 - 1) - x4)) h (fun r_5 h_4 => (0 ≤ x2 ∧ 0 < r_5) ∧ (0 ≤ x2 / r_5 ∧ ((∀ x5_8 : Int, x5_8 = zw ((x2 / r_5) % 10000) → (0 ≤ x5_8 ∧ (0 ≤ x5_8 ∧ (0 ≤ x5_8 / 100 ∧ (0 ≤ x5_8 ∧ (M_RM_does p0 (x5_8 / 1000) ((x5_8 / 100) % 10) (x5_8 % 100) h_4 (fun r_14 h_13 => (r_14 ≠ 0 → (zr (x4 + 1) ∧ (L58 (x4 + 1, h_13)))) ∧ (r_14 = 0 → (K x4 h_13)))))))))))))))))
set_option maxRecDepth 100000 in
theorem s_RM_runScript_58 {Wf : Heap → List Loc → JFrame → Prop} {m : MethodId} {g : zG} {n : Nat} {H0 : Heap} (X : zX Wf m rm_RM_runScript b_RM_runScript "AliasStreamsModel" 6 g n H0) {K : Int → zH → Prop} (E : zEx Wf m b_RM_runScript (some .int) 6 g n H0 (zPi K))  {p0 : Nat} {x1 : Int} {x2 : Int}  (op0 : zO n p0 11) (rx1 : zr x1) (rx2 : zrl x2) {q0 : Int × zH} (hv0 : zLoop (fun L q => F_RM_runScript_58 K  L p0 x1 x2 q.1 q.2) q0) : zr q0.1 → zh (q0.2) → zW Wf m 6 g n H0 58 [(0, .ref (g.2.2 p0)), (1, zi x1), (2, zj x2), (4, zi q0.1)] [] (q0.2) := by
  refine zLoop_use (G := fun q => zr q.1 → zh (q.2) → zW Wf m 6 g n H0 58 [(0, .ref (g.2.2 p0)), (1, zi x1), (2, zj x2), (4, zi q.1)] [] (q.2)) ?_ hv0
  rintro L58 ⟨x4, h⟩ hL58 hv rx4 hh
  have hv : F_RM_runScript_58 K  L58 p0 x1 x2 x4 h := hv
  unfold F_RM_runScript_58 at hv
  show zW Wf m 6 g n H0 58 [(0, .ref (g.2.2 p0)), (1, zi x1), (2, zj x2), (4, zi x4)] [] h
  refine z_iload (pc := 58) (q := 3) X d_RM_runScript_58 rfl ?_
  refine z_iload_n (pc := 60) (q := 1) X d_RM_runScript_60 rfl ?_
  refine z_icmp_ge (pc := 61) (tgt := 119) X rx4 rx1 d_RM_runScript_61 (by decide) (fun hc => ?_) (fun hc => ?_)
  · replace hv := hv.1 hc
    refine z_bipush (pc := 119) X d_RM_runScript_119 (by decide) ?_
    exact E.2.1 rfl _ _ _ _ d_RM_runScript_121 ⟨_, rfl, (show zr (-9) from by decide), hh, hv⟩
  · replace hv := hv.2 hc
    refine z_lload_n (pc := 64) (q := 2) X d_RM_runScript_64 rfl ?_
    refine z_iconst (pc := 65) X d_RM_runScript_65 ?_
    refine z_iload_n (pc := 66) (q := 1) X d_RM_runScript_66 rfl ?_
    refine z_iconst (pc := 67) X d_RM_runScript_67 ?_
    obtain ⟨v_1, hv⟩ := hv
    refine z_isub (pc := 68) X d_RM_runScript_68 ?_
    refine z_iload (pc := 69) (q := 3) X d_RM_runScript_69 rfl ?_
    obtain ⟨v_2, hv⟩ := hv
    refine z_isub (pc := 71) X d_RM_runScript_71 ?_
    obtain ⟨v_3, hv⟩ := hv
    refine z_imul (pc := 72) X d_RM_runScript_72 ?_
    refine z_callSj (pc := 73) (As := [zi (4 * ((x1 - 1) - x4))]) (rest := [zj x2]) X (fun l hl => c_RM_tenTo hl v_3 hh hv) mf_RM_tenTo q1368 ⟨⟨by decide, by decide⟩, rfl, rfl⟩ rfl d_RM_runScript_73 rfl (Nat.le_of_ble_eq_true rfl) (fun r_5 h_4 rr_5 zh_4 hv => ?_)
    obtain ⟨v_6, hv⟩ := hv
    refine z_ldiv (pc := 76) X rx2 rr_5 v_6.1 v_6.2 d_RM_runScript_76 ?_
    refine z_ldc2 (pc := 77) (x := 10000) X d_RM_runScript_77 q1372 (by decide) ?_
    obtain ⟨v_7, hv⟩ := hv
    refine z_lrem (pc := 80) X (zrl_div rx2 v_6.1 v_6.2) (show zrl 10000 from by decide) v_7 (by decide) d_RM_runScript_80 ?_
    refine z_l2i (pc := 81) X (zrl_rem (show zrl 10000 from by decide) (by decide)) d_RM_runScript_81 ?_
    refine z_topi (fun x5_8 ex5_8 => ?_)
    have rx5_8 : zr x5_8 := by rw [ex5_8]; exact (zr_w _)
    replace hv := hv x5_8 ex5_8
    refine z_istore (pc := 82) (lv' := [(5, zi x5_8), (0, .ref (g.2.2 p0)), (1, zi x1), (2, zj x2), (4, zi x4)]) X d_RM_runScript_82 (by decide) rfl ?_
    refine z_aload_n (pc := 84) (q := 1) X d_RM_runScript_84 rfl ?_
    refine z_iload (pc := 85) (q := 0) X d_RM_runScript_85 rfl ?_
    refine z_sipush (pc := 87) X d_RM_runScript_87 (by decide) ?_
    obtain ⟨v_9, hv⟩ := hv
    refine z_idiv (pc := 90) X rx5_8 (show zr 1000 from by decide) v_9 (by decide) d_RM_runScript_90 ?_
    refine z_iload (pc := 91) (q := 0) X d_RM_runScript_91 rfl ?_
    refine z_bipush (pc := 93) X d_RM_runScript_93 (by decide) ?_
    obtain ⟨v_10, hv⟩ := hv
    refine z_idiv (pc := 95) X rx5_8 (show zr 100 from by decide) v_10 (by decide) d_RM_runScript_95 ?_
    refine z_bipush (pc := 96) X d_RM_runScript_96 (by decide) ?_
    obtain ⟨v_11, hv⟩ := hv
    refine z_irem (pc := 98) X (zr_div rx5_8 v_10 (by decide)) (show zr 10 from by decide) v_11 (by decide) d_RM_runScript_98 ?_
    refine z_iload (pc := 99) (q := 0) X d_RM_runScript_99 rfl ?_
    refine z_bipush (pc := 101) X d_RM_runScript_101 (by decide) ?_
    obtain ⟨v_12, hv⟩ := hv
    refine z_irem (pc := 103) X rx5_8 (show zr 100 from by decide) v_12 (by decide) d_RM_runScript_103 ?_
    refine z_callVi (pc := 104) (As := [zi (x5_8 / 1000), zi ((x5_8 / 100) % 10), zi (x5_8 % 100)]) (rest := []) X (fun l hl => c_RM_does hl op0 (zr_div rx5_8 v_9 (by decide)) (zr_rem (show zr 10 from by decide) (by decide)) (zr_rem (show zr 100 from by decide) (by decide)) zh_4 hv) cf_RM op0 rfl mf_RM_does q1373 ⟨⟨by decide, by decide⟩, rfl, rfl⟩ rfl d_RM_runScript_104 rfl (Nat.le_of_ble_eq_true rfl) (fun r_14 h_13 rr_14 zh_13 hv => ?_)
    refine z_if_ne (pc := 107) (tgt := 113) X rr_14 d_RM_runScript_107 (by decide) (fun hc => ?_) (fun hc => ?_)
    · replace hv := hv.1 hc
      obtain ⟨v_15, hv⟩ := hv
      refine z_iinc (pc := 113) (q := 4) (lv' := [(4, zi (x4 + 1)), (5, zi x5_8), (0, .ref (g.2.2 p0)), (1, zi x1), (2, zj x2)]) X d_RM_runScript_113 rfl (by decide) rfl ?_
      refine z_goto (pc := 116) (tgt := 58) X d_RM_runScript_116 (by decide) ?_
      refine z_perm [2, 3, 4, 0] rfl ?_
      exact hL58 _ hv v_15 zh_13
    · replace hv := hv.2 hc
      refine z_iload (pc := 110) (q := 4) X d_RM_runScript_110 rfl ?_
      exact E.2.1 rfl _ _ _ _ d_RM_runScript_112 ⟨_, rfl, rx4, zh_13, hv⟩
def B_RM_runScript_34 (K : Int → zH → Prop)  (p0 : Nat) (x1 : Int) (x2 : Int) (w0 : Nat) (u1 : Int) (h : zH) : Prop :=
  M_RM_refused w0 u1 h (fun r_2 h_1 => (r_2 = 0 → (M_RM_copyPage (p0 + 3) 0 (p0 + 4) 0 h_1 (fun h_3 => zLoop (fun L q => F_RM_runScript_58 K  L p0 x1 x2 q.1 q.2) (0, h_3)))) ∧ (r_2 ≠ 0 → (K 0 h_1)))
set_option maxRecDepth 100000 in
theorem s_RM_runScript_34 {Wf : Heap → List Loc → JFrame → Prop} {m : MethodId} {g : zG} {n : Nat} {H0 : Heap} (X : zX Wf m rm_RM_runScript b_RM_runScript "AliasStreamsModel" 6 g n H0) {K : Int → zH → Prop} (E : zEx Wf m b_RM_runScript (some .int) 6 g n H0 (zPi K))  {p0 : Nat} {x1 : Int} {x2 : Int}  (op0 : zO n p0 11) (rx1 : zr x1) (rx2 : zrl x2) {w0 : Nat} {u1 : Int} (ow0 : zO n w0 11) (ru1 : zr u1) {h : zH} (hh : zh h) (hv : B_RM_runScript_34 K  p0 x1 x2 w0 u1 h) : zW Wf m 6 g n H0 34 [(0, .ref (g.2.2 p0)), (1, zi x1), (2, zj x2)] [zi u1, .ref (g.2.2 w0)] h := by
  unfold B_RM_runScript_34 at hv
  refine z_callVi (pc := 34) (As := [zi u1]) (rest := []) X (fun l hl => c_RM_refused hl ow0 ru1 hh hv) cf_RM ow0 rfl mf_RM_refused q1130 ⟨⟨by decide, by decide⟩, rfl, rfl⟩ rfl d_RM_runScript_34 rfl (Nat.le_of_ble_eq_true rfl) (fun r_2 h_1 rr_2 zh_1 hv => ?_)
  refine z_if_eq (pc := 37) (tgt := 42) X rr_2 d_RM_runScript_37 (by decide) (fun hc => ?_) (fun hc => ?_)
  · replace hv := hv.1 hc
    refine z_aload_n (pc := 42) (q := 0) X d_RM_runScript_42 rfl ?_
    refine z_getr (pc := 43) (j := 9) (dd := 3) X cf_RM op0 (by decide) q1030 rfl rfl d_RM_runScript_43 ?_
    refine z_iconst (pc := 46) X d_RM_runScript_46 ?_
    refine z_aload_n (pc := 47) (q := 0) X d_RM_runScript_47 rfl ?_
    refine z_getr (pc := 48) (j := 10) (dd := 4) X cf_RM op0 (by decide) q1031 rfl rfl d_RM_runScript_48 ?_
    refine z_iconst (pc := 51) X d_RM_runScript_51 ?_
    refine z_callSv (pc := 52) (As := [.ref (g.2.2 (p0 + 3)), zi 0, .ref (g.2.2 (p0 + 4)), zi 0]) (rest := []) X (fun l hl => c_RM_copyPage hl (gf_RM_9 op0) (show zr 0 from by decide) (gf_RM_10 op0) (show zr 0 from by decide) zh_1 hv) mf_RM_copyPage q1169 ⟨⟨by decide, by decide⟩, rfl, rfl⟩ rfl d_RM_runScript_52 rfl (Nat.le_of_ble_eq_true rfl) (fun h_3 zh_3 hv => ?_)
    refine z_iconst (pc := 55) X d_RM_runScript_55 ?_
    refine z_istore (pc := 56) (lv' := [(4, zi 0), (0, .ref (g.2.2 p0)), (1, zi x1), (2, zj x2)]) X d_RM_runScript_56 (by decide) rfl ?_
    refine z_perm [1, 2, 3, 0] rfl ?_
    exact s_RM_runScript_58 X E  op0 rx1 rx2 hv (show zr 0 from by decide) zh_3
  · replace hv := hv.2 hc
    refine z_iconst (pc := 40) X d_RM_runScript_40 ?_
    exact E.2.1 rfl _ _ _ _ d_RM_runScript_41 ⟨_, rfl, (show zr 0 from by decide), zh_1, hv⟩
def B_RM_runScript_33 (K : Int → zH → Prop)  (p0 : Nat) (x1 : Int) (x2 : Int) (w0 : Nat) (h : zH) : Prop :=
  B_RM_runScript_34 K  p0 x1 x2 w0 1 h
set_option maxRecDepth 100000 in
theorem s_RM_runScript_33 {Wf : Heap → List Loc → JFrame → Prop} {m : MethodId} {g : zG} {n : Nat} {H0 : Heap} (X : zX Wf m rm_RM_runScript b_RM_runScript "AliasStreamsModel" 6 g n H0) {K : Int → zH → Prop} (E : zEx Wf m b_RM_runScript (some .int) 6 g n H0 (zPi K))  {p0 : Nat} {x1 : Int} {x2 : Int}  (op0 : zO n p0 11) (rx1 : zr x1) (rx2 : zrl x2) {w0 : Nat} (ow0 : zO n w0 11) {h : zH} (hh : zh h) (hv : B_RM_runScript_33 K  p0 x1 x2 w0 h) : zW Wf m 6 g n H0 33 [(0, .ref (g.2.2 p0)), (1, zi x1), (2, zj x2)] [.ref (g.2.2 w0)] h := by
  unfold B_RM_runScript_33 at hv
  refine z_iconst (pc := 33) X d_RM_runScript_33 ?_
  exact s_RM_runScript_34 X E  op0 rx1 rx2 ow0 (show zr 1 from by decide) hh hv
def M_RM_runScript (p0 : Nat) (x1 : Int) (x2 : Int) (h : zH) (K : Int → zH → Prop) : Prop :=
  M_RM_in x1 1 4 h (fun r_2 h_1 => (r_2 = 0 → (B_RM_runScript_33 K  p0 x1 x2 p0 h_1)) ∧ (r_2 ≠ 0 → (zr (4 * x1) ∧ (M_RM_tenTo (4 * x1) h_1 (fun r_5 h_4 => zrl (r_5 - 1) ∧ (M_RM_in x2 0 (r_5 - 1) h_4 (fun r_8 h_7 => (r_8 = 0 → (B_RM_runScript_33 K  p0 x1 x2 p0 h_7)) ∧ (r_8 ≠ 0 → (B_RM_runScript_34 K  p0 x1 x2 p0 0 h_7)))))))))
set_option maxRecDepth 100000 in
theorem c_RM_runScript {l : Launch} (hfl : l.flags = flags0) {g : zG} {n : Nat} {p0 : Nat} {x1 : Int} {x2 : Int} (op0 : zO n p0 11) (rx1 : zr x1) (rx2 : zrl x2) {h : zH} (hh : zh h) {K : Int → zH → Prop} (hv : M_RM_runScript p0 x1 x2 h K) : zMet l y_RM_runScript b_RM_runScript 6 (some .int) rm_RM_runScript g n [.ref (g.2.2 p0), zi x1, zj x2] h (zPi K) := by
  refine zMet_of (own := "AliasStreamsModel") hfl (by decide) rfl (Nat.le_of_ble_eq_true rfl) (fun Wf m H0 X E => ?_)
  unfold M_RM_runScript at hv
  show zW Wf m 6 g n H0 0 [(0, .ref (g.2.2 p0)), (1, zi x1), (2, zj x2)] [] h
  refine z_aload_n (pc := 0) (q := 0) X d_RM_runScript_0 rfl ?_
  refine z_iload_n (pc := 1) (q := 1) X d_RM_runScript_1 rfl ?_
  refine z_i2l (pc := 2) X rx1 d_RM_runScript_2 ?_
  refine z_lconst (pc := 3) (x := 1) X d_RM_runScript_3 (by decide) ?_
  refine z_ldc2 (pc := 4) (x := 4) X d_RM_runScript_4 q1367 (by decide) ?_
  refine z_callSi (pc := 7) (As := [zj x1, zj 1, zj 4]) (rest := [.ref (g.2.2 p0)]) X (fun l hl => c_RM_in hl (zr_l rx1) (show zrl 1 from by decide) (show zrl 4 from by decide) hh hv) mf_RM_in q1127 ⟨⟨by decide, by decide⟩, rfl, rfl⟩ rfl d_RM_runScript_7 rfl (Nat.le_of_ble_eq_true rfl) (fun r_2 h_1 rr_2 zh_1 hv => ?_)
  refine z_if_eq (pc := 10) (tgt := 33) X rr_2 d_RM_runScript_10 (by decide) (fun hc => ?_) (fun hc => ?_)
  · replace hv := hv.1 hc
    exact s_RM_runScript_33 X E  op0 rx1 rx2 op0 zh_1 hv
  · replace hv := hv.2 hc
    refine z_lload_n (pc := 13) (q := 2) X d_RM_runScript_13 rfl ?_
    refine z_lconst (pc := 14) (x := 0) X d_RM_runScript_14 (by decide) ?_
    refine z_iconst (pc := 15) X d_RM_runScript_15 ?_
    refine z_iload_n (pc := 16) (q := 1) X d_RM_runScript_16 rfl ?_
    obtain ⟨v_3, hv⟩ := hv
    refine z_imul (pc := 17) X d_RM_runScript_17 ?_
    refine z_callSj (pc := 18) (As := [zi (4 * x1)]) (rest := [zj 0, zj x2, .ref (g.2.2 p0)]) X (fun l hl => c_RM_tenTo hl v_3 zh_1 hv) mf_RM_tenTo q1368 ⟨⟨by decide, by decide⟩, rfl, rfl⟩ rfl d_RM_runScript_18 rfl (Nat.le_of_ble_eq_true rfl) (fun r_5 h_4 rr_5 zh_4 hv => ?_)
    refine z_lconst (pc := 21) (x := 1) X d_RM_runScript_21 (by decide) ?_
    obtain ⟨v_6, hv⟩ := hv
    refine z_lsub (pc := 22) X d_RM_runScript_22 ?_
    refine z_callSi (pc := 23) (As := [zj x2, zj 0, zj (r_5 - 1)]) (rest := [.ref (g.2.2 p0)]) X (fun l hl => c_RM_in hl rx2 (show zrl 0 from by decide) v_6 zh_4 hv) mf_RM_in q1127 ⟨⟨by decide, by decide⟩, rfl, rfl⟩ rfl d_RM_runScript_23 rfl (Nat.le_of_ble_eq_true rfl) (fun r_8 h_7 rr_8 zh_7 hv => ?_)
    refine z_if_eq (pc := 26) (tgt := 33) X rr_8 d_RM_runScript_26 (by decide) (fun hc => ?_) (fun hc => ?_)
    · replace hv := hv.1 hc
      exact s_RM_runScript_33 X E  op0 rx1 rx2 op0 zh_7 hv
    · replace hv := hv.2 hc
      refine z_iconst (pc := 29) X d_RM_runScript_29 ?_
      refine z_goto (pc := 30) (tgt := 34) X d_RM_runScript_30 (by decide) ?_
      exact s_RM_runScript_34 X E  op0 rx1 rx2 op0 (show zr 0 from by decide) zh_7 hv
theorem d_RM_simulate_0 : decode b_RM_simulate 0 = .ok (.aload_n 0, 1) := by decide +kernel
theorem d_RM_simulate_1 : decode b_RM_simulate 1 = .ok (.iload_n 3, 1) := by decide +kernel
theorem d_RM_simulate_2 : decode b_RM_simulate 2 = .ok (.i2l, 1) := by decide +kernel
theorem d_RM_simulate_3 : decode b_RM_simulate 3 = .ok (.lconst 1, 1) := by decide +kernel
theorem d_RM_simulate_4 : decode b_RM_simulate 4 = .ok (.ldc2_w 256, 3) := by decide +kernel
theorem d_RM_simulate_7 : decode b_RM_simulate 7 = .ok (.invokestatic 87, 3) := by decide +kernel
theorem d_RM_simulate_10 : decode b_RM_simulate 10 = .ok (.ifCond .eq 7, 3) := by decide +kernel
theorem d_RM_simulate_13 : decode b_RM_simulate 13 = .ok (.iconst 0, 1) := by decide +kernel
theorem d_RM_simulate_14 : decode b_RM_simulate 14 = .ok (.goto 4, 3) := by decide +kernel
theorem d_RM_simulate_17 : decode b_RM_simulate 17 = .ok (.iconst 1, 1) := by decide +kernel
theorem d_RM_simulate_18 : decode b_RM_simulate 18 = .ok (.invokevirtual 114, 3) := by decide +kernel
theorem d_RM_simulate_21 : decode b_RM_simulate 21 = .ok (.ifCond .eq 5, 3) := by decide +kernel
theorem d_RM_simulate_24 : decode b_RM_simulate 24 = .ok (.iconst 0, 1) := by decide +kernel
theorem d_RM_simulate_25 : decode b_RM_simulate 25 = .ok (.ireturn, 1) := by decide +kernel
theorem d_RM_simulate_26 : decode b_RM_simulate 26 = .ok (.aload_n 0, 1) := by decide +kernel
theorem d_RM_simulate_27 : decode b_RM_simulate 27 = .ok (.aload_n 0, 1) := by decide +kernel
theorem d_RM_simulate_28 : decode b_RM_simulate 28 = .ok (.getfield 23, 3) := by decide +kernel
theorem d_RM_simulate_31 : decode b_RM_simulate 31 = .ok (.invokevirtual 164, 3) := by decide +kernel
theorem d_RM_simulate_34 : decode b_RM_simulate 34 = .ok (.lload_n 1, 1) := by decide +kernel
theorem d_RM_simulate_35 : decode b_RM_simulate 35 = .ok (.lstore 4, 2) := by decide +kernel
theorem d_RM_simulate_37 : decode b_RM_simulate 37 = .ok (.iconst 0, 1) := by decide +kernel
theorem d_RM_simulate_38 : decode b_RM_simulate 38 = .ok (.istore 6, 2) := by decide +kernel
theorem d_RM_simulate_40 : decode b_RM_simulate 40 = .ok (.iconst 0, 1) := by decide +kernel
theorem d_RM_simulate_41 : decode b_RM_simulate 41 = .ok (.istore 7, 2) := by decide +kernel
theorem d_RM_simulate_43 : decode b_RM_simulate 43 = .ok (.iload 7, 2) := by decide +kernel
theorem d_RM_simulate_45 : decode b_RM_simulate 45 = .ok (.iload_n 3, 1) := by decide +kernel
theorem d_RM_simulate_46 : decode b_RM_simulate 46 = .ok (.if_icmp .ge 149, 3) := by decide +kernel
theorem d_RM_simulate_49 : decode b_RM_simulate 49 = .ok (.aload_n 0, 1) := by decide +kernel
theorem d_RM_simulate_50 : decode b_RM_simulate 50 = .ok (.getfield 23, 3) := by decide +kernel
theorem d_RM_simulate_53 : decode b_RM_simulate 53 = .ok (.iconst 0, 1) := by decide +kernel
theorem d_RM_simulate_54 : decode b_RM_simulate 54 = .ok (.aload_n 0, 1) := by decide +kernel
theorem d_RM_simulate_55 : decode b_RM_simulate 55 = .ok (.getfield 29, 3) := by decide +kernel
theorem d_RM_simulate_58 : decode b_RM_simulate 58 = .ok (.iconst 0, 1) := by decide +kernel
theorem d_RM_simulate_59 : decode b_RM_simulate 59 = .ok (.invokestatic 151, 3) := by decide +kernel
theorem d_RM_simulate_62 : decode b_RM_simulate 62 = .ok (.lload 4, 2) := by decide +kernel
theorem d_RM_simulate_64 : decode b_RM_simulate 64 = .ok (.ldc2_w 258, 3) := by decide +kernel
theorem d_RM_simulate_67 : decode b_RM_simulate 67 = .ok (.lmul, 1) := by decide +kernel
theorem d_RM_simulate_68 : decode b_RM_simulate 68 = .ok (.ldc2_w 260, 3) := by decide +kernel
theorem d_RM_simulate_71 : decode b_RM_simulate 71 = .ok (.ladd, 1) := by decide +kernel
theorem d_RM_simulate_72 : decode b_RM_simulate 72 = .ok (.lstore 4, 2) := by decide +kernel
theorem d_RM_simulate_74 : decode b_RM_simulate 74 = .ok (.lload 4, 2) := by decide +kernel
theorem d_RM_simulate_76 : decode b_RM_simulate 76 = .ok (.bipush 33, 2) := by decide +kernel
theorem d_RM_simulate_78 : decode b_RM_simulate 78 = .ok (.lushr, 1) := by decide +kernel
theorem d_RM_simulate_79 : decode b_RM_simulate 79 = .ok (.l2i, 1) := by decide +kernel
theorem d_RM_simulate_80 : decode b_RM_simulate 80 = .ok (.istore 8, 2) := by decide +kernel
theorem d_RM_simulate_82 : decode b_RM_simulate 82 = .ok (.aload_n 0, 1) := by decide +kernel
theorem d_RM_simulate_83 : decode b_RM_simulate 83 = .ok (.getfield 29, 3) := by decide +kernel
theorem d_RM_simulate_86 : decode b_RM_simulate 86 = .ok (.sipush 190, 3) := by decide +kernel
theorem d_RM_simulate_89 : decode b_RM_simulate 89 = .ok (.iaload, 1) := by decide +kernel
theorem d_RM_simulate_90 : decode b_RM_simulate 90 = .ok (.ifCond .le 33, 3) := by decide +kernel
theorem d_RM_simulate_93 : decode b_RM_simulate 93 = .ok (.aload_n 0, 1) := by decide +kernel
theorem d_RM_simulate_94 : decode b_RM_simulate 94 = .ok (.getfield 29, 3) := by decide +kernel
theorem d_RM_simulate_97 : decode b_RM_simulate 97 = .ok (.bipush 104, 2) := by decide +kernel
theorem d_RM_simulate_99 : decode b_RM_simulate 99 = .ok (.iload 8, 2) := by decide +kernel
theorem d_RM_simulate_101 : decode b_RM_simulate 101 = .ok (.bipush 16, 2) := by decide +kernel
theorem d_RM_simulate_103 : decode b_RM_simulate 103 = .ok (.idiv, 1) := by decide +kernel
theorem d_RM_simulate_104 : decode b_RM_simulate 104 = .ok (.aload_n 0, 1) := by decide +kernel
theorem d_RM_simulate_105 : decode b_RM_simulate 105 = .ok (.getfield 29, 3) := by decide +kernel
theorem d_RM_simulate_108 : decode b_RM_simulate 108 = .ok (.sipush 190, 3) := by decide +kernel
theorem d_RM_simulate_111 : decode b_RM_simulate 111 = .ok (.iaload, 1) := by decide +kernel
theorem d_RM_simulate_112 : decode b_RM_simulate 112 = .ok (.irem, 1) := by decide +kernel
theorem d_RM_simulate_113 : decode b_RM_simulate 113 = .ok (.iadd, 1) := by decide +kernel
theorem d_RM_simulate_114 : decode b_RM_simulate 114 = .ok (.iload 8, 2) := by decide +kernel
theorem d_RM_simulate_116 : decode b_RM_simulate 116 = .ok (.bipush 16, 2) := by decide +kernel
theorem d_RM_simulate_118 : decode b_RM_simulate 118 = .ok (.irem, 1) := by decide +kernel
theorem d_RM_simulate_119 : decode b_RM_simulate 119 = .ok (.iastore, 1) := by decide +kernel
theorem d_RM_simulate_120 : decode b_RM_simulate 120 = .ok (.goto 28, 3) := by decide +kernel
theorem d_RM_simulate_123 : decode b_RM_simulate 123 = .ok (.aload_n 0, 1) := by decide +kernel
theorem d_RM_simulate_124 : decode b_RM_simulate 124 = .ok (.getfield 29, 3) := by decide +kernel
theorem d_RM_simulate_127 : decode b_RM_simulate 127 = .ok (.sipush 191, 3) := by decide +kernel
theorem d_RM_simulate_130 : decode b_RM_simulate 130 = .ok (.iload 8, 2) := by decide +kernel
theorem d_RM_simulate_132 : decode b_RM_simulate 132 = .ok (.iconst 2, 1) := by decide +kernel
theorem d_RM_simulate_133 : decode b_RM_simulate 133 = .ok (.irem, 1) := by decide +kernel
theorem d_RM_simulate_134 : decode b_RM_simulate 134 = .ok (.iadd, 1) := by decide +kernel
theorem d_RM_simulate_135 : decode b_RM_simulate 135 = .ok (.sipush 512, 3) := by decide +kernel
theorem d_RM_simulate_138 : decode b_RM_simulate 138 = .ok (.iload 8, 2) := by decide +kernel
theorem d_RM_simulate_140 : decode b_RM_simulate 140 = .ok (.iconst 2, 1) := by decide +kernel
theorem d_RM_simulate_141 : decode b_RM_simulate 141 = .ok (.idiv, 1) := by decide +kernel
theorem d_RM_simulate_142 : decode b_RM_simulate 142 = .ok (.sipush 7680, 3) := by decide +kernel
theorem d_RM_simulate_145 : decode b_RM_simulate 145 = .ok (.irem, 1) := by decide +kernel
theorem d_RM_simulate_146 : decode b_RM_simulate 146 = .ok (.iadd, 1) := by decide +kernel
theorem d_RM_simulate_147 : decode b_RM_simulate 147 = .ok (.iastore, 1) := by decide +kernel
theorem d_RM_simulate_148 : decode b_RM_simulate 148 = .ok (.iload 6, 2) := by decide +kernel
theorem d_RM_simulate_150 : decode b_RM_simulate 150 = .ok (.aload_n 0, 1) := by decide +kernel
theorem d_RM_simulate_151 : decode b_RM_simulate 151 = .ok (.aload_n 0, 1) := by decide +kernel
theorem d_RM_simulate_152 : decode b_RM_simulate 152 = .ok (.getfield 29, 3) := by decide +kernel
theorem d_RM_simulate_155 : decode b_RM_simulate 155 = .ok (.invokevirtual 105, 3) := by decide +kernel
theorem d_RM_simulate_158 : decode b_RM_simulate 158 = .ok (.ifCond .eq 7, 3) := by decide +kernel
theorem d_RM_simulate_161 : decode b_RM_simulate 161 = .ok (.iconst 1, 1) := by decide +kernel
theorem d_RM_simulate_162 : decode b_RM_simulate 162 = .ok (.goto 24, 3) := by decide +kernel
theorem d_RM_simulate_165 : decode b_RM_simulate 165 = .ok (.aload_n 0, 1) := by decide +kernel
theorem d_RM_simulate_166 : decode b_RM_simulate 166 = .ok (.getfield 102, 3) := by decide +kernel
theorem d_RM_simulate_169 : decode b_RM_simulate 169 = .ok (.aload_n 0, 1) := by decide +kernel
theorem d_RM_simulate_170 : decode b_RM_simulate 170 = .ok (.getfield 29, 3) := by decide +kernel
theorem d_RM_simulate_173 : decode b_RM_simulate 173 = .ok (.sipush 189, 3) := by decide +kernel
theorem d_RM_simulate_176 : decode b_RM_simulate 176 = .ok (.iaload, 1) := by decide +kernel
theorem d_RM_simulate_177 : decode b_RM_simulate 177 = .ok (.if_icmp .ge 8, 3) := by decide +kernel
theorem d_RM_simulate_180 : decode b_RM_simulate 180 = .ok (.bipush 100, 2) := by decide +kernel
theorem d_RM_simulate_182 : decode b_RM_simulate 182 = .ok (.goto 4, 3) := by decide +kernel
theorem d_RM_simulate_185 : decode b_RM_simulate 185 = .ok (.iconst 0, 1) := by decide +kernel
theorem d_RM_simulate_186 : decode b_RM_simulate 186 = .ok (.iadd, 1) := by decide +kernel
theorem d_RM_simulate_187 : decode b_RM_simulate 187 = .ok (.istore 6, 2) := by decide +kernel
theorem d_RM_simulate_189 : decode b_RM_simulate 189 = .ok (.iinc 7 1, 3) := by decide +kernel
theorem d_RM_simulate_192 : decode b_RM_simulate 192 = .ok (.goto (-149), 3) := by decide +kernel
theorem d_RM_simulate_195 : decode b_RM_simulate 195 = .ok (.iload 6, 2) := by decide +kernel
theorem d_RM_simulate_197 : decode b_RM_simulate 197 = .ok (.ireturn, 1) := by decide +kernel
def rm_RM_simulate : Room := { frames := 2, cells := 0, slots := 0, locals := 50 }
theorem mf_RM_simulate : zMV y_RM_simulate b_RM_simulate 9 (some .int) 2 := ⟨q1378, q1379, q13, q1380, by decide +kernel⟩
def B_RM_simulate_148 (K : Int → zH → Prop) (L43 : Int × Int × Int × zH → Prop) (p0 : Nat) (x3 : Int) (x4 : Int) (x6 : Int) (x7 : Int)  (h : zH) : Prop :=
  M_RM_take p0 (p0 + 5) h (fun r_2 h_1 => (r_2 = 0 → ((h_1 (p0 + 5) 189 ≤ h_1 p0 27 → (zr (x6 + 0) ∧ ((∀ x6_4 : Int, x6_4 = x6 + 0 → (zr (x7 + 1) ∧ (L43 (x4, x6_4, x7 + 1, h_1))))))) ∧ (h_1 p0 27 < h_1 (p0 + 5) 189 → (zr (x6 + 100) ∧ ((∀ x6_7 : Int, x6_7 = x6 + 100 → (zr (x7 + 1) ∧ (L43 (x4, x6_7, x7 + 1, h_1))))))))) ∧ (r_2 ≠ 0 → (zr (x6 + 1) ∧ ((∀ x6_10 : Int, x6_10 = x6 + 1 → (zr (x7 + 1) ∧ (L43 (x4, x6_10, x7 + 1, h_1))))))))
set_option maxRecDepth 100000 in
theorem s_RM_simulate_148 {Wf : Heap → List Loc → JFrame → Prop} {m : MethodId} {g : zG} {n : Nat} {H0 : Heap} (X : zX Wf m rm_RM_simulate b_RM_simulate "AliasStreamsModel" 9 g n H0) {K : Int → zH → Prop} (E : zEx Wf m b_RM_simulate (some .int) 9 g n H0 (zPi K)) {L43 : Int × Int × Int × zH → Prop} {p0 : Nat} {x3 : Int} {x4 : Int} {x6 : Int} {x7 : Int} (hL43 : ∀ q : Int × Int × Int × zH, L43 q → zrl q.1 → zr q.2.1 → zr q.2.2.1 → zh (q.2.2.2) → zW Wf m 9 g n H0 43 [(0, .ref (g.2.2 p0)), (3, zi x3), (4, zj q.1), (6, zi q.2.1), (7, zi q.2.2.1)] [] (q.2.2.2)) (op0 : zO n p0 11) (rx3 : zr x3) (rx4 : zrl x4) (rx6 : zr x6) (rx7 : zr x7)   {h : zH} (hh : zh h) (hv : B_RM_simulate_148 K L43 p0 x3 x4 x6 x7  h) : zW Wf m 9 g n H0 148 [(0, .ref (g.2.2 p0)), (3, zi x3), (4, zj x4), (6, zi x6), (7, zi x7)] [] h := by
  unfold B_RM_simulate_148 at hv
  refine z_iload (pc := 148) (q := 3) X d_RM_simulate_148 rfl ?_
  refine z_aload_n (pc := 150) (q := 0) X d_RM_simulate_150 rfl ?_
  refine z_aload_n (pc := 151) (q := 0) X d_RM_simulate_151 rfl ?_
  refine z_getr (pc := 152) (j := 11) (dd := 5) X cf_RM op0 (by decide) q1032 rfl rfl d_RM_simulate_152 ?_
  refine z_callVi (pc := 155) (As := [.ref (g.2.2 (p0 + 5))]) (rest := [zi x6]) X (fun l hl => c_RM_take hl op0 (gf_RM_11 op0) hh hv) cf_RM op0 rfl mf_RM_take q1193 ⟨⟨by decide, by decide⟩, rfl, rfl⟩ rfl d_RM_simulate_155 rfl (Nat.le_of_ble_eq_true rfl) (fun r_2 h_1 rr_2 zh_1 hv => ?_)
  refine z_if_eq (pc := 158) (tgt := 165) X rr_2 d_RM_simulate_158 (by decide) (fun hc => ?_) (fun hc => ?_)
  · replace hv := hv.1 hc
    refine z_aload_n (pc := 165) (q := 0) X d_RM_simulate_165 rfl ?_
    refine z_geti (pc := 166) (j := 27) X cf_RM op0 (by decide) q1048 rfl rfl d_RM_simulate_166 ?_
    refine z_aload_n (pc := 169) (q := 0) X d_RM_simulate_169 rfl ?_
    refine z_getr (pc := 170) (j := 11) (dd := 5) X cf_RM op0 (by decide) q1032 rfl rfl d_RM_simulate_170 ?_
    refine z_sipush (pc := 173) X d_RM_simulate_173 (by decide) ?_
    refine z_ialdj (pc := 176) (j := 189) X (gf_RM_11 op0) (gl_RM_11 op0) (show zr 189 from by decide) ⟨by decide, by decide⟩ rfl d_RM_simulate_176 ?_
    refine z_icmp_ge (pc := 177) (tgt := 185) X (zh_1.1 _ _ (zO.ne op0 (by decide))) (zh_1.1 _ _ (zO.ne (gf_RM_11 op0) (by decide))) d_RM_simulate_177 (by decide) (fun hc => ?_) (fun hc => ?_)
    · replace hv := hv.1 hc
      refine z_iconst (pc := 185) X d_RM_simulate_185 ?_
      obtain ⟨v_3, hv⟩ := hv
      refine z_iadd (pc := 186) X d_RM_simulate_186 ?_
      refine z_topi (fun x6_4 ex6_4 => ?_)
      have rx6_4 : zr x6_4 := by rw [ex6_4]; exact v_3
      replace hv := hv x6_4 ex6_4
      refine z_istore (pc := 187) (lv' := [(6, zi x6_4), (0, .ref (g.2.2 p0)), (3, zi x3), (4, zj x4), (7, zi x7)]) X d_RM_simulate_187 (by decide) rfl ?_
      obtain ⟨v_5, hv⟩ := hv
      refine z_iinc (pc := 189) (q := 4) (lv' := [(7, zi (x7 + 1)), (6, zi x6_4), (0, .ref (g.2.2 p0)), (3, zi x3), (4, zj x4)]) X d_RM_simulate_189 rfl (by decide) rfl ?_
      refine z_goto (pc := 192) (tgt := 43) X d_RM_simulate_192 (by decide) ?_
      refine z_perm [2, 3, 4, 1, 0] rfl ?_
      exact hL43 _ hv rx4 rx6_4 v_5 zh_1
    · replace hv := hv.2 hc
      refine z_bipush (pc := 180) X d_RM_simulate_180 (by decide) ?_
      refine z_goto (pc := 182) (tgt := 186) X d_RM_simulate_182 (by decide) ?_
      obtain ⟨v_6, hv⟩ := hv
      refine z_iadd (pc := 186) X d_RM_simulate_186 ?_
      refine z_topi (fun x6_7 ex6_7 => ?_)
      have rx6_7 : zr x6_7 := by rw [ex6_7]; exact v_6
      replace hv := hv x6_7 ex6_7
      refine z_istore (pc := 187) (lv' := [(6, zi x6_7), (0, .ref (g.2.2 p0)), (3, zi x3), (4, zj x4), (7, zi x7)]) X d_RM_simulate_187 (by decide) rfl ?_
      obtain ⟨v_8, hv⟩ := hv
      refine z_iinc (pc := 189) (q := 4) (lv' := [(7, zi (x7 + 1)), (6, zi x6_7), (0, .ref (g.2.2 p0)), (3, zi x3), (4, zj x4)]) X d_RM_simulate_189 rfl (by decide) rfl ?_
      refine z_goto (pc := 192) (tgt := 43) X d_RM_simulate_192 (by decide) ?_
      refine z_perm [2, 3, 4, 1, 0] rfl ?_
      exact hL43 _ hv rx4 rx6_7 v_8 zh_1
  · replace hv := hv.2 hc
    refine z_iconst (pc := 161) X d_RM_simulate_161 ?_
    refine z_goto (pc := 162) (tgt := 186) X d_RM_simulate_162 (by decide) ?_
    obtain ⟨v_9, hv⟩ := hv
    refine z_iadd (pc := 186) X d_RM_simulate_186 ?_
    refine z_topi (fun x6_10 ex6_10 => ?_)
    have rx6_10 : zr x6_10 := by rw [ex6_10]; exact v_9
    replace hv := hv x6_10 ex6_10
    refine z_istore (pc := 187) (lv' := [(6, zi x6_10), (0, .ref (g.2.2 p0)), (3, zi x3), (4, zj x4), (7, zi x7)]) X d_RM_simulate_187 (by decide) rfl ?_
    obtain ⟨v_11, hv⟩ := hv
    refine z_iinc (pc := 189) (q := 4) (lv' := [(7, zi (x7 + 1)), (6, zi x6_10), (0, .ref (g.2.2 p0)), (3, zi x3), (4, zj x4)]) X d_RM_simulate_189 rfl (by decide) rfl ?_
    refine z_goto (pc := 192) (tgt := 43) X d_RM_simulate_192 (by decide) ?_
    refine z_perm [2, 3, 4, 1, 0] rfl ?_
    exact hL43 _ hv rx4 rx6_10 v_11 zh_1
def F_RM_simulate_43 (K : Int → zH → Prop)  (L43 : Int × Int × Int × zH → Prop) (p0 : Nat) (x3 : Int) (x4 : Int) (x6 : Int) (x7 : Int) (h : zH) : Prop :=
  (x3 ≤ x7 → (K x6 h)) ∧ (x7 < x3 → (M_RM_copyPage (p0 + 3) 0 (p0 + 5) 0 h (fun h_1 => (∀ x4_3 : Int, x4_3 = zwl ((zwl (x4 * 6364136223846793005)) + 1442695040888963407) → ((∀ x8_4 : Int, x8_4 = zw (zushr x4_3 33) → ((h_1 (p0 + 5) 190 ≤ 0 → (0 ≤ x8_4 ∧ (zr (191 + (x8_4 % 2)) ∧ (0 ≤ x8_4 ∧ (0 ≤ x8_4 / 2 ∧ (zr (512 + ((x8_4 / 2) % 7680)) ∧ ((0 ≤ 191 + (x8_4 % 2) ∧ 191 + (x8_4 % 2) < 193) ∧ (∀ h_11 : zH, h_11 = zs h_1 (p0 + 5) ((191 + (x8_4 % 2)).toNat) (512 + ((x8_4 / 2) % 7680)) → (B_RM_simulate_148 K L43 p0 x3 x4_3 x6 x7  h_11))))))))) ∧ (0 < h_1 (p0 + 5) 190 → (0 ≤ x8_4 ∧ ((0 ≤ x8_4 / 16 ∧ 0 < h_1 (p0 + 5) 190) ∧ (zr (104 + ((x8_4 / 16) % (h_1 (p0 + 5) 190))) ∧ (0 ≤ x8_4 ∧ ((0 ≤ 104 + ((x8_4 / 16) % (h_1 (p0 + 5) 190)) ∧ 104 + ((x8_4 / 16) % (h_1 (p0 + 5) 190)) < 193) ∧ (∀ h_17 : zH, h_17 = zs h_1 (p0 + 5) ((104 + ((x8_4 / 16) % (h_1 (p0 + 5) 190))).toNat) (x8_4 % 16) → (B_RM_simulate_148 K L43 p0 x3 x4_3 x6 x7  h_17)))))))))))))))
set_option maxRecDepth 100000 in
theorem s_RM_simulate_43 {Wf : Heap → List Loc → JFrame → Prop} {m : MethodId} {g : zG} {n : Nat} {H0 : Heap} (X : zX Wf m rm_RM_simulate b_RM_simulate "AliasStreamsModel" 9 g n H0) {K : Int → zH → Prop} (E : zEx Wf m b_RM_simulate (some .int) 9 g n H0 (zPi K))  {p0 : Nat} {x3 : Int}  (op0 : zO n p0 11) (rx3 : zr x3) {q0 : Int × Int × Int × zH} (hv0 : zLoop (fun L q => F_RM_simulate_43 K  L p0 x3 q.1 q.2.1 q.2.2.1 q.2.2.2) q0) : zrl q0.1 → zr q0.2.1 → zr q0.2.2.1 → zh (q0.2.2.2) → zW Wf m 9 g n H0 43 [(0, .ref (g.2.2 p0)), (3, zi x3), (4, zj q0.1), (6, zi q0.2.1), (7, zi q0.2.2.1)] [] (q0.2.2.2) := by
  refine zLoop_use (G := fun q => zrl q.1 → zr q.2.1 → zr q.2.2.1 → zh (q.2.2.2) → zW Wf m 9 g n H0 43 [(0, .ref (g.2.2 p0)), (3, zi x3), (4, zj q.1), (6, zi q.2.1), (7, zi q.2.2.1)] [] (q.2.2.2)) ?_ hv0
  rintro L43 ⟨x4, x6, x7, h⟩ hL43 hv rx4 rx6 rx7 hh
  have hv : F_RM_simulate_43 K  L43 p0 x3 x4 x6 x7 h := hv
  unfold F_RM_simulate_43 at hv
  show zW Wf m 9 g n H0 43 [(0, .ref (g.2.2 p0)), (3, zi x3), (4, zj x4), (6, zi x6), (7, zi x7)] [] h
  refine z_iload (pc := 43) (q := 4) X d_RM_simulate_43 rfl ?_
  refine z_iload_n (pc := 45) (q := 1) X d_RM_simulate_45 rfl ?_
  refine z_icmp_ge (pc := 46) (tgt := 195) X rx7 rx3 d_RM_simulate_46 (by decide) (fun hc => ?_) (fun hc => ?_)
  · replace hv := hv.1 hc
    refine z_iload (pc := 195) (q := 3) X d_RM_simulate_195 rfl ?_
    exact E.2.1 rfl _ _ _ _ d_RM_simulate_197 ⟨_, rfl, rx6, hh, hv⟩
  · replace hv := hv.2 hc
    refine z_aload_n (pc := 49) (q := 0) X d_RM_simulate_49 rfl ?_
    refine z_getr (pc := 50) (j := 9) (dd := 3) X cf_RM op0 (by decide) q1030 rfl rfl d_RM_simulate_50 ?_
    refine z_iconst (pc := 53) X d_RM_simulate_53 ?_
    refine z_aload_n (pc := 54) (q := 0) X d_RM_simulate_54 rfl ?_
    refine z_getr (pc := 55) (j := 11) (dd := 5) X cf_RM op0 (by decide) q1032 rfl rfl d_RM_simulate_55 ?_
    refine z_iconst (pc := 58) X d_RM_simulate_58 ?_
    refine z_callSv (pc := 59) (As := [.ref (g.2.2 (p0 + 3)), zi 0, .ref (g.2.2 (p0 + 5)), zi 0]) (rest := []) X (fun l hl => c_RM_copyPage hl (gf_RM_9 op0) (show zr 0 from by decide) (gf_RM_11 op0) (show zr 0 from by decide) hh hv) mf_RM_copyPage q1169 ⟨⟨by decide, by decide⟩, rfl, rfl⟩ rfl d_RM_simulate_59 rfl (Nat.le_of_ble_eq_true rfl) (fun h_1 zh_1 hv => ?_)
    refine z_lload (pc := 62) (q := 2) X d_RM_simulate_62 rfl ?_
    refine z_ldc2 (pc := 64) (x := 6364136223846793005) X d_RM_simulate_64 q1382 (by decide) ?_
    refine z_lmul (pc := 67) X d_RM_simulate_67 ?_
    refine z_wj ?_
    refine z_ldc2 (pc := 68) (x := 1442695040888963407) X d_RM_simulate_68 q1383 (by decide) ?_
    refine z_ladd (pc := 71) X d_RM_simulate_71 ?_
    refine z_wj ?_
    refine z_topj (fun x4_3 ex4_3 => ?_)
    have rx4_3 : zrl x4_3 := by rw [ex4_3]; exact (zrl_w _)
    replace hv := hv x4_3 ex4_3
    refine z_lstore (pc := 72) (lv' := [(4, zj x4_3), (0, .ref (g.2.2 p0)), (3, zi x3), (6, zi x6), (7, zi x7)]) X d_RM_simulate_72 (by decide) rfl ?_
    refine z_lload (pc := 74) (q := 0) X d_RM_simulate_74 rfl ?_
    refine z_bipush (pc := 76) X d_RM_simulate_76 (by decide) ?_
    refine z_lushr (pc := 78) X d_RM_simulate_78 ?_
    refine z_l2i (pc := 79) X (zrl_int _) d_RM_simulate_79 ?_
    refine z_topi (fun x8_4 ex8_4 => ?_)
    have rx8_4 : zr x8_4 := by rw [ex8_4]; exact (zr_w _)
    replace hv := hv x8_4 ex8_4
    refine z_istore (pc := 80) (lv' := [(8, zi x8_4), (4, zj x4_3), (0, .ref (g.2.2 p0)), (3, zi x3), (6, zi x6), (7, zi x7)]) X d_RM_simulate_80 (by decide) rfl ?_
    refine z_aload_n (pc := 82) (q := 2) X d_RM_simulate_82 rfl ?_
    refine z_getr (pc := 83) (j := 11) (dd := 5) X cf_RM op0 (by decide) q1032 rfl rfl d_RM_simulate_83 ?_
    refine z_sipush (pc := 86) X d_RM_simulate_86 (by decide) ?_
    refine z_ialdj (pc := 89) (j := 190) X (gf_RM_11 op0) (gl_RM_11 op0) (show zr 190 from by decide) ⟨by decide, by decide⟩ rfl d_RM_simulate_89 ?_
    refine z_if_le (pc := 90) (tgt := 123) X (zh_1.1 _ _ (zO.ne (gf_RM_11 op0) (by decide))) d_RM_simulate_90 (by decide) (fun hc => ?_) (fun hc => ?_)
    · replace hv := hv.1 hc
      refine z_aload_n (pc := 123) (q := 2) X d_RM_simulate_123 rfl ?_
      refine z_getr (pc := 124) (j := 11) (dd := 5) X cf_RM op0 (by decide) q1032 rfl rfl d_RM_simulate_124 ?_
      refine z_sipush (pc := 127) X d_RM_simulate_127 (by decide) ?_
      refine z_iload (pc := 130) (q := 0) X d_RM_simulate_130 rfl ?_
      refine z_iconst (pc := 132) X d_RM_simulate_132 ?_
      obtain ⟨v_5, hv⟩ := hv
      refine z_irem (pc := 133) X rx8_4 (show zr 2 from by decide) v_5 (by decide) d_RM_simulate_133 ?_
      obtain ⟨v_6, hv⟩ := hv
      refine z_iadd (pc := 134) X d_RM_simulate_134 ?_
      refine z_sipush (pc := 135) X d_RM_simulate_135 (by decide) ?_
      refine z_iload (pc := 138) (q := 0) X d_RM_simulate_138 rfl ?_
      refine z_iconst (pc := 140) X d_RM_simulate_140 ?_
      obtain ⟨v_7, hv⟩ := hv
      refine z_idiv (pc := 141) X rx8_4 (show zr 2 from by decide) v_7 (by decide) d_RM_simulate_141 ?_
      refine z_sipush (pc := 142) X d_RM_simulate_142 (by decide) ?_
      obtain ⟨v_8, hv⟩ := hv
      refine z_irem (pc := 145) X (zr_div rx8_4 v_7 (by decide)) (show zr 7680 from by decide) v_8 (by decide) d_RM_simulate_145 ?_
      obtain ⟨v_9, hv⟩ := hv
      refine z_iadd (pc := 146) X d_RM_simulate_146 ?_
      obtain ⟨v_10, hv⟩ := hv
      refine z_iastj (pc := 147) (j := (191 + (x8_4 % 2)).toNat) X (gf_RM_11 op0) (gl_RM_11 op0) v_6 v_10 rfl d_RM_simulate_147 ?_
      refine z_toph (fun h_11 eh_11 => ?_)
      have zh_11 : zh h_11 := by rw [eh_11]; exact zh_set zh_1 (zO.ne (gf_RM_11 op0) (by decide)) v_9
      replace hv := hv h_11 eh_11
      refine z_perm [2, 3, 1, 4, 5] rfl ?_
      exact s_RM_simulate_148 X E hL43 op0 rx3 rx4_3 rx6 rx7  zh_11 hv
    · replace hv := hv.2 hc
      refine z_aload_n (pc := 93) (q := 2) X d_RM_simulate_93 rfl ?_
      refine z_getr (pc := 94) (j := 11) (dd := 5) X cf_RM op0 (by decide) q1032 rfl rfl d_RM_simulate_94 ?_
      refine z_bipush (pc := 97) X d_RM_simulate_97 (by decide) ?_
      refine z_iload (pc := 99) (q := 0) X d_RM_simulate_99 rfl ?_
      refine z_bipush (pc := 101) X d_RM_simulate_101 (by decide) ?_
      obtain ⟨v_12, hv⟩ := hv
      refine z_idiv (pc := 103) X rx8_4 (show zr 16 from by decide) v_12 (by decide) d_RM_simulate_103 ?_
      refine z_aload_n (pc := 104) (q := 2) X d_RM_simulate_104 rfl ?_
      refine z_getr (pc := 105) (j := 11) (dd := 5) X cf_RM op0 (by decide) q1032 rfl rfl d_RM_simulate_105 ?_
      refine z_sipush (pc := 108) X d_RM_simulate_108 (by decide) ?_
      refine z_ialdj (pc := 111) (j := 190) X (gf_RM_11 op0) (gl_RM_11 op0) (show zr 190 from by decide) ⟨by decide, by decide⟩ rfl d_RM_simulate_111 ?_
      obtain ⟨v_13, hv⟩ := hv
      refine z_irem (pc := 112) X (zr_div rx8_4 v_12 (by decide)) (zh_1.1 _ _ (zO.ne (gf_RM_11 op0) (by decide))) v_13.1 v_13.2 d_RM_simulate_112 ?_
      obtain ⟨v_14, hv⟩ := hv
      refine z_iadd (pc := 113) X d_RM_simulate_113 ?_
      refine z_iload (pc := 114) (q := 0) X d_RM_simulate_114 rfl ?_
      refine z_bipush (pc := 116) X d_RM_simulate_116 (by decide) ?_
      obtain ⟨v_15, hv⟩ := hv
      refine z_irem (pc := 118) X rx8_4 (show zr 16 from by decide) v_15 (by decide) d_RM_simulate_118 ?_
      obtain ⟨v_16, hv⟩ := hv
      refine z_iastj (pc := 119) (j := (104 + ((x8_4 / 16) % (h_1 (p0 + 5) 190))).toNat) X (gf_RM_11 op0) (gl_RM_11 op0) v_14 v_16 rfl d_RM_simulate_119 ?_
      refine z_toph (fun h_17 eh_17 => ?_)
      have zh_17 : zh h_17 := by rw [eh_17]; exact zh_set zh_1 (zO.ne (gf_RM_11 op0) (by decide)) (zr_rem (show zr 16 from by decide) (by decide))
      replace hv := hv h_17 eh_17
      refine z_goto (pc := 120) (tgt := 148) X d_RM_simulate_120 (by decide) ?_
      refine z_perm [2, 3, 1, 4, 5] rfl ?_
      exact s_RM_simulate_148 X E hL43 op0 rx3 rx4_3 rx6 rx7  zh_17 hv
def B_RM_simulate_18 (K : Int → zH → Prop)  (p0 : Nat) (x1 : Int) (x3 : Int) (w0 : Nat) (u1 : Int) (h : zH) : Prop :=
  M_RM_refused w0 u1 h (fun r_2 h_1 => (r_2 = 0 → (M_RM_layTables p0 (p0 + 3) h_1 (fun h_3 => zLoop (fun L q => F_RM_simulate_43 K  L p0 x3 q.1 q.2.1 q.2.2.1 q.2.2.2) (x1, 0, 0, h_3)))) ∧ (r_2 ≠ 0 → (K 0 h_1)))
set_option maxRecDepth 100000 in
theorem s_RM_simulate_18 {Wf : Heap → List Loc → JFrame → Prop} {m : MethodId} {g : zG} {n : Nat} {H0 : Heap} (X : zX Wf m rm_RM_simulate b_RM_simulate "AliasStreamsModel" 9 g n H0) {K : Int → zH → Prop} (E : zEx Wf m b_RM_simulate (some .int) 9 g n H0 (zPi K))  {p0 : Nat} {x1 : Int} {x3 : Int}  (op0 : zO n p0 11) (rx1 : zrl x1) (rx3 : zr x3) {w0 : Nat} {u1 : Int} (ow0 : zO n w0 11) (ru1 : zr u1) {h : zH} (hh : zh h) (hv : B_RM_simulate_18 K  p0 x1 x3 w0 u1 h) : zW Wf m 9 g n H0 18 [(0, .ref (g.2.2 p0)), (1, zj x1), (3, zi x3)] [zi u1, .ref (g.2.2 w0)] h := by
  unfold B_RM_simulate_18 at hv
  refine z_callVi (pc := 18) (As := [zi u1]) (rest := []) X (fun l hl => c_RM_refused hl ow0 ru1 hh hv) cf_RM ow0 rfl mf_RM_refused q1130 ⟨⟨by decide, by decide⟩, rfl, rfl⟩ rfl d_RM_simulate_18 rfl (Nat.le_of_ble_eq_true rfl) (fun r_2 h_1 rr_2 zh_1 hv => ?_)
  refine z_if_eq (pc := 21) (tgt := 26) X rr_2 d_RM_simulate_21 (by decide) (fun hc => ?_) (fun hc => ?_)
  · replace hv := hv.1 hc
    refine z_aload_n (pc := 26) (q := 0) X d_RM_simulate_26 rfl ?_
    refine z_aload_n (pc := 27) (q := 0) X d_RM_simulate_27 rfl ?_
    refine z_getr (pc := 28) (j := 9) (dd := 3) X cf_RM op0 (by decide) q1030 rfl rfl d_RM_simulate_28 ?_
    refine z_callVv (pc := 31) (As := [.ref (g.2.2 (p0 + 3))]) (rest := []) X (fun l hl => c_RM_layTables hl op0 (gf_RM_9 op0) zh_1 hv) cf_RM op0 rfl mf_RM_layTables q1181 ⟨⟨by decide, by decide⟩, rfl, rfl⟩ rfl d_RM_simulate_31 rfl (Nat.le_of_ble_eq_true rfl) (fun h_3 zh_3 hv => ?_)
    refine z_lload_n (pc := 34) (q := 1) X d_RM_simulate_34 rfl ?_
    refine z_lstore (pc := 35) (lv' := [(4, zj x1), (0, .ref (g.2.2 p0)), (1, zj x1), (3, zi x3)]) X d_RM_simulate_35 (by decide) rfl ?_
    refine z_iconst (pc := 37) X d_RM_simulate_37 ?_
    refine z_istore (pc := 38) (lv' := [(6, zi 0), (4, zj x1), (0, .ref (g.2.2 p0)), (1, zj x1), (3, zi x3)]) X d_RM_simulate_38 (by decide) rfl ?_
    refine z_iconst (pc := 40) X d_RM_simulate_40 ?_
    refine z_istore (pc := 41) (lv' := [(7, zi 0), (6, zi 0), (4, zj x1), (0, .ref (g.2.2 p0)), (1, zj x1), (3, zi x3)]) X d_RM_simulate_41 (by decide) rfl ?_
    refine z_perm [3, 5, 2, 1, 0] rfl ?_
    exact s_RM_simulate_43 X E  op0 rx3 hv rx1 (show zr 0 from by decide) (show zr 0 from by decide) zh_3
  · replace hv := hv.2 hc
    refine z_iconst (pc := 24) X d_RM_simulate_24 ?_
    exact E.2.1 rfl _ _ _ _ d_RM_simulate_25 ⟨_, rfl, (show zr 0 from by decide), zh_1, hv⟩
def M_RM_simulate (p0 : Nat) (x1 : Int) (x3 : Int) (h : zH) (K : Int → zH → Prop) : Prop :=
  M_RM_in x3 1 40 h (fun r_2 h_1 => (r_2 = 0 → (B_RM_simulate_18 K  p0 x1 x3 p0 1 h_1)) ∧ (r_2 ≠ 0 → (B_RM_simulate_18 K  p0 x1 x3 p0 0 h_1)))
set_option maxRecDepth 100000 in
theorem c_RM_simulate {l : Launch} (hfl : l.flags = flags0) {g : zG} {n : Nat} {p0 : Nat} {x1 : Int} {x3 : Int} (op0 : zO n p0 11) (rx1 : zrl x1) (rx3 : zr x3) {h : zH} (hh : zh h) {K : Int → zH → Prop} (hv : M_RM_simulate p0 x1 x3 h K) : zMet l y_RM_simulate b_RM_simulate 9 (some .int) rm_RM_simulate g n [.ref (g.2.2 p0), zj x1, zi x3] h (zPi K) := by
  refine zMet_of (own := "AliasStreamsModel") hfl (by decide) rfl (Nat.le_of_ble_eq_true rfl) (fun Wf m H0 X E => ?_)
  unfold M_RM_simulate at hv
  show zW Wf m 9 g n H0 0 [(0, .ref (g.2.2 p0)), (1, zj x1), (3, zi x3)] [] h
  refine z_aload_n (pc := 0) (q := 0) X d_RM_simulate_0 rfl ?_
  refine z_iload_n (pc := 1) (q := 2) X d_RM_simulate_1 rfl ?_
  refine z_i2l (pc := 2) X rx3 d_RM_simulate_2 ?_
  refine z_lconst (pc := 3) (x := 1) X d_RM_simulate_3 (by decide) ?_
  refine z_ldc2 (pc := 4) (x := 40) X d_RM_simulate_4 q1381 (by decide) ?_
  refine z_callSi (pc := 7) (As := [zj x3, zj 1, zj 40]) (rest := [.ref (g.2.2 p0)]) X (fun l hl => c_RM_in hl (zr_l rx3) (show zrl 1 from by decide) (show zrl 40 from by decide) hh hv) mf_RM_in q1127 ⟨⟨by decide, by decide⟩, rfl, rfl⟩ rfl d_RM_simulate_7 rfl (Nat.le_of_ble_eq_true rfl) (fun r_2 h_1 rr_2 zh_1 hv => ?_)
  refine z_if_eq (pc := 10) (tgt := 17) X rr_2 d_RM_simulate_10 (by decide) (fun hc => ?_) (fun hc => ?_)
  · replace hv := hv.1 hc
    refine z_iconst (pc := 17) X d_RM_simulate_17 ?_
    exact s_RM_simulate_18 X E  op0 rx1 rx3 op0 (show zr 1 from by decide) zh_1 hv
  · replace hv := hv.2 hc
    refine z_iconst (pc := 13) X d_RM_simulate_13 ?_
    refine z_goto (pc := 14) (tgt := 18) X d_RM_simulate_14 (by decide) ?_
    exact s_RM_simulate_18 X E  op0 rx1 rx3 op0 (show zr 0 from by decide) zh_1 hv
theorem d_RM_save_0 : decode b_RM_save 0 = .ok (.aload_n 0, 1) := by decide +kernel
theorem d_RM_save_1 : decode b_RM_save 1 = .ok (.iload_n 1, 1) := by decide +kernel
theorem d_RM_save_2 : decode b_RM_save 2 = .ok (.i2l, 1) := by decide +kernel
theorem d_RM_save_3 : decode b_RM_save 3 = .ok (.lconst 0, 1) := by decide +kernel
theorem d_RM_save_4 : decode b_RM_save 4 = .ok (.lconst 1, 1) := by decide +kernel
theorem d_RM_save_5 : decode b_RM_save 5 = .ok (.invokestatic 87, 3) := by decide +kernel
theorem d_RM_save_8 : decode b_RM_save 8 = .ok (.ifCond .eq 7, 3) := by decide +kernel
theorem d_RM_save_11 : decode b_RM_save 11 = .ok (.iconst 0, 1) := by decide +kernel
theorem d_RM_save_12 : decode b_RM_save 12 = .ok (.goto 4, 3) := by decide +kernel
theorem d_RM_save_15 : decode b_RM_save 15 = .ok (.iconst 1, 1) := by decide +kernel
theorem d_RM_save_16 : decode b_RM_save 16 = .ok (.invokevirtual 114, 3) := by decide +kernel
theorem d_RM_save_19 : decode b_RM_save 19 = .ok (.ifCond .eq 5, 3) := by decide +kernel
theorem d_RM_save_22 : decode b_RM_save 22 = .ok (.iconst 0, 1) := by decide +kernel
theorem d_RM_save_23 : decode b_RM_save 23 = .ok (.ireturn, 1) := by decide +kernel
theorem d_RM_save_24 : decode b_RM_save 24 = .ok (.aload_n 0, 1) := by decide +kernel
theorem d_RM_save_25 : decode b_RM_save 25 = .ok (.getfield 38, 3) := by decide +kernel
theorem d_RM_save_28 : decode b_RM_save 28 = .ok (.iload_n 1, 1) := by decide +kernel
theorem d_RM_save_29 : decode b_RM_save 29 = .ok (.iconst 1, 1) := by decide +kernel
theorem d_RM_save_30 : decode b_RM_save 30 = .ok (.bastore, 1) := by decide +kernel
theorem d_RM_save_31 : decode b_RM_save 31 = .ok (.aload_n 0, 1) := by decide +kernel
theorem d_RM_save_32 : decode b_RM_save 32 = .ok (.getfield 23, 3) := by decide +kernel
theorem d_RM_save_35 : decode b_RM_save 35 = .ok (.iconst 0, 1) := by decide +kernel
theorem d_RM_save_36 : decode b_RM_save 36 = .ok (.aload_n 0, 1) := by decide +kernel
theorem d_RM_save_37 : decode b_RM_save 37 = .ok (.getfield 35, 3) := by decide +kernel
theorem d_RM_save_40 : decode b_RM_save 40 = .ok (.sipush 193, 3) := by decide +kernel
theorem d_RM_save_43 : decode b_RM_save 43 = .ok (.iload_n 1, 1) := by decide +kernel
theorem d_RM_save_44 : decode b_RM_save 44 = .ok (.imul, 1) := by decide +kernel
theorem d_RM_save_45 : decode b_RM_save 45 = .ok (.invokestatic 151, 3) := by decide +kernel
theorem d_RM_save_48 : decode b_RM_save 48 = .ok (.aload_n 0, 1) := by decide +kernel
theorem d_RM_save_49 : decode b_RM_save 49 = .ok (.getfield 23, 3) := by decide +kernel
theorem d_RM_save_52 : decode b_RM_save 52 = .ok (.sipush 188, 3) := by decide +kernel
theorem d_RM_save_55 : decode b_RM_save 55 = .ok (.iaload, 1) := by decide +kernel
theorem d_RM_save_56 : decode b_RM_save 56 = .ok (.ireturn, 1) := by decide +kernel
def rm_RM_save : Room := { frames := 1, cells := 0, slots := 0, locals := 25 }
theorem mf_RM_save : zMV y_RM_save b_RM_save 2 (some .int) 1 := ⟨q1385, q1386, q13, q1387, by decide +kernel⟩
def B_RM_save_16 (K : Int → zH → Prop)  (p0 : Nat) (x1 : Int) (w0 : Nat) (u1 : Int) (h : zH) : Prop :=
  M_RM_refused w0 u1 h (fun r_2 h_1 => (r_2 = 0 → ((0 ≤ x1 ∧ x1 < 2) ∧ (∀ h_4 : zH, h_4 = zs h_1 (p0 + 8) x1.toNat 1 → (zr (193 * x1) ∧ (M_RM_copyPage (p0 + 3) 0 (p0 + 7) (193 * x1) h_4 (fun h_6 => K (h_6 (p0 + 3) 188) h_6)))))) ∧ (r_2 ≠ 0 → (K 0 h_1)))
set_option maxRecDepth 100000 in
theorem s_RM_save_16 {Wf : Heap → List Loc → JFrame → Prop} {m : MethodId} {g : zG} {n : Nat} {H0 : Heap} (X : zX Wf m rm_RM_save b_RM_save "AliasStreamsModel" 2 g n H0) {K : Int → zH → Prop} (E : zEx Wf m b_RM_save (some .int) 2 g n H0 (zPi K))  {p0 : Nat} {x1 : Int}  (op0 : zO n p0 11) (rx1 : zr x1) {w0 : Nat} {u1 : Int} (ow0 : zO n w0 11) (ru1 : zr u1) {h : zH} (hh : zh h) (hv : B_RM_save_16 K  p0 x1 w0 u1 h) : zW Wf m 2 g n H0 16 [(0, .ref (g.2.2 p0)), (1, zi x1)] [zi u1, .ref (g.2.2 w0)] h := by
  unfold B_RM_save_16 at hv
  refine z_callVi (pc := 16) (As := [zi u1]) (rest := []) X (fun l hl => c_RM_refused hl ow0 ru1 hh hv) cf_RM ow0 rfl mf_RM_refused q1130 ⟨⟨by decide, by decide⟩, rfl, rfl⟩ rfl d_RM_save_16 rfl (Nat.le_of_ble_eq_true rfl) (fun r_2 h_1 rr_2 zh_1 hv => ?_)
  refine z_if_eq (pc := 19) (tgt := 24) X rr_2 d_RM_save_19 (by decide) (fun hc => ?_) (fun hc => ?_)
  · replace hv := hv.1 hc
    refine z_aload_n (pc := 24) (q := 0) X d_RM_save_24 rfl ?_
    refine z_getr (pc := 25) (j := 15) (dd := 8) X cf_RM op0 (by decide) q1036 rfl rfl d_RM_save_25 ?_
    refine z_iload_n (pc := 28) (q := 1) X d_RM_save_28 rfl ?_
    refine z_iconst (pc := 29) X d_RM_save_29 ?_
    obtain ⟨v_3, hv⟩ := hv
    refine z_zastj (pc := 30) (j := x1.toNat) X (gf_RM_15 op0) (gl_RM_15 op0) rx1 v_3 rfl (by decide) d_RM_save_30 ?_
    refine z_toph (fun h_4 eh_4 => ?_)
    have zh_4 : zh h_4 := by rw [eh_4]; exact zh_set zh_1 (zO.ne (gf_RM_15 op0) (by decide)) (show zr 1 from by decide)
    replace hv := hv h_4 eh_4
    refine z_aload_n (pc := 31) (q := 0) X d_RM_save_31 rfl ?_
    refine z_getr (pc := 32) (j := 9) (dd := 3) X cf_RM op0 (by decide) q1030 rfl rfl d_RM_save_32 ?_
    refine z_iconst (pc := 35) X d_RM_save_35 ?_
    refine z_aload_n (pc := 36) (q := 0) X d_RM_save_36 rfl ?_
    refine z_getr (pc := 37) (j := 14) (dd := 7) X cf_RM op0 (by decide) q1035 rfl rfl d_RM_save_37 ?_
    refine z_sipush (pc := 40) X d_RM_save_40 (by decide) ?_
    refine z_iload_n (pc := 43) (q := 1) X d_RM_save_43 rfl ?_
    obtain ⟨v_5, hv⟩ := hv
    refine z_imul (pc := 44) X d_RM_save_44 ?_
    refine z_callSv (pc := 45) (As := [.ref (g.2.2 (p0 + 3)), zi 0, .ref (g.2.2 (p0 + 7)), zi (193 * x1)]) (rest := []) X (fun l hl => c_RM_copyPage hl (gf_RM_9 op0) (show zr 0 from by decide) (gf_RM_14 op0) v_5 zh_4 hv) mf_RM_copyPage q1169 ⟨⟨by decide, by decide⟩, rfl, rfl⟩ rfl d_RM_save_45 rfl (Nat.le_of_ble_eq_true rfl) (fun h_6 zh_6 hv => ?_)
    refine z_aload_n (pc := 48) (q := 0) X d_RM_save_48 rfl ?_
    refine z_getr (pc := 49) (j := 9) (dd := 3) X cf_RM op0 (by decide) q1030 rfl rfl d_RM_save_49 ?_
    refine z_sipush (pc := 52) X d_RM_save_52 (by decide) ?_
    refine z_ialdj (pc := 55) (j := 188) X (gf_RM_9 op0) (gl_RM_9 op0) (show zr 188 from by decide) ⟨by decide, by decide⟩ rfl d_RM_save_55 ?_
    exact E.2.1 rfl _ _ _ _ d_RM_save_56 ⟨_, rfl, (zh_6.1 _ _ (zO.ne (gf_RM_9 op0) (by decide))), zh_6, hv⟩
  · replace hv := hv.2 hc
    refine z_iconst (pc := 22) X d_RM_save_22 ?_
    exact E.2.1 rfl _ _ _ _ d_RM_save_23 ⟨_, rfl, (show zr 0 from by decide), zh_1, hv⟩
def M_RM_save (p0 : Nat) (x1 : Int) (h : zH) (K : Int → zH → Prop) : Prop :=
  M_RM_in x1 0 1 h (fun r_2 h_1 => (r_2 = 0 → (B_RM_save_16 K  p0 x1 p0 1 h_1)) ∧ (r_2 ≠ 0 → (B_RM_save_16 K  p0 x1 p0 0 h_1)))
set_option maxRecDepth 100000 in
theorem c_RM_save {l : Launch} (hfl : l.flags = flags0) {g : zG} {n : Nat} {p0 : Nat} {x1 : Int} (op0 : zO n p0 11) (rx1 : zr x1) {h : zH} (hh : zh h) {K : Int → zH → Prop} (hv : M_RM_save p0 x1 h K) : zMet l y_RM_save b_RM_save 2 (some .int) rm_RM_save g n [.ref (g.2.2 p0), zi x1] h (zPi K) := by
  refine zMet_of (own := "AliasStreamsModel") hfl (by decide) rfl (Nat.le_of_ble_eq_true rfl) (fun Wf m H0 X E => ?_)
  unfold M_RM_save at hv
  show zW Wf m 2 g n H0 0 [(0, .ref (g.2.2 p0)), (1, zi x1)] [] h
  refine z_aload_n (pc := 0) (q := 0) X d_RM_save_0 rfl ?_
  refine z_iload_n (pc := 1) (q := 1) X d_RM_save_1 rfl ?_
  refine z_i2l (pc := 2) X rx1 d_RM_save_2 ?_
  refine z_lconst (pc := 3) (x := 0) X d_RM_save_3 (by decide) ?_
  refine z_lconst (pc := 4) (x := 1) X d_RM_save_4 (by decide) ?_
  refine z_callSi (pc := 5) (As := [zj x1, zj 0, zj 1]) (rest := [.ref (g.2.2 p0)]) X (fun l hl => c_RM_in hl (zr_l rx1) (show zrl 0 from by decide) (show zrl 1 from by decide) hh hv) mf_RM_in q1127 ⟨⟨by decide, by decide⟩, rfl, rfl⟩ rfl d_RM_save_5 rfl (Nat.le_of_ble_eq_true rfl) (fun r_2 h_1 rr_2 zh_1 hv => ?_)
  refine z_if_eq (pc := 8) (tgt := 15) X rr_2 d_RM_save_8 (by decide) (fun hc => ?_) (fun hc => ?_)
  · replace hv := hv.1 hc
    refine z_iconst (pc := 15) X d_RM_save_15 ?_
    exact s_RM_save_16 X E  op0 rx1 op0 (show zr 1 from by decide) zh_1 hv
  · replace hv := hv.2 hc
    refine z_iconst (pc := 11) X d_RM_save_11 ?_
    refine z_goto (pc := 12) (tgt := 16) X d_RM_save_12 (by decide) ?_
    exact s_RM_save_16 X E  op0 rx1 op0 (show zr 0 from by decide) zh_1 hv
theorem d_RM_restore_0 : decode b_RM_restore 0 = .ok (.aload_n 0, 1) := by decide +kernel
theorem d_RM_restore_1 : decode b_RM_restore 1 = .ok (.iload_n 1, 1) := by decide +kernel
theorem d_RM_restore_2 : decode b_RM_restore 2 = .ok (.i2l, 1) := by decide +kernel
theorem d_RM_restore_3 : decode b_RM_restore 3 = .ok (.lconst 0, 1) := by decide +kernel
theorem d_RM_restore_4 : decode b_RM_restore 4 = .ok (.lconst 1, 1) := by decide +kernel
theorem d_RM_restore_5 : decode b_RM_restore 5 = .ok (.invokestatic 87, 3) := by decide +kernel
theorem d_RM_restore_8 : decode b_RM_restore 8 = .ok (.ifCond .ne 7, 3) := by decide +kernel
theorem d_RM_restore_11 : decode b_RM_restore 11 = .ok (.iconst 1, 1) := by decide +kernel
theorem d_RM_restore_12 : decode b_RM_restore 12 = .ok (.goto 17, 3) := by decide +kernel
theorem d_RM_restore_15 : decode b_RM_restore 15 = .ok (.aload_n 0, 1) := by decide +kernel
theorem d_RM_restore_16 : decode b_RM_restore 16 = .ok (.getfield 38, 3) := by decide +kernel
theorem d_RM_restore_19 : decode b_RM_restore 19 = .ok (.iload_n 1, 1) := by decide +kernel
theorem d_RM_restore_20 : decode b_RM_restore 20 = .ok (.baload, 1) := by decide +kernel
theorem d_RM_restore_21 : decode b_RM_restore 21 = .ok (.ifCond .ne 7, 3) := by decide +kernel
theorem d_RM_restore_24 : decode b_RM_restore 24 = .ok (.iconst 2, 1) := by decide +kernel
theorem d_RM_restore_25 : decode b_RM_restore 25 = .ok (.goto 4, 3) := by decide +kernel
theorem d_RM_restore_28 : decode b_RM_restore 28 = .ok (.iconst 0, 1) := by decide +kernel
theorem d_RM_restore_29 : decode b_RM_restore 29 = .ok (.invokevirtual 114, 3) := by decide +kernel
theorem d_RM_restore_32 : decode b_RM_restore 32 = .ok (.ifCond .eq 5, 3) := by decide +kernel
theorem d_RM_restore_35 : decode b_RM_restore 35 = .ok (.iconst 0, 1) := by decide +kernel
theorem d_RM_restore_36 : decode b_RM_restore 36 = .ok (.ireturn, 1) := by decide +kernel
theorem d_RM_restore_37 : decode b_RM_restore 37 = .ok (.aload_n 0, 1) := by decide +kernel
theorem d_RM_restore_38 : decode b_RM_restore 38 = .ok (.getfield 35, 3) := by decide +kernel
theorem d_RM_restore_41 : decode b_RM_restore 41 = .ok (.sipush 193, 3) := by decide +kernel
theorem d_RM_restore_44 : decode b_RM_restore 44 = .ok (.iload_n 1, 1) := by decide +kernel
theorem d_RM_restore_45 : decode b_RM_restore 45 = .ok (.imul, 1) := by decide +kernel
theorem d_RM_restore_46 : decode b_RM_restore 46 = .ok (.aload_n 0, 1) := by decide +kernel
theorem d_RM_restore_47 : decode b_RM_restore 47 = .ok (.getfield 23, 3) := by decide +kernel
theorem d_RM_restore_50 : decode b_RM_restore 50 = .ok (.iconst 0, 1) := by decide +kernel
theorem d_RM_restore_51 : decode b_RM_restore 51 = .ok (.invokestatic 151, 3) := by decide +kernel
theorem d_RM_restore_54 : decode b_RM_restore 54 = .ok (.aload_n 0, 1) := by decide +kernel
theorem d_RM_restore_55 : decode b_RM_restore 55 = .ok (.iconst 0, 1) := by decide +kernel
theorem d_RM_restore_56 : decode b_RM_restore 56 = .ok (.putfield 155, 3) := by decide +kernel
theorem d_RM_restore_59 : decode b_RM_restore 59 = .ok (.aload_n 0, 1) := by decide +kernel
theorem d_RM_restore_60 : decode b_RM_restore 60 = .ok (.getfield 23, 3) := by decide +kernel
theorem d_RM_restore_63 : decode b_RM_restore 63 = .ok (.sipush 188, 3) := by decide +kernel
theorem d_RM_restore_66 : decode b_RM_restore 66 = .ok (.iaload, 1) := by decide +kernel
theorem d_RM_restore_67 : decode b_RM_restore 67 = .ok (.ireturn, 1) := by decide +kernel
def rm_RM_restore : Room := { frames := 1, cells := 0, slots := 0, locals := 25 }
theorem mf_RM_restore : zMV y_RM_restore b_RM_restore 2 (some .int) 1 := ⟨q1389, q1390, q13, q1391, by decide +kernel⟩
def B_RM_restore_29 (K : Int → zH → Prop)  (p0 : Nat) (x1 : Int) (w0 : Nat) (u1 : Int) (h : zH) : Prop :=
  M_RM_refused w0 u1 h (fun r_2 h_1 => (r_2 = 0 → (zr (193 * x1) ∧ (M_RM_copyPage (p0 + 7) (193 * x1) (p0 + 3) 0 h_1 (fun h_4 => (∀ h_6 : zH, h_6 = zs h_4 p0 13 0 → (K (h_6 (p0 + 3) 188) h_6)))))) ∧ (r_2 ≠ 0 → (K 0 h_1)))
set_option maxRecDepth 100000 in
theorem s_RM_restore_29 {Wf : Heap → List Loc → JFrame → Prop} {m : MethodId} {g : zG} {n : Nat} {H0 : Heap} (X : zX Wf m rm_RM_restore b_RM_restore "AliasStreamsModel" 2 g n H0) {K : Int → zH → Prop} (E : zEx Wf m b_RM_restore (some .int) 2 g n H0 (zPi K))  {p0 : Nat} {x1 : Int}  (op0 : zO n p0 11) (rx1 : zr x1) {w0 : Nat} {u1 : Int} (ow0 : zO n w0 11) (ru1 : zr u1) {h : zH} (hh : zh h) (hv : B_RM_restore_29 K  p0 x1 w0 u1 h) : zW Wf m 2 g n H0 29 [(0, .ref (g.2.2 p0)), (1, zi x1)] [zi u1, .ref (g.2.2 w0)] h := by
  unfold B_RM_restore_29 at hv
  refine z_callVi (pc := 29) (As := [zi u1]) (rest := []) X (fun l hl => c_RM_refused hl ow0 ru1 hh hv) cf_RM ow0 rfl mf_RM_refused q1130 ⟨⟨by decide, by decide⟩, rfl, rfl⟩ rfl d_RM_restore_29 rfl (Nat.le_of_ble_eq_true rfl) (fun r_2 h_1 rr_2 zh_1 hv => ?_)
  refine z_if_eq (pc := 32) (tgt := 37) X rr_2 d_RM_restore_32 (by decide) (fun hc => ?_) (fun hc => ?_)
  · replace hv := hv.1 hc
    refine z_aload_n (pc := 37) (q := 0) X d_RM_restore_37 rfl ?_
    refine z_getr (pc := 38) (j := 14) (dd := 7) X cf_RM op0 (by decide) q1035 rfl rfl d_RM_restore_38 ?_
    refine z_sipush (pc := 41) X d_RM_restore_41 (by decide) ?_
    refine z_iload_n (pc := 44) (q := 1) X d_RM_restore_44 rfl ?_
    obtain ⟨v_3, hv⟩ := hv
    refine z_imul (pc := 45) X d_RM_restore_45 ?_
    refine z_aload_n (pc := 46) (q := 0) X d_RM_restore_46 rfl ?_
    refine z_getr (pc := 47) (j := 9) (dd := 3) X cf_RM op0 (by decide) q1030 rfl rfl d_RM_restore_47 ?_
    refine z_iconst (pc := 50) X d_RM_restore_50 ?_
    refine z_callSv (pc := 51) (As := [.ref (g.2.2 (p0 + 7)), zi (193 * x1), .ref (g.2.2 (p0 + 3)), zi 0]) (rest := []) X (fun l hl => c_RM_copyPage hl (gf_RM_14 op0) v_3 (gf_RM_9 op0) (show zr 0 from by decide) zh_1 hv) mf_RM_copyPage q1169 ⟨⟨by decide, by decide⟩, rfl, rfl⟩ rfl d_RM_restore_51 rfl (Nat.le_of_ble_eq_true rfl) (fun h_4 zh_4 hv => ?_)
    refine z_aload_n (pc := 54) (q := 0) X d_RM_restore_54 rfl ?_
    refine z_iconst (pc := 55) X d_RM_restore_55 ?_
    refine z_put (pc := 56) (j := 13) X cf_RM op0 (by decide) q1034 rfl rfl rfl rfl d_RM_restore_56 ?_
    refine z_toph (fun h_6 eh_6 => ?_)
    have zh_6 : zh h_6 := by rw [eh_6]; exact zh_set zh_4 (zO.ne op0 (by decide)) (show zr 0 from by decide)
    replace hv := hv h_6 eh_6
    refine z_aload_n (pc := 59) (q := 0) X d_RM_restore_59 rfl ?_
    refine z_getr (pc := 60) (j := 9) (dd := 3) X cf_RM op0 (by decide) q1030 rfl rfl d_RM_restore_60 ?_
    refine z_sipush (pc := 63) X d_RM_restore_63 (by decide) ?_
    refine z_ialdj (pc := 66) (j := 188) X (gf_RM_9 op0) (gl_RM_9 op0) (show zr 188 from by decide) ⟨by decide, by decide⟩ rfl d_RM_restore_66 ?_
    exact E.2.1 rfl _ _ _ _ d_RM_restore_67 ⟨_, rfl, (zh_6.1 _ _ (zO.ne (gf_RM_9 op0) (by decide))), zh_6, hv⟩
  · replace hv := hv.2 hc
    refine z_iconst (pc := 35) X d_RM_restore_35 ?_
    exact E.2.1 rfl _ _ _ _ d_RM_restore_36 ⟨_, rfl, (show zr 0 from by decide), zh_1, hv⟩
def M_RM_restore (p0 : Nat) (x1 : Int) (h : zH) (K : Int → zH → Prop) : Prop :=
  M_RM_in x1 0 1 h (fun r_2 h_1 => (r_2 ≠ 0 → ((0 ≤ x1 ∧ x1 < 2) ∧ ((h_1 (p0 + 8) x1.toNat ≠ 0 → (B_RM_restore_29 K  p0 x1 p0 0 h_1)) ∧ (h_1 (p0 + 8) x1.toNat = 0 → (B_RM_restore_29 K  p0 x1 p0 2 h_1))))) ∧ (r_2 = 0 → (B_RM_restore_29 K  p0 x1 p0 1 h_1)))
set_option maxRecDepth 100000 in
theorem c_RM_restore {l : Launch} (hfl : l.flags = flags0) {g : zG} {n : Nat} {p0 : Nat} {x1 : Int} (op0 : zO n p0 11) (rx1 : zr x1) {h : zH} (hh : zh h) {K : Int → zH → Prop} (hv : M_RM_restore p0 x1 h K) : zMet l y_RM_restore b_RM_restore 2 (some .int) rm_RM_restore g n [.ref (g.2.2 p0), zi x1] h (zPi K) := by
  refine zMet_of (own := "AliasStreamsModel") hfl (by decide) rfl (Nat.le_of_ble_eq_true rfl) (fun Wf m H0 X E => ?_)
  unfold M_RM_restore at hv
  show zW Wf m 2 g n H0 0 [(0, .ref (g.2.2 p0)), (1, zi x1)] [] h
  refine z_aload_n (pc := 0) (q := 0) X d_RM_restore_0 rfl ?_
  refine z_iload_n (pc := 1) (q := 1) X d_RM_restore_1 rfl ?_
  refine z_i2l (pc := 2) X rx1 d_RM_restore_2 ?_
  refine z_lconst (pc := 3) (x := 0) X d_RM_restore_3 (by decide) ?_
  refine z_lconst (pc := 4) (x := 1) X d_RM_restore_4 (by decide) ?_
  refine z_callSi (pc := 5) (As := [zj x1, zj 0, zj 1]) (rest := [.ref (g.2.2 p0)]) X (fun l hl => c_RM_in hl (zr_l rx1) (show zrl 0 from by decide) (show zrl 1 from by decide) hh hv) mf_RM_in q1127 ⟨⟨by decide, by decide⟩, rfl, rfl⟩ rfl d_RM_restore_5 rfl (Nat.le_of_ble_eq_true rfl) (fun r_2 h_1 rr_2 zh_1 hv => ?_)
  refine z_if_ne (pc := 8) (tgt := 15) X rr_2 d_RM_restore_8 (by decide) (fun hc => ?_) (fun hc => ?_)
  · replace hv := hv.1 hc
    refine z_aload_n (pc := 15) (q := 0) X d_RM_restore_15 rfl ?_
    refine z_getr (pc := 16) (j := 15) (dd := 8) X cf_RM op0 (by decide) q1036 rfl rfl d_RM_restore_16 ?_
    refine z_iload_n (pc := 19) (q := 1) X d_RM_restore_19 rfl ?_
    obtain ⟨v_3, hv⟩ := hv
    refine z_zaldj (pc := 20) (j := x1.toNat) X (gf_RM_15 op0) (gl_RM_15 op0) rx1 v_3 rfl d_RM_restore_20 ?_
    refine z_if_ne (pc := 21) (tgt := 28) X (zh_1.1 _ _ (zO.ne (gf_RM_15 op0) (by decide))) d_RM_restore_21 (by decide) (fun hc => ?_) (fun hc => ?_)
    · replace hv := hv.1 hc
      refine z_iconst (pc := 28) X d_RM_restore_28 ?_
      exact s_RM_restore_29 X E  op0 rx1 op0 (show zr 0 from by decide) zh_1 hv
    · replace hv := hv.2 hc
      refine z_iconst (pc := 24) X d_RM_restore_24 ?_
      refine z_goto (pc := 25) (tgt := 29) X d_RM_restore_25 (by decide) ?_
      exact s_RM_restore_29 X E  op0 rx1 op0 (show zr 2 from by decide) zh_1 hv
  · replace hv := hv.2 hc
    refine z_iconst (pc := 11) X d_RM_restore_11 ?_
    refine z_goto (pc := 12) (tgt := 29) X d_RM_restore_12 (by decide) ?_
    exact s_RM_restore_29 X E  op0 rx1 op0 (show zr 1 from by decide) zh_1 hv

/-! 38.ASc (printed by wip/whole/methgen.py) -/
theorem d_AS_product_0 : decode b_AS_product 0 = .ok (.aload_n 0, 1) := by decide +kernel
theorem d_AS_product_1 : decode b_AS_product 1 = .ok (.getfield 47, 3) := by decide +kernel
theorem d_AS_product_4 : decode b_AS_product 4 = .ok (.aload_n 0, 1) := by decide +kernel
theorem d_AS_product_5 : decode b_AS_product 5 = .ok (.getfield 26, 3) := by decide +kernel
theorem d_AS_product_8 : decode b_AS_product 8 = .ok (.invokevirtual 130, 3) := by decide +kernel
theorem d_AS_product_11 : decode b_AS_product 11 = .ok (.aload_n 0, 1) := by decide +kernel
theorem d_AS_product_12 : decode b_AS_product 12 = .ok (.getfield 19, 3) := by decide +kernel
theorem d_AS_product_15 : decode b_AS_product 15 = .ok (.iload_n 1, 1) := by decide +kernel
theorem d_AS_product_16 : decode b_AS_product 16 = .ok (.invokevirtual 156, 3) := by decide +kernel
theorem d_AS_product_19 : decode b_AS_product 19 = .ok (.ifCond .eq 14, 3) := by decide +kernel
theorem d_AS_product_22 : decode b_AS_product 22 = .ok (.aload_n 0, 1) := by decide +kernel
theorem d_AS_product_23 : decode b_AS_product 23 = .ok (.getfield 47, 3) := by decide +kernel
theorem d_AS_product_26 : decode b_AS_product 26 = .ok (.iload_n 2, 1) := by decide +kernel
theorem d_AS_product_27 : decode b_AS_product 27 = .ok (.invokevirtual 321, 3) := by decide +kernel
theorem d_AS_product_30 : decode b_AS_product 30 = .ok (.ifCond .ne 14, 3) := by decide +kernel
theorem d_AS_product_33 : decode b_AS_product 33 = .ok (.new 163, 3) := by decide +kernel
theorem d_AS_product_36 : decode b_AS_product 36 = .ok (.dup, 1) := by decide +kernel
theorem d_AS_product_37 : decode b_AS_product 37 = .ok (.ldc_w 324, 3) := by decide +kernel
theorem d_AS_product_40 : decode b_AS_product 40 = .ok (.invokespecial 167, 3) := by decide +kernel
theorem d_AS_product_43 : decode b_AS_product 43 = .ok (.athrow, 1) := by decide +kernel
theorem d_AS_product_44 : decode b_AS_product 44 = .ok (.iload_n 3, 1) := by decide +kernel
theorem d_AS_product_45 : decode b_AS_product 45 = .ok (.iconst 1, 1) := by decide +kernel
theorem d_AS_product_46 : decode b_AS_product 46 = .ok (.if_icmp .lt 9, 3) := by decide +kernel
theorem d_AS_product_49 : decode b_AS_product 49 = .ok (.iload_n 3, 1) := by decide +kernel
theorem d_AS_product_50 : decode b_AS_product 50 = .ok (.bipush 12, 2) := by decide +kernel
theorem d_AS_product_52 : decode b_AS_product 52 = .ok (.if_icmp .le 14, 3) := by decide +kernel
theorem d_AS_product_55 : decode b_AS_product 55 = .ok (.new 83, 3) := by decide +kernel
theorem d_AS_product_58 : decode b_AS_product 58 = .ok (.dup, 1) := by decide +kernel
theorem d_AS_product_59 : decode b_AS_product 59 = .ok (.ldc_w 326, 3) := by decide +kernel
theorem d_AS_product_62 : decode b_AS_product 62 = .ok (.invokespecial 87, 3) := by decide +kernel
theorem d_AS_product_65 : decode b_AS_product 65 = .ok (.athrow, 1) := by decide +kernel
theorem d_AS_product_66 : decode b_AS_product 66 = .ok (.aload_n 0, 1) := by decide +kernel
theorem d_AS_product_67 : decode b_AS_product 67 = .ok (.getfield 47, 3) := by decide +kernel
theorem d_AS_product_70 : decode b_AS_product 70 = .ok (.aload_n 0, 1) := by decide +kernel
theorem d_AS_product_71 : decode b_AS_product 71 = .ok (.getfield 19, 3) := by decide +kernel
theorem d_AS_product_74 : decode b_AS_product 74 = .ok (.iload_n 1, 1) := by decide +kernel
theorem d_AS_product_75 : decode b_AS_product 75 = .ok (.invokevirtual 174, 3) := by decide +kernel
theorem d_AS_product_78 : decode b_AS_product 78 = .ok (.iload_n 2, 1) := by decide +kernel
theorem d_AS_product_79 : decode b_AS_product 79 = .ok (.iload_n 3, 1) := by decide +kernel
theorem d_AS_product_80 : decode b_AS_product 80 = .ok (.invokevirtual 328, 3) := by decide +kernel
theorem d_AS_product_83 : decode b_AS_product 83 = .ok (.lreturn, 1) := by decide +kernel
def rm_AS_product : Room := { frames := 6, cells := 1, slots := 6, locals := 90 }
theorem mf_AS_product : zMV y_AS_product b_AS_product 4 (some .long) 3 := ⟨q884, q885, q1, q886, by decide +kernel⟩
def M_AS_product (p0 : Nat) (x1 : Int) (x2 : Int) (x3 : Int) (h : zH) (K : Int → zH → Prop) (XK : Nat → zH → Prop) : Prop :=
  M_Symbols_list (p0 + 161) (p0 + 37) h (fun h_1 => M_Models_hasModel (p0 + 5) x1 h_1 (fun r_4 h_3 => (r_4 = 0 → (XK 3 h_3)) ∧ (r_4 ≠ 0 → (M_Symbols_has (p0 + 161) x2 h_3 (fun r_6 h_5 => (r_6 ≠ 0 → ((x3 < 1 → (XK 1 h_5)) ∧ (1 ≤ x3 → ((x3 ≤ 12 → (M_Models_of (p0 + 5) x1 h_5 (fun p_8 h_7 => M_Symbols_multiply (p0 + 161) p_8 x2 x3 h_7 (fun r_10 h_9 => K r_10 h_9)))) ∧ (12 < x3 → (XK 1 h_5)))))) ∧ (r_6 = 0 → (XK 3 h_5)))))))
set_option maxRecDepth 100000 in
theorem c_AS_product {l : Launch} (hfl : l.flags = flags0) {g : zG} {n : Nat} {p0 : Nat} {x1 : Int} {x2 : Int} {x3 : Int} (op0 : zO n p0 10) (rx1 : zr x1) (rx2 : zr x2) (rx3 : zr x3) {h : zH} (hh : zh h) {K : Int → zH → Prop} {XK : Nat → zH → Prop} (hv : M_AS_product p0 x1 x2 x3 h K XK) : zMetX l y_AS_product b_AS_product 4 (some .long) rm_AS_product g n [.ref (g.2.2 p0), zi x1, zi x2, zi x3] h (zPj K) XK := by
  refine zMetX_of hfl (by decide) rfl (Nat.le_of_ble_eq_true rfl) ⟨rfl, rfl, by decide, by decide⟩ (fun Wf m H0 X E T => ?_)
  unfold M_AS_product at hv
  show zW Wf m 4 g n H0 0 [(0, .ref (g.2.2 p0)), (1, zi x1), (2, zi x2), (3, zi x3)] [] h
  refine z_aload_n (pc := 0) (q := 0) X d_AS_product_0 rfl ?_
  refine z_getr (pc := 1) (j := 5) (dd := 161) X cf_AS op0 (by decide) q371 rfl rfl d_AS_product_1 ?_
  refine z_aload_n (pc := 4) (q := 0) X d_AS_product_4 rfl ?_
  refine z_getr (pc := 5) (j := 2) (dd := 37) X cf_AS op0 (by decide) q368 rfl rfl d_AS_product_5 ?_
  refine z_callVNv (pc := 8) (As := [.ref (g.2.2 (p0 + 37))]) (rest := []) X (fun l hl => c_Symbols_list hl (gf_AS_5 op0) (gf_AS_2 op0) hh hv) cf_Symbols (gf_AS_5 op0) rfl mf_Symbols_list q465 ⟨⟨by decide, by decide⟩, rfl, rfl⟩ rfl d_AS_product_8 rfl (Nat.le_of_ble_eq_true rfl) (fun h_1 zh_1 hv => ?_)
  refine z_aload_n (pc := 11) (q := 0) X d_AS_product_11 rfl ?_
  refine z_getr (pc := 12) (j := 1) (dd := 5) X cf_AS op0 (by decide) q367 rfl rfl d_AS_product_12 ?_
  refine z_iload_n (pc := 15) (q := 1) X d_AS_product_15 rfl ?_
  refine z_callVNi (pc := 16) (As := [zi x1]) (rest := []) X (fun l hl => c_Models_hasModel hl (gf_AS_1 op0) rx1 zh_1 hv) cf_Models (gf_AS_1 op0) rfl mf_Models_hasModel q623 ⟨⟨by decide, by decide⟩, rfl, rfl⟩ rfl d_AS_product_16 rfl (Nat.le_of_ble_eq_true rfl) (fun r_4 h_3 rr_4 zh_3 hv => ?_)
  refine z_if_eq (pc := 19) (tgt := 33) X rr_4 d_AS_product_19 (by decide) (fun hc => ?_) (fun hc => ?_)
  · replace hv := hv.1 hc
    exact T _ _ _ 3 _ _ _ _ _ (by decide +kernel : (3, "java/lang/IndexOutOfBoundsException", 163, 167) ∈ zExc) zst_324 ⟨d_AS_product_33, d_AS_product_36, Or.inr ⟨d_AS_product_37, d_AS_product_40, d_AS_product_43⟩⟩ zh_3 hv
  · replace hv := hv.2 hc
    refine z_aload_n (pc := 22) (q := 0) X d_AS_product_22 rfl ?_
    refine z_getr (pc := 23) (j := 5) (dd := 161) X cf_AS op0 (by decide) q371 rfl rfl d_AS_product_23 ?_
    refine z_iload_n (pc := 26) (q := 2) X d_AS_product_26 rfl ?_
    refine z_callVNi (pc := 27) (As := [zi x2]) (rest := []) X (fun l hl => c_Symbols_has hl (gf_AS_5 op0) rx2 zh_3 hv) cf_Symbols (gf_AS_5 op0) rfl mf_Symbols_has q479 ⟨⟨by decide, by decide⟩, rfl, rfl⟩ rfl d_AS_product_27 rfl (Nat.le_of_ble_eq_true rfl) (fun r_6 h_5 rr_6 zh_5 hv => ?_)
    refine z_if_ne (pc := 30) (tgt := 44) X rr_6 d_AS_product_30 (by decide) (fun hc => ?_) (fun hc => ?_)
    · replace hv := hv.1 hc
      refine z_iload_n (pc := 44) (q := 3) X d_AS_product_44 rfl ?_
      refine z_iconst (pc := 45) X d_AS_product_45 ?_
      refine z_icmp_lt (pc := 46) (tgt := 55) X rx3 (show zr 1 from by decide) d_AS_product_46 (by decide) (fun hc => ?_) (fun hc => ?_)
      · replace hv := hv.1 hc
        exact T _ _ _ 1 _ _ _ _ _ (by decide +kernel : (1, "java/lang/IllegalArgumentException", 83, 87) ∈ zExc) zst_326 ⟨d_AS_product_55, d_AS_product_58, Or.inr ⟨d_AS_product_59, d_AS_product_62, d_AS_product_65⟩⟩ zh_5 hv
      · replace hv := hv.2 hc
        refine z_iload_n (pc := 49) (q := 3) X d_AS_product_49 rfl ?_
        refine z_bipush (pc := 50) X d_AS_product_50 (by decide) ?_
        refine z_icmp_le (pc := 52) (tgt := 66) X rx3 (show zr 12 from by decide) d_AS_product_52 (by decide) (fun hc => ?_) (fun hc => ?_)
        · replace hv := hv.1 hc
          refine z_aload_n (pc := 66) (q := 0) X d_AS_product_66 rfl ?_
          refine z_getr (pc := 67) (j := 5) (dd := 161) X cf_AS op0 (by decide) q371 rfl rfl d_AS_product_67 ?_
          refine z_aload_n (pc := 70) (q := 0) X d_AS_product_70 rfl ?_
          refine z_getr (pc := 71) (j := 1) (dd := 5) X cf_AS op0 (by decide) q367 rfl rfl d_AS_product_71 ?_
          refine z_iload_n (pc := 74) (q := 1) X d_AS_product_74 rfl ?_
          refine z_callVNr (pc := 75) (As := [zi x1]) (rest := [.ref (g.2.2 (p0 + 161))]) X (fun l hl => c_Models_of hl (gf_AS_1 op0) rx1 zh_5 hv) cf_Models (gf_AS_1 op0) rfl mf_Models_of q653 ⟨⟨by decide, by decide⟩, rfl, rfl⟩ rfl d_AS_product_75 rfl (Nat.le_of_ble_eq_true rfl) (fun p_8 h_7 op_8 zh_7 hv => ?_)
          refine z_iload_n (pc := 78) (q := 2) X d_AS_product_78 rfl ?_
          refine z_iload_n (pc := 79) (q := 3) X d_AS_product_79 rfl ?_
          refine z_callVNj (pc := 80) (As := [.ref (g.2.2 p_8), zi x2, zi x3]) (rest := []) X (fun l hl => c_Symbols_multiply hl (gf_AS_5 op0) op_8 rx2 rx3 zh_7 hv) cf_Symbols (gf_AS_5 op0) rfl mf_Symbols_multiply q889 ⟨⟨by decide, by decide⟩, rfl, rfl⟩ rfl d_AS_product_80 rfl (Nat.le_of_ble_eq_true rfl) (fun r_10 h_9 rr_10 zh_9 hv => ?_)
          exact E.2.2.2.1 rfl _ _ _ _ d_AS_product_83 ⟨_, rfl, rr_10, zh_9, hv⟩
        · replace hv := hv.2 hc
          exact T _ _ _ 1 _ _ _ _ _ (by decide +kernel : (1, "java/lang/IllegalArgumentException", 83, 87) ∈ zExc) zst_326 ⟨d_AS_product_55, d_AS_product_58, Or.inr ⟨d_AS_product_59, d_AS_product_62, d_AS_product_65⟩⟩ zh_5 hv
    · replace hv := hv.2 hc
      exact T _ _ _ 3 _ _ _ _ _ (by decide +kernel : (3, "java/lang/IndexOutOfBoundsException", 163, 167) ∈ zExc) zst_324 ⟨d_AS_product_33, d_AS_product_36, Or.inr ⟨d_AS_product_37, d_AS_product_40, d_AS_product_43⟩⟩ zh_5 hv
theorem d_AS_bestModel_0 : decode b_AS_bestModel 0 = .ok (.aload_n 0, 1) := by decide +kernel
theorem d_AS_bestModel_1 : decode b_AS_bestModel 1 = .ok (.getfield 47, 3) := by decide +kernel
theorem d_AS_bestModel_4 : decode b_AS_bestModel 4 = .ok (.aload_n 0, 1) := by decide +kernel
theorem d_AS_bestModel_5 : decode b_AS_bestModel 5 = .ok (.getfield 26, 3) := by decide +kernel
theorem d_AS_bestModel_8 : decode b_AS_bestModel 8 = .ok (.invokevirtual 130, 3) := by decide +kernel
theorem d_AS_bestModel_11 : decode b_AS_bestModel 11 = .ok (.aload_n 0, 1) := by decide +kernel
theorem d_AS_bestModel_12 : decode b_AS_bestModel 12 = .ok (.getfield 47, 3) := by decide +kernel
theorem d_AS_bestModel_15 : decode b_AS_bestModel 15 = .ok (.iload_n 1, 1) := by decide +kernel
theorem d_AS_bestModel_16 : decode b_AS_bestModel 16 = .ok (.invokevirtual 321, 3) := by decide +kernel
theorem d_AS_bestModel_19 : decode b_AS_bestModel 19 = .ok (.ifCond .ne 14, 3) := by decide +kernel
theorem d_AS_bestModel_22 : decode b_AS_bestModel 22 = .ok (.new 163, 3) := by decide +kernel
theorem d_AS_bestModel_25 : decode b_AS_bestModel 25 = .ok (.dup, 1) := by decide +kernel
theorem d_AS_bestModel_26 : decode b_AS_bestModel 26 = .ok (.ldc_w 332, 3) := by decide +kernel
theorem d_AS_bestModel_29 : decode b_AS_bestModel 29 = .ok (.invokespecial 167, 3) := by decide +kernel
theorem d_AS_bestModel_32 : decode b_AS_bestModel 32 = .ok (.athrow, 1) := by decide +kernel
theorem d_AS_bestModel_33 : decode b_AS_bestModel 33 = .ok (.iload_n 2, 1) := by decide +kernel
theorem d_AS_bestModel_34 : decode b_AS_bestModel 34 = .ok (.iconst 1, 1) := by decide +kernel
theorem d_AS_bestModel_35 : decode b_AS_bestModel 35 = .ok (.if_icmp .lt 9, 3) := by decide +kernel
theorem d_AS_bestModel_38 : decode b_AS_bestModel 38 = .ok (.iload_n 2, 1) := by decide +kernel
theorem d_AS_bestModel_39 : decode b_AS_bestModel 39 = .ok (.bipush 12, 2) := by decide +kernel
theorem d_AS_bestModel_41 : decode b_AS_bestModel 41 = .ok (.if_icmp .le 14, 3) := by decide +kernel
theorem d_AS_bestModel_44 : decode b_AS_bestModel 44 = .ok (.new 83, 3) := by decide +kernel
theorem d_AS_bestModel_47 : decode b_AS_bestModel 47 = .ok (.dup, 1) := by decide +kernel
theorem d_AS_bestModel_48 : decode b_AS_bestModel 48 = .ok (.ldc_w 326, 3) := by decide +kernel
theorem d_AS_bestModel_51 : decode b_AS_bestModel 51 = .ok (.invokespecial 87, 3) := by decide +kernel
theorem d_AS_bestModel_54 : decode b_AS_bestModel 54 = .ok (.athrow, 1) := by decide +kernel
theorem d_AS_bestModel_55 : decode b_AS_bestModel 55 = .ok (.iconst 0, 1) := by decide +kernel
theorem d_AS_bestModel_56 : decode b_AS_bestModel 56 = .ok (.istore_n 3, 1) := by decide +kernel
theorem d_AS_bestModel_57 : decode b_AS_bestModel 57 = .ok (.aload_n 0, 1) := by decide +kernel
theorem d_AS_bestModel_58 : decode b_AS_bestModel 58 = .ok (.getfield 47, 3) := by decide +kernel
theorem d_AS_bestModel_61 : decode b_AS_bestModel 61 = .ok (.aload_n 0, 1) := by decide +kernel
theorem d_AS_bestModel_62 : decode b_AS_bestModel 62 = .ok (.getfield 19, 3) := by decide +kernel
theorem d_AS_bestModel_65 : decode b_AS_bestModel 65 = .ok (.iconst 0, 1) := by decide +kernel
theorem d_AS_bestModel_66 : decode b_AS_bestModel 66 = .ok (.invokevirtual 174, 3) := by decide +kernel
theorem d_AS_bestModel_69 : decode b_AS_bestModel 69 = .ok (.iload_n 1, 1) := by decide +kernel
theorem d_AS_bestModel_70 : decode b_AS_bestModel 70 = .ok (.iload_n 2, 1) := by decide +kernel
theorem d_AS_bestModel_71 : decode b_AS_bestModel 71 = .ok (.invokevirtual 328, 3) := by decide +kernel
theorem d_AS_bestModel_74 : decode b_AS_bestModel 74 = .ok (.lstore 4, 2) := by decide +kernel
theorem d_AS_bestModel_76 : decode b_AS_bestModel 76 = .ok (.iconst 1, 1) := by decide +kernel
theorem d_AS_bestModel_77 : decode b_AS_bestModel 77 = .ok (.istore 6, 2) := by decide +kernel
theorem d_AS_bestModel_79 : decode b_AS_bestModel 79 = .ok (.iload 6, 2) := by decide +kernel
theorem d_AS_bestModel_81 : decode b_AS_bestModel 81 = .ok (.aload_n 0, 1) := by decide +kernel
theorem d_AS_bestModel_82 : decode b_AS_bestModel 82 = .ok (.getfield 19, 3) := by decide +kernel
theorem d_AS_bestModel_85 : decode b_AS_bestModel 85 = .ok (.getfield 116, 3) := by decide +kernel
theorem d_AS_bestModel_88 : decode b_AS_bestModel 88 = .ok (.if_icmp .ge 44, 3) := by decide +kernel
theorem d_AS_bestModel_91 : decode b_AS_bestModel 91 = .ok (.aload_n 0, 1) := by decide +kernel
theorem d_AS_bestModel_92 : decode b_AS_bestModel 92 = .ok (.getfield 47, 3) := by decide +kernel
theorem d_AS_bestModel_95 : decode b_AS_bestModel 95 = .ok (.aload_n 0, 1) := by decide +kernel
theorem d_AS_bestModel_96 : decode b_AS_bestModel 96 = .ok (.getfield 19, 3) := by decide +kernel
theorem d_AS_bestModel_99 : decode b_AS_bestModel 99 = .ok (.iload 6, 2) := by decide +kernel
theorem d_AS_bestModel_101 : decode b_AS_bestModel 101 = .ok (.invokevirtual 174, 3) := by decide +kernel
theorem d_AS_bestModel_104 : decode b_AS_bestModel 104 = .ok (.iload_n 1, 1) := by decide +kernel
theorem d_AS_bestModel_105 : decode b_AS_bestModel 105 = .ok (.iload_n 2, 1) := by decide +kernel
theorem d_AS_bestModel_106 : decode b_AS_bestModel 106 = .ok (.invokevirtual 328, 3) := by decide +kernel
theorem d_AS_bestModel_109 : decode b_AS_bestModel 109 = .ok (.lstore 7, 2) := by decide +kernel
theorem d_AS_bestModel_111 : decode b_AS_bestModel 111 = .ok (.lload 7, 2) := by decide +kernel
theorem d_AS_bestModel_113 : decode b_AS_bestModel 113 = .ok (.lload 4, 2) := by decide +kernel
theorem d_AS_bestModel_115 : decode b_AS_bestModel 115 = .ok (.lcmp, 1) := by decide +kernel
theorem d_AS_bestModel_116 : decode b_AS_bestModel 116 = .ok (.ifCond .le 10, 3) := by decide +kernel
theorem d_AS_bestModel_119 : decode b_AS_bestModel 119 = .ok (.iload 6, 2) := by decide +kernel
theorem d_AS_bestModel_121 : decode b_AS_bestModel 121 = .ok (.istore_n 3, 1) := by decide +kernel
theorem d_AS_bestModel_122 : decode b_AS_bestModel 122 = .ok (.lload 7, 2) := by decide +kernel
theorem d_AS_bestModel_124 : decode b_AS_bestModel 124 = .ok (.lstore 4, 2) := by decide +kernel
theorem d_AS_bestModel_126 : decode b_AS_bestModel 126 = .ok (.iinc 6 1, 3) := by decide +kernel
theorem d_AS_bestModel_129 : decode b_AS_bestModel 129 = .ok (.goto (-50), 3) := by decide +kernel
theorem d_AS_bestModel_132 : decode b_AS_bestModel 132 = .ok (.iload_n 3, 1) := by decide +kernel
theorem d_AS_bestModel_133 : decode b_AS_bestModel 133 = .ok (.ireturn, 1) := by decide +kernel
def rm_AS_bestModel : Room := { frames := 6, cells := 1, slots := 6, locals := 90 }
theorem mf_AS_bestModel : zMV y_AS_bestModel b_AS_bestModel 9 (some .int) 2 := ⟨q898, q899, q1, q900, by decide +kernel⟩
def F_AS_bestModel_79 (K : Int → zH → Prop) (XK : Nat → zH → Prop)  (L79 : Int × Int × Int × zH → Prop) (p0 : Nat) (x1 : Int) (x2 : Int) (x3 : Int) (x4 : Int) (x6 : Int) (h : zH) : Prop :=
  (h (p0 + 5) 2 ≤ x6 → (K x3 h)) ∧ (x6 < h (p0 + 5) 2 → (M_Models_of (p0 + 5) x6 h (fun p_2 h_1 => M_Symbols_multiply (p0 + 161) p_2 x1 x2 h_1 (fun r_4 h_3 => (r_4 ≤ x4 → (zr (x6 + 1) ∧ (L79 (x3, x4, x6 + 1, h_3)))) ∧ (x4 < r_4 → (zr (x6 + 1) ∧ (L79 (x6, r_4, x6 + 1, h_3))))))))
set_option maxRecDepth 100000 in
theorem s_AS_bestModel_79 {Wf : Heap → List Loc → JFrame → Prop} {m : MethodId} {g : zG} {n : Nat} {H0 : Heap} (X : zX Wf m rm_AS_bestModel b_AS_bestModel "AliasStreams" 9 g n H0) {K : Int → zH → Prop} (E : zEx Wf m b_AS_bestModel (some .int) 9 g n H0 (zPi K)) {XK : Nat → zH → Prop} (T : zTh Wf m b_AS_bestModel 9 g n H0 XK)  {p0 : Nat} {x1 : Int} {x2 : Int}  (op0 : zO n p0 10) (rx1 : zr x1) (rx2 : zr x2) {q0 : Int × Int × Int × zH} (hv0 : zLoop (fun L q => F_AS_bestModel_79 K XK  L p0 x1 x2 q.1 q.2.1 q.2.2.1 q.2.2.2) q0) : zr q0.1 → zrl q0.2.1 → zr q0.2.2.1 → zh (q0.2.2.2) → zW Wf m 9 g n H0 79 [(0, .ref (g.2.2 p0)), (1, zi x1), (2, zi x2), (3, zi q0.1), (4, zj q0.2.1), (6, zi q0.2.2.1)] [] (q0.2.2.2) := by
  refine zLoop_use (G := fun q => zr q.1 → zrl q.2.1 → zr q.2.2.1 → zh (q.2.2.2) → zW Wf m 9 g n H0 79 [(0, .ref (g.2.2 p0)), (1, zi x1), (2, zi x2), (3, zi q.1), (4, zj q.2.1), (6, zi q.2.2.1)] [] (q.2.2.2)) ?_ hv0
  rintro L79 ⟨x3, x4, x6, h⟩ hL79 hv rx3 rx4 rx6 hh
  have hv : F_AS_bestModel_79 K XK  L79 p0 x1 x2 x3 x4 x6 h := hv
  unfold F_AS_bestModel_79 at hv
  show zW Wf m 9 g n H0 79 [(0, .ref (g.2.2 p0)), (1, zi x1), (2, zi x2), (3, zi x3), (4, zj x4), (6, zi x6)] [] h
  refine z_iload (pc := 79) (q := 5) X d_AS_bestModel_79 rfl ?_
  refine z_aload_n (pc := 81) (q := 0) X d_AS_bestModel_81 rfl ?_
  refine z_getr (pc := 82) (j := 1) (dd := 5) X cf_AS op0 (by decide) q367 rfl rfl d_AS_bestModel_82 ?_
  refine z_getiN (pc := 85) (j := 2) X cf_Models (gf_AS_1 op0) (by decide) q119 rfl rfl d_AS_bestModel_85 ?_
  refine z_icmp_ge (pc := 88) (tgt := 132) X rx6 (hh.1 _ _ (zO.ne (gf_AS_1 op0) (by decide))) d_AS_bestModel_88 (by decide) (fun hc => ?_) (fun hc => ?_)
  · replace hv := hv.1 hc
    refine z_iload_n (pc := 132) (q := 3) X d_AS_bestModel_132 rfl ?_
    exact E.2.1 rfl _ _ _ _ d_AS_bestModel_133 ⟨_, rfl, rx3, hh, hv⟩
  · replace hv := hv.2 hc
    refine z_aload_n (pc := 91) (q := 0) X d_AS_bestModel_91 rfl ?_
    refine z_getr (pc := 92) (j := 5) (dd := 161) X cf_AS op0 (by decide) q371 rfl rfl d_AS_bestModel_92 ?_
    refine z_aload_n (pc := 95) (q := 0) X d_AS_bestModel_95 rfl ?_
    refine z_getr (pc := 96) (j := 1) (dd := 5) X cf_AS op0 (by decide) q367 rfl rfl d_AS_bestModel_96 ?_
    refine z_iload (pc := 99) (q := 5) X d_AS_bestModel_99 rfl ?_
    refine z_callVNr (pc := 101) (As := [zi x6]) (rest := [.ref (g.2.2 (p0 + 161))]) X (fun l hl => c_Models_of hl (gf_AS_1 op0) rx6 hh hv) cf_Models (gf_AS_1 op0) rfl mf_Models_of q653 ⟨⟨by decide, by decide⟩, rfl, rfl⟩ rfl d_AS_bestModel_101 rfl (Nat.le_of_ble_eq_true rfl) (fun p_2 h_1 op_2 zh_1 hv => ?_)
    refine z_iload_n (pc := 104) (q := 1) X d_AS_bestModel_104 rfl ?_
    refine z_iload_n (pc := 105) (q := 2) X d_AS_bestModel_105 rfl ?_
    refine z_callVNj (pc := 106) (As := [.ref (g.2.2 p_2), zi x1, zi x2]) (rest := []) X (fun l hl => c_Symbols_multiply hl (gf_AS_5 op0) op_2 rx1 rx2 zh_1 hv) cf_Symbols (gf_AS_5 op0) rfl mf_Symbols_multiply q889 ⟨⟨by decide, by decide⟩, rfl, rfl⟩ rfl d_AS_bestModel_106 rfl (Nat.le_of_ble_eq_true rfl) (fun r_4 h_3 rr_4 zh_3 hv => ?_)
    refine z_lstore (pc := 109) (lv' := [(7, zj r_4), (0, .ref (g.2.2 p0)), (1, zi x1), (2, zi x2), (3, zi x3), (4, zj x4), (6, zi x6)]) X d_AS_bestModel_109 (by decide) rfl ?_
    refine z_lload (pc := 111) (q := 0) X d_AS_bestModel_111 rfl ?_
    refine z_lload (pc := 113) (q := 5) X d_AS_bestModel_113 rfl ?_
    refine z_lif_le (pc := 115) (tgt := 126) X rr_4 rx4 d_AS_bestModel_115 d_AS_bestModel_116 (by decide) (fun hc => ?_) (fun hc => ?_)
    · replace hv := hv.1 hc
      obtain ⟨v_5, hv⟩ := hv
      refine z_iinc (pc := 126) (q := 6) (lv' := [(6, zi (x6 + 1)), (7, zj r_4), (0, .ref (g.2.2 p0)), (1, zi x1), (2, zi x2), (3, zi x3), (4, zj x4)]) X d_AS_bestModel_126 rfl (by decide) rfl ?_
      refine z_goto (pc := 129) (tgt := 79) X d_AS_bestModel_129 (by decide) ?_
      refine z_perm [2, 3, 4, 5, 6, 0] rfl ?_
      exact hL79 _ hv rx3 rx4 v_5 zh_3
    · replace hv := hv.2 hc
      refine z_iload (pc := 119) (q := 6) X d_AS_bestModel_119 rfl ?_
      refine z_istore_n (pc := 121) (lv' := [(3, zi x6), (7, zj r_4), (0, .ref (g.2.2 p0)), (1, zi x1), (2, zi x2), (4, zj x4), (6, zi x6)]) X d_AS_bestModel_121 (by decide) rfl ?_
      refine z_lload (pc := 122) (q := 1) X d_AS_bestModel_122 rfl ?_
      refine z_lstore (pc := 124) (lv' := [(4, zj r_4), (3, zi x6), (7, zj r_4), (0, .ref (g.2.2 p0)), (1, zi x1), (2, zi x2), (6, zi x6)]) X d_AS_bestModel_124 (by decide) rfl ?_
      obtain ⟨v_6, hv⟩ := hv
      refine z_iinc (pc := 126) (q := 6) (lv' := [(6, zi (x6 + 1)), (4, zj r_4), (3, zi x6), (7, zj r_4), (0, .ref (g.2.2 p0)), (1, zi x1), (2, zi x2)]) X d_AS_bestModel_126 rfl (by decide) rfl ?_
      refine z_goto (pc := 129) (tgt := 79) X d_AS_bestModel_129 (by decide) ?_
      refine z_perm [4, 5, 6, 2, 1, 0] rfl ?_
      exact hL79 _ hv rx6 rr_4 v_6 zh_3
def M_AS_bestModel (p0 : Nat) (x1 : Int) (x2 : Int) (h : zH) (K : Int → zH → Prop) (XK : Nat → zH → Prop) : Prop :=
  M_Symbols_list (p0 + 161) (p0 + 37) h (fun h_1 => M_Symbols_has (p0 + 161) x1 h_1 (fun r_4 h_3 => (r_4 ≠ 0 → ((x2 < 1 → (XK 1 h_3)) ∧ (1 ≤ x2 → ((x2 ≤ 12 → (M_Models_of (p0 + 5) 0 h_3 (fun p_6 h_5 => M_Symbols_multiply (p0 + 161) p_6 x1 x2 h_5 (fun r_8 h_7 => zLoop (fun L q => F_AS_bestModel_79 K XK  L p0 x1 x2 q.1 q.2.1 q.2.2.1 q.2.2.2) (0, r_8, 1, h_7))))) ∧ (12 < x2 → (XK 1 h_3)))))) ∧ (r_4 = 0 → (XK 3 h_3))))
set_option maxRecDepth 100000 in
theorem c_AS_bestModel {l : Launch} (hfl : l.flags = flags0) {g : zG} {n : Nat} {p0 : Nat} {x1 : Int} {x2 : Int} (op0 : zO n p0 10) (rx1 : zr x1) (rx2 : zr x2) {h : zH} (hh : zh h) {K : Int → zH → Prop} {XK : Nat → zH → Prop} (hv : M_AS_bestModel p0 x1 x2 h K XK) : zMetX l y_AS_bestModel b_AS_bestModel 9 (some .int) rm_AS_bestModel g n [.ref (g.2.2 p0), zi x1, zi x2] h (zPi K) XK := by
  refine zMetX_of hfl (by decide) rfl (Nat.le_of_ble_eq_true rfl) ⟨rfl, rfl, by decide, by decide⟩ (fun Wf m H0 X E T => ?_)
  unfold M_AS_bestModel at hv
  show zW Wf m 9 g n H0 0 [(0, .ref (g.2.2 p0)), (1, zi x1), (2, zi x2)] [] h
  refine z_aload_n (pc := 0) (q := 0) X d_AS_bestModel_0 rfl ?_
  refine z_getr (pc := 1) (j := 5) (dd := 161) X cf_AS op0 (by decide) q371 rfl rfl d_AS_bestModel_1 ?_
  refine z_aload_n (pc := 4) (q := 0) X d_AS_bestModel_4 rfl ?_
  refine z_getr (pc := 5) (j := 2) (dd := 37) X cf_AS op0 (by decide) q368 rfl rfl d_AS_bestModel_5 ?_
  refine z_callVNv (pc := 8) (As := [.ref (g.2.2 (p0 + 37))]) (rest := []) X (fun l hl => c_Symbols_list hl (gf_AS_5 op0) (gf_AS_2 op0) hh hv) cf_Symbols (gf_AS_5 op0) rfl mf_Symbols_list q465 ⟨⟨by decide, by decide⟩, rfl, rfl⟩ rfl d_AS_bestModel_8 rfl (Nat.le_of_ble_eq_true rfl) (fun h_1 zh_1 hv => ?_)
  refine z_aload_n (pc := 11) (q := 0) X d_AS_bestModel_11 rfl ?_
  refine z_getr (pc := 12) (j := 5) (dd := 161) X cf_AS op0 (by decide) q371 rfl rfl d_AS_bestModel_12 ?_
  refine z_iload_n (pc := 15) (q := 1) X d_AS_bestModel_15 rfl ?_
  refine z_callVNi (pc := 16) (As := [zi x1]) (rest := []) X (fun l hl => c_Symbols_has hl (gf_AS_5 op0) rx1 zh_1 hv) cf_Symbols (gf_AS_5 op0) rfl mf_Symbols_has q479 ⟨⟨by decide, by decide⟩, rfl, rfl⟩ rfl d_AS_bestModel_16 rfl (Nat.le_of_ble_eq_true rfl) (fun r_4 h_3 rr_4 zh_3 hv => ?_)
  refine z_if_ne (pc := 19) (tgt := 33) X rr_4 d_AS_bestModel_19 (by decide) (fun hc => ?_) (fun hc => ?_)
  · replace hv := hv.1 hc
    refine z_iload_n (pc := 33) (q := 2) X d_AS_bestModel_33 rfl ?_
    refine z_iconst (pc := 34) X d_AS_bestModel_34 ?_
    refine z_icmp_lt (pc := 35) (tgt := 44) X rx2 (show zr 1 from by decide) d_AS_bestModel_35 (by decide) (fun hc => ?_) (fun hc => ?_)
    · replace hv := hv.1 hc
      exact T _ _ _ 1 _ _ _ _ _ (by decide +kernel : (1, "java/lang/IllegalArgumentException", 83, 87) ∈ zExc) zst_326 ⟨d_AS_bestModel_44, d_AS_bestModel_47, Or.inr ⟨d_AS_bestModel_48, d_AS_bestModel_51, d_AS_bestModel_54⟩⟩ zh_3 hv
    · replace hv := hv.2 hc
      refine z_iload_n (pc := 38) (q := 2) X d_AS_bestModel_38 rfl ?_
      refine z_bipush (pc := 39) X d_AS_bestModel_39 (by decide) ?_
      refine z_icmp_le (pc := 41) (tgt := 55) X rx2 (show zr 12 from by decide) d_AS_bestModel_41 (by decide) (fun hc => ?_) (fun hc => ?_)
      · replace hv := hv.1 hc
        refine z_iconst (pc := 55) X d_AS_bestModel_55 ?_
        refine z_istore_n (pc := 56) (lv' := [(3, zi 0), (0, .ref (g.2.2 p0)), (1, zi x1), (2, zi x2)]) X d_AS_bestModel_56 (by decide) rfl ?_
        refine z_aload_n (pc := 57) (q := 1) X d_AS_bestModel_57 rfl ?_
        refine z_getr (pc := 58) (j := 5) (dd := 161) X cf_AS op0 (by decide) q371 rfl rfl d_AS_bestModel_58 ?_
        refine z_aload_n (pc := 61) (q := 1) X d_AS_bestModel_61 rfl ?_
        refine z_getr (pc := 62) (j := 1) (dd := 5) X cf_AS op0 (by decide) q367 rfl rfl d_AS_bestModel_62 ?_
        refine z_iconst (pc := 65) X d_AS_bestModel_65 ?_
        refine z_callVNr (pc := 66) (As := [zi 0]) (rest := [.ref (g.2.2 (p0 + 161))]) X (fun l hl => c_Models_of hl (gf_AS_1 op0) (show zr 0 from by decide) zh_3 hv) cf_Models (gf_AS_1 op0) rfl mf_Models_of q653 ⟨⟨by decide, by decide⟩, rfl, rfl⟩ rfl d_AS_bestModel_66 rfl (Nat.le_of_ble_eq_true rfl) (fun p_6 h_5 op_6 zh_5 hv => ?_)
        refine z_iload_n (pc := 69) (q := 2) X d_AS_bestModel_69 rfl ?_
        refine z_iload_n (pc := 70) (q := 3) X d_AS_bestModel_70 rfl ?_
        refine z_callVNj (pc := 71) (As := [.ref (g.2.2 p_6), zi x1, zi x2]) (rest := []) X (fun l hl => c_Symbols_multiply hl (gf_AS_5 op0) op_6 rx1 rx2 zh_5 hv) cf_Symbols (gf_AS_5 op0) rfl mf_Symbols_multiply q889 ⟨⟨by decide, by decide⟩, rfl, rfl⟩ rfl d_AS_bestModel_71 rfl (Nat.le_of_ble_eq_true rfl) (fun r_8 h_7 rr_8 zh_7 hv => ?_)
        refine z_lstore (pc := 74) (lv' := [(4, zj r_8), (3, zi 0), (0, .ref (g.2.2 p0)), (1, zi x1), (2, zi x2)]) X d_AS_bestModel_74 (by decide) rfl ?_
        refine z_iconst (pc := 76) X d_AS_bestModel_76 ?_
        refine z_istore (pc := 77) (lv' := [(6, zi 1), (4, zj r_8), (3, zi 0), (0, .ref (g.2.2 p0)), (1, zi x1), (2, zi x2)]) X d_AS_bestModel_77 (by decide) rfl ?_
        refine z_perm [3, 4, 5, 2, 1, 0] rfl ?_
        exact s_AS_bestModel_79 X E T  op0 rx1 rx2 hv (show zr 0 from by decide) rr_8 (show zr 1 from by decide) zh_7
      · replace hv := hv.2 hc
        exact T _ _ _ 1 _ _ _ _ _ (by decide +kernel : (1, "java/lang/IllegalArgumentException", 83, 87) ∈ zExc) zst_326 ⟨d_AS_bestModel_44, d_AS_bestModel_47, Or.inr ⟨d_AS_bestModel_48, d_AS_bestModel_51, d_AS_bestModel_54⟩⟩ zh_3 hv
  · replace hv := hv.2 hc
    exact T _ _ _ 3 _ _ _ _ _ (by decide +kernel : (3, "java/lang/IndexOutOfBoundsException", 163, 167) ∈ zExc) zst_332 ⟨d_AS_bestModel_22, d_AS_bestModel_25, Or.inr ⟨d_AS_bestModel_26, d_AS_bestModel_29, d_AS_bestModel_32⟩⟩ zh_3 hv
theorem d_AS_difference_0 : decode b_AS_difference 0 = .ok (.aload_n 0, 1) := by decide +kernel
theorem d_AS_difference_1 : decode b_AS_difference 1 = .ok (.getfield 47, 3) := by decide +kernel
theorem d_AS_difference_4 : decode b_AS_difference 4 = .ok (.aload_n 0, 1) := by decide +kernel
theorem d_AS_difference_5 : decode b_AS_difference 5 = .ok (.getfield 26, 3) := by decide +kernel
theorem d_AS_difference_8 : decode b_AS_difference 8 = .ok (.invokevirtual 130, 3) := by decide +kernel
theorem d_AS_difference_11 : decode b_AS_difference 11 = .ok (.aload_n 0, 1) := by decide +kernel
theorem d_AS_difference_12 : decode b_AS_difference 12 = .ok (.getfield 54, 3) := by decide +kernel
theorem d_AS_difference_15 : decode b_AS_difference 15 = .ok (.aload_n 0, 1) := by decide +kernel
theorem d_AS_difference_16 : decode b_AS_difference 16 = .ok (.getfield 26, 3) := by decide +kernel
theorem d_AS_difference_19 : decode b_AS_difference 19 = .ok (.getfield 137, 3) := by decide +kernel
theorem d_AS_difference_22 : decode b_AS_difference 22 = .ok (.aload_n 0, 1) := by decide +kernel
theorem d_AS_difference_23 : decode b_AS_difference 23 = .ok (.getfield 19, 3) := by decide +kernel
theorem d_AS_difference_26 : decode b_AS_difference 26 = .ok (.invokevirtual 146, 3) := by decide +kernel
theorem d_AS_difference_29 : decode b_AS_difference 29 = .ok (.iconst 0, 1) := by decide +kernel
theorem d_AS_difference_30 : decode b_AS_difference 30 = .ok (.istore_n 1, 1) := by decide +kernel
theorem d_AS_difference_31 : decode b_AS_difference 31 = .ok (.iload_n 1, 1) := by decide +kernel
theorem d_AS_difference_32 : decode b_AS_difference 32 = .ok (.bipush 40, 2) := by decide +kernel
theorem d_AS_difference_34 : decode b_AS_difference 34 = .ok (.if_icmp .ge 50, 3) := by decide +kernel
theorem d_AS_difference_37 : decode b_AS_difference 37 = .ok (.aload_n 0, 1) := by decide +kernel
theorem d_AS_difference_38 : decode b_AS_difference 38 = .ok (.getfield 47, 3) := by decide +kernel
theorem d_AS_difference_41 : decode b_AS_difference 41 = .ok (.iload_n 1, 1) := by decide +kernel
theorem d_AS_difference_42 : decode b_AS_difference 42 = .ok (.invokevirtual 321, 3) := by decide +kernel
theorem d_AS_difference_45 : decode b_AS_difference 45 = .ok (.ifCond .eq 15, 3) := by decide +kernel
theorem d_AS_difference_48 : decode b_AS_difference 48 = .ok (.aload_n 0, 1) := by decide +kernel
theorem d_AS_difference_49 : decode b_AS_difference 49 = .ok (.getfield 47, 3) := by decide +kernel
theorem d_AS_difference_52 : decode b_AS_difference 52 = .ok (.getfield 334, 3) := by decide +kernel
theorem d_AS_difference_55 : decode b_AS_difference 55 = .ok (.iload_n 1, 1) := by decide +kernel
theorem d_AS_difference_56 : decode b_AS_difference 56 = .ok (.iaload, 1) := by decide +kernel
theorem d_AS_difference_57 : decode b_AS_difference 57 = .ok (.goto 5, 3) := by decide +kernel
theorem d_AS_difference_60 : decode b_AS_difference 60 = .ok (.bipush (-9), 2) := by decide +kernel
theorem d_AS_difference_62 : decode b_AS_difference 62 = .ok (.istore_n 2, 1) := by decide +kernel
theorem d_AS_difference_63 : decode b_AS_difference 63 = .ok (.iload_n 2, 1) := by decide +kernel
theorem d_AS_difference_64 : decode b_AS_difference 64 = .ok (.aload_n 0, 1) := by decide +kernel
theorem d_AS_difference_65 : decode b_AS_difference 65 = .ok (.getfield 54, 3) := by decide +kernel
theorem d_AS_difference_68 : decode b_AS_difference 68 = .ok (.getfield 305, 3) := by decide +kernel
theorem d_AS_difference_71 : decode b_AS_difference 71 = .ok (.iload_n 1, 1) := by decide +kernel
theorem d_AS_difference_72 : decode b_AS_difference 72 = .ok (.iaload, 1) := by decide +kernel
theorem d_AS_difference_73 : decode b_AS_difference 73 = .ok (.if_icmp .eq 5, 3) := by decide +kernel
theorem d_AS_difference_76 : decode b_AS_difference 76 = .ok (.iload_n 1, 1) := by decide +kernel
theorem d_AS_difference_77 : decode b_AS_difference 77 = .ok (.ireturn, 1) := by decide +kernel
theorem d_AS_difference_78 : decode b_AS_difference 78 = .ok (.iinc 1 1, 3) := by decide +kernel
theorem d_AS_difference_81 : decode b_AS_difference 81 = .ok (.goto (-50), 3) := by decide +kernel
theorem d_AS_difference_84 : decode b_AS_difference 84 = .ok (.bipush (-9), 2) := by decide +kernel
theorem d_AS_difference_86 : decode b_AS_difference 86 = .ok (.ireturn, 1) := by decide +kernel
def rm_AS_difference : Room := { frames := 3, cells := 0, slots := 0, locals := 71 }
theorem mf_AS_difference : zMV y_AS_difference b_AS_difference 3 (some .int) 0 := ⟨q476, q477, q1, q478, by decide +kernel⟩
def B_AS_difference_62 (K : Int → zH → Prop) (L31 : Int × zH → Prop) (p0 : Nat) (x1 : Int) (u0 : Int) (h : zH) : Prop :=
  (0 ≤ x1 ∧ x1 < 40) ∧ ((u0 = h ((p0 + 164) + 1) x1.toNat → (zr (x1 + 1) ∧ (L31 (x1 + 1, h)))) ∧ (u0 ≠ h ((p0 + 164) + 1) x1.toNat → (K x1 h)))
set_option maxRecDepth 100000 in
theorem s_AS_difference_62 {Wf : Heap → List Loc → JFrame → Prop} {m : MethodId} {g : zG} {n : Nat} {H0 : Heap} (X : zX Wf m rm_AS_difference b_AS_difference "AliasStreams" 3 g n H0) {K : Int → zH → Prop} (E : zEx Wf m b_AS_difference (some .int) 3 g n H0 (zPi K)) {L31 : Int × zH → Prop} {p0 : Nat} {x1 : Int} (hL31 : ∀ q : Int × zH, L31 q → zr q.1 → zh (q.2) → zW Wf m 3 g n H0 31 [(0, .ref (g.2.2 p0)), (1, zi q.1)] [] (q.2)) (op0 : zO n p0 10) (rx1 : zr x1) {u0 : Int} (ru0 : zr u0) {h : zH} (hh : zh h) (hv : B_AS_difference_62 K  L31 p0 x1 u0 h) : zW Wf m 3 g n H0 62 [(0, .ref (g.2.2 p0)), (1, zi x1)] [zi u0] h := by
  unfold B_AS_difference_62 at hv
  refine z_istore_n (pc := 62) (lv' := [(2, zi u0), (0, .ref (g.2.2 p0)), (1, zi x1)]) X d_AS_difference_62 (by decide) rfl ?_
  refine z_iload_n (pc := 63) (q := 0) X d_AS_difference_63 rfl ?_
  refine z_aload_n (pc := 64) (q := 1) X d_AS_difference_64 rfl ?_
  refine z_getr (pc := 65) (j := 6) (dd := 164) X cf_AS op0 (by decide) q372 rfl rfl d_AS_difference_65 ?_
  refine z_getrN (pc := 68) (j := 0) (dd := 1) X cf_Taking (gf_AS_6 op0) (by decide) q257 rfl rfl d_AS_difference_68 ?_
  refine z_iload_n (pc := 71) (q := 2) X d_AS_difference_71 rfl ?_
  obtain ⟨v_1, hv⟩ := hv
  refine z_ialdj (pc := 72) (j := x1.toNat) X (gf_Taking_0 (gf_AS_6 op0)) (gl_Taking_0 (gf_AS_6 op0)) rx1 v_1 rfl d_AS_difference_72 ?_
  refine z_icmp_eq (pc := 73) (tgt := 78) X ru0 (hh.1 _ _ (zO.ne (gf_Taking_0 (gf_AS_6 op0)) (by decide))) d_AS_difference_73 (by decide) (fun hc => ?_) (fun hc => ?_)
  · replace hv := hv.1 hc
    obtain ⟨v_2, hv⟩ := hv
    refine z_iinc (pc := 78) (q := 2) (lv' := [(1, zi (x1 + 1)), (2, zi u0), (0, .ref (g.2.2 p0))]) X d_AS_difference_78 rfl (by decide) rfl ?_
    refine z_goto (pc := 81) (tgt := 31) X d_AS_difference_81 (by decide) ?_
    refine z_perm [2, 0] rfl ?_
    exact hL31 _ hv v_2 hh
  · replace hv := hv.2 hc
    refine z_iload_n (pc := 76) (q := 2) X d_AS_difference_76 rfl ?_
    exact E.2.1 rfl _ _ _ _ d_AS_difference_77 ⟨_, rfl, rx1, hh, hv⟩
def F_AS_difference_31 (K : Int → zH → Prop)  (L31 : Int × zH → Prop) (p0 : Nat) (x1 : Int) (h : zH) : Prop :=
  (40 ≤ x1 → (K (-9) h)) ∧ (x1 < 40 → (M_Symbols_has (p0 + 161) x1 h (fun r_2 h_1 => (r_2 = 0 → (B_AS_difference_62 K  L31 p0 x1 (-9) h_1)) ∧ (r_2 ≠ 0 → ((0 ≤ x1 ∧ x1 < 40) ∧ (B_AS_difference_62 K  L31 p0 x1 (h_1 ((p0 + 161) + 1) x1.toNat) h_1))))))
set_option maxRecDepth 100000 in
theorem s_AS_difference_31 {Wf : Heap → List Loc → JFrame → Prop} {m : MethodId} {g : zG} {n : Nat} {H0 : Heap} (X : zX Wf m rm_AS_difference b_AS_difference "AliasStreams" 3 g n H0) {K : Int → zH → Prop} (E : zEx Wf m b_AS_difference (some .int) 3 g n H0 (zPi K))  {p0 : Nat}  (op0 : zO n p0 10) {q0 : Int × zH} (hv0 : zLoop (fun L q => F_AS_difference_31 K   L p0 q.1 q.2) q0) : zr q0.1 → zh (q0.2) → zW Wf m 3 g n H0 31 [(0, .ref (g.2.2 p0)), (1, zi q0.1)] [] (q0.2) := by
  refine zLoop_use (G := fun q => zr q.1 → zh (q.2) → zW Wf m 3 g n H0 31 [(0, .ref (g.2.2 p0)), (1, zi q.1)] [] (q.2)) ?_ hv0
  rintro L31 ⟨x1, h⟩ hL31 hv rx1 hh
  have hv : F_AS_difference_31 K   L31 p0 x1 h := hv
  unfold F_AS_difference_31 at hv
  show zW Wf m 3 g n H0 31 [(0, .ref (g.2.2 p0)), (1, zi x1)] [] h
  refine z_iload_n (pc := 31) (q := 1) X d_AS_difference_31 rfl ?_
  refine z_bipush (pc := 32) X d_AS_difference_32 (by decide) ?_
  refine z_icmp_ge (pc := 34) (tgt := 84) X rx1 (show zr 40 from by decide) d_AS_difference_34 (by decide) (fun hc => ?_) (fun hc => ?_)
  · replace hv := hv.1 hc
    refine z_bipush (pc := 84) X d_AS_difference_84 (by decide) ?_
    exact E.2.1 rfl _ _ _ _ d_AS_difference_86 ⟨_, rfl, (show zr (-9) from by decide), hh, hv⟩
  · replace hv := hv.2 hc
    refine z_aload_n (pc := 37) (q := 0) X d_AS_difference_37 rfl ?_
    refine z_getr (pc := 38) (j := 5) (dd := 161) X cf_AS op0 (by decide) q371 rfl rfl d_AS_difference_38 ?_
    refine z_iload_n (pc := 41) (q := 1) X d_AS_difference_41 rfl ?_
    refine z_callVNi (pc := 42) (As := [zi x1]) (rest := []) X (fun l hl => c_Symbols_has hl (gf_AS_5 op0) rx1 hh hv) cf_Symbols (gf_AS_5 op0) rfl mf_Symbols_has q479 ⟨⟨by decide, by decide⟩, rfl, rfl⟩ rfl d_AS_difference_42 rfl (Nat.le_of_ble_eq_true rfl) (fun r_2 h_1 rr_2 zh_1 hv => ?_)
    refine z_if_eq (pc := 45) (tgt := 60) X rr_2 d_AS_difference_45 (by decide) (fun hc => ?_) (fun hc => ?_)
    · replace hv := hv.1 hc
      refine z_bipush (pc := 60) X d_AS_difference_60 (by decide) ?_
      exact s_AS_difference_62 X E hL31 op0 rx1 (show zr (-9) from by decide) zh_1 hv
    · replace hv := hv.2 hc
      refine z_aload_n (pc := 48) (q := 0) X d_AS_difference_48 rfl ?_
      refine z_getr (pc := 49) (j := 5) (dd := 161) X cf_AS op0 (by decide) q371 rfl rfl d_AS_difference_49 ?_
      refine z_getrN (pc := 52) (j := 0) (dd := 1) X cf_Symbols (gf_AS_5 op0) (by decide) q235 rfl rfl d_AS_difference_52 ?_
      refine z_iload_n (pc := 55) (q := 1) X d_AS_difference_55 rfl ?_
      obtain ⟨v_3, hv⟩ := hv
      refine z_ialdj (pc := 56) (j := x1.toNat) X (gf_Symbols_0 (gf_AS_5 op0)) (gl_Symbols_0 (gf_AS_5 op0)) rx1 v_3 rfl d_AS_difference_56 ?_
      refine z_goto (pc := 57) (tgt := 62) X d_AS_difference_57 (by decide) ?_
      exact s_AS_difference_62 X E hL31 op0 rx1 (zh_1.1 _ _ (zO.ne (gf_Symbols_0 (gf_AS_5 op0)) (by decide))) zh_1 hv
def M_AS_difference (p0 : Nat) (h : zH) (K : Int → zH → Prop) : Prop :=
  M_Symbols_list (p0 + 161) (p0 + 37) h (fun h_1 => M_Taking_takeAll (p0 + 164) ((p0 + 37) + 3) (p0 + 5) h_1 (fun h_3 => zLoop (fun L q => F_AS_difference_31 K   L p0 q.1 q.2) (0, h_3)))
set_option maxRecDepth 100000 in
theorem c_AS_difference {l : Launch} (hfl : l.flags = flags0) {g : zG} {n : Nat} {p0 : Nat} (op0 : zO n p0 10) {h : zH} (hh : zh h) {K : Int → zH → Prop} (hv : M_AS_difference p0 h K) : zMet l y_AS_difference b_AS_difference 3 (some .int) rm_AS_difference g n [.ref (g.2.2 p0)] h (zPi K) := by
  refine zMet_of (own := "AliasStreams") hfl (by decide) rfl (Nat.le_of_ble_eq_true rfl) (fun Wf m H0 X E => ?_)
  unfold M_AS_difference at hv
  show zW Wf m 3 g n H0 0 [(0, .ref (g.2.2 p0))] [] h
  refine z_aload_n (pc := 0) (q := 0) X d_AS_difference_0 rfl ?_
  refine z_getr (pc := 1) (j := 5) (dd := 161) X cf_AS op0 (by decide) q371 rfl rfl d_AS_difference_1 ?_
  refine z_aload_n (pc := 4) (q := 0) X d_AS_difference_4 rfl ?_
  refine z_getr (pc := 5) (j := 2) (dd := 37) X cf_AS op0 (by decide) q368 rfl rfl d_AS_difference_5 ?_
  refine z_callVNv (pc := 8) (As := [.ref (g.2.2 (p0 + 37))]) (rest := []) X (fun l hl => c_Symbols_list hl (gf_AS_5 op0) (gf_AS_2 op0) hh hv) cf_Symbols (gf_AS_5 op0) rfl mf_Symbols_list q465 ⟨⟨by decide, by decide⟩, rfl, rfl⟩ rfl d_AS_difference_8 rfl (Nat.le_of_ble_eq_true rfl) (fun h_1 zh_1 hv => ?_)
  refine z_aload_n (pc := 11) (q := 0) X d_AS_difference_11 rfl ?_
  refine z_getr (pc := 12) (j := 6) (dd := 164) X cf_AS op0 (by decide) q372 rfl rfl d_AS_difference_12 ?_
  refine z_aload_n (pc := 15) (q := 0) X d_AS_difference_15 rfl ?_
  refine z_getr (pc := 16) (j := 2) (dd := 37) X cf_AS op0 (by decide) q368 rfl rfl d_AS_difference_16 ?_
  refine z_getrN (pc := 19) (j := 2) (dd := 3) X cf_State (gf_AS_2 op0) (by decide) q176 rfl rfl d_AS_difference_19 ?_
  refine z_aload_n (pc := 22) (q := 0) X d_AS_difference_22 rfl ?_
  refine z_getr (pc := 23) (j := 1) (dd := 5) X cf_AS op0 (by decide) q367 rfl rfl d_AS_difference_23 ?_
  refine z_callVNv (pc := 26) (As := [.ref (g.2.2 ((p0 + 37) + 3)), .ref (g.2.2 (p0 + 5))]) (rest := []) X (fun l hl => c_Taking_takeAll hl (gf_AS_6 op0) (gf_State_2 (gf_AS_2 op0)) (gf_AS_1 op0) zh_1 hv) cf_Taking (gf_AS_6 op0) rfl mf_Taking_takeAll q441 ⟨⟨by decide, by decide⟩, rfl, rfl⟩ rfl d_AS_difference_26 rfl (Nat.le_of_ble_eq_true rfl) (fun h_3 zh_3 hv => ?_)
  refine z_iconst (pc := 29) X d_AS_difference_29 ?_
  refine z_istore_n (pc := 30) (lv' := [(1, zi 0), (0, .ref (g.2.2 p0))]) X d_AS_difference_30 (by decide) rfl ?_
  refine z_perm [1, 0] rfl ?_
  exact s_AS_difference_31 X E  op0 hv (show zr 0 from by decide) zh_3
theorem d_AS_effect_0 : decode b_AS_effect 0 = .ok (.aload_n 0, 1) := by decide +kernel
theorem d_AS_effect_1 : decode b_AS_effect 1 = .ok (.getfield 26, 3) := by decide +kernel
theorem d_AS_effect_4 : decode b_AS_effect 4 = .ok (.getfield 137, 3) := by decide +kernel
theorem d_AS_effect_7 : decode b_AS_effect 7 = .ok (.iload_n 1, 1) := by decide +kernel
theorem d_AS_effect_8 : decode b_AS_effect 8 = .ok (.invokevirtual 210, 3) := by decide +kernel
theorem d_AS_effect_11 : decode b_AS_effect 11 = .ok (.ifCond .ne 14, 3) := by decide +kernel
theorem d_AS_effect_14 : decode b_AS_effect 14 = .ok (.new 163, 3) := by decide +kernel
theorem d_AS_effect_17 : decode b_AS_effect 17 = .ok (.dup, 1) := by decide +kernel
theorem d_AS_effect_18 : decode b_AS_effect 18 = .ok (.ldc_w 282, 3) := by decide +kernel
theorem d_AS_effect_21 : decode b_AS_effect 21 = .ok (.invokespecial 167, 3) := by decide +kernel
theorem d_AS_effect_24 : decode b_AS_effect 24 = .ok (.athrow, 1) := by decide +kernel
theorem d_AS_effect_25 : decode b_AS_effect 25 = .ok (.iload_n 2, 1) := by decide +kernel
theorem d_AS_effect_26 : decode b_AS_effect 26 = .ok (.invokestatic 284, 3) := by decide +kernel
theorem d_AS_effect_29 : decode b_AS_effect 29 = .ok (.ifCond .eq 12, 3) := by decide +kernel
theorem d_AS_effect_32 : decode b_AS_effect 32 = .ok (.iload_n 3, 1) := by decide +kernel
theorem d_AS_effect_33 : decode b_AS_effect 33 = .ok (.ifCond .lt 8, 3) := by decide +kernel
theorem d_AS_effect_36 : decode b_AS_effect 36 = .ok (.iload_n 3, 1) := by decide +kernel
theorem d_AS_effect_37 : decode b_AS_effect 37 = .ok (.iconst 1, 1) := by decide +kernel
theorem d_AS_effect_38 : decode b_AS_effect 38 = .ok (.if_icmp .le 14, 3) := by decide +kernel
theorem d_AS_effect_41 : decode b_AS_effect 41 = .ok (.new 83, 3) := by decide +kernel
theorem d_AS_effect_44 : decode b_AS_effect 44 = .ok (.dup, 1) := by decide +kernel
theorem d_AS_effect_45 : decode b_AS_effect 45 = .ok (.ldc_w 335, 3) := by decide +kernel
theorem d_AS_effect_48 : decode b_AS_effect 48 = .ok (.invokespecial 87, 3) := by decide +kernel
theorem d_AS_effect_51 : decode b_AS_effect 51 = .ok (.athrow, 1) := by decide +kernel
theorem d_AS_effect_52 : decode b_AS_effect 52 = .ok (.aload_n 0, 1) := by decide +kernel
theorem d_AS_effect_53 : decode b_AS_effect 53 = .ok (.getfield 64, 3) := by decide +kernel
theorem d_AS_effect_56 : decode b_AS_effect 56 = .ok (.aload_n 0, 1) := by decide +kernel
theorem d_AS_effect_57 : decode b_AS_effect 57 = .ok (.getfield 26, 3) := by decide +kernel
theorem d_AS_effect_60 : decode b_AS_effect 60 = .ok (.getfield 137, 3) := by decide +kernel
theorem d_AS_effect_63 : decode b_AS_effect 63 = .ok (.invokevirtual 337, 3) := by decide +kernel
theorem d_AS_effect_66 : decode b_AS_effect 66 = .ok (.aload_n 0, 1) := by decide +kernel
theorem d_AS_effect_67 : decode b_AS_effect 67 = .ok (.getfield 64, 3) := by decide +kernel
theorem d_AS_effect_70 : decode b_AS_effect 70 = .ok (.getfield 213, 3) := by decide +kernel
theorem d_AS_effect_73 : decode b_AS_effect 73 = .ok (.iload_n 1, 1) := by decide +kernel
theorem d_AS_effect_74 : decode b_AS_effect 74 = .ok (.iload_n 2, 1) := by decide +kernel
theorem d_AS_effect_75 : decode b_AS_effect 75 = .ok (.iastore, 1) := by decide +kernel
theorem d_AS_effect_76 : decode b_AS_effect 76 = .ok (.aload_n 0, 1) := by decide +kernel
theorem d_AS_effect_77 : decode b_AS_effect 77 = .ok (.getfield 58, 3) := by decide +kernel
theorem d_AS_effect_80 : decode b_AS_effect 80 = .ok (.aload_n 0, 1) := by decide +kernel
theorem d_AS_effect_81 : decode b_AS_effect 81 = .ok (.getfield 64, 3) := by decide +kernel
theorem d_AS_effect_84 : decode b_AS_effect 84 = .ok (.aload_n 0, 1) := by decide +kernel
theorem d_AS_effect_85 : decode b_AS_effect 85 = .ok (.getfield 19, 3) := by decide +kernel
theorem d_AS_effect_88 : decode b_AS_effect 88 = .ok (.invokevirtual 146, 3) := by decide +kernel
theorem d_AS_effect_91 : decode b_AS_effect 91 = .ok (.iload_n 3, 1) := by decide +kernel
theorem d_AS_effect_92 : decode b_AS_effect 92 = .ok (.iconst 1, 1) := by decide +kernel
theorem d_AS_effect_93 : decode b_AS_effect 93 = .ok (.if_icmp .ne 19, 3) := by decide +kernel
theorem d_AS_effect_96 : decode b_AS_effect 96 = .ok (.aload_n 0, 1) := by decide +kernel
theorem d_AS_effect_97 : decode b_AS_effect 97 = .ok (.getfield 58, 3) := by decide +kernel
theorem d_AS_effect_100 : decode b_AS_effect 100 = .ok (.getfield 150, 3) := by decide +kernel
theorem d_AS_effect_103 : decode b_AS_effect 103 = .ok (.ifCond .eq 7, 3) := by decide +kernel
theorem d_AS_effect_106 : decode b_AS_effect 106 = .ok (.iconst 1, 1) := by decide +kernel
theorem d_AS_effect_107 : decode b_AS_effect 107 = .ok (.goto 4, 3) := by decide +kernel
theorem d_AS_effect_110 : decode b_AS_effect 110 = .ok (.iconst 0, 1) := by decide +kernel
theorem d_AS_effect_111 : decode b_AS_effect 111 = .ok (.ireturn, 1) := by decide +kernel
theorem d_AS_effect_112 : decode b_AS_effect 112 = .ok (.aload_n 0, 1) := by decide +kernel
theorem d_AS_effect_113 : decode b_AS_effect 113 = .ok (.getfield 54, 3) := by decide +kernel
theorem d_AS_effect_116 : decode b_AS_effect 116 = .ok (.aload_n 0, 1) := by decide +kernel
theorem d_AS_effect_117 : decode b_AS_effect 117 = .ok (.getfield 26, 3) := by decide +kernel
theorem d_AS_effect_120 : decode b_AS_effect 120 = .ok (.getfield 137, 3) := by decide +kernel
theorem d_AS_effect_123 : decode b_AS_effect 123 = .ok (.aload_n 0, 1) := by decide +kernel
theorem d_AS_effect_124 : decode b_AS_effect 124 = .ok (.getfield 19, 3) := by decide +kernel
theorem d_AS_effect_127 : decode b_AS_effect 127 = .ok (.invokevirtual 146, 3) := by decide +kernel
theorem d_AS_effect_130 : decode b_AS_effect 130 = .ok (.aload_n 0, 1) := by decide +kernel
theorem d_AS_effect_131 : decode b_AS_effect 131 = .ok (.getfield 54, 3) := by decide +kernel
theorem d_AS_effect_134 : decode b_AS_effect 134 = .ok (.aload_n 0, 1) := by decide +kernel
theorem d_AS_effect_135 : decode b_AS_effect 135 = .ok (.getfield 58, 3) := by decide +kernel
theorem d_AS_effect_138 : decode b_AS_effect 138 = .ok (.invokevirtual 341, 3) := by decide +kernel
theorem d_AS_effect_141 : decode b_AS_effect 141 = .ok (.ireturn, 1) := by decide +kernel
def rm_AS_effect : Room := { frames := 6, cells := 1, slots := 6, locals := 90 }
theorem mf_AS_effect : zMV y_AS_effect b_AS_effect 4 (some .int) 3 := ⟨q906, q907, q1, q908, by decide +kernel⟩
def M_AS_effect (p0 : Nat) (x1 : Int) (x2 : Int) (x3 : Int) (h : zH) (K : Int → zH → Prop) (XK : Nat → zH → Prop) : Prop :=
  M_Tape_hasDigit ((p0 + 37) + 3) x1 h (fun r_2 h_1 => (r_2 ≠ 0 → (M_AS_isDigit x2 h_1 (fun r_4 h_3 => (r_4 = 0 → (XK 1 h_3)) ∧ (r_4 ≠ 0 → ((x3 < 0 → (XK 1 h_3)) ∧ (0 ≤ x3 → ((x3 ≤ 1 → (M_Tape_copyFrom (p0 + 176) ((p0 + 37) + 3) h_3 (fun h_5 => (0 ≤ x1 ∧ x1 < 80) ∧ (∀ h_8 : zH, h_8 = zs h_5 ((p0 + 176) + 2) x1.toNat x2 → (M_Taking_takeAll (p0 + 170) (p0 + 176) (p0 + 5) h_8 (fun h_9 => (x3 ≠ 1 → (M_Taking_takeAll (p0 + 164) ((p0 + 37) + 3) (p0 + 5) h_9 (fun h_11 => M_Taking_countOtherSymbols (p0 + 164) (p0 + 170) h_11 (fun r_14 h_13 => K r_14 h_13)))) ∧ (x3 = 1 → ((h_9 (p0 + 170) 7 = 0 → (K 0 h_9)) ∧ (h_9 (p0 + 170) 7 ≠ 0 → (K 1 h_9)))))))))) ∧ (1 < x3 → (XK 1 h_3))))))))) ∧ (r_2 = 0 → (XK 3 h_1)))
set_option maxRecDepth 100000 in
theorem c_AS_effect {l : Launch} (hfl : l.flags = flags0) {g : zG} {n : Nat} {p0 : Nat} {x1 : Int} {x2 : Int} {x3 : Int} (op0 : zO n p0 10) (rx1 : zr x1) (rx2 : zr x2) (rx3 : zr x3) {h : zH} (hh : zh h) {K : Int → zH → Prop} {XK : Nat → zH → Prop} (hv : M_AS_effect p0 x1 x2 x3 h K XK) : zMetX l y_AS_effect b_AS_effect 4 (some .int) rm_AS_effect g n [.ref (g.2.2 p0), zi x1, zi x2, zi x3] h (zPi K) XK := by
  refine zMetX_of hfl (by decide) rfl (Nat.le_of_ble_eq_true rfl) ⟨rfl, rfl, by decide, by decide⟩ (fun Wf m H0 X E T => ?_)
  unfold M_AS_effect at hv
  show zW Wf m 4 g n H0 0 [(0, .ref (g.2.2 p0)), (1, zi x1), (2, zi x2), (3, zi x3)] [] h
  refine z_aload_n (pc := 0) (q := 0) X d_AS_effect_0 rfl ?_
  refine z_getr (pc := 1) (j := 2) (dd := 37) X cf_AS op0 (by decide) q368 rfl rfl d_AS_effect_1 ?_
  refine z_getrN (pc := 4) (j := 2) (dd := 3) X cf_State (gf_AS_2 op0) (by decide) q176 rfl rfl d_AS_effect_4 ?_
  refine z_iload_n (pc := 7) (q := 1) X d_AS_effect_7 rfl ?_
  refine z_callVNi (pc := 8) (As := [zi x1]) (rest := []) X (fun l hl => c_Tape_hasDigit hl (gf_State_2 (gf_AS_2 op0)) rx1 hh hv) cf_Tape (gf_State_2 (gf_AS_2 op0)) rfl mf_Tape_hasDigit q691 ⟨⟨by decide, by decide⟩, rfl, rfl⟩ rfl d_AS_effect_8 rfl (Nat.le_of_ble_eq_true rfl) (fun r_2 h_1 rr_2 zh_1 hv => ?_)
  refine z_if_ne (pc := 11) (tgt := 25) X rr_2 d_AS_effect_11 (by decide) (fun hc => ?_) (fun hc => ?_)
  · replace hv := hv.1 hc
    refine z_iload_n (pc := 25) (q := 2) X d_AS_effect_25 rfl ?_
    refine z_callSi (pc := 26) (As := [zi x2]) (rest := []) X (fun l hl => c_AS_isDigit hl rx2 zh_1 hv) mf_AS_isDigit q826 ⟨⟨by decide, by decide⟩, rfl, rfl⟩ rfl d_AS_effect_26 rfl (Nat.le_of_ble_eq_true rfl) (fun r_4 h_3 rr_4 zh_3 hv => ?_)
    refine z_if_eq (pc := 29) (tgt := 41) X rr_4 d_AS_effect_29 (by decide) (fun hc => ?_) (fun hc => ?_)
    · replace hv := hv.1 hc
      exact T _ _ _ 1 _ _ _ _ _ (by decide +kernel : (1, "java/lang/IllegalArgumentException", 83, 87) ∈ zExc) zst_335 ⟨d_AS_effect_41, d_AS_effect_44, Or.inr ⟨d_AS_effect_45, d_AS_effect_48, d_AS_effect_51⟩⟩ zh_3 hv
    · replace hv := hv.2 hc
      refine z_iload_n (pc := 32) (q := 3) X d_AS_effect_32 rfl ?_
      refine z_if_lt (pc := 33) (tgt := 41) X rx3 d_AS_effect_33 (by decide) (fun hc => ?_) (fun hc => ?_)
      · replace hv := hv.1 hc
        exact T _ _ _ 1 _ _ _ _ _ (by decide +kernel : (1, "java/lang/IllegalArgumentException", 83, 87) ∈ zExc) zst_335 ⟨d_AS_effect_41, d_AS_effect_44, Or.inr ⟨d_AS_effect_45, d_AS_effect_48, d_AS_effect_51⟩⟩ zh_3 hv
      · replace hv := hv.2 hc
        refine z_iload_n (pc := 36) (q := 3) X d_AS_effect_36 rfl ?_
        refine z_iconst (pc := 37) X d_AS_effect_37 ?_
        refine z_icmp_le (pc := 38) (tgt := 52) X rx3 (show zr 1 from by decide) d_AS_effect_38 (by decide) (fun hc => ?_) (fun hc => ?_)
        · replace hv := hv.1 hc
          refine z_aload_n (pc := 52) (q := 0) X d_AS_effect_52 rfl ?_
          refine z_getr (pc := 53) (j := 8) (dd := 176) X cf_AS op0 (by decide) q374 rfl rfl d_AS_effect_53 ?_
          refine z_aload_n (pc := 56) (q := 0) X d_AS_effect_56 rfl ?_
          refine z_getr (pc := 57) (j := 2) (dd := 37) X cf_AS op0 (by decide) q368 rfl rfl d_AS_effect_57 ?_
          refine z_getrN (pc := 60) (j := 2) (dd := 3) X cf_State (gf_AS_2 op0) (by decide) q176 rfl rfl d_AS_effect_60 ?_
          refine z_callVNv (pc := 63) (As := [.ref (g.2.2 ((p0 + 37) + 3))]) (rest := []) X (fun l hl => c_Tape_copyFrom hl (gf_AS_8 op0) (gf_State_2 (gf_AS_2 op0)) zh_3 hv) cf_Tape (gf_AS_8 op0) rfl mf_Tape_copyFrom q910 ⟨⟨by decide, by decide⟩, rfl, rfl⟩ rfl d_AS_effect_63 rfl (Nat.le_of_ble_eq_true rfl) (fun h_5 zh_5 hv => ?_)
          refine z_aload_n (pc := 66) (q := 0) X d_AS_effect_66 rfl ?_
          refine z_getr (pc := 67) (j := 8) (dd := 176) X cf_AS op0 (by decide) q374 rfl rfl d_AS_effect_67 ?_
          refine z_getrN (pc := 70) (j := 1) (dd := 2) X cf_Tape (gf_AS_8 op0) (by decide) q146 rfl rfl d_AS_effect_70 ?_
          refine z_iload_n (pc := 73) (q := 1) X d_AS_effect_73 rfl ?_
          refine z_iload_n (pc := 74) (q := 2) X d_AS_effect_74 rfl ?_
          obtain ⟨v_7, hv⟩ := hv
          refine z_iastj (pc := 75) (j := x1.toNat) X (gf_Tape_1 (gf_AS_8 op0)) (gl_Tape_1 (gf_AS_8 op0)) rx1 v_7 rfl d_AS_effect_75 ?_
          refine z_toph (fun h_8 eh_8 => ?_)
          have zh_8 : zh h_8 := by rw [eh_8]; exact zh_set zh_5 (zO.ne (gf_Tape_1 (gf_AS_8 op0)) (by decide)) rx2
          replace hv := hv h_8 eh_8
          refine z_aload_n (pc := 76) (q := 0) X d_AS_effect_76 rfl ?_
          refine z_getr (pc := 77) (j := 7) (dd := 170) X cf_AS op0 (by decide) q373 rfl rfl d_AS_effect_77 ?_
          refine z_aload_n (pc := 80) (q := 0) X d_AS_effect_80 rfl ?_
          refine z_getr (pc := 81) (j := 8) (dd := 176) X cf_AS op0 (by decide) q374 rfl rfl d_AS_effect_81 ?_
          refine z_aload_n (pc := 84) (q := 0) X d_AS_effect_84 rfl ?_
          refine z_getr (pc := 85) (j := 1) (dd := 5) X cf_AS op0 (by decide) q367 rfl rfl d_AS_effect_85 ?_
          refine z_callVNv (pc := 88) (As := [.ref (g.2.2 (p0 + 176)), .ref (g.2.2 (p0 + 5))]) (rest := []) X (fun l hl => c_Taking_takeAll hl (gf_AS_7 op0) (gf_AS_8 op0) (gf_AS_1 op0) zh_8 hv) cf_Taking (gf_AS_7 op0) rfl mf_Taking_takeAll q441 ⟨⟨by decide, by decide⟩, rfl, rfl⟩ rfl d_AS_effect_88 rfl (Nat.le_of_ble_eq_true rfl) (fun h_9 zh_9 hv => ?_)
          refine z_iload_n (pc := 91) (q := 3) X d_AS_effect_91 rfl ?_
          refine z_iconst (pc := 92) X d_AS_effect_92 ?_
          refine z_icmp_ne (pc := 93) (tgt := 112) X rx3 (show zr 1 from by decide) d_AS_effect_93 (by decide) (fun hc => ?_) (fun hc => ?_)
          · replace hv := hv.1 hc
            refine z_aload_n (pc := 112) (q := 0) X d_AS_effect_112 rfl ?_
            refine z_getr (pc := 113) (j := 6) (dd := 164) X cf_AS op0 (by decide) q372 rfl rfl d_AS_effect_113 ?_
            refine z_aload_n (pc := 116) (q := 0) X d_AS_effect_116 rfl ?_
            refine z_getr (pc := 117) (j := 2) (dd := 37) X cf_AS op0 (by decide) q368 rfl rfl d_AS_effect_117 ?_
            refine z_getrN (pc := 120) (j := 2) (dd := 3) X cf_State (gf_AS_2 op0) (by decide) q176 rfl rfl d_AS_effect_120 ?_
            refine z_aload_n (pc := 123) (q := 0) X d_AS_effect_123 rfl ?_
            refine z_getr (pc := 124) (j := 1) (dd := 5) X cf_AS op0 (by decide) q367 rfl rfl d_AS_effect_124 ?_
            refine z_callVNv (pc := 127) (As := [.ref (g.2.2 ((p0 + 37) + 3)), .ref (g.2.2 (p0 + 5))]) (rest := []) X (fun l hl => c_Taking_takeAll hl (gf_AS_6 op0) (gf_State_2 (gf_AS_2 op0)) (gf_AS_1 op0) zh_9 hv) cf_Taking (gf_AS_6 op0) rfl mf_Taking_takeAll q441 ⟨⟨by decide, by decide⟩, rfl, rfl⟩ rfl d_AS_effect_127 rfl (Nat.le_of_ble_eq_true rfl) (fun h_11 zh_11 hv => ?_)
            refine z_aload_n (pc := 130) (q := 0) X d_AS_effect_130 rfl ?_
            refine z_getr (pc := 131) (j := 6) (dd := 164) X cf_AS op0 (by decide) q372 rfl rfl d_AS_effect_131 ?_
            refine z_aload_n (pc := 134) (q := 0) X d_AS_effect_134 rfl ?_
            refine z_getr (pc := 135) (j := 7) (dd := 170) X cf_AS op0 (by decide) q373 rfl rfl d_AS_effect_135 ?_
            refine z_callVNi (pc := 138) (As := [.ref (g.2.2 (p0 + 170))]) (rest := []) X (fun l hl => c_Taking_countOtherSymbols hl (gf_AS_6 op0) (gf_AS_7 op0) zh_11 hv) cf_Taking (gf_AS_6 op0) rfl mf_Taking_countOtherSymbols q911 ⟨⟨by decide, by decide⟩, rfl, rfl⟩ rfl d_AS_effect_138 rfl (Nat.le_of_ble_eq_true rfl) (fun r_14 h_13 rr_14 zh_13 hv => ?_)
            exact E.2.1 rfl _ _ _ _ d_AS_effect_141 ⟨_, rfl, rr_14, zh_13, hv⟩
          · replace hv := hv.2 hc
            refine z_aload_n (pc := 96) (q := 0) X d_AS_effect_96 rfl ?_
            refine z_getr (pc := 97) (j := 7) (dd := 170) X cf_AS op0 (by decide) q373 rfl rfl d_AS_effect_97 ?_
            refine z_getiN (pc := 100) (j := 7) X cf_Taking (gf_AS_7 op0) (by decide) q270 rfl rfl d_AS_effect_100 ?_
            refine z_if_eq (pc := 103) (tgt := 110) X (zh_9.1 _ _ (zO.ne (gf_AS_7 op0) (by decide))) d_AS_effect_103 (by decide) (fun hc => ?_) (fun hc => ?_)
            · replace hv := hv.1 hc
              refine z_iconst (pc := 110) X d_AS_effect_110 ?_
              exact E.2.1 rfl _ _ _ _ d_AS_effect_111 ⟨_, rfl, (show zr 0 from by decide), zh_9, hv⟩
            · replace hv := hv.2 hc
              refine z_iconst (pc := 106) X d_AS_effect_106 ?_
              refine z_goto (pc := 107) (tgt := 111) X d_AS_effect_107 (by decide) ?_
              exact E.2.1 rfl _ _ _ _ d_AS_effect_111 ⟨_, rfl, (show zr 1 from by decide), zh_9, hv⟩
        · replace hv := hv.2 hc
          exact T _ _ _ 1 _ _ _ _ _ (by decide +kernel : (1, "java/lang/IllegalArgumentException", 83, 87) ∈ zExc) zst_335 ⟨d_AS_effect_41, d_AS_effect_44, Or.inr ⟨d_AS_effect_45, d_AS_effect_48, d_AS_effect_51⟩⟩ zh_3 hv
  · replace hv := hv.2 hc
    exact T _ _ _ 3 _ _ _ _ _ (by decide +kernel : (3, "java/lang/IndexOutOfBoundsException", 163, 167) ∈ zExc) zst_282 ⟨d_AS_effect_14, d_AS_effect_17, Or.inr ⟨d_AS_effect_18, d_AS_effect_21, d_AS_effect_24⟩⟩ zh_1 hv
theorem d_AS_runScript_0 : decode b_AS_runScript 0 = .ok (.iload_n 1, 1) := by decide +kernel
theorem d_AS_runScript_1 : decode b_AS_runScript 1 = .ok (.iconst 1, 1) := by decide +kernel
theorem d_AS_runScript_2 : decode b_AS_runScript 2 = .ok (.if_icmp .lt 8, 3) := by decide +kernel
theorem d_AS_runScript_5 : decode b_AS_runScript 5 = .ok (.iload_n 1, 1) := by decide +kernel
theorem d_AS_runScript_6 : decode b_AS_runScript 6 = .ok (.iconst 4, 1) := by decide +kernel
theorem d_AS_runScript_7 : decode b_AS_runScript 7 = .ok (.if_icmp .le 14, 3) := by decide +kernel
theorem d_AS_runScript_10 : decode b_AS_runScript 10 = .ok (.new 83, 3) := by decide +kernel
theorem d_AS_runScript_13 : decode b_AS_runScript 13 = .ok (.dup, 1) := by decide +kernel
theorem d_AS_runScript_14 : decode b_AS_runScript 14 = .ok (.ldc_w 345, 3) := by decide +kernel
theorem d_AS_runScript_17 : decode b_AS_runScript 17 = .ok (.invokespecial 87, 3) := by decide +kernel
theorem d_AS_runScript_20 : decode b_AS_runScript 20 = .ok (.athrow, 1) := by decide +kernel
theorem d_AS_runScript_21 : decode b_AS_runScript 21 = .ok (.lload_n 2, 1) := by decide +kernel
theorem d_AS_runScript_22 : decode b_AS_runScript 22 = .ok (.lconst 0, 1) := by decide +kernel
theorem d_AS_runScript_23 : decode b_AS_runScript 23 = .ok (.lcmp, 1) := by decide +kernel
theorem d_AS_runScript_24 : decode b_AS_runScript 24 = .ok (.ifCond .lt 13, 3) := by decide +kernel
theorem d_AS_runScript_27 : decode b_AS_runScript 27 = .ok (.lload_n 2, 1) := by decide +kernel
theorem d_AS_runScript_28 : decode b_AS_runScript 28 = .ok (.getstatic 347, 3) := by decide +kernel
theorem d_AS_runScript_31 : decode b_AS_runScript 31 = .ok (.iload_n 1, 1) := by decide +kernel
theorem d_AS_runScript_32 : decode b_AS_runScript 32 = .ok (.laload, 1) := by decide +kernel
theorem d_AS_runScript_33 : decode b_AS_runScript 33 = .ok (.lcmp, 1) := by decide +kernel
theorem d_AS_runScript_34 : decode b_AS_runScript 34 = .ok (.ifCond .lt 14, 3) := by decide +kernel
theorem d_AS_runScript_37 : decode b_AS_runScript 37 = .ok (.new 83, 3) := by decide +kernel
theorem d_AS_runScript_40 : decode b_AS_runScript 40 = .ok (.dup, 1) := by decide +kernel
theorem d_AS_runScript_41 : decode b_AS_runScript 41 = .ok (.ldc_w 351, 3) := by decide +kernel
theorem d_AS_runScript_44 : decode b_AS_runScript 44 = .ok (.invokespecial 87, 3) := by decide +kernel
theorem d_AS_runScript_47 : decode b_AS_runScript 47 = .ok (.athrow, 1) := by decide +kernel
theorem d_AS_runScript_48 : decode b_AS_runScript 48 = .ok (.aload_n 0, 1) := by decide +kernel
theorem d_AS_runScript_49 : decode b_AS_runScript 49 = .ok (.getfield 71, 3) := by decide +kernel
theorem d_AS_runScript_52 : decode b_AS_runScript 52 = .ok (.aload_n 0, 1) := by decide +kernel
theorem d_AS_runScript_53 : decode b_AS_runScript 53 = .ok (.getfield 26, 3) := by decide +kernel
theorem d_AS_runScript_56 : decode b_AS_runScript 56 = .ok (.aload_n 0, 1) := by decide +kernel
theorem d_AS_runScript_57 : decode b_AS_runScript 57 = .ok (.getfield 19, 3) := by decide +kernel
theorem d_AS_runScript_60 : decode b_AS_runScript 60 = .ok (.iload_n 1, 1) := by decide +kernel
theorem d_AS_runScript_61 : decode b_AS_runScript 61 = .ok (.lload_n 2, 1) := by decide +kernel
theorem d_AS_runScript_62 : decode b_AS_runScript 62 = .ok (.invokevirtual 353, 3) := by decide +kernel
theorem d_AS_runScript_65 : decode b_AS_runScript 65 = .ok (.ireturn, 1) := by decide +kernel
def rm_AS_runScript : Room := { frames := 6, cells := 1, slots := 6, locals := 145 }
theorem mf_AS_runScript : zMV y_AS_runScript b_AS_runScript 4 (some .int) 2 := ⟨q919, q920, q1, q921, by decide +kernel⟩
def M_AS_runScript (p0 : Nat) (x1 : Int) (x2 : Int) (h : zH) (K : Int → zH → Prop) (XK : Nat → zH → Prop) : Prop :=
  (x1 < 1 → (XK 1 h)) ∧ (1 ≤ x1 → ((x1 ≤ 4 → ((x2 < 0 → (XK 1 h)) ∧ (0 ≤ x2 → ((0 ≤ x1 ∧ x1 < 5) ∧ ((x2 < zgv x1 → (M_Script_run (p0 + 180) (p0 + 37) (p0 + 5) x1 x2 h (fun r_3 h_2 => K r_3 h_2))) ∧ (zgv x1 ≤ x2 → (XK 1 h))))))) ∧ (4 < x1 → (XK 1 h))))
set_option maxRecDepth 100000 in
theorem c_AS_runScript {l : Launch} (hfl : l.flags = flags0) {g : zG} {n : Nat} {p0 : Nat} {x1 : Int} {x2 : Int} (op0 : zO n p0 10) (rx1 : zr x1) (rx2 : zrl x2) {h : zH} (hh : zh h) {K : Int → zH → Prop} {XK : Nat → zH → Prop} (hv : M_AS_runScript p0 x1 x2 h K XK) : zMetX l y_AS_runScript b_AS_runScript 4 (some .int) rm_AS_runScript g n [.ref (g.2.2 p0), zi x1, zj x2] h (zPi K) XK := by
  refine zMetX_of hfl (by decide) rfl (Nat.le_of_ble_eq_true rfl) ⟨rfl, rfl, by decide, by decide⟩ (fun Wf m H0 X E T => ?_)
  unfold M_AS_runScript at hv
  show zW Wf m 4 g n H0 0 [(0, .ref (g.2.2 p0)), (1, zi x1), (2, zj x2)] [] h
  refine z_iload_n (pc := 0) (q := 1) X d_AS_runScript_0 rfl ?_
  refine z_iconst (pc := 1) X d_AS_runScript_1 ?_
  refine z_icmp_lt (pc := 2) (tgt := 10) X rx1 (show zr 1 from by decide) d_AS_runScript_2 (by decide) (fun hc => ?_) (fun hc => ?_)
  · replace hv := hv.1 hc
    exact T _ _ _ 1 _ _ _ _ _ (by decide +kernel : (1, "java/lang/IllegalArgumentException", 83, 87) ∈ zExc) zst_345 ⟨d_AS_runScript_10, d_AS_runScript_13, Or.inr ⟨d_AS_runScript_14, d_AS_runScript_17, d_AS_runScript_20⟩⟩ hh hv
  · replace hv := hv.2 hc
    refine z_iload_n (pc := 5) (q := 1) X d_AS_runScript_5 rfl ?_
    refine z_iconst (pc := 6) X d_AS_runScript_6 ?_
    refine z_icmp_le (pc := 7) (tgt := 21) X rx1 (show zr 4 from by decide) d_AS_runScript_7 (by decide) (fun hc => ?_) (fun hc => ?_)
    · replace hv := hv.1 hc
      refine z_lload_n (pc := 21) (q := 2) X d_AS_runScript_21 rfl ?_
      refine z_lconst (pc := 22) (x := 0) X d_AS_runScript_22 (by decide) ?_
      refine z_lif_lt (pc := 23) (tgt := 37) X rx2 (show zrl 0 from by decide) d_AS_runScript_23 d_AS_runScript_24 (by decide) (fun hc => ?_) (fun hc => ?_)
      · replace hv := hv.1 hc
        exact T _ _ _ 1 _ _ _ _ _ (by decide +kernel : (1, "java/lang/IllegalArgumentException", 83, 87) ∈ zExc) zst_351 ⟨d_AS_runScript_37, d_AS_runScript_40, Or.inr ⟨d_AS_runScript_41, d_AS_runScript_44, d_AS_runScript_47⟩⟩ hh hv
      · replace hv := hv.2 hc
        refine z_lload_n (pc := 27) (q := 2) X d_AS_runScript_27 rfl ?_
        obtain ⟨v_1, hv⟩ := hv
        refine z_gvN (pc := 28) (q := 1) X q923 rfl rx1 v_1 d_AS_runScript_28 d_AS_runScript_31 d_AS_runScript_32 ?_
        refine z_lif_lt (pc := 33) (tgt := 48) X rx2 (zrl_gv _) d_AS_runScript_33 d_AS_runScript_34 (by decide) (fun hc => ?_) (fun hc => ?_)
        · replace hv := hv.1 hc
          refine z_aload_n (pc := 48) (q := 0) X d_AS_runScript_48 rfl ?_
          refine z_getr (pc := 49) (j := 9) (dd := 180) X cf_AS op0 (by decide) q375 rfl rfl d_AS_runScript_49 ?_
          refine z_aload_n (pc := 52) (q := 0) X d_AS_runScript_52 rfl ?_
          refine z_getr (pc := 53) (j := 2) (dd := 37) X cf_AS op0 (by decide) q368 rfl rfl d_AS_runScript_53 ?_
          refine z_aload_n (pc := 56) (q := 0) X d_AS_runScript_56 rfl ?_
          refine z_getr (pc := 57) (j := 1) (dd := 5) X cf_AS op0 (by decide) q367 rfl rfl d_AS_runScript_57 ?_
          refine z_iload_n (pc := 60) (q := 1) X d_AS_runScript_60 rfl ?_
          refine z_lload_n (pc := 61) (q := 2) X d_AS_runScript_61 rfl ?_
          refine z_callVNi (pc := 62) (As := [.ref (g.2.2 (p0 + 37)), .ref (g.2.2 (p0 + 5)), zi x1, zj x2]) (rest := []) X (fun l hl => c_Script_run hl (gf_AS_9 op0) (gf_AS_2 op0) (gf_AS_1 op0) rx1 rx2 hh hv) cf_Script (gf_AS_9 op0) rfl mf_Script_run q926 ⟨⟨by decide, by decide⟩, rfl, rfl⟩ rfl d_AS_runScript_62 rfl (Nat.le_of_ble_eq_true rfl) (fun r_3 h_2 rr_3 zh_2 hv => ?_)
          exact E.2.1 rfl _ _ _ _ d_AS_runScript_65 ⟨_, rfl, rr_3, zh_2, hv⟩
        · replace hv := hv.2 hc
          exact T _ _ _ 1 _ _ _ _ _ (by decide +kernel : (1, "java/lang/IllegalArgumentException", 83, 87) ∈ zExc) zst_351 ⟨d_AS_runScript_37, d_AS_runScript_40, Or.inr ⟨d_AS_runScript_41, d_AS_runScript_44, d_AS_runScript_47⟩⟩ hh hv
    · replace hv := hv.2 hc
      exact T _ _ _ 1 _ _ _ _ _ (by decide +kernel : (1, "java/lang/IllegalArgumentException", 83, 87) ∈ zExc) zst_345 ⟨d_AS_runScript_10, d_AS_runScript_13, Or.inr ⟨d_AS_runScript_14, d_AS_runScript_17, d_AS_runScript_20⟩⟩ hh hv
theorem d_AS_simulate_0 : decode b_AS_simulate 0 = .ok (.iload_n 3, 1) := by decide +kernel
theorem d_AS_simulate_1 : decode b_AS_simulate 1 = .ok (.iconst 1, 1) := by decide +kernel
theorem d_AS_simulate_2 : decode b_AS_simulate 2 = .ok (.if_icmp .lt 9, 3) := by decide +kernel
theorem d_AS_simulate_5 : decode b_AS_simulate 5 = .ok (.iload_n 3, 1) := by decide +kernel
theorem d_AS_simulate_6 : decode b_AS_simulate 6 = .ok (.bipush 40, 2) := by decide +kernel
theorem d_AS_simulate_8 : decode b_AS_simulate 8 = .ok (.if_icmp .le 14, 3) := by decide +kernel
theorem d_AS_simulate_11 : decode b_AS_simulate 11 = .ok (.new 83, 3) := by decide +kernel
theorem d_AS_simulate_14 : decode b_AS_simulate 14 = .ok (.dup, 1) := by decide +kernel
theorem d_AS_simulate_15 : decode b_AS_simulate 15 = .ok (.ldc_w 357, 3) := by decide +kernel
theorem d_AS_simulate_18 : decode b_AS_simulate 18 = .ok (.invokespecial 87, 3) := by decide +kernel
theorem d_AS_simulate_21 : decode b_AS_simulate 21 = .ok (.athrow, 1) := by decide +kernel
theorem d_AS_simulate_22 : decode b_AS_simulate 22 = .ok (.iconst 0, 1) := by decide +kernel
theorem d_AS_simulate_23 : decode b_AS_simulate 23 = .ok (.istore 4, 2) := by decide +kernel
theorem d_AS_simulate_25 : decode b_AS_simulate 25 = .ok (.lload_n 1, 1) := by decide +kernel
theorem d_AS_simulate_26 : decode b_AS_simulate 26 = .ok (.lstore 5, 2) := by decide +kernel
theorem d_AS_simulate_28 : decode b_AS_simulate 28 = .ok (.iconst 0, 1) := by decide +kernel
theorem d_AS_simulate_29 : decode b_AS_simulate 29 = .ok (.istore 7, 2) := by decide +kernel
theorem d_AS_simulate_31 : decode b_AS_simulate 31 = .ok (.iload 7, 2) := by decide +kernel
theorem d_AS_simulate_33 : decode b_AS_simulate 33 = .ok (.iload_n 3, 1) := by decide +kernel
theorem d_AS_simulate_34 : decode b_AS_simulate 34 = .ok (.if_icmp .ge 94, 3) := by decide +kernel
theorem d_AS_simulate_37 : decode b_AS_simulate 37 = .ok (.lload 5, 2) := by decide +kernel
theorem d_AS_simulate_39 : decode b_AS_simulate 39 = .ok (.ldc2_w 359, 3) := by decide +kernel
theorem d_AS_simulate_42 : decode b_AS_simulate 42 = .ok (.lmul, 1) := by decide +kernel
theorem d_AS_simulate_43 : decode b_AS_simulate 43 = .ok (.ldc2_w 361, 3) := by decide +kernel
theorem d_AS_simulate_46 : decode b_AS_simulate 46 = .ok (.ladd, 1) := by decide +kernel
theorem d_AS_simulate_47 : decode b_AS_simulate 47 = .ok (.lstore 5, 2) := by decide +kernel
theorem d_AS_simulate_49 : decode b_AS_simulate 49 = .ok (.aload_n 0, 1) := by decide +kernel
theorem d_AS_simulate_50 : decode b_AS_simulate 50 = .ok (.getfield 64, 3) := by decide +kernel
theorem d_AS_simulate_53 : decode b_AS_simulate 53 = .ok (.aload_n 0, 1) := by decide +kernel
theorem d_AS_simulate_54 : decode b_AS_simulate 54 = .ok (.getfield 26, 3) := by decide +kernel
theorem d_AS_simulate_57 : decode b_AS_simulate 57 = .ok (.getfield 137, 3) := by decide +kernel
theorem d_AS_simulate_60 : decode b_AS_simulate 60 = .ok (.invokevirtual 337, 3) := by decide +kernel
theorem d_AS_simulate_63 : decode b_AS_simulate 63 = .ok (.aload_n 0, 1) := by decide +kernel
theorem d_AS_simulate_64 : decode b_AS_simulate 64 = .ok (.getfield 64, 3) := by decide +kernel
theorem d_AS_simulate_67 : decode b_AS_simulate 67 = .ok (.lload 5, 2) := by decide +kernel
theorem d_AS_simulate_69 : decode b_AS_simulate 69 = .ok (.bipush 33, 2) := by decide +kernel
theorem d_AS_simulate_71 : decode b_AS_simulate 71 = .ok (.lushr, 1) := by decide +kernel
theorem d_AS_simulate_72 : decode b_AS_simulate 72 = .ok (.l2i, 1) := by decide +kernel
theorem d_AS_simulate_73 : decode b_AS_simulate 73 = .ok (.invokevirtual 363, 3) := by decide +kernel
theorem d_AS_simulate_76 : decode b_AS_simulate 76 = .ok (.aload_n 0, 1) := by decide +kernel
theorem d_AS_simulate_77 : decode b_AS_simulate 77 = .ok (.getfield 54, 3) := by decide +kernel
theorem d_AS_simulate_80 : decode b_AS_simulate 80 = .ok (.aload_n 0, 1) := by decide +kernel
theorem d_AS_simulate_81 : decode b_AS_simulate 81 = .ok (.getfield 64, 3) := by decide +kernel
theorem d_AS_simulate_84 : decode b_AS_simulate 84 = .ok (.aload_n 0, 1) := by decide +kernel
theorem d_AS_simulate_85 : decode b_AS_simulate 85 = .ok (.getfield 19, 3) := by decide +kernel
theorem d_AS_simulate_88 : decode b_AS_simulate 88 = .ok (.invokevirtual 146, 3) := by decide +kernel
theorem d_AS_simulate_91 : decode b_AS_simulate 91 = .ok (.aload_n 0, 1) := by decide +kernel
theorem d_AS_simulate_92 : decode b_AS_simulate 92 = .ok (.getfield 54, 3) := by decide +kernel
theorem d_AS_simulate_95 : decode b_AS_simulate 95 = .ok (.getfield 150, 3) := by decide +kernel
theorem d_AS_simulate_98 : decode b_AS_simulate 98 = .ok (.ifCond .eq 9, 3) := by decide +kernel
theorem d_AS_simulate_101 : decode b_AS_simulate 101 = .ok (.iinc 4 1, 3) := by decide +kernel
theorem d_AS_simulate_104 : decode b_AS_simulate 104 = .ok (.goto 18, 3) := by decide +kernel
theorem d_AS_simulate_107 : decode b_AS_simulate 107 = .ok (.aload_n 0, 1) := by decide +kernel
theorem d_AS_simulate_108 : decode b_AS_simulate 108 = .ok (.getfield 54, 3) := by decide +kernel
theorem d_AS_simulate_111 : decode b_AS_simulate 111 = .ok (.getfield 270, 3) := by decide +kernel
theorem d_AS_simulate_114 : decode b_AS_simulate 114 = .ok (.bipush (-9), 2) := by decide +kernel
theorem d_AS_simulate_116 : decode b_AS_simulate 116 = .ok (.if_icmp .eq 6, 3) := by decide +kernel
theorem d_AS_simulate_119 : decode b_AS_simulate 119 = .ok (.iinc 4 100, 3) := by decide +kernel
theorem d_AS_simulate_122 : decode b_AS_simulate 122 = .ok (.iinc 7 1, 3) := by decide +kernel
theorem d_AS_simulate_125 : decode b_AS_simulate 125 = .ok (.goto (-94), 3) := by decide +kernel
theorem d_AS_simulate_128 : decode b_AS_simulate 128 = .ok (.iload 4, 2) := by decide +kernel
theorem d_AS_simulate_130 : decode b_AS_simulate 130 = .ok (.ireturn, 1) := by decide +kernel
def rm_AS_simulate : Room := { frames := 6, cells := 1, slots := 6, locals := 90 }
theorem mf_AS_simulate : zMV y_AS_simulate b_AS_simulate 8 (some .int) 2 := ⟨q984, q985, q1, q986, by decide +kernel⟩
def F_AS_simulate_31 (K : Int → zH → Prop) (XK : Nat → zH → Prop)  (L31 : Int × Int × Int × zH → Prop) (p0 : Nat) (x3 : Int) (x4 : Int) (x5 : Int) (x7 : Int) (h : zH) : Prop :=
  (x3 ≤ x7 → (K x4 h)) ∧ (x7 < x3 → ((∀ x5_1 : Int, x5_1 = zwl ((zwl (x5 * 6364136223846793005)) + 1442695040888963407) → (M_Tape_copyFrom (p0 + 176) ((p0 + 37) + 3) h (fun h_2 => M_Tape_disturb (p0 + 176) (zw (zushr x5_1 33)) h_2 (fun h_4 => M_Taking_takeAll (p0 + 164) (p0 + 176) (p0 + 5) h_4 (fun h_6 => (h_6 (p0 + 164) 7 = 0 → ((h_6 (p0 + 164) 6 = (-9) → (zr (x7 + 1) ∧ (L31 (x4, x5_1, x7 + 1, h_6)))) ∧ (h_6 (p0 + 164) 6 ≠ (-9) → (zr (x4 + 100) ∧ (zr (x7 + 1) ∧ (L31 (x4 + 100, x5_1, x7 + 1, h_6))))))) ∧ (h_6 (p0 + 164) 7 ≠ 0 → (zr (x4 + 1) ∧ (zr (x7 + 1) ∧ (L31 (x4 + 1, x5_1, x7 + 1, h_6))))))))))))
set_option maxRecDepth 100000 in
theorem s_AS_simulate_31 {Wf : Heap → List Loc → JFrame → Prop} {m : MethodId} {g : zG} {n : Nat} {H0 : Heap} (X : zX Wf m rm_AS_simulate b_AS_simulate "AliasStreams" 8 g n H0) {K : Int → zH → Prop} (E : zEx Wf m b_AS_simulate (some .int) 8 g n H0 (zPi K)) {XK : Nat → zH → Prop} (T : zTh Wf m b_AS_simulate 8 g n H0 XK)  {p0 : Nat} {x3 : Int}  (op0 : zO n p0 10) (rx3 : zr x3) {q0 : Int × Int × Int × zH} (hv0 : zLoop (fun L q => F_AS_simulate_31 K XK  L p0 x3 q.1 q.2.1 q.2.2.1 q.2.2.2) q0) : zr q0.1 → zrl q0.2.1 → zr q0.2.2.1 → zh (q0.2.2.2) → zW Wf m 8 g n H0 31 [(0, .ref (g.2.2 p0)), (3, zi x3), (4, zi q0.1), (5, zj q0.2.1), (7, zi q0.2.2.1)] [] (q0.2.2.2) := by
  refine zLoop_use (G := fun q => zr q.1 → zrl q.2.1 → zr q.2.2.1 → zh (q.2.2.2) → zW Wf m 8 g n H0 31 [(0, .ref (g.2.2 p0)), (3, zi x3), (4, zi q.1), (5, zj q.2.1), (7, zi q.2.2.1)] [] (q.2.2.2)) ?_ hv0
  rintro L31 ⟨x4, x5, x7, h⟩ hL31 hv rx4 rx5 rx7 hh
  have hv : F_AS_simulate_31 K XK  L31 p0 x3 x4 x5 x7 h := hv
  unfold F_AS_simulate_31 at hv
  show zW Wf m 8 g n H0 31 [(0, .ref (g.2.2 p0)), (3, zi x3), (4, zi x4), (5, zj x5), (7, zi x7)] [] h
  refine z_iload (pc := 31) (q := 4) X d_AS_simulate_31 rfl ?_
  refine z_iload_n (pc := 33) (q := 1) X d_AS_simulate_33 rfl ?_
  refine z_icmp_ge (pc := 34) (tgt := 128) X rx7 rx3 d_AS_simulate_34 (by decide) (fun hc => ?_) (fun hc => ?_)
  · replace hv := hv.1 hc
    refine z_iload (pc := 128) (q := 2) X d_AS_simulate_128 rfl ?_
    exact E.2.1 rfl _ _ _ _ d_AS_simulate_130 ⟨_, rfl, rx4, hh, hv⟩
  · replace hv := hv.2 hc
    refine z_lload (pc := 37) (q := 3) X d_AS_simulate_37 rfl ?_
    refine z_ldc2 (pc := 39) (x := 6364136223846793005) X d_AS_simulate_39 q988 (by decide) ?_
    refine z_lmul (pc := 42) X d_AS_simulate_42 ?_
    refine z_wj ?_
    refine z_ldc2 (pc := 43) (x := 1442695040888963407) X d_AS_simulate_43 q989 (by decide) ?_
    refine z_ladd (pc := 46) X d_AS_simulate_46 ?_
    refine z_wj ?_
    refine z_topj (fun x5_1 ex5_1 => ?_)
    have rx5_1 : zrl x5_1 := by rw [ex5_1]; exact (zrl_w _)
    replace hv := hv x5_1 ex5_1
    refine z_lstore (pc := 47) (lv' := [(5, zj x5_1), (0, .ref (g.2.2 p0)), (3, zi x3), (4, zi x4), (7, zi x7)]) X d_AS_simulate_47 (by decide) rfl ?_
    refine z_aload_n (pc := 49) (q := 1) X d_AS_simulate_49 rfl ?_
    refine z_getr (pc := 50) (j := 8) (dd := 176) X cf_AS op0 (by decide) q374 rfl rfl d_AS_simulate_50 ?_
    refine z_aload_n (pc := 53) (q := 1) X d_AS_simulate_53 rfl ?_
    refine z_getr (pc := 54) (j := 2) (dd := 37) X cf_AS op0 (by decide) q368 rfl rfl d_AS_simulate_54 ?_
    refine z_getrN (pc := 57) (j := 2) (dd := 3) X cf_State (gf_AS_2 op0) (by decide) q176 rfl rfl d_AS_simulate_57 ?_
    refine z_callVNv (pc := 60) (As := [.ref (g.2.2 ((p0 + 37) + 3))]) (rest := []) X (fun l hl => c_Tape_copyFrom hl (gf_AS_8 op0) (gf_State_2 (gf_AS_2 op0)) hh hv) cf_Tape (gf_AS_8 op0) rfl mf_Tape_copyFrom q910 ⟨⟨by decide, by decide⟩, rfl, rfl⟩ rfl d_AS_simulate_60 rfl (Nat.le_of_ble_eq_true rfl) (fun h_2 zh_2 hv => ?_)
    refine z_aload_n (pc := 63) (q := 1) X d_AS_simulate_63 rfl ?_
    refine z_getr (pc := 64) (j := 8) (dd := 176) X cf_AS op0 (by decide) q374 rfl rfl d_AS_simulate_64 ?_
    refine z_lload (pc := 67) (q := 0) X d_AS_simulate_67 rfl ?_
    refine z_bipush (pc := 69) X d_AS_simulate_69 (by decide) ?_
    refine z_lushr (pc := 71) X d_AS_simulate_71 ?_
    refine z_l2i (pc := 72) X (zrl_int _) d_AS_simulate_72 ?_
    refine z_callVNv (pc := 73) (As := [zi (zw (zushr x5_1 33))]) (rest := []) X (fun l hl => c_Tape_disturb hl (gf_AS_8 op0) (zr_w _) zh_2 hv) cf_Tape (gf_AS_8 op0) rfl mf_Tape_disturb q990 ⟨⟨by decide, by decide⟩, rfl, rfl⟩ rfl d_AS_simulate_73 rfl (Nat.le_of_ble_eq_true rfl) (fun h_4 zh_4 hv => ?_)
    refine z_aload_n (pc := 76) (q := 1) X d_AS_simulate_76 rfl ?_
    refine z_getr (pc := 77) (j := 6) (dd := 164) X cf_AS op0 (by decide) q372 rfl rfl d_AS_simulate_77 ?_
    refine z_aload_n (pc := 80) (q := 1) X d_AS_simulate_80 rfl ?_
    refine z_getr (pc := 81) (j := 8) (dd := 176) X cf_AS op0 (by decide) q374 rfl rfl d_AS_simulate_81 ?_
    refine z_aload_n (pc := 84) (q := 1) X d_AS_simulate_84 rfl ?_
    refine z_getr (pc := 85) (j := 1) (dd := 5) X cf_AS op0 (by decide) q367 rfl rfl d_AS_simulate_85 ?_
    refine z_callVNv (pc := 88) (As := [.ref (g.2.2 (p0 + 176)), .ref (g.2.2 (p0 + 5))]) (rest := []) X (fun l hl => c_Taking_takeAll hl (gf_AS_6 op0) (gf_AS_8 op0) (gf_AS_1 op0) zh_4 hv) cf_Taking (gf_AS_6 op0) rfl mf_Taking_takeAll q441 ⟨⟨by decide, by decide⟩, rfl, rfl⟩ rfl d_AS_simulate_88 rfl (Nat.le_of_ble_eq_true rfl) (fun h_6 zh_6 hv => ?_)
    refine z_aload_n (pc := 91) (q := 1) X d_AS_simulate_91 rfl ?_
    refine z_getr (pc := 92) (j := 6) (dd := 164) X cf_AS op0 (by decide) q372 rfl rfl d_AS_simulate_92 ?_
    refine z_getiN (pc := 95) (j := 7) X cf_Taking (gf_AS_6 op0) (by decide) q270 rfl rfl d_AS_simulate_95 ?_
    refine z_if_eq (pc := 98) (tgt := 107) X (zh_6.1 _ _ (zO.ne (gf_AS_6 op0) (by decide))) d_AS_simulate_98 (by decide) (fun hc => ?_) (fun hc => ?_)
    · replace hv := hv.1 hc
      refine z_aload_n (pc := 107) (q := 1) X d_AS_simulate_107 rfl ?_
      refine z_getr (pc := 108) (j := 6) (dd := 164) X cf_AS op0 (by decide) q372 rfl rfl d_AS_simulate_108 ?_
      refine z_getiN (pc := 111) (j := 6) X cf_Taking (gf_AS_6 op0) (by decide) q268 rfl rfl d_AS_simulate_111 ?_
      refine z_bipush (pc := 114) X d_AS_simulate_114 (by decide) ?_
      refine z_icmp_eq (pc := 116) (tgt := 122) X (zh_6.1 _ _ (zO.ne (gf_AS_6 op0) (by decide))) (show zr (-9) from by decide) d_AS_simulate_116 (by decide) (fun hc => ?_) (fun hc => ?_)
      · replace hv := hv.1 hc
        obtain ⟨v_8, hv⟩ := hv
        refine z_iinc (pc := 122) (q := 4) (lv' := [(7, zi (x7 + 1)), (5, zj x5_1), (0, .ref (g.2.2 p0)), (3, zi x3), (4, zi x4)]) X d_AS_simulate_122 rfl (by decide) rfl ?_
        refine z_goto (pc := 125) (tgt := 31) X d_AS_simulate_125 (by decide) ?_
        refine z_perm [2, 3, 4, 1, 0] rfl ?_
        exact hL31 _ hv rx4 rx5_1 v_8 zh_6
      · replace hv := hv.2 hc
        obtain ⟨v_9, hv⟩ := hv
        refine z_iinc (pc := 119) (q := 3) (lv' := [(4, zi (x4 + 100)), (5, zj x5_1), (0, .ref (g.2.2 p0)), (3, zi x3), (7, zi x7)]) X d_AS_simulate_119 rfl (by decide) rfl ?_
        obtain ⟨v_10, hv⟩ := hv
        refine z_iinc (pc := 122) (q := 4) (lv' := [(7, zi (x7 + 1)), (4, zi (x4 + 100)), (5, zj x5_1), (0, .ref (g.2.2 p0)), (3, zi x3)]) X d_AS_simulate_122 rfl (by decide) rfl ?_
        refine z_goto (pc := 125) (tgt := 31) X d_AS_simulate_125 (by decide) ?_
        refine z_perm [3, 4, 1, 2, 0] rfl ?_
        exact hL31 _ hv v_9 rx5_1 v_10 zh_6
    · replace hv := hv.2 hc
      obtain ⟨v_11, hv⟩ := hv
      refine z_iinc (pc := 101) (q := 3) (lv' := [(4, zi (x4 + 1)), (5, zj x5_1), (0, .ref (g.2.2 p0)), (3, zi x3), (7, zi x7)]) X d_AS_simulate_101 rfl (by decide) rfl ?_
      refine z_goto (pc := 104) (tgt := 122) X d_AS_simulate_104 (by decide) ?_
      obtain ⟨v_12, hv⟩ := hv
      refine z_iinc (pc := 122) (q := 4) (lv' := [(7, zi (x7 + 1)), (4, zi (x4 + 1)), (5, zj x5_1), (0, .ref (g.2.2 p0)), (3, zi x3)]) X d_AS_simulate_122 rfl (by decide) rfl ?_
      refine z_goto (pc := 125) (tgt := 31) X d_AS_simulate_125 (by decide) ?_
      refine z_perm [3, 4, 1, 2, 0] rfl ?_
      exact hL31 _ hv v_11 rx5_1 v_12 zh_6
def M_AS_simulate (p0 : Nat) (x1 : Int) (x3 : Int) (h : zH) (K : Int → zH → Prop) (XK : Nat → zH → Prop) : Prop :=
  (x3 < 1 → (XK 1 h)) ∧ (1 ≤ x3 → ((x3 ≤ 40 → (zLoop (fun L q => F_AS_simulate_31 K XK  L p0 x3 q.1 q.2.1 q.2.2.1 q.2.2.2) (0, x1, 0, h))) ∧ (40 < x3 → (XK 1 h))))
set_option maxRecDepth 100000 in
theorem c_AS_simulate {l : Launch} (hfl : l.flags = flags0) {g : zG} {n : Nat} {p0 : Nat} {x1 : Int} {x3 : Int} (op0 : zO n p0 10) (rx1 : zrl x1) (rx3 : zr x3) {h : zH} (hh : zh h) {K : Int → zH → Prop} {XK : Nat → zH → Prop} (hv : M_AS_simulate p0 x1 x3 h K XK) : zMetX l y_AS_simulate b_AS_simulate 8 (some .int) rm_AS_simulate g n [.ref (g.2.2 p0), zj x1, zi x3] h (zPi K) XK := by
  refine zMetX_of hfl (by decide) rfl (Nat.le_of_ble_eq_true rfl) ⟨rfl, rfl, by decide, by decide⟩ (fun Wf m H0 X E T => ?_)
  unfold M_AS_simulate at hv
  show zW Wf m 8 g n H0 0 [(0, .ref (g.2.2 p0)), (1, zj x1), (3, zi x3)] [] h
  refine z_iload_n (pc := 0) (q := 2) X d_AS_simulate_0 rfl ?_
  refine z_iconst (pc := 1) X d_AS_simulate_1 ?_
  refine z_icmp_lt (pc := 2) (tgt := 11) X rx3 (show zr 1 from by decide) d_AS_simulate_2 (by decide) (fun hc => ?_) (fun hc => ?_)
  · replace hv := hv.1 hc
    exact T _ _ _ 1 _ _ _ _ _ (by decide +kernel : (1, "java/lang/IllegalArgumentException", 83, 87) ∈ zExc) zst_357 ⟨d_AS_simulate_11, d_AS_simulate_14, Or.inr ⟨d_AS_simulate_15, d_AS_simulate_18, d_AS_simulate_21⟩⟩ hh hv
  · replace hv := hv.2 hc
    refine z_iload_n (pc := 5) (q := 2) X d_AS_simulate_5 rfl ?_
    refine z_bipush (pc := 6) X d_AS_simulate_6 (by decide) ?_
    refine z_icmp_le (pc := 8) (tgt := 22) X rx3 (show zr 40 from by decide) d_AS_simulate_8 (by decide) (fun hc => ?_) (fun hc => ?_)
    · replace hv := hv.1 hc
      refine z_iconst (pc := 22) X d_AS_simulate_22 ?_
      refine z_istore (pc := 23) (lv' := [(4, zi 0), (0, .ref (g.2.2 p0)), (1, zj x1), (3, zi x3)]) X d_AS_simulate_23 (by decide) rfl ?_
      refine z_lload_n (pc := 25) (q := 2) X d_AS_simulate_25 rfl ?_
      refine z_lstore (pc := 26) (lv' := [(5, zj x1), (4, zi 0), (0, .ref (g.2.2 p0)), (1, zj x1), (3, zi x3)]) X d_AS_simulate_26 (by decide) rfl ?_
      refine z_iconst (pc := 28) X d_AS_simulate_28 ?_
      refine z_istore (pc := 29) (lv' := [(7, zi 0), (5, zj x1), (4, zi 0), (0, .ref (g.2.2 p0)), (1, zj x1), (3, zi x3)]) X d_AS_simulate_29 (by decide) rfl ?_
      refine z_perm [3, 5, 2, 1, 0] rfl ?_
      exact s_AS_simulate_31 X E T  op0 rx3 hv (show zr 0 from by decide) rx1 (show zr 0 from by decide) hh
    · replace hv := hv.2 hc
      exact T _ _ _ 1 _ _ _ _ _ (by decide +kernel : (1, "java/lang/IllegalArgumentException", 83, 87) ∈ zExc) zst_357 ⟨d_AS_simulate_11, d_AS_simulate_14, Or.inr ⟨d_AS_simulate_15, d_AS_simulate_18, d_AS_simulate_21⟩⟩ hh hv
theorem d_AS_save_0 : decode b_AS_save 0 = .ok (.iload_n 1, 1) := by decide +kernel
theorem d_AS_save_1 : decode b_AS_save 1 = .ok (.invokestatic 366, 3) := by decide +kernel
theorem d_AS_save_4 : decode b_AS_save 4 = .ok (.ifCond .ne 14, 3) := by decide +kernel
theorem d_AS_save_7 : decode b_AS_save 7 = .ok (.new 163, 3) := by decide +kernel
theorem d_AS_save_10 : decode b_AS_save 10 = .ok (.dup, 1) := by decide +kernel
theorem d_AS_save_11 : decode b_AS_save 11 = .ok (.ldc_w 369, 3) := by decide +kernel
theorem d_AS_save_14 : decode b_AS_save 14 = .ok (.invokespecial 167, 3) := by decide +kernel
theorem d_AS_save_17 : decode b_AS_save 17 = .ok (.athrow, 1) := by decide +kernel
theorem d_AS_save_18 : decode b_AS_save 18 = .ok (.aload_n 0, 1) := by decide +kernel
theorem d_AS_save_19 : decode b_AS_save 19 = .ok (.getfield 40, 3) := by decide +kernel
theorem d_AS_save_22 : decode b_AS_save 22 = .ok (.getfield 371, 3) := by decide +kernel
theorem d_AS_save_25 : decode b_AS_save 25 = .ok (.iload_n 1, 1) := by decide +kernel
theorem d_AS_save_26 : decode b_AS_save 26 = .ok (.aaload, 1) := by decide +kernel
theorem d_AS_save_27 : decode b_AS_save 27 = .ok (.aload_n 0, 1) := by decide +kernel
theorem d_AS_save_28 : decode b_AS_save 28 = .ok (.getfield 26, 3) := by decide +kernel
theorem d_AS_save_31 : decode b_AS_save 31 = .ok (.invokevirtual 375, 3) := by decide +kernel
theorem d_AS_save_34 : decode b_AS_save 34 = .ok (.aload_n 0, 1) := by decide +kernel
theorem d_AS_save_35 : decode b_AS_save 35 = .ok (.getfield 40, 3) := by decide +kernel
theorem d_AS_save_38 : decode b_AS_save 38 = .ok (.getfield 377, 3) := by decide +kernel
theorem d_AS_save_41 : decode b_AS_save 41 = .ok (.iload_n 1, 1) := by decide +kernel
theorem d_AS_save_42 : decode b_AS_save 42 = .ok (.iconst 1, 1) := by decide +kernel
theorem d_AS_save_43 : decode b_AS_save 43 = .ok (.bastore, 1) := by decide +kernel
theorem d_AS_save_44 : decode b_AS_save 44 = .ok (.aload_n 0, 1) := by decide +kernel
theorem d_AS_save_45 : decode b_AS_save 45 = .ok (.getfield 26, 3) := by decide +kernel
theorem d_AS_save_48 : decode b_AS_save 48 = .ok (.getfield 127, 3) := by decide +kernel
theorem d_AS_save_51 : decode b_AS_save 51 = .ok (.ireturn, 1) := by decide +kernel
def rm_AS_save : Room := { frames := 6, cells := 1, slots := 6, locals := 102 }
theorem mf_AS_save : zMV y_AS_save b_AS_save 2 (some .int) 1 := ⟨q999, q1000, q1, q1001, by decide +kernel⟩
def M_AS_save (p0 : Nat) (x1 : Int) (h : zH) (K : Int → zH → Prop) (XK : Nat → zH → Prop) : Prop :=
  M_AS_isSaveSlot x1 h (fun r_2 h_1 => (r_2 ≠ 0 → ((0 ≤ x1 ∧ x1 < 2) ∧ (M_State_copyFrom (((p0 + 144) + 1) + 1 + 7 * x1.toNat) (p0 + 37) h_1 (fun h_4 => (0 ≤ x1 ∧ x1 < 2) ∧ (∀ h_7 : zH, h_7 = zs h_4 ((p0 + 144) + 16) x1.toNat 1 → (K (h_7 (p0 + 37) 3) h_7)))))) ∧ (r_2 = 0 → (XK 3 h_1)))
set_option maxRecDepth 100000 in
theorem c_AS_save {l : Launch} (hfl : l.flags = flags0) {g : zG} {n : Nat} {p0 : Nat} {x1 : Int} (op0 : zO n p0 10) (rx1 : zr x1) {h : zH} (hh : zh h) {K : Int → zH → Prop} {XK : Nat → zH → Prop} (hv : M_AS_save p0 x1 h K XK) : zMetX l y_AS_save b_AS_save 2 (some .int) rm_AS_save g n [.ref (g.2.2 p0), zi x1] h (zPi K) XK := by
  refine zMetX_of hfl (by decide) rfl (Nat.le_of_ble_eq_true rfl) ⟨rfl, rfl, by decide, by decide⟩ (fun Wf m H0 X E T => ?_)
  unfold M_AS_save at hv
  show zW Wf m 2 g n H0 0 [(0, .ref (g.2.2 p0)), (1, zi x1)] [] h
  refine z_iload_n (pc := 0) (q := 1) X d_AS_save_0 rfl ?_
  refine z_callSi (pc := 1) (As := [zi x1]) (rest := []) X (fun l hl => c_AS_isSaveSlot hl rx1 hh hv) mf_AS_isSaveSlot q1002 ⟨⟨by decide, by decide⟩, rfl, rfl⟩ rfl d_AS_save_1 rfl (Nat.le_of_ble_eq_true rfl) (fun r_2 h_1 rr_2 zh_1 hv => ?_)
  refine z_if_ne (pc := 4) (tgt := 18) X rr_2 d_AS_save_4 (by decide) (fun hc => ?_) (fun hc => ?_)
  · replace hv := hv.1 hc
    refine z_aload_n (pc := 18) (q := 0) X d_AS_save_18 rfl ?_
    refine z_getr (pc := 19) (j := 4) (dd := 144) X cf_AS op0 (by decide) q370 rfl rfl d_AS_save_19 ?_
    refine z_getrN (pc := 22) (j := 0) (dd := 1) X cf_Saves (gf_AS_4 op0) (by decide) q219 rfl rfl d_AS_save_22 ?_
    refine z_iload_n (pc := 25) (q := 1) X d_AS_save_25 rfl ?_
    obtain ⟨v_3, hv⟩ := hv
    refine z_aaldSj (pc := 26) X (gf_Saves_0 (gf_AS_4 op0)) (gl_Saves_0 (gf_AS_4 op0)) rx1 v_3 d_AS_save_26 ?_
    refine z_aload_n (pc := 27) (q := 0) X d_AS_save_27 rfl ?_
    refine z_getr (pc := 28) (j := 2) (dd := 37) X cf_AS op0 (by decide) q368 rfl rfl d_AS_save_28 ?_
    refine z_callVNv (pc := 31) (As := [.ref (g.2.2 (p0 + 37))]) (rest := []) X (fun l hl => c_State_copyFrom hl (gS (gf_Saves_0 (gf_AS_4 op0)) (gi (gl_Saves_0 (gf_AS_4 op0)) v_3.1 v_3.2)) (gf_AS_2 op0) zh_1 hv) cf_State (gS (gf_Saves_0 (gf_AS_4 op0)) (gi (gl_Saves_0 (gf_AS_4 op0)) v_3.1 v_3.2)) rfl mf_State_copyFrom q1006 ⟨⟨by decide, by decide⟩, rfl, rfl⟩ rfl d_AS_save_31 rfl (Nat.le_of_ble_eq_true rfl) (fun h_4 zh_4 hv => ?_)
    refine z_aload_n (pc := 34) (q := 0) X d_AS_save_34 rfl ?_
    refine z_getr (pc := 35) (j := 4) (dd := 144) X cf_AS op0 (by decide) q370 rfl rfl d_AS_save_35 ?_
    refine z_getrN (pc := 38) (j := 1) (dd := 16) X cf_Saves (gf_AS_4 op0) (by decide) q221 rfl rfl d_AS_save_38 ?_
    refine z_iload_n (pc := 41) (q := 1) X d_AS_save_41 rfl ?_
    refine z_iconst (pc := 42) X d_AS_save_42 ?_
    obtain ⟨v_6, hv⟩ := hv
    refine z_zastj (pc := 43) (j := x1.toNat) X (gf_Saves_1 (gf_AS_4 op0)) (gl_Saves_1 (gf_AS_4 op0)) rx1 v_6 rfl (by decide) d_AS_save_43 ?_
    refine z_toph (fun h_7 eh_7 => ?_)
    have zh_7 : zh h_7 := by rw [eh_7]; exact zh_set zh_4 (zO.ne (gf_Saves_1 (gf_AS_4 op0)) (by decide)) (show zr 1 from by decide)
    replace hv := hv h_7 eh_7
    refine z_aload_n (pc := 44) (q := 0) X d_AS_save_44 rfl ?_
    refine z_getr (pc := 45) (j := 2) (dd := 37) X cf_AS op0 (by decide) q368 rfl rfl d_AS_save_45 ?_
    refine z_getiN (pc := 48) (j := 3) X cf_State (gf_AS_2 op0) (by decide) q180 rfl rfl d_AS_save_48 ?_
    exact E.2.1 rfl _ _ _ _ d_AS_save_51 ⟨_, rfl, (zh_7.1 _ _ (zO.ne (gf_AS_2 op0) (by decide))), zh_7, hv⟩
  · replace hv := hv.2 hc
    exact T _ _ _ 3 _ _ _ _ _ (by decide +kernel : (3, "java/lang/IndexOutOfBoundsException", 163, 167) ∈ zExc) zst_369 ⟨d_AS_save_7, d_AS_save_10, Or.inr ⟨d_AS_save_11, d_AS_save_14, d_AS_save_17⟩⟩ zh_1 hv
theorem d_AS_restore_0 : decode b_AS_restore 0 = .ok (.iload_n 1, 1) := by decide +kernel
theorem d_AS_restore_1 : decode b_AS_restore 1 = .ok (.invokestatic 366, 3) := by decide +kernel
theorem d_AS_restore_4 : decode b_AS_restore 4 = .ok (.ifCond .ne 14, 3) := by decide +kernel
theorem d_AS_restore_7 : decode b_AS_restore 7 = .ok (.new 163, 3) := by decide +kernel
theorem d_AS_restore_10 : decode b_AS_restore 10 = .ok (.dup, 1) := by decide +kernel
theorem d_AS_restore_11 : decode b_AS_restore 11 = .ok (.ldc_w 369, 3) := by decide +kernel
theorem d_AS_restore_14 : decode b_AS_restore 14 = .ok (.invokespecial 167, 3) := by decide +kernel
theorem d_AS_restore_17 : decode b_AS_restore 17 = .ok (.athrow, 1) := by decide +kernel
theorem d_AS_restore_18 : decode b_AS_restore 18 = .ok (.aload_n 0, 1) := by decide +kernel
theorem d_AS_restore_19 : decode b_AS_restore 19 = .ok (.getfield 40, 3) := by decide +kernel
theorem d_AS_restore_22 : decode b_AS_restore 22 = .ok (.getfield 377, 3) := by decide +kernel
theorem d_AS_restore_25 : decode b_AS_restore 25 = .ok (.iload_n 1, 1) := by decide +kernel
theorem d_AS_restore_26 : decode b_AS_restore 26 = .ok (.baload, 1) := by decide +kernel
theorem d_AS_restore_27 : decode b_AS_restore 27 = .ok (.ifCond .ne 14, 3) := by decide +kernel
theorem d_AS_restore_30 : decode b_AS_restore 30 = .ok (.new 94, 3) := by decide +kernel
theorem d_AS_restore_33 : decode b_AS_restore 33 = .ok (.dup, 1) := by decide +kernel
theorem d_AS_restore_34 : decode b_AS_restore 34 = .ok (.ldc_w 381, 3) := by decide +kernel
theorem d_AS_restore_37 : decode b_AS_restore 37 = .ok (.invokespecial 98, 3) := by decide +kernel
theorem d_AS_restore_40 : decode b_AS_restore 40 = .ok (.athrow, 1) := by decide +kernel
theorem d_AS_restore_41 : decode b_AS_restore 41 = .ok (.aload_n 0, 1) := by decide +kernel
theorem d_AS_restore_42 : decode b_AS_restore 42 = .ok (.getfield 26, 3) := by decide +kernel
theorem d_AS_restore_45 : decode b_AS_restore 45 = .ok (.aload_n 0, 1) := by decide +kernel
theorem d_AS_restore_46 : decode b_AS_restore 46 = .ok (.getfield 40, 3) := by decide +kernel
theorem d_AS_restore_49 : decode b_AS_restore 49 = .ok (.getfield 371, 3) := by decide +kernel
theorem d_AS_restore_52 : decode b_AS_restore 52 = .ok (.iload_n 1, 1) := by decide +kernel
theorem d_AS_restore_53 : decode b_AS_restore 53 = .ok (.aaload, 1) := by decide +kernel
theorem d_AS_restore_54 : decode b_AS_restore 54 = .ok (.invokevirtual 375, 3) := by decide +kernel
theorem d_AS_restore_57 : decode b_AS_restore 57 = .ok (.aload_n 0, 1) := by decide +kernel
theorem d_AS_restore_58 : decode b_AS_restore 58 = .ok (.getfield 19, 3) := by decide +kernel
theorem d_AS_restore_61 : decode b_AS_restore 61 = .ok (.aload_n 0, 1) := by decide +kernel
theorem d_AS_restore_62 : decode b_AS_restore 62 = .ok (.getfield 26, 3) := by decide +kernel
theorem d_AS_restore_65 : decode b_AS_restore 65 = .ok (.getfield 75, 3) := by decide +kernel
theorem d_AS_restore_68 : decode b_AS_restore 68 = .ok (.invokevirtual 79, 3) := by decide +kernel
theorem d_AS_restore_71 : decode b_AS_restore 71 = .ok (.aload_n 0, 1) := by decide +kernel
theorem d_AS_restore_72 : decode b_AS_restore 72 = .ok (.getfield 33, 3) := by decide +kernel
theorem d_AS_restore_75 : decode b_AS_restore 75 = .ok (.invokevirtual 121, 3) := by decide +kernel
theorem d_AS_restore_78 : decode b_AS_restore 78 = .ok (.aload_n 0, 1) := by decide +kernel
theorem d_AS_restore_79 : decode b_AS_restore 79 = .ok (.getfield 26, 3) := by decide +kernel
theorem d_AS_restore_82 : decode b_AS_restore 82 = .ok (.getfield 127, 3) := by decide +kernel
theorem d_AS_restore_85 : decode b_AS_restore 85 = .ok (.ireturn, 1) := by decide +kernel
def rm_AS_restore : Room := { frames := 6, cells := 1, slots := 6, locals := 117 }
theorem mf_AS_restore : zMV y_AS_restore b_AS_restore 2 (some .int) 1 := ⟨q1011, q1012, q1, q1013, by decide +kernel⟩
def M_AS_restore (p0 : Nat) (x1 : Int) (h : zH) (K : Int → zH → Prop) (XK : Nat → zH → Prop) : Prop :=
  M_AS_isSaveSlot x1 h (fun r_2 h_1 => (r_2 ≠ 0 → ((0 ≤ x1 ∧ x1 < 2) ∧ ((h_1 ((p0 + 144) + 16) x1.toNat ≠ 0 → ((0 ≤ x1 ∧ x1 < 2) ∧ (M_State_copyFrom (p0 + 37) (((p0 + 144) + 1) + 1 + 7 * x1.toNat) h_1 (fun h_5 => M_Models_makeAll (p0 + 5) ((p0 + 37) + 1) h_5 (fun h_7 => M_History_forget (p0 + 44) h_7 (fun h_9 => K (h_9 (p0 + 37) 3) h_9)))))) ∧ (h_1 ((p0 + 144) + 16) x1.toNat = 0 → (XK 2 h_1))))) ∧ (r_2 = 0 → (XK 3 h_1)))
set_option maxRecDepth 100000 in
theorem c_AS_restore {l : Launch} (hfl : l.flags = flags0) {g : zG} {n : Nat} {p0 : Nat} {x1 : Int} (op0 : zO n p0 10) (rx1 : zr x1) {h : zH} (hh : zh h) {K : Int → zH → Prop} {XK : Nat → zH → Prop} (hv : M_AS_restore p0 x1 h K XK) : zMetX l y_AS_restore b_AS_restore 2 (some .int) rm_AS_restore g n [.ref (g.2.2 p0), zi x1] h (zPi K) XK := by
  refine zMetX_of hfl (by decide) rfl (Nat.le_of_ble_eq_true rfl) ⟨rfl, rfl, by decide, by decide⟩ (fun Wf m H0 X E T => ?_)
  unfold M_AS_restore at hv
  show zW Wf m 2 g n H0 0 [(0, .ref (g.2.2 p0)), (1, zi x1)] [] h
  refine z_iload_n (pc := 0) (q := 1) X d_AS_restore_0 rfl ?_
  refine z_callSi (pc := 1) (As := [zi x1]) (rest := []) X (fun l hl => c_AS_isSaveSlot hl rx1 hh hv) mf_AS_isSaveSlot q1002 ⟨⟨by decide, by decide⟩, rfl, rfl⟩ rfl d_AS_restore_1 rfl (Nat.le_of_ble_eq_true rfl) (fun r_2 h_1 rr_2 zh_1 hv => ?_)
  refine z_if_ne (pc := 4) (tgt := 18) X rr_2 d_AS_restore_4 (by decide) (fun hc => ?_) (fun hc => ?_)
  · replace hv := hv.1 hc
    refine z_aload_n (pc := 18) (q := 0) X d_AS_restore_18 rfl ?_
    refine z_getr (pc := 19) (j := 4) (dd := 144) X cf_AS op0 (by decide) q370 rfl rfl d_AS_restore_19 ?_
    refine z_getrN (pc := 22) (j := 1) (dd := 16) X cf_Saves (gf_AS_4 op0) (by decide) q221 rfl rfl d_AS_restore_22 ?_
    refine z_iload_n (pc := 25) (q := 1) X d_AS_restore_25 rfl ?_
    obtain ⟨v_3, hv⟩ := hv
    refine z_zaldj (pc := 26) (j := x1.toNat) X (gf_Saves_1 (gf_AS_4 op0)) (gl_Saves_1 (gf_AS_4 op0)) rx1 v_3 rfl d_AS_restore_26 ?_
    refine z_if_ne (pc := 27) (tgt := 41) X (zh_1.1 _ _ (zO.ne (gf_Saves_1 (gf_AS_4 op0)) (by decide))) d_AS_restore_27 (by decide) (fun hc => ?_) (fun hc => ?_)
    · replace hv := hv.1 hc
      refine z_aload_n (pc := 41) (q := 0) X d_AS_restore_41 rfl ?_
      refine z_getr (pc := 42) (j := 2) (dd := 37) X cf_AS op0 (by decide) q368 rfl rfl d_AS_restore_42 ?_
      refine z_aload_n (pc := 45) (q := 0) X d_AS_restore_45 rfl ?_
      refine z_getr (pc := 46) (j := 4) (dd := 144) X cf_AS op0 (by decide) q370 rfl rfl d_AS_restore_46 ?_
      refine z_getrN (pc := 49) (j := 0) (dd := 1) X cf_Saves (gf_AS_4 op0) (by decide) q219 rfl rfl d_AS_restore_49 ?_
      refine z_iload_n (pc := 52) (q := 1) X d_AS_restore_52 rfl ?_
      obtain ⟨v_4, hv⟩ := hv
      refine z_aaldSj (pc := 53) X (gf_Saves_0 (gf_AS_4 op0)) (gl_Saves_0 (gf_AS_4 op0)) rx1 v_4 d_AS_restore_53 ?_
      refine z_callVNv (pc := 54) (As := [.ref (g.2.2 (((p0 + 144) + 1) + 1 + 7 * x1.toNat))]) (rest := []) X (fun l hl => c_State_copyFrom hl (gf_AS_2 op0) (gS (gf_Saves_0 (gf_AS_4 op0)) (gi (gl_Saves_0 (gf_AS_4 op0)) v_4.1 v_4.2)) zh_1 hv) cf_State (gf_AS_2 op0) rfl mf_State_copyFrom q1006 ⟨⟨by decide, by decide⟩, rfl, rfl⟩ rfl d_AS_restore_54 rfl (Nat.le_of_ble_eq_true rfl) (fun h_5 zh_5 hv => ?_)
      refine z_aload_n (pc := 57) (q := 0) X d_AS_restore_57 rfl ?_
      refine z_getr (pc := 58) (j := 1) (dd := 5) X cf_AS op0 (by decide) q367 rfl rfl d_AS_restore_58 ?_
      refine z_aload_n (pc := 61) (q := 0) X d_AS_restore_61 rfl ?_
      refine z_getr (pc := 62) (j := 2) (dd := 37) X cf_AS op0 (by decide) q368 rfl rfl d_AS_restore_62 ?_
      refine z_getrN (pc := 65) (j := 0) (dd := 1) X cf_State (gf_AS_2 op0) (by decide) q170 rfl rfl d_AS_restore_65 ?_
      refine z_callVNv (pc := 68) (As := [.ref (g.2.2 ((p0 + 37) + 1))]) (rest := []) X (fun l hl => c_Models_makeAll hl (gf_AS_1 op0) (gf_State_0 (gf_AS_2 op0)) zh_5 hv) cf_Models (gf_AS_1 op0) rfl mf_Models_makeAll q313 ⟨⟨by decide, by decide⟩, rfl, rfl⟩ rfl d_AS_restore_68 rfl (Nat.le_of_ble_eq_true rfl) (fun h_7 zh_7 hv => ?_)
      refine z_aload_n (pc := 71) (q := 0) X d_AS_restore_71 rfl ?_
      refine z_getr (pc := 72) (j := 3) (dd := 44) X cf_AS op0 (by decide) q369 rfl rfl d_AS_restore_72 ?_
      refine z_callVNv (pc := 75) (As := []) (rest := []) X (fun l hl => c_History_forget hl (gf_AS_3 op0) zh_7 hv) cf_History (gf_AS_3 op0) rfl mf_History_forget q599 ⟨⟨by decide, by decide⟩, rfl, rfl⟩ rfl d_AS_restore_75 rfl (Nat.le_of_ble_eq_true rfl) (fun h_9 zh_9 hv => ?_)
      refine z_aload_n (pc := 78) (q := 0) X d_AS_restore_78 rfl ?_
      refine z_getr (pc := 79) (j := 2) (dd := 37) X cf_AS op0 (by decide) q368 rfl rfl d_AS_restore_79 ?_
      refine z_getiN (pc := 82) (j := 3) X cf_State (gf_AS_2 op0) (by decide) q180 rfl rfl d_AS_restore_82 ?_
      exact E.2.1 rfl _ _ _ _ d_AS_restore_85 ⟨_, rfl, (zh_9.1 _ _ (zO.ne (gf_AS_2 op0) (by decide))), zh_9, hv⟩
    · replace hv := hv.2 hc
      exact T _ _ _ 2 _ _ _ _ _ (by decide +kernel : (2, "java/lang/IllegalStateException", 94, 98) ∈ zExc) zst_381 ⟨d_AS_restore_30, d_AS_restore_33, Or.inr ⟨d_AS_restore_34, d_AS_restore_37, d_AS_restore_40⟩⟩ zh_1 hv
  · replace hv := hv.2 hc
    exact T _ _ _ 3 _ _ _ _ _ (by decide +kernel : (3, "java/lang/IndexOutOfBoundsException", 163, 167) ∈ zExc) zst_369 ⟨d_AS_restore_7, d_AS_restore_10, Or.inr ⟨d_AS_restore_11, d_AS_restore_14, d_AS_restore_17⟩⟩ zh_1 hv

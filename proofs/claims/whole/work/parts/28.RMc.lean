/-! 28.RMc (printed by wip/whole/methgen.py) -/
theorem d_RM_about_0 : decode b_RM_about 0 = .ok (.aload_n 0, 1) := by decide +kernel
theorem d_RM_about_1 : decode b_RM_about 1 = .ok (.iload_n 1, 1) := by decide +kernel
theorem d_RM_about_2 : decode b_RM_about 2 = .ok (.i2l, 1) := by decide +kernel
theorem d_RM_about_3 : decode b_RM_about 3 = .ok (.lconst 0, 1) := by decide +kernel
theorem d_RM_about_4 : decode b_RM_about 4 = .ok (.ldc2_w 158, 3) := by decide +kernel
theorem d_RM_about_7 : decode b_RM_about 7 = .ok (.invokestatic 87, 3) := by decide +kernel
theorem d_RM_about_10 : decode b_RM_about 10 = .ok (.ifCond .eq 7, 3) := by decide +kernel
theorem d_RM_about_13 : decode b_RM_about 13 = .ok (.iconst 0, 1) := by decide +kernel
theorem d_RM_about_14 : decode b_RM_about 14 = .ok (.goto 4, 3) := by decide +kernel
theorem d_RM_about_17 : decode b_RM_about 17 = .ok (.iconst 1, 1) := by decide +kernel
theorem d_RM_about_18 : decode b_RM_about 18 = .ok (.invokevirtual 114, 3) := by decide +kernel
theorem d_RM_about_21 : decode b_RM_about 21 = .ok (.ifCond .eq 5, 3) := by decide +kernel
theorem d_RM_about_24 : decode b_RM_about 24 = .ok (.iconst 0, 1) := by decide +kernel
theorem d_RM_about_25 : decode b_RM_about 25 = .ok (.ireturn, 1) := by decide +kernel
theorem d_RM_about_26 : decode b_RM_about 26 = .ok (.iload_n 1, 1) := by decide +kernel
theorem d_RM_about_27 : decode b_RM_about 27 = .ok (.tableswitch 87 0 5 #[37, 42, 47, 56, 69, 78], 37) := by decide +kernel
theorem d_RM_about_64 : decode b_RM_about 64 = .ok (.aload_n 0, 1) := by decide +kernel
theorem d_RM_about_65 : decode b_RM_about 65 = .ok (.getfield 13, 3) := by decide +kernel
theorem d_RM_about_68 : decode b_RM_about 68 = .ok (.ireturn, 1) := by decide +kernel
theorem d_RM_about_69 : decode b_RM_about 69 = .ok (.aload_n 0, 1) := by decide +kernel
theorem d_RM_about_70 : decode b_RM_about 70 = .ok (.getfield 17, 3) := by decide +kernel
theorem d_RM_about_73 : decode b_RM_about 73 = .ok (.ireturn, 1) := by decide +kernel
theorem d_RM_about_74 : decode b_RM_about 74 = .ok (.aload_n 0, 1) := by decide +kernel
theorem d_RM_about_75 : decode b_RM_about 75 = .ok (.getfield 23, 3) := by decide +kernel
theorem d_RM_about_78 : decode b_RM_about 78 = .ok (.sipush 188, 3) := by decide +kernel
theorem d_RM_about_81 : decode b_RM_about 81 = .ok (.iaload, 1) := by decide +kernel
theorem d_RM_about_82 : decode b_RM_about 82 = .ok (.ireturn, 1) := by decide +kernel
theorem d_RM_about_83 : decode b_RM_about 83 = .ok (.aload_n 0, 1) := by decide +kernel
theorem d_RM_about_84 : decode b_RM_about 84 = .ok (.aload_n 0, 1) := by decide +kernel
theorem d_RM_about_85 : decode b_RM_about 85 = .ok (.getfield 23, 3) := by decide +kernel
theorem d_RM_about_88 : decode b_RM_about 88 = .ok (.invokevirtual 160, 3) := by decide +kernel
theorem d_RM_about_91 : decode b_RM_about 91 = .ok (.aload_n 0, 1) := by decide +kernel
theorem d_RM_about_92 : decode b_RM_about 92 = .ok (.getfield 99, 3) := by decide +kernel
theorem d_RM_about_95 : decode b_RM_about 95 = .ok (.ireturn, 1) := by decide +kernel
theorem d_RM_about_96 : decode b_RM_about 96 = .ok (.aload_n 0, 1) := by decide +kernel
theorem d_RM_about_97 : decode b_RM_about 97 = .ok (.getfield 23, 3) := by decide +kernel
theorem d_RM_about_100 : decode b_RM_about 100 = .ok (.sipush 190, 3) := by decide +kernel
theorem d_RM_about_103 : decode b_RM_about 103 = .ok (.iaload, 1) := by decide +kernel
theorem d_RM_about_104 : decode b_RM_about 104 = .ok (.ireturn, 1) := by decide +kernel
theorem d_RM_about_105 : decode b_RM_about 105 = .ok (.aload_n 0, 1) := by decide +kernel
theorem d_RM_about_106 : decode b_RM_about 106 = .ok (.getfield 23, 3) := by decide +kernel
theorem d_RM_about_109 : decode b_RM_about 109 = .ok (.sipush 189, 3) := by decide +kernel
theorem d_RM_about_112 : decode b_RM_about 112 = .ok (.iaload, 1) := by decide +kernel
theorem d_RM_about_113 : decode b_RM_about 113 = .ok (.ireturn, 1) := by decide +kernel
theorem d_RM_about_114 : decode b_RM_about 114 = .ok (.aload_n 0, 1) := by decide +kernel
theorem d_RM_about_115 : decode b_RM_about 115 = .ok (.aload_n 0, 1) := by decide +kernel
theorem d_RM_about_116 : decode b_RM_about 116 = .ok (.getfield 23, 3) := by decide +kernel
theorem d_RM_about_119 : decode b_RM_about 119 = .ok (.invokevirtual 164, 3) := by decide +kernel
theorem d_RM_about_122 : decode b_RM_about 122 = .ok (.aload_n 0, 1) := by decide +kernel
theorem d_RM_about_123 : decode b_RM_about 123 = .ok (.aload_n 0, 1) := by decide +kernel
theorem d_RM_about_124 : decode b_RM_about 124 = .ok (.getfield 23, 3) := by decide +kernel
theorem d_RM_about_127 : decode b_RM_about 127 = .ok (.invokevirtual 105, 3) := by decide +kernel
theorem d_RM_about_130 : decode b_RM_about 130 = .ok (.ifCond .eq 7, 3) := by decide +kernel
theorem d_RM_about_133 : decode b_RM_about 133 = .ok (.iconst 1, 1) := by decide +kernel
theorem d_RM_about_134 : decode b_RM_about 134 = .ok (.goto 4, 3) := by decide +kernel
theorem d_RM_about_137 : decode b_RM_about 137 = .ok (.iconst 0, 1) := by decide +kernel
theorem d_RM_about_138 : decode b_RM_about 138 = .ok (.ireturn, 1) := by decide +kernel
def rm_RM_about : Room := { frames := 2, cells := 0, slots := 0, locals := 50 }
theorem mf_RM_about : zMV y_RM_about b_RM_about 2 (some .int) 1 := ⟨q1173, q1174, q13, q1175, by decide +kernel⟩
def B_RM_about_18 (K : Int → zH → Prop)  (p0 : Nat) (x1 : Int) (w0 : Nat) (u1 : Int) (h : zH) : Prop :=
  M_RM_refused w0 u1 h (fun r_2 h_1 => (r_2 = 0 → (((x1 < 0 ∨ 5 < x1) → (M_RM_layTables p0 (p0 + 3) h_1 (fun h_3 => M_RM_take p0 (p0 + 3) h_3 (fun r_6 h_5 => (r_6 = 0 → (K 0 h_5)) ∧ (r_6 ≠ 0 → (K 1 h_5)))))) ∧ (x1 = 0 → (K (h_1 p0 4) h_1)) ∧ (x1 = 1 → (K (h_1 p0 5) h_1)) ∧ (x1 = 2 → (K (h_1 (p0 + 3) 188) h_1)) ∧ (x1 = 3 → (M_RM_layMessage p0 (p0 + 3) h_1 (fun h_7 => K (h_7 p0 31) h_7))) ∧ (x1 = 4 → (K (h_1 (p0 + 3) 190) h_1)) ∧ (x1 = 5 → (K (h_1 (p0 + 3) 189) h_1)))) ∧ (r_2 ≠ 0 → (K 0 h_1)))
set_option maxRecDepth 100000 in
theorem s_RM_about_18 {Wf : Heap → List Loc → JFrame → Prop} {m : MethodId} {g : zG} {n : Nat} {H0 : Heap} (X : zX Wf m rm_RM_about b_RM_about "AliasStreamsModel" 2 g n H0) {K : Int → zH → Prop} (E : zEx Wf m b_RM_about (some .int) 2 g n H0 (zPi K))  {p0 : Nat} {x1 : Int}  (op0 : zO n p0 11) (rx1 : zr x1) {w0 : Nat} {u1 : Int} (ow0 : zO n w0 11) (ru1 : zr u1) {h : zH} (hh : zh h) (hv : B_RM_about_18 K  p0 x1 w0 u1 h) : zW Wf m 2 g n H0 18 [(0, .ref (g.2.2 p0)), (1, zi x1)] [zi u1, .ref (g.2.2 w0)] h := by
  unfold B_RM_about_18 at hv
  refine z_callVi (pc := 18) (As := [zi u1]) (rest := []) X (fun l hl => c_RM_refused hl ow0 ru1 hh hv) cf_RM ow0 rfl mf_RM_refused q1130 ⟨⟨by decide, by decide⟩, rfl, rfl⟩ rfl d_RM_about_18 rfl (Nat.le_of_ble_eq_true rfl) (fun r_2 h_1 rr_2 zh_1 hv => ?_)
  refine z_if_eq (pc := 21) (tgt := 26) X rr_2 d_RM_about_21 (by decide) (fun hc => ?_) (fun hc => ?_)
  · replace hv := hv.1 hc
    refine z_iload_n (pc := 26) (q := 1) X d_RM_about_26 rfl ?_
    rcases (show (x1 < 0 ∨ 5 < x1) ∨ x1 = 0 ∨ x1 = 1 ∨ x1 = 2 ∨ x1 = 3 ∨ x1 = 4 ∨ x1 = 5 by omega) with hc | hc | hc | hc | hc | hc | hc
    · replace hv := hv.1 hc
      refine z_tableOut (pc := 27) (tgt := 114) X rx1 d_RM_about_27 hc (by decide) ?_
      refine z_aload_n (pc := 114) (q := 0) X d_RM_about_114 rfl ?_
      refine z_aload_n (pc := 115) (q := 0) X d_RM_about_115 rfl ?_
      refine z_getr (pc := 116) (j := 9) (dd := 3) X cf_RM op0 (by decide) q1030 rfl rfl d_RM_about_116 ?_
      refine z_callVv (pc := 119) (As := [.ref (g.2.2 (p0 + 3))]) (rest := []) X (fun l hl => c_RM_layTables hl op0 (gf_RM_9 op0) zh_1 hv) cf_RM op0 rfl mf_RM_layTables q1181 ⟨⟨by decide, by decide⟩, rfl, rfl⟩ rfl d_RM_about_119 rfl (Nat.le_of_ble_eq_true rfl) (fun h_3 zh_3 hv => ?_)
      refine z_aload_n (pc := 122) (q := 0) X d_RM_about_122 rfl ?_
      refine z_aload_n (pc := 123) (q := 0) X d_RM_about_123 rfl ?_
      refine z_getr (pc := 124) (j := 9) (dd := 3) X cf_RM op0 (by decide) q1030 rfl rfl d_RM_about_124 ?_
      refine z_callVi (pc := 127) (As := [.ref (g.2.2 (p0 + 3))]) (rest := []) X (fun l hl => c_RM_take hl op0 (gf_RM_9 op0) zh_3 hv) cf_RM op0 rfl mf_RM_take q1193 ⟨⟨by decide, by decide⟩, rfl, rfl⟩ rfl d_RM_about_127 rfl (Nat.le_of_ble_eq_true rfl) (fun r_6 h_5 rr_6 zh_5 hv => ?_)
      refine z_if_eq (pc := 130) (tgt := 137) X rr_6 d_RM_about_130 (by decide) (fun hc => ?_) (fun hc => ?_)
      · replace hv := hv.1 hc
        refine z_iconst (pc := 137) X d_RM_about_137 ?_
        exact E.2.1 rfl _ _ _ _ d_RM_about_138 ⟨_, rfl, (show zr 0 from by decide), zh_5, hv⟩
      · replace hv := hv.2 hc
        refine z_iconst (pc := 133) X d_RM_about_133 ?_
        refine z_goto (pc := 134) (tgt := 138) X d_RM_about_134 (by decide) ?_
        exact E.2.1 rfl _ _ _ _ d_RM_about_138 ⟨_, rfl, (show zr 1 from by decide), zh_5, hv⟩
    · replace hv := hv.2.1 hc
      refine z_tableIn (pc := 27) (tgt := 64) (off := 37) X rx1 d_RM_about_27 (by omega) (by omega) (by rw [hc]; rfl) (by decide) ?_
      refine z_aload_n (pc := 64) (q := 0) X d_RM_about_64 rfl ?_
      refine z_geti (pc := 65) (j := 4) X cf_RM op0 (by decide) q1025 rfl rfl d_RM_about_65 ?_
      exact E.2.1 rfl _ _ _ _ d_RM_about_68 ⟨_, rfl, (zh_1.1 _ _ (zO.ne op0 (by decide))), zh_1, hv⟩
    · replace hv := hv.2.2.1 hc
      refine z_tableIn (pc := 27) (tgt := 69) (off := 42) X rx1 d_RM_about_27 (by omega) (by omega) (by rw [hc]; rfl) (by decide) ?_
      refine z_aload_n (pc := 69) (q := 0) X d_RM_about_69 rfl ?_
      refine z_geti (pc := 70) (j := 5) X cf_RM op0 (by decide) q1026 rfl rfl d_RM_about_70 ?_
      exact E.2.1 rfl _ _ _ _ d_RM_about_73 ⟨_, rfl, (zh_1.1 _ _ (zO.ne op0 (by decide))), zh_1, hv⟩
    · replace hv := hv.2.2.2.1 hc
      refine z_tableIn (pc := 27) (tgt := 74) (off := 47) X rx1 d_RM_about_27 (by omega) (by omega) (by rw [hc]; rfl) (by decide) ?_
      refine z_aload_n (pc := 74) (q := 0) X d_RM_about_74 rfl ?_
      refine z_getr (pc := 75) (j := 9) (dd := 3) X cf_RM op0 (by decide) q1030 rfl rfl d_RM_about_75 ?_
      refine z_sipush (pc := 78) X d_RM_about_78 (by decide) ?_
      refine z_ialdj (pc := 81) (j := 188) X (gf_RM_9 op0) (gl_RM_9 op0) (show zr 188 from by decide) ⟨by decide, by decide⟩ rfl d_RM_about_81 ?_
      exact E.2.1 rfl _ _ _ _ d_RM_about_82 ⟨_, rfl, (zh_1.1 _ _ (zO.ne (gf_RM_9 op0) (by decide))), zh_1, hv⟩
    · replace hv := hv.2.2.2.2.1 hc
      refine z_tableIn (pc := 27) (tgt := 83) (off := 56) X rx1 d_RM_about_27 (by omega) (by omega) (by rw [hc]; rfl) (by decide) ?_
      refine z_aload_n (pc := 83) (q := 0) X d_RM_about_83 rfl ?_
      refine z_aload_n (pc := 84) (q := 0) X d_RM_about_84 rfl ?_
      refine z_getr (pc := 85) (j := 9) (dd := 3) X cf_RM op0 (by decide) q1030 rfl rfl d_RM_about_85 ?_
      refine z_callVv (pc := 88) (As := [.ref (g.2.2 (p0 + 3))]) (rest := []) X (fun l hl => c_RM_layMessage hl op0 (gf_RM_9 op0) zh_1 hv) cf_RM op0 rfl mf_RM_layMessage q1177 ⟨⟨by decide, by decide⟩, rfl, rfl⟩ rfl d_RM_about_88 rfl (Nat.le_of_ble_eq_true rfl) (fun h_7 zh_7 hv => ?_)
      refine z_aload_n (pc := 91) (q := 0) X d_RM_about_91 rfl ?_
      refine z_geti (pc := 92) (j := 31) X cf_RM op0 (by decide) q1052 rfl rfl d_RM_about_92 ?_
      exact E.2.1 rfl _ _ _ _ d_RM_about_95 ⟨_, rfl, (zh_7.1 _ _ (zO.ne op0 (by decide))), zh_7, hv⟩
    · replace hv := hv.2.2.2.2.2.1 hc
      refine z_tableIn (pc := 27) (tgt := 96) (off := 69) X rx1 d_RM_about_27 (by omega) (by omega) (by rw [hc]; rfl) (by decide) ?_
      refine z_aload_n (pc := 96) (q := 0) X d_RM_about_96 rfl ?_
      refine z_getr (pc := 97) (j := 9) (dd := 3) X cf_RM op0 (by decide) q1030 rfl rfl d_RM_about_97 ?_
      refine z_sipush (pc := 100) X d_RM_about_100 (by decide) ?_
      refine z_ialdj (pc := 103) (j := 190) X (gf_RM_9 op0) (gl_RM_9 op0) (show zr 190 from by decide) ⟨by decide, by decide⟩ rfl d_RM_about_103 ?_
      exact E.2.1 rfl _ _ _ _ d_RM_about_104 ⟨_, rfl, (zh_1.1 _ _ (zO.ne (gf_RM_9 op0) (by decide))), zh_1, hv⟩
    · replace hv := hv.2.2.2.2.2.2 hc
      refine z_tableIn (pc := 27) (tgt := 105) (off := 78) X rx1 d_RM_about_27 (by omega) (by omega) (by rw [hc]; rfl) (by decide) ?_
      refine z_aload_n (pc := 105) (q := 0) X d_RM_about_105 rfl ?_
      refine z_getr (pc := 106) (j := 9) (dd := 3) X cf_RM op0 (by decide) q1030 rfl rfl d_RM_about_106 ?_
      refine z_sipush (pc := 109) X d_RM_about_109 (by decide) ?_
      refine z_ialdj (pc := 112) (j := 189) X (gf_RM_9 op0) (gl_RM_9 op0) (show zr 189 from by decide) ⟨by decide, by decide⟩ rfl d_RM_about_112 ?_
      exact E.2.1 rfl _ _ _ _ d_RM_about_113 ⟨_, rfl, (zh_1.1 _ _ (zO.ne (gf_RM_9 op0) (by decide))), zh_1, hv⟩
  · replace hv := hv.2 hc
    refine z_iconst (pc := 24) X d_RM_about_24 ?_
    exact E.2.1 rfl _ _ _ _ d_RM_about_25 ⟨_, rfl, (show zr 0 from by decide), zh_1, hv⟩
def M_RM_about (p0 : Nat) (x1 : Int) (h : zH) (K : Int → zH → Prop) : Prop :=
  M_RM_in x1 0 6 h (fun r_2 h_1 => (r_2 = 0 → (B_RM_about_18 K  p0 x1 p0 1 h_1)) ∧ (r_2 ≠ 0 → (B_RM_about_18 K  p0 x1 p0 0 h_1)))
set_option maxRecDepth 100000 in
theorem c_RM_about {l : Launch} (hfl : l.flags = flags0) {g : zG} {n : Nat} {p0 : Nat} {x1 : Int} (op0 : zO n p0 11) (rx1 : zr x1) {h : zH} (hh : zh h) {K : Int → zH → Prop} (hv : M_RM_about p0 x1 h K) : zMet l y_RM_about b_RM_about 2 (some .int) rm_RM_about g n [.ref (g.2.2 p0), zi x1] h (zPi K) := by
  refine zMet_of (own := "AliasStreamsModel") hfl (by decide) rfl (Nat.le_of_ble_eq_true rfl) (fun Wf m H0 X E => ?_)
  unfold M_RM_about at hv
  show zW Wf m 2 g n H0 0 [(0, .ref (g.2.2 p0)), (1, zi x1)] [] h
  refine z_aload_n (pc := 0) (q := 0) X d_RM_about_0 rfl ?_
  refine z_iload_n (pc := 1) (q := 1) X d_RM_about_1 rfl ?_
  refine z_i2l (pc := 2) X rx1 d_RM_about_2 ?_
  refine z_lconst (pc := 3) (x := 0) X d_RM_about_3 (by decide) ?_
  refine z_ldc2 (pc := 4) (x := 6) X d_RM_about_4 q1176 (by decide) ?_
  refine z_callSi (pc := 7) (As := [zj x1, zj 0, zj 6]) (rest := [.ref (g.2.2 p0)]) X (fun l hl => c_RM_in hl (zr_l rx1) (show zrl 0 from by decide) (show zrl 6 from by decide) hh hv) mf_RM_in q1127 ⟨⟨by decide, by decide⟩, rfl, rfl⟩ rfl d_RM_about_7 rfl (Nat.le_of_ble_eq_true rfl) (fun r_2 h_1 rr_2 zh_1 hv => ?_)
  refine z_if_eq (pc := 10) (tgt := 17) X rr_2 d_RM_about_10 (by decide) (fun hc => ?_) (fun hc => ?_)
  · replace hv := hv.1 hc
    refine z_iconst (pc := 17) X d_RM_about_17 ?_
    exact s_RM_about_18 X E  op0 rx1 op0 (show zr 1 from by decide) zh_1 hv
  · replace hv := hv.2 hc
    refine z_iconst (pc := 13) X d_RM_about_13 ?_
    refine z_goto (pc := 14) (tgt := 18) X d_RM_about_14 (by decide) ?_
    exact s_RM_about_18 X E  op0 rx1 op0 (show zr 0 from by decide) zh_1 hv
theorem d_RM_symbol_0 : decode b_RM_symbol 0 = .ok (.aload_n 0, 1) := by decide +kernel
theorem d_RM_symbol_1 : decode b_RM_symbol 1 = .ok (.aload_n 0, 1) := by decide +kernel
theorem d_RM_symbol_2 : decode b_RM_symbol 2 = .ok (.iload_n 1, 1) := by decide +kernel
theorem d_RM_symbol_3 : decode b_RM_symbol 3 = .ok (.invokevirtual 167, 3) := by decide +kernel
theorem d_RM_symbol_6 : decode b_RM_symbol 6 = .ok (.ifCond .eq 11, 3) := by decide +kernel
theorem d_RM_symbol_9 : decode b_RM_symbol 9 = .ok (.aload_n 0, 1) := by decide +kernel
theorem d_RM_symbol_10 : decode b_RM_symbol 10 = .ok (.iload_n 2, 1) := by decide +kernel
theorem d_RM_symbol_11 : decode b_RM_symbol 11 = .ok (.invokevirtual 170, 3) := by decide +kernel
theorem d_RM_symbol_14 : decode b_RM_symbol 14 = .ok (.ifCond .ne 7, 3) := by decide +kernel
theorem d_RM_symbol_17 : decode b_RM_symbol 17 = .ok (.iconst 1, 1) := by decide +kernel
theorem d_RM_symbol_18 : decode b_RM_symbol 18 = .ok (.goto 18, 3) := by decide +kernel
theorem d_RM_symbol_21 : decode b_RM_symbol 21 = .ok (.iload_n 3, 1) := by decide +kernel
theorem d_RM_symbol_22 : decode b_RM_symbol 22 = .ok (.i2l, 1) := by decide +kernel
theorem d_RM_symbol_23 : decode b_RM_symbol 23 = .ok (.lconst 0, 1) := by decide +kernel
theorem d_RM_symbol_24 : decode b_RM_symbol 24 = .ok (.lconst 1, 1) := by decide +kernel
theorem d_RM_symbol_25 : decode b_RM_symbol 25 = .ok (.invokestatic 87, 3) := by decide +kernel
theorem d_RM_symbol_28 : decode b_RM_symbol 28 = .ok (.ifCond .ne 7, 3) := by decide +kernel
theorem d_RM_symbol_31 : decode b_RM_symbol 31 = .ok (.iconst 2, 1) := by decide +kernel
theorem d_RM_symbol_32 : decode b_RM_symbol 32 = .ok (.goto 4, 3) := by decide +kernel
theorem d_RM_symbol_35 : decode b_RM_symbol 35 = .ok (.iconst 0, 1) := by decide +kernel
theorem d_RM_symbol_36 : decode b_RM_symbol 36 = .ok (.invokevirtual 114, 3) := by decide +kernel
theorem d_RM_symbol_39 : decode b_RM_symbol 39 = .ok (.ifCond .eq 5, 3) := by decide +kernel
theorem d_RM_symbol_42 : decode b_RM_symbol 42 = .ok (.iconst 0, 1) := by decide +kernel
theorem d_RM_symbol_43 : decode b_RM_symbol 43 = .ok (.ireturn, 1) := by decide +kernel
theorem d_RM_symbol_44 : decode b_RM_symbol 44 = .ok (.aload_n 0, 1) := by decide +kernel
theorem d_RM_symbol_45 : decode b_RM_symbol 45 = .ok (.aload_n 0, 1) := by decide +kernel
theorem d_RM_symbol_46 : decode b_RM_symbol 46 = .ok (.getfield 23, 3) := by decide +kernel
theorem d_RM_symbol_49 : decode b_RM_symbol 49 = .ok (.invokevirtual 164, 3) := by decide +kernel
theorem d_RM_symbol_52 : decode b_RM_symbol 52 = .ok (.iload_n 3, 1) := by decide +kernel
theorem d_RM_symbol_53 : decode b_RM_symbol 53 = .ok (.ifCond .ne 17, 3) := by decide +kernel
theorem d_RM_symbol_56 : decode b_RM_symbol 56 = .ok (.aload_n 0, 1) := by decide +kernel
theorem d_RM_symbol_57 : decode b_RM_symbol 57 = .ok (.getfield 23, 3) := by decide +kernel
theorem d_RM_symbol_60 : decode b_RM_symbol 60 = .ok (.bipush 8, 2) := by decide +kernel
theorem d_RM_symbol_62 : decode b_RM_symbol 62 = .ok (.iload_n 1, 1) := by decide +kernel
theorem d_RM_symbol_63 : decode b_RM_symbol 63 = .ok (.imul, 1) := by decide +kernel
theorem d_RM_symbol_64 : decode b_RM_symbol 64 = .ok (.iload_n 2, 1) := by decide +kernel
theorem d_RM_symbol_65 : decode b_RM_symbol 65 = .ok (.iadd, 1) := by decide +kernel
theorem d_RM_symbol_66 : decode b_RM_symbol 66 = .ok (.iaload, 1) := by decide +kernel
theorem d_RM_symbol_67 : decode b_RM_symbol 67 = .ok (.goto 14, 3) := by decide +kernel
theorem d_RM_symbol_70 : decode b_RM_symbol 70 = .ok (.aload_n 0, 1) := by decide +kernel
theorem d_RM_symbol_71 : decode b_RM_symbol 71 = .ok (.getfield 42, 3) := by decide +kernel
theorem d_RM_symbol_74 : decode b_RM_symbol 74 = .ok (.bipush 8, 2) := by decide +kernel
theorem d_RM_symbol_76 : decode b_RM_symbol 76 = .ok (.iload_n 1, 1) := by decide +kernel
theorem d_RM_symbol_77 : decode b_RM_symbol 77 = .ok (.imul, 1) := by decide +kernel
theorem d_RM_symbol_78 : decode b_RM_symbol 78 = .ok (.iload_n 2, 1) := by decide +kernel
theorem d_RM_symbol_79 : decode b_RM_symbol 79 = .ok (.iadd, 1) := by decide +kernel
theorem d_RM_symbol_80 : decode b_RM_symbol 80 = .ok (.iaload, 1) := by decide +kernel
theorem d_RM_symbol_81 : decode b_RM_symbol 81 = .ok (.ireturn, 1) := by decide +kernel
def rm_RM_symbol : Room := { frames := 2, cells := 0, slots := 0, locals := 50 }
theorem mf_RM_symbol : zMV y_RM_symbol b_RM_symbol 4 (some .int) 3 := ⟨q1198, q1199, q13, q1200, by decide +kernel⟩
def B_RM_symbol_36 (K : Int → zH → Prop)  (p0 : Nat) (x1 : Int) (x2 : Int) (x3 : Int) (w0 : Nat) (u1 : Int) (h : zH) : Prop :=
  M_RM_refused w0 u1 h (fun r_2 h_1 => (r_2 = 0 → (M_RM_layTables p0 (p0 + 3) h_1 (fun h_3 => (x3 ≠ 0 → (zr (8 * x1) ∧ (zr ((8 * x1) + x2) ∧ ((0 ≤ (8 * x1) + x2 ∧ (8 * x1) + x2 < 24) ∧ (K (h_3 (p0 + 9) (((8 * x1) + x2).toNat)) h_3))))) ∧ (x3 = 0 → (zr (8 * x1) ∧ (zr ((8 * x1) + x2) ∧ ((0 ≤ (8 * x1) + x2 ∧ (8 * x1) + x2 < 193) ∧ (K (h_3 (p0 + 3) (((8 * x1) + x2).toNat)) h_3)))))))) ∧ (r_2 ≠ 0 → (K 0 h_1)))
set_option maxRecDepth 100000 in
theorem s_RM_symbol_36 {Wf : Heap → List Loc → JFrame → Prop} {m : MethodId} {g : zG} {n : Nat} {H0 : Heap} (X : zX Wf m rm_RM_symbol b_RM_symbol "AliasStreamsModel" 4 g n H0) {K : Int → zH → Prop} (E : zEx Wf m b_RM_symbol (some .int) 4 g n H0 (zPi K))  {p0 : Nat} {x1 : Int} {x2 : Int} {x3 : Int}  (op0 : zO n p0 11) (rx1 : zr x1) (rx2 : zr x2) (rx3 : zr x3) {w0 : Nat} {u1 : Int} (ow0 : zO n w0 11) (ru1 : zr u1) {h : zH} (hh : zh h) (hv : B_RM_symbol_36 K  p0 x1 x2 x3 w0 u1 h) : zW Wf m 4 g n H0 36 [(0, .ref (g.2.2 p0)), (1, zi x1), (2, zi x2), (3, zi x3)] [zi u1, .ref (g.2.2 w0)] h := by
  unfold B_RM_symbol_36 at hv
  refine z_callVi (pc := 36) (As := [zi u1]) (rest := []) X (fun l hl => c_RM_refused hl ow0 ru1 hh hv) cf_RM ow0 rfl mf_RM_refused q1130 ⟨⟨by decide, by decide⟩, rfl, rfl⟩ rfl d_RM_symbol_36 rfl (Nat.le_of_ble_eq_true rfl) (fun r_2 h_1 rr_2 zh_1 hv => ?_)
  refine z_if_eq (pc := 39) (tgt := 44) X rr_2 d_RM_symbol_39 (by decide) (fun hc => ?_) (fun hc => ?_)
  · replace hv := hv.1 hc
    refine z_aload_n (pc := 44) (q := 0) X d_RM_symbol_44 rfl ?_
    refine z_aload_n (pc := 45) (q := 0) X d_RM_symbol_45 rfl ?_
    refine z_getr (pc := 46) (j := 9) (dd := 3) X cf_RM op0 (by decide) q1030 rfl rfl d_RM_symbol_46 ?_
    refine z_callVv (pc := 49) (As := [.ref (g.2.2 (p0 + 3))]) (rest := []) X (fun l hl => c_RM_layTables hl op0 (gf_RM_9 op0) zh_1 hv) cf_RM op0 rfl mf_RM_layTables q1181 ⟨⟨by decide, by decide⟩, rfl, rfl⟩ rfl d_RM_symbol_49 rfl (Nat.le_of_ble_eq_true rfl) (fun h_3 zh_3 hv => ?_)
    refine z_iload_n (pc := 52) (q := 3) X d_RM_symbol_52 rfl ?_
    refine z_if_ne (pc := 53) (tgt := 70) X rx3 d_RM_symbol_53 (by decide) (fun hc => ?_) (fun hc => ?_)
    · replace hv := hv.1 hc
      refine z_aload_n (pc := 70) (q := 0) X d_RM_symbol_70 rfl ?_
      refine z_getr (pc := 71) (j := 16) (dd := 9) X cf_RM op0 (by decide) q1037 rfl rfl d_RM_symbol_71 ?_
      refine z_bipush (pc := 74) X d_RM_symbol_74 (by decide) ?_
      refine z_iload_n (pc := 76) (q := 1) X d_RM_symbol_76 rfl ?_
      obtain ⟨v_5, hv⟩ := hv
      refine z_imul (pc := 77) X d_RM_symbol_77 ?_
      refine z_iload_n (pc := 78) (q := 2) X d_RM_symbol_78 rfl ?_
      obtain ⟨v_6, hv⟩ := hv
      refine z_iadd (pc := 79) X d_RM_symbol_79 ?_
      obtain ⟨v_7, hv⟩ := hv
      refine z_ialdj (pc := 80) (j := ((8 * x1) + x2).toNat) X (gf_RM_16 op0) (gl_RM_16 op0) v_6 v_7 rfl d_RM_symbol_80 ?_
      exact E.2.1 rfl _ _ _ _ d_RM_symbol_81 ⟨_, rfl, (zh_3.1 _ _ (zO.ne (gf_RM_16 op0) (by decide))), zh_3, hv⟩
    · replace hv := hv.2 hc
      refine z_aload_n (pc := 56) (q := 0) X d_RM_symbol_56 rfl ?_
      refine z_getr (pc := 57) (j := 9) (dd := 3) X cf_RM op0 (by decide) q1030 rfl rfl d_RM_symbol_57 ?_
      refine z_bipush (pc := 60) X d_RM_symbol_60 (by decide) ?_
      refine z_iload_n (pc := 62) (q := 1) X d_RM_symbol_62 rfl ?_
      obtain ⟨v_8, hv⟩ := hv
      refine z_imul (pc := 63) X d_RM_symbol_63 ?_
      refine z_iload_n (pc := 64) (q := 2) X d_RM_symbol_64 rfl ?_
      obtain ⟨v_9, hv⟩ := hv
      refine z_iadd (pc := 65) X d_RM_symbol_65 ?_
      obtain ⟨v_10, hv⟩ := hv
      refine z_ialdj (pc := 66) (j := ((8 * x1) + x2).toNat) X (gf_RM_9 op0) (gl_RM_9 op0) v_9 v_10 rfl d_RM_symbol_66 ?_
      refine z_goto (pc := 67) (tgt := 81) X d_RM_symbol_67 (by decide) ?_
      exact E.2.1 rfl _ _ _ _ d_RM_symbol_81 ⟨_, rfl, (zh_3.1 _ _ (zO.ne (gf_RM_9 op0) (by decide))), zh_3, hv⟩
  · replace hv := hv.2 hc
    refine z_iconst (pc := 42) X d_RM_symbol_42 ?_
    exact E.2.1 rfl _ _ _ _ d_RM_symbol_43 ⟨_, rfl, (show zr 0 from by decide), zh_1, hv⟩
def B_RM_symbol_17 (K : Int → zH → Prop)  (p0 : Nat) (x1 : Int) (x2 : Int) (x3 : Int) (w0 : Nat) (h : zH) : Prop :=
  B_RM_symbol_36 K  p0 x1 x2 x3 w0 1 h
set_option maxRecDepth 100000 in
theorem s_RM_symbol_17 {Wf : Heap → List Loc → JFrame → Prop} {m : MethodId} {g : zG} {n : Nat} {H0 : Heap} (X : zX Wf m rm_RM_symbol b_RM_symbol "AliasStreamsModel" 4 g n H0) {K : Int → zH → Prop} (E : zEx Wf m b_RM_symbol (some .int) 4 g n H0 (zPi K))  {p0 : Nat} {x1 : Int} {x2 : Int} {x3 : Int}  (op0 : zO n p0 11) (rx1 : zr x1) (rx2 : zr x2) (rx3 : zr x3) {w0 : Nat} (ow0 : zO n w0 11) {h : zH} (hh : zh h) (hv : B_RM_symbol_17 K  p0 x1 x2 x3 w0 h) : zW Wf m 4 g n H0 17 [(0, .ref (g.2.2 p0)), (1, zi x1), (2, zi x2), (3, zi x3)] [.ref (g.2.2 w0)] h := by
  unfold B_RM_symbol_17 at hv
  refine z_iconst (pc := 17) X d_RM_symbol_17 ?_
  refine z_goto (pc := 18) (tgt := 36) X d_RM_symbol_18 (by decide) ?_
  exact s_RM_symbol_36 X E  op0 rx1 rx2 rx3 ow0 (show zr 1 from by decide) hh hv
def M_RM_symbol (p0 : Nat) (x1 : Int) (x2 : Int) (x3 : Int) (h : zH) (K : Int → zH → Prop) : Prop :=
  M_RM_isModel p0 x1 h (fun r_2 h_1 => (r_2 = 0 → (B_RM_symbol_17 K  p0 x1 x2 x3 p0 h_1)) ∧ (r_2 ≠ 0 → (M_RM_isSymbol p0 x2 h_1 (fun r_4 h_3 => (r_4 ≠ 0 → (M_RM_in x3 0 1 h_3 (fun r_6 h_5 => (r_6 ≠ 0 → (B_RM_symbol_36 K  p0 x1 x2 x3 p0 0 h_5)) ∧ (r_6 = 0 → (B_RM_symbol_36 K  p0 x1 x2 x3 p0 2 h_5))))) ∧ (r_4 = 0 → (B_RM_symbol_17 K  p0 x1 x2 x3 p0 h_3))))))
set_option maxRecDepth 100000 in
theorem c_RM_symbol {l : Launch} (hfl : l.flags = flags0) {g : zG} {n : Nat} {p0 : Nat} {x1 : Int} {x2 : Int} {x3 : Int} (op0 : zO n p0 11) (rx1 : zr x1) (rx2 : zr x2) (rx3 : zr x3) {h : zH} (hh : zh h) {K : Int → zH → Prop} (hv : M_RM_symbol p0 x1 x2 x3 h K) : zMet l y_RM_symbol b_RM_symbol 4 (some .int) rm_RM_symbol g n [.ref (g.2.2 p0), zi x1, zi x2, zi x3] h (zPi K) := by
  refine zMet_of (own := "AliasStreamsModel") hfl (by decide) rfl (Nat.le_of_ble_eq_true rfl) (fun Wf m H0 X E => ?_)
  unfold M_RM_symbol at hv
  show zW Wf m 4 g n H0 0 [(0, .ref (g.2.2 p0)), (1, zi x1), (2, zi x2), (3, zi x3)] [] h
  refine z_aload_n (pc := 0) (q := 0) X d_RM_symbol_0 rfl ?_
  refine z_aload_n (pc := 1) (q := 0) X d_RM_symbol_1 rfl ?_
  refine z_iload_n (pc := 2) (q := 1) X d_RM_symbol_2 rfl ?_
  refine z_callVi (pc := 3) (As := [zi x1]) (rest := [.ref (g.2.2 p0)]) X (fun l hl => c_RM_isModel hl op0 rx1 hh hv) cf_RM op0 rfl mf_RM_isModel q1201 ⟨⟨by decide, by decide⟩, rfl, rfl⟩ rfl d_RM_symbol_3 rfl (Nat.le_of_ble_eq_true rfl) (fun r_2 h_1 rr_2 zh_1 hv => ?_)
  refine z_if_eq (pc := 6) (tgt := 17) X rr_2 d_RM_symbol_6 (by decide) (fun hc => ?_) (fun hc => ?_)
  · replace hv := hv.1 hc
    exact s_RM_symbol_17 X E  op0 rx1 rx2 rx3 op0 zh_1 hv
  · replace hv := hv.2 hc
    refine z_aload_n (pc := 9) (q := 0) X d_RM_symbol_9 rfl ?_
    refine z_iload_n (pc := 10) (q := 2) X d_RM_symbol_10 rfl ?_
    refine z_callVi (pc := 11) (As := [zi x2]) (rest := [.ref (g.2.2 p0)]) X (fun l hl => c_RM_isSymbol hl op0 rx2 zh_1 hv) cf_RM op0 rfl mf_RM_isSymbol q1205 ⟨⟨by decide, by decide⟩, rfl, rfl⟩ rfl d_RM_symbol_11 rfl (Nat.le_of_ble_eq_true rfl) (fun r_4 h_3 rr_4 zh_3 hv => ?_)
    refine z_if_ne (pc := 14) (tgt := 21) X rr_4 d_RM_symbol_14 (by decide) (fun hc => ?_) (fun hc => ?_)
    · replace hv := hv.1 hc
      refine z_iload_n (pc := 21) (q := 3) X d_RM_symbol_21 rfl ?_
      refine z_i2l (pc := 22) X rx3 d_RM_symbol_22 ?_
      refine z_lconst (pc := 23) (x := 0) X d_RM_symbol_23 (by decide) ?_
      refine z_lconst (pc := 24) (x := 1) X d_RM_symbol_24 (by decide) ?_
      refine z_callSi (pc := 25) (As := [zj x3, zj 0, zj 1]) (rest := [.ref (g.2.2 p0)]) X (fun l hl => c_RM_in hl (zr_l rx3) (show zrl 0 from by decide) (show zrl 1 from by decide) zh_3 hv) mf_RM_in q1127 ⟨⟨by decide, by decide⟩, rfl, rfl⟩ rfl d_RM_symbol_25 rfl (Nat.le_of_ble_eq_true rfl) (fun r_6 h_5 rr_6 zh_5 hv => ?_)
      refine z_if_ne (pc := 28) (tgt := 35) X rr_6 d_RM_symbol_28 (by decide) (fun hc => ?_) (fun hc => ?_)
      · replace hv := hv.1 hc
        refine z_iconst (pc := 35) X d_RM_symbol_35 ?_
        exact s_RM_symbol_36 X E  op0 rx1 rx2 rx3 op0 (show zr 0 from by decide) zh_5 hv
      · replace hv := hv.2 hc
        refine z_iconst (pc := 31) X d_RM_symbol_31 ?_
        refine z_goto (pc := 32) (tgt := 36) X d_RM_symbol_32 (by decide) ?_
        exact s_RM_symbol_36 X E  op0 rx1 rx2 rx3 op0 (show zr 2 from by decide) zh_5 hv
    · replace hv := hv.2 hc
      exact s_RM_symbol_17 X E  op0 rx1 rx2 rx3 op0 zh_3 hv
theorem d_RM_bucket_0 : decode b_RM_bucket 0 = .ok (.aload_n 0, 1) := by decide +kernel
theorem d_RM_bucket_1 : decode b_RM_bucket 1 = .ok (.aload_n 0, 1) := by decide +kernel
theorem d_RM_bucket_2 : decode b_RM_bucket 2 = .ok (.iload_n 1, 1) := by decide +kernel
theorem d_RM_bucket_3 : decode b_RM_bucket 3 = .ok (.invokevirtual 167, 3) := by decide +kernel
theorem d_RM_bucket_6 : decode b_RM_bucket 6 = .ok (.ifCond .eq 15, 3) := by decide +kernel
theorem d_RM_bucket_9 : decode b_RM_bucket 9 = .ok (.iload_n 2, 1) := by decide +kernel
theorem d_RM_bucket_10 : decode b_RM_bucket 10 = .ok (.i2l, 1) := by decide +kernel
theorem d_RM_bucket_11 : decode b_RM_bucket 11 = .ok (.lconst 0, 1) := by decide +kernel
theorem d_RM_bucket_12 : decode b_RM_bucket 12 = .ok (.ldc2_w 173, 3) := by decide +kernel
theorem d_RM_bucket_15 : decode b_RM_bucket 15 = .ok (.invokestatic 87, 3) := by decide +kernel
theorem d_RM_bucket_18 : decode b_RM_bucket 18 = .ok (.ifCond .ne 7, 3) := by decide +kernel
theorem d_RM_bucket_21 : decode b_RM_bucket 21 = .ok (.iconst 1, 1) := by decide +kernel
theorem d_RM_bucket_22 : decode b_RM_bucket 22 = .ok (.goto 18, 3) := by decide +kernel
theorem d_RM_bucket_25 : decode b_RM_bucket 25 = .ok (.iload_n 3, 1) := by decide +kernel
theorem d_RM_bucket_26 : decode b_RM_bucket 26 = .ok (.i2l, 1) := by decide +kernel
theorem d_RM_bucket_27 : decode b_RM_bucket 27 = .ok (.lconst 0, 1) := by decide +kernel
theorem d_RM_bucket_28 : decode b_RM_bucket 28 = .ok (.lconst 1, 1) := by decide +kernel
theorem d_RM_bucket_29 : decode b_RM_bucket 29 = .ok (.invokestatic 87, 3) := by decide +kernel
theorem d_RM_bucket_32 : decode b_RM_bucket 32 = .ok (.ifCond .ne 7, 3) := by decide +kernel
theorem d_RM_bucket_35 : decode b_RM_bucket 35 = .ok (.iconst 2, 1) := by decide +kernel
theorem d_RM_bucket_36 : decode b_RM_bucket 36 = .ok (.goto 4, 3) := by decide +kernel
theorem d_RM_bucket_39 : decode b_RM_bucket 39 = .ok (.iconst 0, 1) := by decide +kernel
theorem d_RM_bucket_40 : decode b_RM_bucket 40 = .ok (.invokevirtual 114, 3) := by decide +kernel
theorem d_RM_bucket_43 : decode b_RM_bucket 43 = .ok (.ifCond .eq 5, 3) := by decide +kernel
theorem d_RM_bucket_46 : decode b_RM_bucket 46 = .ok (.iconst 0, 1) := by decide +kernel
theorem d_RM_bucket_47 : decode b_RM_bucket 47 = .ok (.ireturn, 1) := by decide +kernel
theorem d_RM_bucket_48 : decode b_RM_bucket 48 = .ok (.aload_n 0, 1) := by decide +kernel
theorem d_RM_bucket_49 : decode b_RM_bucket 49 = .ok (.aload_n 0, 1) := by decide +kernel
theorem d_RM_bucket_50 : decode b_RM_bucket 50 = .ok (.getfield 23, 3) := by decide +kernel
theorem d_RM_bucket_53 : decode b_RM_bucket 53 = .ok (.invokevirtual 164, 3) := by decide +kernel
theorem d_RM_bucket_56 : decode b_RM_bucket 56 = .ok (.iload_n 3, 1) := by decide +kernel
theorem d_RM_bucket_57 : decode b_RM_bucket 57 = .ok (.ifCond .ne 17, 3) := by decide +kernel
theorem d_RM_bucket_60 : decode b_RM_bucket 60 = .ok (.aload_n 0, 1) := by decide +kernel
theorem d_RM_bucket_61 : decode b_RM_bucket 61 = .ok (.getfield 45, 3) := by decide +kernel
theorem d_RM_bucket_64 : decode b_RM_bucket 64 = .ok (.bipush 8, 2) := by decide +kernel
theorem d_RM_bucket_66 : decode b_RM_bucket 66 = .ok (.iload_n 1, 1) := by decide +kernel
theorem d_RM_bucket_67 : decode b_RM_bucket 67 = .ok (.imul, 1) := by decide +kernel
theorem d_RM_bucket_68 : decode b_RM_bucket 68 = .ok (.iload_n 2, 1) := by decide +kernel
theorem d_RM_bucket_69 : decode b_RM_bucket 69 = .ok (.iadd, 1) := by decide +kernel
theorem d_RM_bucket_70 : decode b_RM_bucket 70 = .ok (.iaload, 1) := by decide +kernel
theorem d_RM_bucket_71 : decode b_RM_bucket 71 = .ok (.goto 14, 3) := by decide +kernel
theorem d_RM_bucket_74 : decode b_RM_bucket 74 = .ok (.aload_n 0, 1) := by decide +kernel
theorem d_RM_bucket_75 : decode b_RM_bucket 75 = .ok (.getfield 48, 3) := by decide +kernel
theorem d_RM_bucket_78 : decode b_RM_bucket 78 = .ok (.bipush 8, 2) := by decide +kernel
theorem d_RM_bucket_80 : decode b_RM_bucket 80 = .ok (.iload_n 1, 1) := by decide +kernel
theorem d_RM_bucket_81 : decode b_RM_bucket 81 = .ok (.imul, 1) := by decide +kernel
theorem d_RM_bucket_82 : decode b_RM_bucket 82 = .ok (.iload_n 2, 1) := by decide +kernel
theorem d_RM_bucket_83 : decode b_RM_bucket 83 = .ok (.iadd, 1) := by decide +kernel
theorem d_RM_bucket_84 : decode b_RM_bucket 84 = .ok (.iaload, 1) := by decide +kernel
theorem d_RM_bucket_85 : decode b_RM_bucket 85 = .ok (.ireturn, 1) := by decide +kernel
def rm_RM_bucket : Room := { frames := 2, cells := 0, slots := 0, locals := 50 }
theorem mf_RM_bucket : zMV y_RM_bucket b_RM_bucket 4 (some .int) 3 := ⟨q1210, q1211, q13, q1212, by decide +kernel⟩
def B_RM_bucket_40 (K : Int → zH → Prop)  (p0 : Nat) (x1 : Int) (x2 : Int) (x3 : Int) (w0 : Nat) (u1 : Int) (h : zH) : Prop :=
  M_RM_refused w0 u1 h (fun r_2 h_1 => (r_2 = 0 → (M_RM_layTables p0 (p0 + 3) h_1 (fun h_3 => (x3 ≠ 0 → (zr (8 * x1) ∧ (zr ((8 * x1) + x2) ∧ ((0 ≤ (8 * x1) + x2 ∧ (8 * x1) + x2 < 24) ∧ (K (h_3 (p0 + 11) (((8 * x1) + x2).toNat)) h_3))))) ∧ (x3 = 0 → (zr (8 * x1) ∧ (zr ((8 * x1) + x2) ∧ ((0 ≤ (8 * x1) + x2 ∧ (8 * x1) + x2 < 24) ∧ (K (h_3 (p0 + 10) (((8 * x1) + x2).toNat)) h_3)))))))) ∧ (r_2 ≠ 0 → (K 0 h_1)))
set_option maxRecDepth 100000 in
theorem s_RM_bucket_40 {Wf : Heap → List Loc → JFrame → Prop} {m : MethodId} {g : zG} {n : Nat} {H0 : Heap} (X : zX Wf m rm_RM_bucket b_RM_bucket "AliasStreamsModel" 4 g n H0) {K : Int → zH → Prop} (E : zEx Wf m b_RM_bucket (some .int) 4 g n H0 (zPi K))  {p0 : Nat} {x1 : Int} {x2 : Int} {x3 : Int}  (op0 : zO n p0 11) (rx1 : zr x1) (rx2 : zr x2) (rx3 : zr x3) {w0 : Nat} {u1 : Int} (ow0 : zO n w0 11) (ru1 : zr u1) {h : zH} (hh : zh h) (hv : B_RM_bucket_40 K  p0 x1 x2 x3 w0 u1 h) : zW Wf m 4 g n H0 40 [(0, .ref (g.2.2 p0)), (1, zi x1), (2, zi x2), (3, zi x3)] [zi u1, .ref (g.2.2 w0)] h := by
  unfold B_RM_bucket_40 at hv
  refine z_callVi (pc := 40) (As := [zi u1]) (rest := []) X (fun l hl => c_RM_refused hl ow0 ru1 hh hv) cf_RM ow0 rfl mf_RM_refused q1130 ⟨⟨by decide, by decide⟩, rfl, rfl⟩ rfl d_RM_bucket_40 rfl (Nat.le_of_ble_eq_true rfl) (fun r_2 h_1 rr_2 zh_1 hv => ?_)
  refine z_if_eq (pc := 43) (tgt := 48) X rr_2 d_RM_bucket_43 (by decide) (fun hc => ?_) (fun hc => ?_)
  · replace hv := hv.1 hc
    refine z_aload_n (pc := 48) (q := 0) X d_RM_bucket_48 rfl ?_
    refine z_aload_n (pc := 49) (q := 0) X d_RM_bucket_49 rfl ?_
    refine z_getr (pc := 50) (j := 9) (dd := 3) X cf_RM op0 (by decide) q1030 rfl rfl d_RM_bucket_50 ?_
    refine z_callVv (pc := 53) (As := [.ref (g.2.2 (p0 + 3))]) (rest := []) X (fun l hl => c_RM_layTables hl op0 (gf_RM_9 op0) zh_1 hv) cf_RM op0 rfl mf_RM_layTables q1181 ⟨⟨by decide, by decide⟩, rfl, rfl⟩ rfl d_RM_bucket_53 rfl (Nat.le_of_ble_eq_true rfl) (fun h_3 zh_3 hv => ?_)
    refine z_iload_n (pc := 56) (q := 3) X d_RM_bucket_56 rfl ?_
    refine z_if_ne (pc := 57) (tgt := 74) X rx3 d_RM_bucket_57 (by decide) (fun hc => ?_) (fun hc => ?_)
    · replace hv := hv.1 hc
      refine z_aload_n (pc := 74) (q := 0) X d_RM_bucket_74 rfl ?_
      refine z_getr (pc := 75) (j := 18) (dd := 11) X cf_RM op0 (by decide) q1039 rfl rfl d_RM_bucket_75 ?_
      refine z_bipush (pc := 78) X d_RM_bucket_78 (by decide) ?_
      refine z_iload_n (pc := 80) (q := 1) X d_RM_bucket_80 rfl ?_
      obtain ⟨v_5, hv⟩ := hv
      refine z_imul (pc := 81) X d_RM_bucket_81 ?_
      refine z_iload_n (pc := 82) (q := 2) X d_RM_bucket_82 rfl ?_
      obtain ⟨v_6, hv⟩ := hv
      refine z_iadd (pc := 83) X d_RM_bucket_83 ?_
      obtain ⟨v_7, hv⟩ := hv
      refine z_ialdj (pc := 84) (j := ((8 * x1) + x2).toNat) X (gf_RM_18 op0) (gl_RM_18 op0) v_6 v_7 rfl d_RM_bucket_84 ?_
      exact E.2.1 rfl _ _ _ _ d_RM_bucket_85 ⟨_, rfl, (zh_3.1 _ _ (zO.ne (gf_RM_18 op0) (by decide))), zh_3, hv⟩
    · replace hv := hv.2 hc
      refine z_aload_n (pc := 60) (q := 0) X d_RM_bucket_60 rfl ?_
      refine z_getr (pc := 61) (j := 17) (dd := 10) X cf_RM op0 (by decide) q1038 rfl rfl d_RM_bucket_61 ?_
      refine z_bipush (pc := 64) X d_RM_bucket_64 (by decide) ?_
      refine z_iload_n (pc := 66) (q := 1) X d_RM_bucket_66 rfl ?_
      obtain ⟨v_8, hv⟩ := hv
      refine z_imul (pc := 67) X d_RM_bucket_67 ?_
      refine z_iload_n (pc := 68) (q := 2) X d_RM_bucket_68 rfl ?_
      obtain ⟨v_9, hv⟩ := hv
      refine z_iadd (pc := 69) X d_RM_bucket_69 ?_
      obtain ⟨v_10, hv⟩ := hv
      refine z_ialdj (pc := 70) (j := ((8 * x1) + x2).toNat) X (gf_RM_17 op0) (gl_RM_17 op0) v_9 v_10 rfl d_RM_bucket_70 ?_
      refine z_goto (pc := 71) (tgt := 85) X d_RM_bucket_71 (by decide) ?_
      exact E.2.1 rfl _ _ _ _ d_RM_bucket_85 ⟨_, rfl, (zh_3.1 _ _ (zO.ne (gf_RM_17 op0) (by decide))), zh_3, hv⟩
  · replace hv := hv.2 hc
    refine z_iconst (pc := 46) X d_RM_bucket_46 ?_
    exact E.2.1 rfl _ _ _ _ d_RM_bucket_47 ⟨_, rfl, (show zr 0 from by decide), zh_1, hv⟩
def B_RM_bucket_21 (K : Int → zH → Prop)  (p0 : Nat) (x1 : Int) (x2 : Int) (x3 : Int) (w0 : Nat) (h : zH) : Prop :=
  B_RM_bucket_40 K  p0 x1 x2 x3 w0 1 h
set_option maxRecDepth 100000 in
theorem s_RM_bucket_21 {Wf : Heap → List Loc → JFrame → Prop} {m : MethodId} {g : zG} {n : Nat} {H0 : Heap} (X : zX Wf m rm_RM_bucket b_RM_bucket "AliasStreamsModel" 4 g n H0) {K : Int → zH → Prop} (E : zEx Wf m b_RM_bucket (some .int) 4 g n H0 (zPi K))  {p0 : Nat} {x1 : Int} {x2 : Int} {x3 : Int}  (op0 : zO n p0 11) (rx1 : zr x1) (rx2 : zr x2) (rx3 : zr x3) {w0 : Nat} (ow0 : zO n w0 11) {h : zH} (hh : zh h) (hv : B_RM_bucket_21 K  p0 x1 x2 x3 w0 h) : zW Wf m 4 g n H0 21 [(0, .ref (g.2.2 p0)), (1, zi x1), (2, zi x2), (3, zi x3)] [.ref (g.2.2 w0)] h := by
  unfold B_RM_bucket_21 at hv
  refine z_iconst (pc := 21) X d_RM_bucket_21 ?_
  refine z_goto (pc := 22) (tgt := 40) X d_RM_bucket_22 (by decide) ?_
  exact s_RM_bucket_40 X E  op0 rx1 rx2 rx3 ow0 (show zr 1 from by decide) hh hv
def M_RM_bucket (p0 : Nat) (x1 : Int) (x2 : Int) (x3 : Int) (h : zH) (K : Int → zH → Prop) : Prop :=
  M_RM_isModel p0 x1 h (fun r_2 h_1 => (r_2 = 0 → (B_RM_bucket_21 K  p0 x1 x2 x3 p0 h_1)) ∧ (r_2 ≠ 0 → (M_RM_in x2 0 7 h_1 (fun r_4 h_3 => (r_4 ≠ 0 → (M_RM_in x3 0 1 h_3 (fun r_6 h_5 => (r_6 ≠ 0 → (B_RM_bucket_40 K  p0 x1 x2 x3 p0 0 h_5)) ∧ (r_6 = 0 → (B_RM_bucket_40 K  p0 x1 x2 x3 p0 2 h_5))))) ∧ (r_4 = 0 → (B_RM_bucket_21 K  p0 x1 x2 x3 p0 h_3))))))
set_option maxRecDepth 100000 in
theorem c_RM_bucket {l : Launch} (hfl : l.flags = flags0) {g : zG} {n : Nat} {p0 : Nat} {x1 : Int} {x2 : Int} {x3 : Int} (op0 : zO n p0 11) (rx1 : zr x1) (rx2 : zr x2) (rx3 : zr x3) {h : zH} (hh : zh h) {K : Int → zH → Prop} (hv : M_RM_bucket p0 x1 x2 x3 h K) : zMet l y_RM_bucket b_RM_bucket 4 (some .int) rm_RM_bucket g n [.ref (g.2.2 p0), zi x1, zi x2, zi x3] h (zPi K) := by
  refine zMet_of (own := "AliasStreamsModel") hfl (by decide) rfl (Nat.le_of_ble_eq_true rfl) (fun Wf m H0 X E => ?_)
  unfold M_RM_bucket at hv
  show zW Wf m 4 g n H0 0 [(0, .ref (g.2.2 p0)), (1, zi x1), (2, zi x2), (3, zi x3)] [] h
  refine z_aload_n (pc := 0) (q := 0) X d_RM_bucket_0 rfl ?_
  refine z_aload_n (pc := 1) (q := 0) X d_RM_bucket_1 rfl ?_
  refine z_iload_n (pc := 2) (q := 1) X d_RM_bucket_2 rfl ?_
  refine z_callVi (pc := 3) (As := [zi x1]) (rest := [.ref (g.2.2 p0)]) X (fun l hl => c_RM_isModel hl op0 rx1 hh hv) cf_RM op0 rfl mf_RM_isModel q1201 ⟨⟨by decide, by decide⟩, rfl, rfl⟩ rfl d_RM_bucket_3 rfl (Nat.le_of_ble_eq_true rfl) (fun r_2 h_1 rr_2 zh_1 hv => ?_)
  refine z_if_eq (pc := 6) (tgt := 21) X rr_2 d_RM_bucket_6 (by decide) (fun hc => ?_) (fun hc => ?_)
  · replace hv := hv.1 hc
    exact s_RM_bucket_21 X E  op0 rx1 rx2 rx3 op0 zh_1 hv
  · replace hv := hv.2 hc
    refine z_iload_n (pc := 9) (q := 2) X d_RM_bucket_9 rfl ?_
    refine z_i2l (pc := 10) X rx2 d_RM_bucket_10 ?_
    refine z_lconst (pc := 11) (x := 0) X d_RM_bucket_11 (by decide) ?_
    refine z_ldc2 (pc := 12) (x := 7) X d_RM_bucket_12 q1213 (by decide) ?_
    refine z_callSi (pc := 15) (As := [zj x2, zj 0, zj 7]) (rest := [.ref (g.2.2 p0)]) X (fun l hl => c_RM_in hl (zr_l rx2) (show zrl 0 from by decide) (show zrl 7 from by decide) zh_1 hv) mf_RM_in q1127 ⟨⟨by decide, by decide⟩, rfl, rfl⟩ rfl d_RM_bucket_15 rfl (Nat.le_of_ble_eq_true rfl) (fun r_4 h_3 rr_4 zh_3 hv => ?_)
    refine z_if_ne (pc := 18) (tgt := 25) X rr_4 d_RM_bucket_18 (by decide) (fun hc => ?_) (fun hc => ?_)
    · replace hv := hv.1 hc
      refine z_iload_n (pc := 25) (q := 3) X d_RM_bucket_25 rfl ?_
      refine z_i2l (pc := 26) X rx3 d_RM_bucket_26 ?_
      refine z_lconst (pc := 27) (x := 0) X d_RM_bucket_27 (by decide) ?_
      refine z_lconst (pc := 28) (x := 1) X d_RM_bucket_28 (by decide) ?_
      refine z_callSi (pc := 29) (As := [zj x3, zj 0, zj 1]) (rest := [.ref (g.2.2 p0)]) X (fun l hl => c_RM_in hl (zr_l rx3) (show zrl 0 from by decide) (show zrl 1 from by decide) zh_3 hv) mf_RM_in q1127 ⟨⟨by decide, by decide⟩, rfl, rfl⟩ rfl d_RM_bucket_29 rfl (Nat.le_of_ble_eq_true rfl) (fun r_6 h_5 rr_6 zh_5 hv => ?_)
      refine z_if_ne (pc := 32) (tgt := 39) X rr_6 d_RM_bucket_32 (by decide) (fun hc => ?_) (fun hc => ?_)
      · replace hv := hv.1 hc
        refine z_iconst (pc := 39) X d_RM_bucket_39 ?_
        exact s_RM_bucket_40 X E  op0 rx1 rx2 rx3 op0 (show zr 0 from by decide) zh_5 hv
      · replace hv := hv.2 hc
        refine z_iconst (pc := 35) X d_RM_bucket_35 ?_
        refine z_goto (pc := 36) (tgt := 40) X d_RM_bucket_36 (by decide) ?_
        exact s_RM_bucket_40 X E  op0 rx1 rx2 rx3 op0 (show zr 2 from by decide) zh_5 hv
    · replace hv := hv.2 hc
      exact s_RM_bucket_21 X E  op0 rx1 rx2 rx3 op0 zh_3 hv
theorem d_RM_slot_0 : decode b_RM_slot 0 = .ok (.aload_n 0, 1) := by decide +kernel
theorem d_RM_slot_1 : decode b_RM_slot 1 = .ok (.aload_n 0, 1) := by decide +kernel
theorem d_RM_slot_2 : decode b_RM_slot 2 = .ok (.iload_n 1, 1) := by decide +kernel
theorem d_RM_slot_3 : decode b_RM_slot 3 = .ok (.invokevirtual 167, 3) := by decide +kernel
theorem d_RM_slot_6 : decode b_RM_slot 6 = .ok (.ifCond .eq 15, 3) := by decide +kernel
theorem d_RM_slot_9 : decode b_RM_slot 9 = .ok (.iload_n 2, 1) := by decide +kernel
theorem d_RM_slot_10 : decode b_RM_slot 10 = .ok (.i2l, 1) := by decide +kernel
theorem d_RM_slot_11 : decode b_RM_slot 11 = .ok (.lconst 0, 1) := by decide +kernel
theorem d_RM_slot_12 : decode b_RM_slot 12 = .ok (.ldc2_w 175, 3) := by decide +kernel
theorem d_RM_slot_15 : decode b_RM_slot 15 = .ok (.invokestatic 87, 3) := by decide +kernel
theorem d_RM_slot_18 : decode b_RM_slot 18 = .ok (.ifCond .ne 7, 3) := by decide +kernel
theorem d_RM_slot_21 : decode b_RM_slot 21 = .ok (.iconst 1, 1) := by decide +kernel
theorem d_RM_slot_22 : decode b_RM_slot 22 = .ok (.goto 18, 3) := by decide +kernel
theorem d_RM_slot_25 : decode b_RM_slot 25 = .ok (.iload_n 3, 1) := by decide +kernel
theorem d_RM_slot_26 : decode b_RM_slot 26 = .ok (.i2l, 1) := by decide +kernel
theorem d_RM_slot_27 : decode b_RM_slot 27 = .ok (.lconst 0, 1) := by decide +kernel
theorem d_RM_slot_28 : decode b_RM_slot 28 = .ok (.lconst 1, 1) := by decide +kernel
theorem d_RM_slot_29 : decode b_RM_slot 29 = .ok (.invokestatic 87, 3) := by decide +kernel
theorem d_RM_slot_32 : decode b_RM_slot 32 = .ok (.ifCond .ne 7, 3) := by decide +kernel
theorem d_RM_slot_35 : decode b_RM_slot 35 = .ok (.iconst 2, 1) := by decide +kernel
theorem d_RM_slot_36 : decode b_RM_slot 36 = .ok (.goto 4, 3) := by decide +kernel
theorem d_RM_slot_39 : decode b_RM_slot 39 = .ok (.iconst 0, 1) := by decide +kernel
theorem d_RM_slot_40 : decode b_RM_slot 40 = .ok (.invokevirtual 114, 3) := by decide +kernel
theorem d_RM_slot_43 : decode b_RM_slot 43 = .ok (.ifCond .eq 5, 3) := by decide +kernel
theorem d_RM_slot_46 : decode b_RM_slot 46 = .ok (.iconst 0, 1) := by decide +kernel
theorem d_RM_slot_47 : decode b_RM_slot 47 = .ok (.ireturn, 1) := by decide +kernel
theorem d_RM_slot_48 : decode b_RM_slot 48 = .ok (.aload_n 0, 1) := by decide +kernel
theorem d_RM_slot_49 : decode b_RM_slot 49 = .ok (.aload_n 0, 1) := by decide +kernel
theorem d_RM_slot_50 : decode b_RM_slot 50 = .ok (.getfield 23, 3) := by decide +kernel
theorem d_RM_slot_53 : decode b_RM_slot 53 = .ok (.invokevirtual 164, 3) := by decide +kernel
theorem d_RM_slot_56 : decode b_RM_slot 56 = .ok (.iload_n 3, 1) := by decide +kernel
theorem d_RM_slot_57 : decode b_RM_slot 57 = .ok (.ifCond .ne 17, 3) := by decide +kernel
theorem d_RM_slot_60 : decode b_RM_slot 60 = .ok (.aload_n 0, 1) := by decide +kernel
theorem d_RM_slot_61 : decode b_RM_slot 61 = .ok (.getfield 51, 3) := by decide +kernel
theorem d_RM_slot_64 : decode b_RM_slot 64 = .ok (.bipush 32, 2) := by decide +kernel
theorem d_RM_slot_66 : decode b_RM_slot 66 = .ok (.iload_n 1, 1) := by decide +kernel
theorem d_RM_slot_67 : decode b_RM_slot 67 = .ok (.imul, 1) := by decide +kernel
theorem d_RM_slot_68 : decode b_RM_slot 68 = .ok (.iload_n 2, 1) := by decide +kernel
theorem d_RM_slot_69 : decode b_RM_slot 69 = .ok (.iadd, 1) := by decide +kernel
theorem d_RM_slot_70 : decode b_RM_slot 70 = .ok (.iaload, 1) := by decide +kernel
theorem d_RM_slot_71 : decode b_RM_slot 71 = .ok (.goto 14, 3) := by decide +kernel
theorem d_RM_slot_74 : decode b_RM_slot 74 = .ok (.aload_n 0, 1) := by decide +kernel
theorem d_RM_slot_75 : decode b_RM_slot 75 = .ok (.getfield 54, 3) := by decide +kernel
theorem d_RM_slot_78 : decode b_RM_slot 78 = .ok (.bipush 32, 2) := by decide +kernel
theorem d_RM_slot_80 : decode b_RM_slot 80 = .ok (.iload_n 1, 1) := by decide +kernel
theorem d_RM_slot_81 : decode b_RM_slot 81 = .ok (.imul, 1) := by decide +kernel
theorem d_RM_slot_82 : decode b_RM_slot 82 = .ok (.iload_n 2, 1) := by decide +kernel
theorem d_RM_slot_83 : decode b_RM_slot 83 = .ok (.iadd, 1) := by decide +kernel
theorem d_RM_slot_84 : decode b_RM_slot 84 = .ok (.iaload, 1) := by decide +kernel
theorem d_RM_slot_85 : decode b_RM_slot 85 = .ok (.ireturn, 1) := by decide +kernel
def rm_RM_slot : Room := { frames := 2, cells := 0, slots := 0, locals := 50 }
theorem mf_RM_slot : zMV y_RM_slot b_RM_slot 4 (some .int) 3 := ⟨q1215, q1216, q13, q1217, by decide +kernel⟩
def B_RM_slot_40 (K : Int → zH → Prop)  (p0 : Nat) (x1 : Int) (x2 : Int) (x3 : Int) (w0 : Nat) (u1 : Int) (h : zH) : Prop :=
  M_RM_refused w0 u1 h (fun r_2 h_1 => (r_2 = 0 → (M_RM_layTables p0 (p0 + 3) h_1 (fun h_3 => (x3 ≠ 0 → (zr (32 * x1) ∧ (zr ((32 * x1) + x2) ∧ ((0 ≤ (32 * x1) + x2 ∧ (32 * x1) + x2 < 96) ∧ (K (h_3 (p0 + 13) (((32 * x1) + x2).toNat)) h_3))))) ∧ (x3 = 0 → (zr (32 * x1) ∧ (zr ((32 * x1) + x2) ∧ ((0 ≤ (32 * x1) + x2 ∧ (32 * x1) + x2 < 96) ∧ (K (h_3 (p0 + 12) (((32 * x1) + x2).toNat)) h_3)))))))) ∧ (r_2 ≠ 0 → (K 0 h_1)))
set_option maxRecDepth 100000 in
theorem s_RM_slot_40 {Wf : Heap → List Loc → JFrame → Prop} {m : MethodId} {g : zG} {n : Nat} {H0 : Heap} (X : zX Wf m rm_RM_slot b_RM_slot "AliasStreamsModel" 4 g n H0) {K : Int → zH → Prop} (E : zEx Wf m b_RM_slot (some .int) 4 g n H0 (zPi K))  {p0 : Nat} {x1 : Int} {x2 : Int} {x3 : Int}  (op0 : zO n p0 11) (rx1 : zr x1) (rx2 : zr x2) (rx3 : zr x3) {w0 : Nat} {u1 : Int} (ow0 : zO n w0 11) (ru1 : zr u1) {h : zH} (hh : zh h) (hv : B_RM_slot_40 K  p0 x1 x2 x3 w0 u1 h) : zW Wf m 4 g n H0 40 [(0, .ref (g.2.2 p0)), (1, zi x1), (2, zi x2), (3, zi x3)] [zi u1, .ref (g.2.2 w0)] h := by
  unfold B_RM_slot_40 at hv
  refine z_callVi (pc := 40) (As := [zi u1]) (rest := []) X (fun l hl => c_RM_refused hl ow0 ru1 hh hv) cf_RM ow0 rfl mf_RM_refused q1130 ⟨⟨by decide, by decide⟩, rfl, rfl⟩ rfl d_RM_slot_40 rfl (Nat.le_of_ble_eq_true rfl) (fun r_2 h_1 rr_2 zh_1 hv => ?_)
  refine z_if_eq (pc := 43) (tgt := 48) X rr_2 d_RM_slot_43 (by decide) (fun hc => ?_) (fun hc => ?_)
  · replace hv := hv.1 hc
    refine z_aload_n (pc := 48) (q := 0) X d_RM_slot_48 rfl ?_
    refine z_aload_n (pc := 49) (q := 0) X d_RM_slot_49 rfl ?_
    refine z_getr (pc := 50) (j := 9) (dd := 3) X cf_RM op0 (by decide) q1030 rfl rfl d_RM_slot_50 ?_
    refine z_callVv (pc := 53) (As := [.ref (g.2.2 (p0 + 3))]) (rest := []) X (fun l hl => c_RM_layTables hl op0 (gf_RM_9 op0) zh_1 hv) cf_RM op0 rfl mf_RM_layTables q1181 ⟨⟨by decide, by decide⟩, rfl, rfl⟩ rfl d_RM_slot_53 rfl (Nat.le_of_ble_eq_true rfl) (fun h_3 zh_3 hv => ?_)
    refine z_iload_n (pc := 56) (q := 3) X d_RM_slot_56 rfl ?_
    refine z_if_ne (pc := 57) (tgt := 74) X rx3 d_RM_slot_57 (by decide) (fun hc => ?_) (fun hc => ?_)
    · replace hv := hv.1 hc
      refine z_aload_n (pc := 74) (q := 0) X d_RM_slot_74 rfl ?_
      refine z_getr (pc := 75) (j := 20) (dd := 13) X cf_RM op0 (by decide) q1041 rfl rfl d_RM_slot_75 ?_
      refine z_bipush (pc := 78) X d_RM_slot_78 (by decide) ?_
      refine z_iload_n (pc := 80) (q := 1) X d_RM_slot_80 rfl ?_
      obtain ⟨v_5, hv⟩ := hv
      refine z_imul (pc := 81) X d_RM_slot_81 ?_
      refine z_iload_n (pc := 82) (q := 2) X d_RM_slot_82 rfl ?_
      obtain ⟨v_6, hv⟩ := hv
      refine z_iadd (pc := 83) X d_RM_slot_83 ?_
      obtain ⟨v_7, hv⟩ := hv
      refine z_ialdj (pc := 84) (j := ((32 * x1) + x2).toNat) X (gf_RM_20 op0) (gl_RM_20 op0) v_6 v_7 rfl d_RM_slot_84 ?_
      exact E.2.1 rfl _ _ _ _ d_RM_slot_85 ⟨_, rfl, (zh_3.1 _ _ (zO.ne (gf_RM_20 op0) (by decide))), zh_3, hv⟩
    · replace hv := hv.2 hc
      refine z_aload_n (pc := 60) (q := 0) X d_RM_slot_60 rfl ?_
      refine z_getr (pc := 61) (j := 19) (dd := 12) X cf_RM op0 (by decide) q1040 rfl rfl d_RM_slot_61 ?_
      refine z_bipush (pc := 64) X d_RM_slot_64 (by decide) ?_
      refine z_iload_n (pc := 66) (q := 1) X d_RM_slot_66 rfl ?_
      obtain ⟨v_8, hv⟩ := hv
      refine z_imul (pc := 67) X d_RM_slot_67 ?_
      refine z_iload_n (pc := 68) (q := 2) X d_RM_slot_68 rfl ?_
      obtain ⟨v_9, hv⟩ := hv
      refine z_iadd (pc := 69) X d_RM_slot_69 ?_
      obtain ⟨v_10, hv⟩ := hv
      refine z_ialdj (pc := 70) (j := ((32 * x1) + x2).toNat) X (gf_RM_19 op0) (gl_RM_19 op0) v_9 v_10 rfl d_RM_slot_70 ?_
      refine z_goto (pc := 71) (tgt := 85) X d_RM_slot_71 (by decide) ?_
      exact E.2.1 rfl _ _ _ _ d_RM_slot_85 ⟨_, rfl, (zh_3.1 _ _ (zO.ne (gf_RM_19 op0) (by decide))), zh_3, hv⟩
  · replace hv := hv.2 hc
    refine z_iconst (pc := 46) X d_RM_slot_46 ?_
    exact E.2.1 rfl _ _ _ _ d_RM_slot_47 ⟨_, rfl, (show zr 0 from by decide), zh_1, hv⟩
def B_RM_slot_21 (K : Int → zH → Prop)  (p0 : Nat) (x1 : Int) (x2 : Int) (x3 : Int) (w0 : Nat) (h : zH) : Prop :=
  B_RM_slot_40 K  p0 x1 x2 x3 w0 1 h
set_option maxRecDepth 100000 in
theorem s_RM_slot_21 {Wf : Heap → List Loc → JFrame → Prop} {m : MethodId} {g : zG} {n : Nat} {H0 : Heap} (X : zX Wf m rm_RM_slot b_RM_slot "AliasStreamsModel" 4 g n H0) {K : Int → zH → Prop} (E : zEx Wf m b_RM_slot (some .int) 4 g n H0 (zPi K))  {p0 : Nat} {x1 : Int} {x2 : Int} {x3 : Int}  (op0 : zO n p0 11) (rx1 : zr x1) (rx2 : zr x2) (rx3 : zr x3) {w0 : Nat} (ow0 : zO n w0 11) {h : zH} (hh : zh h) (hv : B_RM_slot_21 K  p0 x1 x2 x3 w0 h) : zW Wf m 4 g n H0 21 [(0, .ref (g.2.2 p0)), (1, zi x1), (2, zi x2), (3, zi x3)] [.ref (g.2.2 w0)] h := by
  unfold B_RM_slot_21 at hv
  refine z_iconst (pc := 21) X d_RM_slot_21 ?_
  refine z_goto (pc := 22) (tgt := 40) X d_RM_slot_22 (by decide) ?_
  exact s_RM_slot_40 X E  op0 rx1 rx2 rx3 ow0 (show zr 1 from by decide) hh hv
def M_RM_slot (p0 : Nat) (x1 : Int) (x2 : Int) (x3 : Int) (h : zH) (K : Int → zH → Prop) : Prop :=
  M_RM_isModel p0 x1 h (fun r_2 h_1 => (r_2 = 0 → (B_RM_slot_21 K  p0 x1 x2 x3 p0 h_1)) ∧ (r_2 ≠ 0 → (M_RM_in x2 0 31 h_1 (fun r_4 h_3 => (r_4 ≠ 0 → (M_RM_in x3 0 1 h_3 (fun r_6 h_5 => (r_6 ≠ 0 → (B_RM_slot_40 K  p0 x1 x2 x3 p0 0 h_5)) ∧ (r_6 = 0 → (B_RM_slot_40 K  p0 x1 x2 x3 p0 2 h_5))))) ∧ (r_4 = 0 → (B_RM_slot_21 K  p0 x1 x2 x3 p0 h_3))))))
set_option maxRecDepth 100000 in
theorem c_RM_slot {l : Launch} (hfl : l.flags = flags0) {g : zG} {n : Nat} {p0 : Nat} {x1 : Int} {x2 : Int} {x3 : Int} (op0 : zO n p0 11) (rx1 : zr x1) (rx2 : zr x2) (rx3 : zr x3) {h : zH} (hh : zh h) {K : Int → zH → Prop} (hv : M_RM_slot p0 x1 x2 x3 h K) : zMet l y_RM_slot b_RM_slot 4 (some .int) rm_RM_slot g n [.ref (g.2.2 p0), zi x1, zi x2, zi x3] h (zPi K) := by
  refine zMet_of (own := "AliasStreamsModel") hfl (by decide) rfl (Nat.le_of_ble_eq_true rfl) (fun Wf m H0 X E => ?_)
  unfold M_RM_slot at hv
  show zW Wf m 4 g n H0 0 [(0, .ref (g.2.2 p0)), (1, zi x1), (2, zi x2), (3, zi x3)] [] h
  refine z_aload_n (pc := 0) (q := 0) X d_RM_slot_0 rfl ?_
  refine z_aload_n (pc := 1) (q := 0) X d_RM_slot_1 rfl ?_
  refine z_iload_n (pc := 2) (q := 1) X d_RM_slot_2 rfl ?_
  refine z_callVi (pc := 3) (As := [zi x1]) (rest := [.ref (g.2.2 p0)]) X (fun l hl => c_RM_isModel hl op0 rx1 hh hv) cf_RM op0 rfl mf_RM_isModel q1201 ⟨⟨by decide, by decide⟩, rfl, rfl⟩ rfl d_RM_slot_3 rfl (Nat.le_of_ble_eq_true rfl) (fun r_2 h_1 rr_2 zh_1 hv => ?_)
  refine z_if_eq (pc := 6) (tgt := 21) X rr_2 d_RM_slot_6 (by decide) (fun hc => ?_) (fun hc => ?_)
  · replace hv := hv.1 hc
    exact s_RM_slot_21 X E  op0 rx1 rx2 rx3 op0 zh_1 hv
  · replace hv := hv.2 hc
    refine z_iload_n (pc := 9) (q := 2) X d_RM_slot_9 rfl ?_
    refine z_i2l (pc := 10) X rx2 d_RM_slot_10 ?_
    refine z_lconst (pc := 11) (x := 0) X d_RM_slot_11 (by decide) ?_
    refine z_ldc2 (pc := 12) (x := 31) X d_RM_slot_12 q1218 (by decide) ?_
    refine z_callSi (pc := 15) (As := [zj x2, zj 0, zj 31]) (rest := [.ref (g.2.2 p0)]) X (fun l hl => c_RM_in hl (zr_l rx2) (show zrl 0 from by decide) (show zrl 31 from by decide) zh_1 hv) mf_RM_in q1127 ⟨⟨by decide, by decide⟩, rfl, rfl⟩ rfl d_RM_slot_15 rfl (Nat.le_of_ble_eq_true rfl) (fun r_4 h_3 rr_4 zh_3 hv => ?_)
    refine z_if_ne (pc := 18) (tgt := 25) X rr_4 d_RM_slot_18 (by decide) (fun hc => ?_) (fun hc => ?_)
    · replace hv := hv.1 hc
      refine z_iload_n (pc := 25) (q := 3) X d_RM_slot_25 rfl ?_
      refine z_i2l (pc := 26) X rx3 d_RM_slot_26 ?_
      refine z_lconst (pc := 27) (x := 0) X d_RM_slot_27 (by decide) ?_
      refine z_lconst (pc := 28) (x := 1) X d_RM_slot_28 (by decide) ?_
      refine z_callSi (pc := 29) (As := [zj x3, zj 0, zj 1]) (rest := [.ref (g.2.2 p0)]) X (fun l hl => c_RM_in hl (zr_l rx3) (show zrl 0 from by decide) (show zrl 1 from by decide) zh_3 hv) mf_RM_in q1127 ⟨⟨by decide, by decide⟩, rfl, rfl⟩ rfl d_RM_slot_29 rfl (Nat.le_of_ble_eq_true rfl) (fun r_6 h_5 rr_6 zh_5 hv => ?_)
      refine z_if_ne (pc := 32) (tgt := 39) X rr_6 d_RM_slot_32 (by decide) (fun hc => ?_) (fun hc => ?_)
      · replace hv := hv.1 hc
        refine z_iconst (pc := 39) X d_RM_slot_39 ?_
        exact s_RM_slot_40 X E  op0 rx1 rx2 rx3 op0 (show zr 0 from by decide) zh_5 hv
      · replace hv := hv.2 hc
        refine z_iconst (pc := 35) X d_RM_slot_35 ?_
        refine z_goto (pc := 36) (tgt := 40) X d_RM_slot_36 (by decide) ?_
        exact s_RM_slot_40 X E  op0 rx1 rx2 rx3 op0 (show zr 2 from by decide) zh_5 hv
    · replace hv := hv.2 hc
      exact s_RM_slot_21 X E  op0 rx1 rx2 rx3 op0 zh_3 hv
theorem d_RM_isItem_0 : decode b_RM_isItem 0 = .ok (.iload_n 1, 1) := by decide +kernel
theorem d_RM_isItem_1 : decode b_RM_isItem 1 = .ok (.i2l, 1) := by decide +kernel
theorem d_RM_isItem_2 : decode b_RM_isItem 2 = .ok (.lconst 0, 1) := by decide +kernel
theorem d_RM_isItem_3 : decode b_RM_isItem 3 = .ok (.aload_n 0, 1) := by decide +kernel
theorem d_RM_isItem_4 : decode b_RM_isItem 4 = .ok (.getfield 23, 3) := by decide +kernel
theorem d_RM_isItem_7 : decode b_RM_isItem 7 = .ok (.sipush 188, 3) := by decide +kernel
theorem d_RM_isItem_10 : decode b_RM_isItem 10 = .ok (.iaload, 1) := by decide +kernel
theorem d_RM_isItem_11 : decode b_RM_isItem 11 = .ok (.iconst 1, 1) := by decide +kernel
theorem d_RM_isItem_12 : decode b_RM_isItem 12 = .ok (.isub, 1) := by decide +kernel
theorem d_RM_isItem_13 : decode b_RM_isItem 13 = .ok (.i2l, 1) := by decide +kernel
theorem d_RM_isItem_14 : decode b_RM_isItem 14 = .ok (.invokestatic 87, 3) := by decide +kernel
theorem d_RM_isItem_17 : decode b_RM_isItem 17 = .ok (.ireturn, 1) := by decide +kernel
def rm_RM_isItem : Room := { frames := 1, cells := 0, slots := 0, locals := 25 }
theorem mf_RM_isItem : zMV y_RM_isItem b_RM_isItem 2 (some .boolean) 1 := ⟨q1225, qs79, q13, q1226, by decide +kernel⟩
def M_RM_isItem (p0 : Nat) (x1 : Int) (h : zH) (K : Int → zH → Prop) : Prop :=
  zr ((h (p0 + 3) 188) - 1) ∧ (M_RM_in x1 0 ((h (p0 + 3) 188) - 1) h (fun r_3 h_2 => (r_3 = 0 ∨ r_3 = 1) ∧ K r_3 h_2))
set_option maxRecDepth 100000 in
theorem c_RM_isItem {l : Launch} (hfl : l.flags = flags0) {g : zG} {n : Nat} {p0 : Nat} {x1 : Int} (op0 : zO n p0 11) (rx1 : zr x1) {h : zH} (hh : zh h) {K : Int → zH → Prop} (hv : M_RM_isItem p0 x1 h K) : zMet l y_RM_isItem b_RM_isItem 2 (some .boolean) rm_RM_isItem g n [.ref (g.2.2 p0), zi x1] h (zPi K) := by
  refine zMet_of (own := "AliasStreamsModel") hfl (by decide) rfl (Nat.le_of_ble_eq_true rfl) (fun Wf m H0 X E => ?_)
  unfold M_RM_isItem at hv
  show zW Wf m 2 g n H0 0 [(0, .ref (g.2.2 p0)), (1, zi x1)] [] h
  refine z_iload_n (pc := 0) (q := 1) X d_RM_isItem_0 rfl ?_
  refine z_i2l (pc := 1) X rx1 d_RM_isItem_1 ?_
  refine z_lconst (pc := 2) (x := 0) X d_RM_isItem_2 (by decide) ?_
  refine z_aload_n (pc := 3) (q := 0) X d_RM_isItem_3 rfl ?_
  refine z_getr (pc := 4) (j := 9) (dd := 3) X cf_RM op0 (by decide) q1030 rfl rfl d_RM_isItem_4 ?_
  refine z_sipush (pc := 7) X d_RM_isItem_7 (by decide) ?_
  refine z_ialdj (pc := 10) (j := 188) X (gf_RM_9 op0) (gl_RM_9 op0) (show zr 188 from by decide) ⟨by decide, by decide⟩ rfl d_RM_isItem_10 ?_
  refine z_iconst (pc := 11) X d_RM_isItem_11 ?_
  obtain ⟨v_1, hv⟩ := hv
  refine z_isub (pc := 12) X d_RM_isItem_12 ?_
  refine z_i2l (pc := 13) X v_1 d_RM_isItem_13 ?_
  refine z_callSi (pc := 14) (As := [zj x1, zj 0, zj ((h (p0 + 3) 188) - 1)]) (rest := []) X (fun l hl => c_RM_in hl (zr_l rx1) (show zrl 0 from by decide) (zr_l v_1) hh hv) mf_RM_in q1127 ⟨⟨by decide, by decide⟩, rfl, rfl⟩ rfl d_RM_isItem_14 rfl (Nat.le_of_ble_eq_true rfl) (fun r_3 h_2 rr_3 zh_2 hv => ?_)
  obtain ⟨v_4, hv⟩ := hv
  exact E.2.2.1 rfl _ _ _ _ v_4 d_RM_isItem_17 ⟨_, rfl, rr_3, zh_2, hv⟩
theorem d_RM_item_0 : decode b_RM_item 0 = .ok (.aload_n 0, 1) := by decide +kernel
theorem d_RM_item_1 : decode b_RM_item 1 = .ok (.aload_n 0, 1) := by decide +kernel
theorem d_RM_item_2 : decode b_RM_item 2 = .ok (.iload_n 1, 1) := by decide +kernel
theorem d_RM_item_3 : decode b_RM_item 3 = .ok (.invokevirtual 177, 3) := by decide +kernel
theorem d_RM_item_6 : decode b_RM_item 6 = .ok (.ifCond .eq 7, 3) := by decide +kernel
theorem d_RM_item_9 : decode b_RM_item 9 = .ok (.iconst 0, 1) := by decide +kernel
theorem d_RM_item_10 : decode b_RM_item 10 = .ok (.goto 4, 3) := by decide +kernel
theorem d_RM_item_13 : decode b_RM_item 13 = .ok (.iconst 1, 1) := by decide +kernel
theorem d_RM_item_14 : decode b_RM_item 14 = .ok (.invokevirtual 114, 3) := by decide +kernel
theorem d_RM_item_17 : decode b_RM_item 17 = .ok (.ifCond .eq 7, 3) := by decide +kernel
theorem d_RM_item_20 : decode b_RM_item 20 = .ok (.iconst 0, 1) := by decide +kernel
theorem d_RM_item_21 : decode b_RM_item 21 = .ok (.goto 12, 3) := by decide +kernel
theorem d_RM_item_24 : decode b_RM_item 24 = .ok (.aload_n 0, 1) := by decide +kernel
theorem d_RM_item_25 : decode b_RM_item 25 = .ok (.getfield 23, 3) := by decide +kernel
theorem d_RM_item_28 : decode b_RM_item 28 = .ok (.bipush 24, 2) := by decide +kernel
theorem d_RM_item_30 : decode b_RM_item 30 = .ok (.iload_n 1, 1) := by decide +kernel
theorem d_RM_item_31 : decode b_RM_item 31 = .ok (.iadd, 1) := by decide +kernel
theorem d_RM_item_32 : decode b_RM_item 32 = .ok (.iaload, 1) := by decide +kernel
theorem d_RM_item_33 : decode b_RM_item 33 = .ok (.ireturn, 1) := by decide +kernel
def rm_RM_item : Room := { frames := 2, cells := 0, slots := 0, locals := 46 }
theorem mf_RM_item : zMV y_RM_item b_RM_item 2 (some .int) 1 := ⟨q1220, q1221, q13, q1222, by decide +kernel⟩
def B_RM_item_14 (K : Int → zH → Prop)  (p0 : Nat) (x1 : Int) (w0 : Nat) (u1 : Int) (h : zH) : Prop :=
  M_RM_refused w0 u1 h (fun r_2 h_1 => (r_2 = 0 → (zr (24 + x1) ∧ ((0 ≤ 24 + x1 ∧ 24 + x1 < 193) ∧ (K (h_1 (p0 + 3) ((24 + x1).toNat)) h_1)))) ∧ (r_2 ≠ 0 → (K 0 h_1)))
set_option maxRecDepth 100000 in
theorem s_RM_item_14 {Wf : Heap → List Loc → JFrame → Prop} {m : MethodId} {g : zG} {n : Nat} {H0 : Heap} (X : zX Wf m rm_RM_item b_RM_item "AliasStreamsModel" 2 g n H0) {K : Int → zH → Prop} (E : zEx Wf m b_RM_item (some .int) 2 g n H0 (zPi K))  {p0 : Nat} {x1 : Int}  (op0 : zO n p0 11) (rx1 : zr x1) {w0 : Nat} {u1 : Int} (ow0 : zO n w0 11) (ru1 : zr u1) {h : zH} (hh : zh h) (hv : B_RM_item_14 K  p0 x1 w0 u1 h) : zW Wf m 2 g n H0 14 [(0, .ref (g.2.2 p0)), (1, zi x1)] [zi u1, .ref (g.2.2 w0)] h := by
  unfold B_RM_item_14 at hv
  refine z_callVi (pc := 14) (As := [zi u1]) (rest := []) X (fun l hl => c_RM_refused hl ow0 ru1 hh hv) cf_RM ow0 rfl mf_RM_refused q1130 ⟨⟨by decide, by decide⟩, rfl, rfl⟩ rfl d_RM_item_14 rfl (Nat.le_of_ble_eq_true rfl) (fun r_2 h_1 rr_2 zh_1 hv => ?_)
  refine z_if_eq (pc := 17) (tgt := 24) X rr_2 d_RM_item_17 (by decide) (fun hc => ?_) (fun hc => ?_)
  · replace hv := hv.1 hc
    refine z_aload_n (pc := 24) (q := 0) X d_RM_item_24 rfl ?_
    refine z_getr (pc := 25) (j := 9) (dd := 3) X cf_RM op0 (by decide) q1030 rfl rfl d_RM_item_25 ?_
    refine z_bipush (pc := 28) X d_RM_item_28 (by decide) ?_
    refine z_iload_n (pc := 30) (q := 1) X d_RM_item_30 rfl ?_
    obtain ⟨v_3, hv⟩ := hv
    refine z_iadd (pc := 31) X d_RM_item_31 ?_
    obtain ⟨v_4, hv⟩ := hv
    refine z_ialdj (pc := 32) (j := (24 + x1).toNat) X (gf_RM_9 op0) (gl_RM_9 op0) v_3 v_4 rfl d_RM_item_32 ?_
    exact E.2.1 rfl _ _ _ _ d_RM_item_33 ⟨_, rfl, (zh_1.1 _ _ (zO.ne (gf_RM_9 op0) (by decide))), zh_1, hv⟩
  · replace hv := hv.2 hc
    refine z_iconst (pc := 20) X d_RM_item_20 ?_
    refine z_goto (pc := 21) (tgt := 33) X d_RM_item_21 (by decide) ?_
    exact E.2.1 rfl _ _ _ _ d_RM_item_33 ⟨_, rfl, (show zr 0 from by decide), zh_1, hv⟩
def M_RM_item (p0 : Nat) (x1 : Int) (h : zH) (K : Int → zH → Prop) : Prop :=
  M_RM_isItem p0 x1 h (fun r_2 h_1 => (r_2 = 0 → (B_RM_item_14 K  p0 x1 p0 1 h_1)) ∧ (r_2 ≠ 0 → (B_RM_item_14 K  p0 x1 p0 0 h_1)))
set_option maxRecDepth 100000 in
theorem c_RM_item {l : Launch} (hfl : l.flags = flags0) {g : zG} {n : Nat} {p0 : Nat} {x1 : Int} (op0 : zO n p0 11) (rx1 : zr x1) {h : zH} (hh : zh h) {K : Int → zH → Prop} (hv : M_RM_item p0 x1 h K) : zMet l y_RM_item b_RM_item 2 (some .int) rm_RM_item g n [.ref (g.2.2 p0), zi x1] h (zPi K) := by
  refine zMet_of (own := "AliasStreamsModel") hfl (by decide) rfl (Nat.le_of_ble_eq_true rfl) (fun Wf m H0 X E => ?_)
  unfold M_RM_item at hv
  show zW Wf m 2 g n H0 0 [(0, .ref (g.2.2 p0)), (1, zi x1)] [] h
  refine z_aload_n (pc := 0) (q := 0) X d_RM_item_0 rfl ?_
  refine z_aload_n (pc := 1) (q := 0) X d_RM_item_1 rfl ?_
  refine z_iload_n (pc := 2) (q := 1) X d_RM_item_2 rfl ?_
  refine z_callVi (pc := 3) (As := [zi x1]) (rest := [.ref (g.2.2 p0)]) X (fun l hl => c_RM_isItem hl op0 rx1 hh hv) cf_RM op0 rfl mf_RM_isItem q1223 ⟨⟨by decide, by decide⟩, rfl, rfl⟩ rfl d_RM_item_3 rfl (Nat.le_of_ble_eq_true rfl) (fun r_2 h_1 rr_2 zh_1 hv => ?_)
  refine z_if_eq (pc := 6) (tgt := 13) X rr_2 d_RM_item_6 (by decide) (fun hc => ?_) (fun hc => ?_)
  · replace hv := hv.1 hc
    refine z_iconst (pc := 13) X d_RM_item_13 ?_
    exact s_RM_item_14 X E  op0 rx1 op0 (show zr 1 from by decide) zh_1 hv
  · replace hv := hv.2 hc
    refine z_iconst (pc := 9) X d_RM_item_9 ?_
    refine z_goto (pc := 10) (tgt := 14) X d_RM_item_10 (by decide) ?_
    exact s_RM_item_14 X E  op0 rx1 op0 (show zr 0 from by decide) zh_1 hv
theorem d_RM_tape_0 : decode b_RM_tape 0 = .ok (.iload_n 1, 1) := by decide +kernel
theorem d_RM_tape_1 : decode b_RM_tape 1 = .ok (.ifCond .ne 14, 3) := by decide +kernel
theorem d_RM_tape_4 : decode b_RM_tape 4 = .ok (.aload_n 0, 1) := by decide +kernel
theorem d_RM_tape_5 : decode b_RM_tape 5 = .ok (.getfield 23, 3) := by decide +kernel
theorem d_RM_tape_8 : decode b_RM_tape 8 = .ok (.sipush 190, 3) := by decide +kernel
theorem d_RM_tape_11 : decode b_RM_tape 11 = .ok (.iaload, 1) := by decide +kernel
theorem d_RM_tape_12 : decode b_RM_tape 12 = .ok (.goto 20, 3) := by decide +kernel
theorem d_RM_tape_15 : decode b_RM_tape 15 = .ok (.iload_n 1, 1) := by decide +kernel
theorem d_RM_tape_16 : decode b_RM_tape 16 = .ok (.iconst 1, 1) := by decide +kernel
theorem d_RM_tape_17 : decode b_RM_tape 17 = .ok (.if_icmp .ne 14, 3) := by decide +kernel
theorem d_RM_tape_20 : decode b_RM_tape 20 = .ok (.aload_n 0, 1) := by decide +kernel
theorem d_RM_tape_21 : decode b_RM_tape 21 = .ok (.getfield 23, 3) := by decide +kernel
theorem d_RM_tape_24 : decode b_RM_tape 24 = .ok (.sipush 189, 3) := by decide +kernel
theorem d_RM_tape_27 : decode b_RM_tape 27 = .ok (.iaload, 1) := by decide +kernel
theorem d_RM_tape_28 : decode b_RM_tape 28 = .ok (.goto 4, 3) := by decide +kernel
theorem d_RM_tape_31 : decode b_RM_tape 31 = .ok (.iconst 2, 1) := by decide +kernel
theorem d_RM_tape_32 : decode b_RM_tape 32 = .ok (.istore_n 3, 1) := by decide +kernel
theorem d_RM_tape_33 : decode b_RM_tape 33 = .ok (.aload_n 0, 1) := by decide +kernel
theorem d_RM_tape_34 : decode b_RM_tape 34 = .ok (.iload_n 1, 1) := by decide +kernel
theorem d_RM_tape_35 : decode b_RM_tape 35 = .ok (.i2l, 1) := by decide +kernel
theorem d_RM_tape_36 : decode b_RM_tape 36 = .ok (.lconst 0, 1) := by decide +kernel
theorem d_RM_tape_37 : decode b_RM_tape 37 = .ok (.ldc2_w 137, 3) := by decide +kernel
theorem d_RM_tape_40 : decode b_RM_tape 40 = .ok (.invokestatic 87, 3) := by decide +kernel
theorem d_RM_tape_43 : decode b_RM_tape 43 = .ok (.ifCond .ne 7, 3) := by decide +kernel
theorem d_RM_tape_46 : decode b_RM_tape 46 = .ok (.iconst 1, 1) := by decide +kernel
theorem d_RM_tape_47 : decode b_RM_tape 47 = .ok (.goto 21, 3) := by decide +kernel
theorem d_RM_tape_50 : decode b_RM_tape 50 = .ok (.iload_n 2, 1) := by decide +kernel
theorem d_RM_tape_51 : decode b_RM_tape 51 = .ok (.i2l, 1) := by decide +kernel
theorem d_RM_tape_52 : decode b_RM_tape 52 = .ok (.lconst 0, 1) := by decide +kernel
theorem d_RM_tape_53 : decode b_RM_tape 53 = .ok (.iload_n 3, 1) := by decide +kernel
theorem d_RM_tape_54 : decode b_RM_tape 54 = .ok (.iconst 1, 1) := by decide +kernel
theorem d_RM_tape_55 : decode b_RM_tape 55 = .ok (.isub, 1) := by decide +kernel
theorem d_RM_tape_56 : decode b_RM_tape 56 = .ok (.i2l, 1) := by decide +kernel
theorem d_RM_tape_57 : decode b_RM_tape 57 = .ok (.invokestatic 87, 3) := by decide +kernel
theorem d_RM_tape_60 : decode b_RM_tape 60 = .ok (.ifCond .ne 7, 3) := by decide +kernel
theorem d_RM_tape_63 : decode b_RM_tape 63 = .ok (.iconst 2, 1) := by decide +kernel
theorem d_RM_tape_64 : decode b_RM_tape 64 = .ok (.goto 4, 3) := by decide +kernel
theorem d_RM_tape_67 : decode b_RM_tape 67 = .ok (.iconst 0, 1) := by decide +kernel
theorem d_RM_tape_68 : decode b_RM_tape 68 = .ok (.invokevirtual 114, 3) := by decide +kernel
theorem d_RM_tape_71 : decode b_RM_tape 71 = .ok (.ifCond .eq 5, 3) := by decide +kernel
theorem d_RM_tape_74 : decode b_RM_tape 74 = .ok (.iconst 0, 1) := by decide +kernel
theorem d_RM_tape_75 : decode b_RM_tape 75 = .ok (.ireturn, 1) := by decide +kernel
theorem d_RM_tape_76 : decode b_RM_tape 76 = .ok (.aload_n 0, 1) := by decide +kernel
theorem d_RM_tape_77 : decode b_RM_tape 77 = .ok (.getfield 23, 3) := by decide +kernel
theorem d_RM_tape_80 : decode b_RM_tape 80 = .ok (.iload_n 1, 1) := by decide +kernel
theorem d_RM_tape_81 : decode b_RM_tape 81 = .ok (.ifCond .ne 8, 3) := by decide +kernel
theorem d_RM_tape_84 : decode b_RM_tape 84 = .ok (.bipush 104, 2) := by decide +kernel
theorem d_RM_tape_86 : decode b_RM_tape 86 = .ok (.goto 16, 3) := by decide +kernel
theorem d_RM_tape_89 : decode b_RM_tape 89 = .ok (.iload_n 1, 1) := by decide +kernel
theorem d_RM_tape_90 : decode b_RM_tape 90 = .ok (.iconst 1, 1) := by decide +kernel
theorem d_RM_tape_91 : decode b_RM_tape 91 = .ok (.if_icmp .ne 8, 3) := by decide +kernel
theorem d_RM_tape_94 : decode b_RM_tape 94 = .ok (.bipush 64, 2) := by decide +kernel
theorem d_RM_tape_96 : decode b_RM_tape 96 = .ok (.goto 6, 3) := by decide +kernel
theorem d_RM_tape_99 : decode b_RM_tape 99 = .ok (.sipush 191, 3) := by decide +kernel
theorem d_RM_tape_102 : decode b_RM_tape 102 = .ok (.iload_n 2, 1) := by decide +kernel
theorem d_RM_tape_103 : decode b_RM_tape 103 = .ok (.iadd, 1) := by decide +kernel
theorem d_RM_tape_104 : decode b_RM_tape 104 = .ok (.iaload, 1) := by decide +kernel
theorem d_RM_tape_105 : decode b_RM_tape 105 = .ok (.ireturn, 1) := by decide +kernel
def rm_RM_tape : Room := { frames := 1, cells := 0, slots := 0, locals := 25 }
theorem mf_RM_tape : zMV y_RM_tape b_RM_tape 4 (some .int) 2 := ⟨q1228, q1229, q13, q1230, by decide +kernel⟩
def B_RM_tape_68 (K : Int → zH → Prop)  (p0 : Nat) (x1 : Int) (x2 : Int) (w0 : Nat) (u1 : Int) (h : zH) : Prop :=
  M_RM_refused w0 u1 h (fun r_2 h_1 => (r_2 = 0 → ((x1 ≠ 0 → ((x1 ≠ 1 → (zr (191 + x2) ∧ ((0 ≤ 191 + x2 ∧ 191 + x2 < 193) ∧ (K (h_1 (p0 + 3) ((191 + x2).toNat)) h_1)))) ∧ (x1 = 1 → (zr (64 + x2) ∧ ((0 ≤ 64 + x2 ∧ 64 + x2 < 193) ∧ (K (h_1 (p0 + 3) ((64 + x2).toNat)) h_1)))))) ∧ (x1 = 0 → (zr (104 + x2) ∧ ((0 ≤ 104 + x2 ∧ 104 + x2 < 193) ∧ (K (h_1 (p0 + 3) ((104 + x2).toNat)) h_1)))))) ∧ (r_2 ≠ 0 → (K 0 h_1)))
set_option maxRecDepth 100000 in
theorem s_RM_tape_68 {Wf : Heap → List Loc → JFrame → Prop} {m : MethodId} {g : zG} {n : Nat} {H0 : Heap} (X : zX Wf m rm_RM_tape b_RM_tape "AliasStreamsModel" 4 g n H0) {K : Int → zH → Prop} (E : zEx Wf m b_RM_tape (some .int) 4 g n H0 (zPi K))  {p0 : Nat} {x1 : Int} {x2 : Int}  (op0 : zO n p0 11) (rx1 : zr x1) (rx2 : zr x2) {w0 : Nat} {u1 : Int} (ow0 : zO n w0 11) (ru1 : zr u1) {h : zH} (hh : zh h) (hv : B_RM_tape_68 K  p0 x1 x2 w0 u1 h) : zW Wf m 4 g n H0 68 [(0, .ref (g.2.2 p0)), (1, zi x1), (2, zi x2)] [zi u1, .ref (g.2.2 w0)] h := by
  unfold B_RM_tape_68 at hv
  refine z_callVi (pc := 68) (As := [zi u1]) (rest := []) X (fun l hl => c_RM_refused hl ow0 ru1 hh hv) cf_RM ow0 rfl mf_RM_refused q1130 ⟨⟨by decide, by decide⟩, rfl, rfl⟩ rfl d_RM_tape_68 rfl (Nat.le_of_ble_eq_true rfl) (fun r_2 h_1 rr_2 zh_1 hv => ?_)
  refine z_if_eq (pc := 71) (tgt := 76) X rr_2 d_RM_tape_71 (by decide) (fun hc => ?_) (fun hc => ?_)
  · replace hv := hv.1 hc
    refine z_aload_n (pc := 76) (q := 0) X d_RM_tape_76 rfl ?_
    refine z_getr (pc := 77) (j := 9) (dd := 3) X cf_RM op0 (by decide) q1030 rfl rfl d_RM_tape_77 ?_
    refine z_iload_n (pc := 80) (q := 1) X d_RM_tape_80 rfl ?_
    refine z_if_ne (pc := 81) (tgt := 89) X rx1 d_RM_tape_81 (by decide) (fun hc => ?_) (fun hc => ?_)
    · replace hv := hv.1 hc
      refine z_iload_n (pc := 89) (q := 1) X d_RM_tape_89 rfl ?_
      refine z_iconst (pc := 90) X d_RM_tape_90 ?_
      refine z_icmp_ne (pc := 91) (tgt := 99) X rx1 (show zr 1 from by decide) d_RM_tape_91 (by decide) (fun hc => ?_) (fun hc => ?_)
      · replace hv := hv.1 hc
        refine z_sipush (pc := 99) X d_RM_tape_99 (by decide) ?_
        refine z_iload_n (pc := 102) (q := 2) X d_RM_tape_102 rfl ?_
        obtain ⟨v_3, hv⟩ := hv
        refine z_iadd (pc := 103) X d_RM_tape_103 ?_
        obtain ⟨v_4, hv⟩ := hv
        refine z_ialdj (pc := 104) (j := (191 + x2).toNat) X (gf_RM_9 op0) (gl_RM_9 op0) v_3 v_4 rfl d_RM_tape_104 ?_
        exact E.2.1 rfl _ _ _ _ d_RM_tape_105 ⟨_, rfl, (zh_1.1 _ _ (zO.ne (gf_RM_9 op0) (by decide))), zh_1, hv⟩
      · replace hv := hv.2 hc
        refine z_bipush (pc := 94) X d_RM_tape_94 (by decide) ?_
        refine z_goto (pc := 96) (tgt := 102) X d_RM_tape_96 (by decide) ?_
        refine z_iload_n (pc := 102) (q := 2) X d_RM_tape_102 rfl ?_
        obtain ⟨v_5, hv⟩ := hv
        refine z_iadd (pc := 103) X d_RM_tape_103 ?_
        obtain ⟨v_6, hv⟩ := hv
        refine z_ialdj (pc := 104) (j := (64 + x2).toNat) X (gf_RM_9 op0) (gl_RM_9 op0) v_5 v_6 rfl d_RM_tape_104 ?_
        exact E.2.1 rfl _ _ _ _ d_RM_tape_105 ⟨_, rfl, (zh_1.1 _ _ (zO.ne (gf_RM_9 op0) (by decide))), zh_1, hv⟩
    · replace hv := hv.2 hc
      refine z_bipush (pc := 84) X d_RM_tape_84 (by decide) ?_
      refine z_goto (pc := 86) (tgt := 102) X d_RM_tape_86 (by decide) ?_
      refine z_iload_n (pc := 102) (q := 2) X d_RM_tape_102 rfl ?_
      obtain ⟨v_7, hv⟩ := hv
      refine z_iadd (pc := 103) X d_RM_tape_103 ?_
      obtain ⟨v_8, hv⟩ := hv
      refine z_ialdj (pc := 104) (j := (104 + x2).toNat) X (gf_RM_9 op0) (gl_RM_9 op0) v_7 v_8 rfl d_RM_tape_104 ?_
      exact E.2.1 rfl _ _ _ _ d_RM_tape_105 ⟨_, rfl, (zh_1.1 _ _ (zO.ne (gf_RM_9 op0) (by decide))), zh_1, hv⟩
  · replace hv := hv.2 hc
    refine z_iconst (pc := 74) X d_RM_tape_74 ?_
    exact E.2.1 rfl _ _ _ _ d_RM_tape_75 ⟨_, rfl, (show zr 0 from by decide), zh_1, hv⟩
def B_RM_tape_32 (K : Int → zH → Prop)  (p0 : Nat) (x1 : Int) (x2 : Int) (u0 : Int) (h : zH) : Prop :=
  M_RM_in x1 0 2 h (fun r_2 h_1 => (r_2 ≠ 0 → (zr (u0 - 1) ∧ (M_RM_in x2 0 (u0 - 1) h_1 (fun r_5 h_4 => (r_5 ≠ 0 → (B_RM_tape_68 K  p0 x1 x2 p0 0 h_4)) ∧ (r_5 = 0 → (B_RM_tape_68 K  p0 x1 x2 p0 2 h_4)))))) ∧ (r_2 = 0 → (B_RM_tape_68 K  p0 x1 x2 p0 1 h_1)))
set_option maxRecDepth 100000 in
theorem s_RM_tape_32 {Wf : Heap → List Loc → JFrame → Prop} {m : MethodId} {g : zG} {n : Nat} {H0 : Heap} (X : zX Wf m rm_RM_tape b_RM_tape "AliasStreamsModel" 4 g n H0) {K : Int → zH → Prop} (E : zEx Wf m b_RM_tape (some .int) 4 g n H0 (zPi K))  {p0 : Nat} {x1 : Int} {x2 : Int}  (op0 : zO n p0 11) (rx1 : zr x1) (rx2 : zr x2) {u0 : Int} (ru0 : zr u0) {h : zH} (hh : zh h) (hv : B_RM_tape_32 K  p0 x1 x2 u0 h) : zW Wf m 4 g n H0 32 [(0, .ref (g.2.2 p0)), (1, zi x1), (2, zi x2)] [zi u0] h := by
  unfold B_RM_tape_32 at hv
  refine z_istore_n (pc := 32) (lv' := [(3, zi u0), (0, .ref (g.2.2 p0)), (1, zi x1), (2, zi x2)]) X d_RM_tape_32 (by decide) rfl ?_
  refine z_aload_n (pc := 33) (q := 1) X d_RM_tape_33 rfl ?_
  refine z_iload_n (pc := 34) (q := 2) X d_RM_tape_34 rfl ?_
  refine z_i2l (pc := 35) X rx1 d_RM_tape_35 ?_
  refine z_lconst (pc := 36) (x := 0) X d_RM_tape_36 (by decide) ?_
  refine z_ldc2 (pc := 37) (x := 2) X d_RM_tape_37 q1154 (by decide) ?_
  refine z_callSi (pc := 40) (As := [zj x1, zj 0, zj 2]) (rest := [.ref (g.2.2 p0)]) X (fun l hl => c_RM_in hl (zr_l rx1) (show zrl 0 from by decide) (show zrl 2 from by decide) hh hv) mf_RM_in q1127 ⟨⟨by decide, by decide⟩, rfl, rfl⟩ rfl d_RM_tape_40 rfl (Nat.le_of_ble_eq_true rfl) (fun r_2 h_1 rr_2 zh_1 hv => ?_)
  refine z_if_ne (pc := 43) (tgt := 50) X rr_2 d_RM_tape_43 (by decide) (fun hc => ?_) (fun hc => ?_)
  · replace hv := hv.1 hc
    refine z_iload_n (pc := 50) (q := 3) X d_RM_tape_50 rfl ?_
    refine z_i2l (pc := 51) X rx2 d_RM_tape_51 ?_
    refine z_lconst (pc := 52) (x := 0) X d_RM_tape_52 (by decide) ?_
    refine z_iload_n (pc := 53) (q := 0) X d_RM_tape_53 rfl ?_
    refine z_iconst (pc := 54) X d_RM_tape_54 ?_
    obtain ⟨v_3, hv⟩ := hv
    refine z_isub (pc := 55) X d_RM_tape_55 ?_
    refine z_i2l (pc := 56) X v_3 d_RM_tape_56 ?_
    refine z_callSi (pc := 57) (As := [zj x2, zj 0, zj (u0 - 1)]) (rest := [.ref (g.2.2 p0)]) X (fun l hl => c_RM_in hl (zr_l rx2) (show zrl 0 from by decide) (zr_l v_3) zh_1 hv) mf_RM_in q1127 ⟨⟨by decide, by decide⟩, rfl, rfl⟩ rfl d_RM_tape_57 rfl (Nat.le_of_ble_eq_true rfl) (fun r_5 h_4 rr_5 zh_4 hv => ?_)
    refine z_if_ne (pc := 60) (tgt := 67) X rr_5 d_RM_tape_60 (by decide) (fun hc => ?_) (fun hc => ?_)
    · replace hv := hv.1 hc
      refine z_iconst (pc := 67) X d_RM_tape_67 ?_
      refine z_perm [1, 2, 3] rfl ?_
      exact s_RM_tape_68 X E  op0 rx1 rx2 op0 (show zr 0 from by decide) zh_4 hv
    · replace hv := hv.2 hc
      refine z_iconst (pc := 63) X d_RM_tape_63 ?_
      refine z_goto (pc := 64) (tgt := 68) X d_RM_tape_64 (by decide) ?_
      refine z_perm [1, 2, 3] rfl ?_
      exact s_RM_tape_68 X E  op0 rx1 rx2 op0 (show zr 2 from by decide) zh_4 hv
  · replace hv := hv.2 hc
    refine z_iconst (pc := 46) X d_RM_tape_46 ?_
    refine z_goto (pc := 47) (tgt := 68) X d_RM_tape_47 (by decide) ?_
    refine z_perm [1, 2, 3] rfl ?_
    exact s_RM_tape_68 X E  op0 rx1 rx2 op0 (show zr 1 from by decide) zh_1 hv
def M_RM_tape (p0 : Nat) (x1 : Int) (x2 : Int) (h : zH) (K : Int → zH → Prop) : Prop :=
  (x1 ≠ 0 → ((x1 ≠ 1 → (B_RM_tape_32 K  p0 x1 x2 2 h)) ∧ (x1 = 1 → (B_RM_tape_32 K  p0 x1 x2 (h (p0 + 3) 189) h)))) ∧ (x1 = 0 → (B_RM_tape_32 K  p0 x1 x2 (h (p0 + 3) 190) h))
set_option maxRecDepth 100000 in
theorem c_RM_tape {l : Launch} (hfl : l.flags = flags0) {g : zG} {n : Nat} {p0 : Nat} {x1 : Int} {x2 : Int} (op0 : zO n p0 11) (rx1 : zr x1) (rx2 : zr x2) {h : zH} (hh : zh h) {K : Int → zH → Prop} (hv : M_RM_tape p0 x1 x2 h K) : zMet l y_RM_tape b_RM_tape 4 (some .int) rm_RM_tape g n [.ref (g.2.2 p0), zi x1, zi x2] h (zPi K) := by
  refine zMet_of (own := "AliasStreamsModel") hfl (by decide) rfl (Nat.le_of_ble_eq_true rfl) (fun Wf m H0 X E => ?_)
  unfold M_RM_tape at hv
  show zW Wf m 4 g n H0 0 [(0, .ref (g.2.2 p0)), (1, zi x1), (2, zi x2)] [] h
  refine z_iload_n (pc := 0) (q := 1) X d_RM_tape_0 rfl ?_
  refine z_if_ne (pc := 1) (tgt := 15) X rx1 d_RM_tape_1 (by decide) (fun hc => ?_) (fun hc => ?_)
  · replace hv := hv.1 hc
    refine z_iload_n (pc := 15) (q := 1) X d_RM_tape_15 rfl ?_
    refine z_iconst (pc := 16) X d_RM_tape_16 ?_
    refine z_icmp_ne (pc := 17) (tgt := 31) X rx1 (show zr 1 from by decide) d_RM_tape_17 (by decide) (fun hc => ?_) (fun hc => ?_)
    · replace hv := hv.1 hc
      refine z_iconst (pc := 31) X d_RM_tape_31 ?_
      exact s_RM_tape_32 X E  op0 rx1 rx2 (show zr 2 from by decide) hh hv
    · replace hv := hv.2 hc
      refine z_aload_n (pc := 20) (q := 0) X d_RM_tape_20 rfl ?_
      refine z_getr (pc := 21) (j := 9) (dd := 3) X cf_RM op0 (by decide) q1030 rfl rfl d_RM_tape_21 ?_
      refine z_sipush (pc := 24) X d_RM_tape_24 (by decide) ?_
      refine z_ialdj (pc := 27) (j := 189) X (gf_RM_9 op0) (gl_RM_9 op0) (show zr 189 from by decide) ⟨by decide, by decide⟩ rfl d_RM_tape_27 ?_
      refine z_goto (pc := 28) (tgt := 32) X d_RM_tape_28 (by decide) ?_
      exact s_RM_tape_32 X E  op0 rx1 rx2 (hh.1 _ _ (zO.ne (gf_RM_9 op0) (by decide))) hh hv
  · replace hv := hv.2 hc
    refine z_aload_n (pc := 4) (q := 0) X d_RM_tape_4 rfl ?_
    refine z_getr (pc := 5) (j := 9) (dd := 3) X cf_RM op0 (by decide) q1030 rfl rfl d_RM_tape_5 ?_
    refine z_sipush (pc := 8) X d_RM_tape_8 (by decide) ?_
    refine z_ialdj (pc := 11) (j := 190) X (gf_RM_9 op0) (gl_RM_9 op0) (show zr 190 from by decide) ⟨by decide, by decide⟩ rfl d_RM_tape_11 ?_
    refine z_goto (pc := 12) (tgt := 32) X d_RM_tape_12 (by decide) ?_
    exact s_RM_tape_32 X E  op0 rx1 rx2 (hh.1 _ _ (zO.ne (gf_RM_9 op0) (by decide))) hh hv
theorem d_RM_note_0 : decode b_RM_note 0 = .ok (.aload_n 0, 1) := by decide +kernel
theorem d_RM_note_1 : decode b_RM_note 1 = .ok (.getfield 155, 3) := by decide +kernel
theorem d_RM_note_4 : decode b_RM_note 4 = .ok (.bipush 14, 2) := by decide +kernel
theorem d_RM_note_6 : decode b_RM_note 6 = .ok (.if_icmp .ne 44, 3) := by decide +kernel
theorem d_RM_note_9 : decode b_RM_note 9 = .ok (.iconst 0, 1) := by decide +kernel
theorem d_RM_note_10 : decode b_RM_note 10 = .ok (.istore_n 1, 1) := by decide +kernel
theorem d_RM_note_11 : decode b_RM_note 11 = .ok (.iload_n 1, 1) := by decide +kernel
theorem d_RM_note_12 : decode b_RM_note 12 = .ok (.sipush 2509, 3) := by decide +kernel
theorem d_RM_note_15 : decode b_RM_note 15 = .ok (.if_icmp .ge 25, 3) := by decide +kernel
theorem d_RM_note_18 : decode b_RM_note 18 = .ok (.aload_n 0, 1) := by decide +kernel
theorem d_RM_note_19 : decode b_RM_note 19 = .ok (.getfield 32, 3) := by decide +kernel
theorem d_RM_note_22 : decode b_RM_note 22 = .ok (.iload_n 1, 1) := by decide +kernel
theorem d_RM_note_23 : decode b_RM_note 23 = .ok (.aload_n 0, 1) := by decide +kernel
theorem d_RM_note_24 : decode b_RM_note 24 = .ok (.getfield 32, 3) := by decide +kernel
theorem d_RM_note_27 : decode b_RM_note 27 = .ok (.iload_n 1, 1) := by decide +kernel
theorem d_RM_note_28 : decode b_RM_note 28 = .ok (.sipush 193, 3) := by decide +kernel
theorem d_RM_note_31 : decode b_RM_note 31 = .ok (.iadd, 1) := by decide +kernel
theorem d_RM_note_32 : decode b_RM_note 32 = .ok (.iaload, 1) := by decide +kernel
theorem d_RM_note_33 : decode b_RM_note 33 = .ok (.iastore, 1) := by decide +kernel
theorem d_RM_note_34 : decode b_RM_note 34 = .ok (.iinc 1 1, 3) := by decide +kernel
theorem d_RM_note_37 : decode b_RM_note 37 = .ok (.goto (-26), 3) := by decide +kernel
theorem d_RM_note_40 : decode b_RM_note 40 = .ok (.aload_n 0, 1) := by decide +kernel
theorem d_RM_note_41 : decode b_RM_note 41 = .ok (.dup, 1) := by decide +kernel
theorem d_RM_note_42 : decode b_RM_note 42 = .ok (.getfield 155, 3) := by decide +kernel
theorem d_RM_note_45 : decode b_RM_note 45 = .ok (.iconst 1, 1) := by decide +kernel
theorem d_RM_note_46 : decode b_RM_note 46 = .ok (.isub, 1) := by decide +kernel
theorem d_RM_note_47 : decode b_RM_note 47 = .ok (.putfield 155, 3) := by decide +kernel
theorem d_RM_note_50 : decode b_RM_note 50 = .ok (.aload_n 0, 1) := by decide +kernel
theorem d_RM_note_51 : decode b_RM_note 51 = .ok (.getfield 23, 3) := by decide +kernel
theorem d_RM_note_54 : decode b_RM_note 54 = .ok (.iconst 0, 1) := by decide +kernel
theorem d_RM_note_55 : decode b_RM_note 55 = .ok (.aload_n 0, 1) := by decide +kernel
theorem d_RM_note_56 : decode b_RM_note 56 = .ok (.getfield 32, 3) := by decide +kernel
theorem d_RM_note_59 : decode b_RM_note 59 = .ok (.sipush 193, 3) := by decide +kernel
theorem d_RM_note_62 : decode b_RM_note 62 = .ok (.aload_n 0, 1) := by decide +kernel
theorem d_RM_note_63 : decode b_RM_note 63 = .ok (.getfield 155, 3) := by decide +kernel
theorem d_RM_note_66 : decode b_RM_note 66 = .ok (.imul, 1) := by decide +kernel
theorem d_RM_note_67 : decode b_RM_note 67 = .ok (.invokestatic 151, 3) := by decide +kernel
theorem d_RM_note_70 : decode b_RM_note 70 = .ok (.aload_n 0, 1) := by decide +kernel
theorem d_RM_note_71 : decode b_RM_note 71 = .ok (.dup, 1) := by decide +kernel
theorem d_RM_note_72 : decode b_RM_note 72 = .ok (.getfield 155, 3) := by decide +kernel
theorem d_RM_note_75 : decode b_RM_note 75 = .ok (.iconst 1, 1) := by decide +kernel
theorem d_RM_note_76 : decode b_RM_note 76 = .ok (.iadd, 1) := by decide +kernel
theorem d_RM_note_77 : decode b_RM_note 77 = .ok (.putfield 155, 3) := by decide +kernel
theorem d_RM_note_80 : decode b_RM_note 80 = .ok (.return_, 1) := by decide +kernel
def rm_RM_note : Room := { frames := 1, cells := 0, slots := 0, locals := 24 }
theorem mf_RM_note : zMV y_RM_note b_RM_note 2 none 0 := ⟨q1238, qs80, q13, q1239, by decide +kernel⟩
def B_RM_note_50 (K : zH → Prop)  (p0 : Nat)  (h : zH) : Prop :=
  zr (193 * (h p0 13)) ∧ (M_RM_copyPage (p0 + 3) 0 (p0 + 6) (193 * (h p0 13)) h (fun h_2 => zr ((h_2 p0 13) + 1) ∧ ((∀ h_5 : zH, h_5 = zs h_2 p0 13 ((h_2 p0 13) + 1) → (K h_5)))))
set_option maxRecDepth 100000 in
theorem s_RM_note_50 {Wf : Heap → List Loc → JFrame → Prop} {m : MethodId} {g : zG} {n : Nat} {H0 : Heap} (X : zX Wf m rm_RM_note b_RM_note "AliasStreamsModel" 2 g n H0) {K : zH → Prop} (E : zEx Wf m b_RM_note none 2 g n H0 (zPv K))  {p0 : Nat}  (op0 : zO n p0 11)   {h : zH} (hh : zh h) (hv : B_RM_note_50 K  p0  h) : zW Wf m 2 g n H0 50 [(0, .ref (g.2.2 p0))] [] h := by
  unfold B_RM_note_50 at hv
  refine z_aload_n (pc := 50) (q := 0) X d_RM_note_50 rfl ?_
  refine z_getr (pc := 51) (j := 9) (dd := 3) X cf_RM op0 (by decide) q1030 rfl rfl d_RM_note_51 ?_
  refine z_iconst (pc := 54) X d_RM_note_54 ?_
  refine z_aload_n (pc := 55) (q := 0) X d_RM_note_55 rfl ?_
  refine z_getr (pc := 56) (j := 12) (dd := 6) X cf_RM op0 (by decide) q1033 rfl rfl d_RM_note_56 ?_
  refine z_sipush (pc := 59) X d_RM_note_59 (by decide) ?_
  refine z_aload_n (pc := 62) (q := 0) X d_RM_note_62 rfl ?_
  refine z_geti (pc := 63) (j := 13) X cf_RM op0 (by decide) q1034 rfl rfl d_RM_note_63 ?_
  obtain ⟨v_1, hv⟩ := hv
  refine z_imul (pc := 66) X d_RM_note_66 ?_
  refine z_callSv (pc := 67) (As := [.ref (g.2.2 (p0 + 3)), zi 0, .ref (g.2.2 (p0 + 6)), zi (193 * (h p0 13))]) (rest := []) X (fun l hl => c_RM_copyPage hl (gf_RM_9 op0) (show zr 0 from by decide) (gf_RM_12 op0) v_1 hh hv) mf_RM_copyPage q1169 ⟨⟨by decide, by decide⟩, rfl, rfl⟩ rfl d_RM_note_67 rfl (Nat.le_of_ble_eq_true rfl) (fun h_2 zh_2 hv => ?_)
  refine z_aload_n (pc := 70) (q := 0) X d_RM_note_70 rfl ?_
  refine z_dup (pc := 71) X d_RM_note_71 rfl ?_
  refine z_geti (pc := 72) (j := 13) X cf_RM op0 (by decide) q1034 rfl rfl d_RM_note_72 ?_
  refine z_iconst (pc := 75) X d_RM_note_75 ?_
  obtain ⟨v_4, hv⟩ := hv
  refine z_iadd (pc := 76) X d_RM_note_76 ?_
  refine z_put (pc := 77) (j := 13) X cf_RM op0 (by decide) q1034 rfl rfl rfl rfl d_RM_note_77 ?_
  refine z_toph (fun h_5 eh_5 => ?_)
  have zh_5 : zh h_5 := by rw [eh_5]; exact zh_set zh_2 (zO.ne op0 (by decide)) v_4
  replace hv := hv h_5 eh_5
  exact E.1 rfl _ _ _ d_RM_note_80 ⟨rfl, zh_5, hv⟩
def F_RM_note_11 (K : zH → Prop)  (L11 : Int × zH → Prop) (p0 : Nat) (x1 : Int) (h : zH) : Prop :=
  (2509 ≤ x1 → (zr ((h p0 13) - 1) ∧ ((∀ h_2 : zH, h_2 = zs h p0 13 ((h p0 13) - 1) → (B_RM_note_50 K  p0  h_2))))) ∧ (x1 < 2509 → (zr (x1 + 193) ∧ ((0 ≤ x1 + 193 ∧ x1 + 193 < 2702) ∧ ((0 ≤ x1 ∧ x1 < 2702) ∧ (∀ h_6 : zH, h_6 = zs h (p0 + 6) x1.toNat (h (p0 + 6) ((x1 + 193).toNat)) → (zr (x1 + 1) ∧ (L11 (x1 + 1, h_6))))))))
set_option maxRecDepth 100000 in
theorem s_RM_note_11 {Wf : Heap → List Loc → JFrame → Prop} {m : MethodId} {g : zG} {n : Nat} {H0 : Heap} (X : zX Wf m rm_RM_note b_RM_note "AliasStreamsModel" 2 g n H0) {K : zH → Prop} (E : zEx Wf m b_RM_note none 2 g n H0 (zPv K))  {p0 : Nat}  (op0 : zO n p0 11) {q0 : Int × zH} (hv0 : zLoop (fun L q => F_RM_note_11 K  L p0 q.1 q.2) q0) : zr q0.1 → zh (q0.2) → zW Wf m 2 g n H0 11 [(0, .ref (g.2.2 p0)), (1, zi q0.1)] [] (q0.2) := by
  refine zLoop_use (G := fun q => zr q.1 → zh (q.2) → zW Wf m 2 g n H0 11 [(0, .ref (g.2.2 p0)), (1, zi q.1)] [] (q.2)) ?_ hv0
  rintro L11 ⟨x1, h⟩ hL11 hv rx1 hh
  have hv : F_RM_note_11 K  L11 p0 x1 h := hv
  unfold F_RM_note_11 at hv
  show zW Wf m 2 g n H0 11 [(0, .ref (g.2.2 p0)), (1, zi x1)] [] h
  refine z_iload_n (pc := 11) (q := 1) X d_RM_note_11 rfl ?_
  refine z_sipush (pc := 12) X d_RM_note_12 (by decide) ?_
  refine z_icmp_ge (pc := 15) (tgt := 40) X rx1 (show zr 2509 from by decide) d_RM_note_15 (by decide) (fun hc => ?_) (fun hc => ?_)
  · replace hv := hv.1 hc
    refine z_aload_n (pc := 40) (q := 0) X d_RM_note_40 rfl ?_
    refine z_dup (pc := 41) X d_RM_note_41 rfl ?_
    refine z_geti (pc := 42) (j := 13) X cf_RM op0 (by decide) q1034 rfl rfl d_RM_note_42 ?_
    refine z_iconst (pc := 45) X d_RM_note_45 ?_
    obtain ⟨v_1, hv⟩ := hv
    refine z_isub (pc := 46) X d_RM_note_46 ?_
    refine z_put (pc := 47) (j := 13) X cf_RM op0 (by decide) q1034 rfl rfl rfl rfl d_RM_note_47 ?_
    refine z_toph (fun h_2 eh_2 => ?_)
    have zh_2 : zh h_2 := by rw [eh_2]; exact zh_set hh (zO.ne op0 (by decide)) v_1
    replace hv := hv h_2 eh_2
    refine z_perm [0] rfl ?_
    exact s_RM_note_50 X E  op0  zh_2 hv
  · replace hv := hv.2 hc
    refine z_aload_n (pc := 18) (q := 0) X d_RM_note_18 rfl ?_
    refine z_getr (pc := 19) (j := 12) (dd := 6) X cf_RM op0 (by decide) q1033 rfl rfl d_RM_note_19 ?_
    refine z_iload_n (pc := 22) (q := 1) X d_RM_note_22 rfl ?_
    refine z_aload_n (pc := 23) (q := 0) X d_RM_note_23 rfl ?_
    refine z_getr (pc := 24) (j := 12) (dd := 6) X cf_RM op0 (by decide) q1033 rfl rfl d_RM_note_24 ?_
    refine z_iload_n (pc := 27) (q := 1) X d_RM_note_27 rfl ?_
    refine z_sipush (pc := 28) X d_RM_note_28 (by decide) ?_
    obtain ⟨v_3, hv⟩ := hv
    refine z_iadd (pc := 31) X d_RM_note_31 ?_
    obtain ⟨v_4, hv⟩ := hv
    refine z_ialdj (pc := 32) (j := (x1 + 193).toNat) X (gf_RM_12 op0) (gl_RM_12 op0) v_3 v_4 rfl d_RM_note_32 ?_
    obtain ⟨v_5, hv⟩ := hv
    refine z_iastj (pc := 33) (j := x1.toNat) X (gf_RM_12 op0) (gl_RM_12 op0) rx1 v_5 rfl d_RM_note_33 ?_
    refine z_toph (fun h_6 eh_6 => ?_)
    have zh_6 : zh h_6 := by rw [eh_6]; exact zh_set hh (zO.ne (gf_RM_12 op0) (by decide)) (hh.1 _ _ (zO.ne (gf_RM_12 op0) (by decide)))
    replace hv := hv h_6 eh_6
    obtain ⟨v_7, hv⟩ := hv
    refine z_iinc (pc := 34) (q := 1) (lv' := [(1, zi (x1 + 1)), (0, .ref (g.2.2 p0))]) X d_RM_note_34 rfl (by decide) rfl ?_
    refine z_goto (pc := 37) (tgt := 11) X d_RM_note_37 (by decide) ?_
    refine z_perm [1, 0] rfl ?_
    exact hL11 _ hv v_7 zh_6
def M_RM_note (p0 : Nat) (h : zH) (K : zH → Prop) : Prop :=
  (h p0 13 ≠ 14 → (B_RM_note_50 K  p0  h)) ∧ (h p0 13 = 14 → (zLoop (fun L q => F_RM_note_11 K  L p0 q.1 q.2) (0, h)))
set_option maxRecDepth 100000 in
theorem c_RM_note {l : Launch} (hfl : l.flags = flags0) {g : zG} {n : Nat} {p0 : Nat} (op0 : zO n p0 11) {h : zH} (hh : zh h) {K : zH → Prop} (hv : M_RM_note p0 h K) : zMet l y_RM_note b_RM_note 2 none rm_RM_note g n [.ref (g.2.2 p0)] h (zPv K) := by
  refine zMet_of (own := "AliasStreamsModel") hfl (by decide) rfl (Nat.le_of_ble_eq_true rfl) (fun Wf m H0 X E => ?_)
  unfold M_RM_note at hv
  show zW Wf m 2 g n H0 0 [(0, .ref (g.2.2 p0))] [] h
  refine z_aload_n (pc := 0) (q := 0) X d_RM_note_0 rfl ?_
  refine z_geti (pc := 1) (j := 13) X cf_RM op0 (by decide) q1034 rfl rfl d_RM_note_1 ?_
  refine z_bipush (pc := 4) X d_RM_note_4 (by decide) ?_
  refine z_icmp_ne (pc := 6) (tgt := 50) X (hh.1 _ _ (zO.ne op0 (by decide))) (show zr 14 from by decide) d_RM_note_6 (by decide) (fun hc => ?_) (fun hc => ?_)
  · replace hv := hv.1 hc
    exact s_RM_note_50 X E  op0  hh hv
  · replace hv := hv.2 hc
    refine z_iconst (pc := 9) X d_RM_note_9 ?_
    refine z_istore_n (pc := 10) (lv' := [(1, zi 0), (0, .ref (g.2.2 p0))]) X d_RM_note_10 (by decide) rfl ?_
    refine z_perm [1, 0] rfl ?_
    exact s_RM_note_11 X E  op0 hv (show zr 0 from by decide) hh
theorem d_RM_setCount_0 : decode b_RM_setCount 0 = .ok (.aload_n 0, 1) := by decide +kernel
theorem d_RM_setCount_1 : decode b_RM_setCount 1 = .ok (.iload_n 1, 1) := by decide +kernel
theorem d_RM_setCount_2 : decode b_RM_setCount 2 = .ok (.invokevirtual 167, 3) := by decide +kernel
theorem d_RM_setCount_5 : decode b_RM_setCount 5 = .ok (.ifCond .eq 15, 3) := by decide +kernel
theorem d_RM_setCount_8 : decode b_RM_setCount 8 = .ok (.aload_n 0, 1) := by decide +kernel
theorem d_RM_setCount_9 : decode b_RM_setCount 9 = .ok (.iload_n 2, 1) := by decide +kernel
theorem d_RM_setCount_10 : decode b_RM_setCount 10 = .ok (.invokevirtual 170, 3) := by decide +kernel
theorem d_RM_setCount_13 : decode b_RM_setCount 13 = .ok (.ifCond .eq 7, 3) := by decide +kernel
theorem d_RM_setCount_16 : decode b_RM_setCount 16 = .ok (.iconst 1, 1) := by decide +kernel
theorem d_RM_setCount_17 : decode b_RM_setCount 17 = .ok (.goto 4, 3) := by decide +kernel
theorem d_RM_setCount_20 : decode b_RM_setCount 20 = .ok (.iconst 0, 1) := by decide +kernel
theorem d_RM_setCount_21 : decode b_RM_setCount 21 = .ok (.istore 4, 2) := by decide +kernel
theorem d_RM_setCount_23 : decode b_RM_setCount 23 = .ok (.iload_n 3, 1) := by decide +kernel
theorem d_RM_setCount_24 : decode b_RM_setCount 24 = .ok (.istore 5, 2) := by decide +kernel
theorem d_RM_setCount_26 : decode b_RM_setCount 26 = .ok (.iconst 0, 1) := by decide +kernel
theorem d_RM_setCount_27 : decode b_RM_setCount 27 = .ok (.istore 6, 2) := by decide +kernel
theorem d_RM_setCount_29 : decode b_RM_setCount 29 = .ok (.iload 6, 2) := by decide +kernel
theorem d_RM_setCount_31 : decode b_RM_setCount 31 = .ok (.aload_n 0, 1) := by decide +kernel
theorem d_RM_setCount_32 : decode b_RM_setCount 32 = .ok (.getfield 13, 3) := by decide +kernel
theorem d_RM_setCount_35 : decode b_RM_setCount 35 = .ok (.if_icmp .ge 41, 3) := by decide +kernel
theorem d_RM_setCount_38 : decode b_RM_setCount 38 = .ok (.iload 4, 2) := by decide +kernel
theorem d_RM_setCount_40 : decode b_RM_setCount 40 = .ok (.ifCond .eq 36, 3) := by decide +kernel
theorem d_RM_setCount_43 : decode b_RM_setCount 43 = .ok (.iload 5, 2) := by decide +kernel
theorem d_RM_setCount_45 : decode b_RM_setCount 45 = .ok (.iload 6, 2) := by decide +kernel
theorem d_RM_setCount_47 : decode b_RM_setCount 47 = .ok (.iload_n 2, 1) := by decide +kernel
theorem d_RM_setCount_48 : decode b_RM_setCount 48 = .ok (.if_icmp .ne 7, 3) := by decide +kernel
theorem d_RM_setCount_51 : decode b_RM_setCount 51 = .ok (.iconst 0, 1) := by decide +kernel
theorem d_RM_setCount_52 : decode b_RM_setCount 52 = .ok (.goto 15, 3) := by decide +kernel
theorem d_RM_setCount_55 : decode b_RM_setCount 55 = .ok (.aload_n 0, 1) := by decide +kernel
theorem d_RM_setCount_56 : decode b_RM_setCount 56 = .ok (.getfield 23, 3) := by decide +kernel
theorem d_RM_setCount_59 : decode b_RM_setCount 59 = .ok (.bipush 8, 2) := by decide +kernel
theorem d_RM_setCount_61 : decode b_RM_setCount 61 = .ok (.iload_n 1, 1) := by decide +kernel
theorem d_RM_setCount_62 : decode b_RM_setCount 62 = .ok (.imul, 1) := by decide +kernel
theorem d_RM_setCount_63 : decode b_RM_setCount 63 = .ok (.iload 6, 2) := by decide +kernel
theorem d_RM_setCount_65 : decode b_RM_setCount 65 = .ok (.iadd, 1) := by decide +kernel
theorem d_RM_setCount_66 : decode b_RM_setCount 66 = .ok (.iaload, 1) := by decide +kernel
theorem d_RM_setCount_67 : decode b_RM_setCount 67 = .ok (.iadd, 1) := by decide +kernel
theorem d_RM_setCount_68 : decode b_RM_setCount 68 = .ok (.istore 5, 2) := by decide +kernel
theorem d_RM_setCount_70 : decode b_RM_setCount 70 = .ok (.iinc 6 1, 3) := by decide +kernel
theorem d_RM_setCount_73 : decode b_RM_setCount 73 = .ok (.goto (-44), 3) := by decide +kernel
theorem d_RM_setCount_76 : decode b_RM_setCount 76 = .ok (.aload_n 0, 1) := by decide +kernel
theorem d_RM_setCount_77 : decode b_RM_setCount 77 = .ok (.iload 4, 2) := by decide +kernel
theorem d_RM_setCount_79 : decode b_RM_setCount 79 = .ok (.ifCond .ne 7, 3) := by decide +kernel
theorem d_RM_setCount_82 : decode b_RM_setCount 82 = .ok (.iconst 1, 1) := by decide +kernel
theorem d_RM_setCount_83 : decode b_RM_setCount 83 = .ok (.goto 29, 3) := by decide +kernel
theorem d_RM_setCount_86 : decode b_RM_setCount 86 = .ok (.iload_n 3, 1) := by decide +kernel
theorem d_RM_setCount_87 : decode b_RM_setCount 87 = .ok (.i2l, 1) := by decide +kernel
theorem d_RM_setCount_88 : decode b_RM_setCount 88 = .ok (.lconst 0, 1) := by decide +kernel
theorem d_RM_setCount_89 : decode b_RM_setCount 89 = .ok (.ldc2_w 180, 3) := by decide +kernel
theorem d_RM_setCount_92 : decode b_RM_setCount 92 = .ok (.invokestatic 87, 3) := by decide +kernel
theorem d_RM_setCount_95 : decode b_RM_setCount 95 = .ok (.ifCond .ne 7, 3) := by decide +kernel
theorem d_RM_setCount_98 : decode b_RM_setCount 98 = .ok (.iconst 2, 1) := by decide +kernel
theorem d_RM_setCount_99 : decode b_RM_setCount 99 = .ok (.goto 13, 3) := by decide +kernel
theorem d_RM_setCount_102 : decode b_RM_setCount 102 = .ok (.iload 5, 2) := by decide +kernel
theorem d_RM_setCount_104 : decode b_RM_setCount 104 = .ok (.ifCond .ne 7, 3) := by decide +kernel
theorem d_RM_setCount_107 : decode b_RM_setCount 107 = .ok (.iconst 3, 1) := by decide +kernel
theorem d_RM_setCount_108 : decode b_RM_setCount 108 = .ok (.goto 4, 3) := by decide +kernel
theorem d_RM_setCount_111 : decode b_RM_setCount 111 = .ok (.iconst 0, 1) := by decide +kernel
theorem d_RM_setCount_112 : decode b_RM_setCount 112 = .ok (.invokevirtual 114, 3) := by decide +kernel
theorem d_RM_setCount_115 : decode b_RM_setCount 115 = .ok (.ifCond .eq 5, 3) := by decide +kernel
theorem d_RM_setCount_118 : decode b_RM_setCount 118 = .ok (.iconst 0, 1) := by decide +kernel
theorem d_RM_setCount_119 : decode b_RM_setCount 119 = .ok (.ireturn, 1) := by decide +kernel
theorem d_RM_setCount_120 : decode b_RM_setCount 120 = .ok (.aload_n 0, 1) := by decide +kernel
theorem d_RM_setCount_121 : decode b_RM_setCount 121 = .ok (.invokevirtual 182, 3) := by decide +kernel
theorem d_RM_setCount_124 : decode b_RM_setCount 124 = .ok (.aload_n 0, 1) := by decide +kernel
theorem d_RM_setCount_125 : decode b_RM_setCount 125 = .ok (.getfield 23, 3) := by decide +kernel
theorem d_RM_setCount_128 : decode b_RM_setCount 128 = .ok (.bipush 8, 2) := by decide +kernel
theorem d_RM_setCount_130 : decode b_RM_setCount 130 = .ok (.iload_n 1, 1) := by decide +kernel
theorem d_RM_setCount_131 : decode b_RM_setCount 131 = .ok (.imul, 1) := by decide +kernel
theorem d_RM_setCount_132 : decode b_RM_setCount 132 = .ok (.iload_n 2, 1) := by decide +kernel
theorem d_RM_setCount_133 : decode b_RM_setCount 133 = .ok (.iadd, 1) := by decide +kernel
theorem d_RM_setCount_134 : decode b_RM_setCount 134 = .ok (.iaload, 1) := by decide +kernel
theorem d_RM_setCount_135 : decode b_RM_setCount 135 = .ok (.istore 6, 2) := by decide +kernel
theorem d_RM_setCount_137 : decode b_RM_setCount 137 = .ok (.aload_n 0, 1) := by decide +kernel
theorem d_RM_setCount_138 : decode b_RM_setCount 138 = .ok (.getfield 23, 3) := by decide +kernel
theorem d_RM_setCount_141 : decode b_RM_setCount 141 = .ok (.bipush 8, 2) := by decide +kernel
theorem d_RM_setCount_143 : decode b_RM_setCount 143 = .ok (.iload_n 1, 1) := by decide +kernel
theorem d_RM_setCount_144 : decode b_RM_setCount 144 = .ok (.imul, 1) := by decide +kernel
theorem d_RM_setCount_145 : decode b_RM_setCount 145 = .ok (.iload_n 2, 1) := by decide +kernel
theorem d_RM_setCount_146 : decode b_RM_setCount 146 = .ok (.iadd, 1) := by decide +kernel
theorem d_RM_setCount_147 : decode b_RM_setCount 147 = .ok (.iload_n 3, 1) := by decide +kernel
theorem d_RM_setCount_148 : decode b_RM_setCount 148 = .ok (.iastore, 1) := by decide +kernel
theorem d_RM_setCount_149 : decode b_RM_setCount 149 = .ok (.iload 6, 2) := by decide +kernel
theorem d_RM_setCount_151 : decode b_RM_setCount 151 = .ok (.ireturn, 1) := by decide +kernel
def rm_RM_setCount : Room := { frames := 2, cells := 0, slots := 0, locals := 46 }
theorem mf_RM_setCount : zMV y_RM_setCount b_RM_setCount 7 (some .int) 3 := ⟨q1232, q1233, q13, q1234, by decide +kernel⟩
def B_RM_setCount_112 (K : Int → zH → Prop)  (p0 : Nat) (x1 : Int) (x2 : Int) (x3 : Int) (w0 : Nat) (u1 : Int) (h : zH) : Prop :=
  M_RM_refused w0 u1 h (fun r_2 h_1 => (r_2 = 0 → (M_RM_note p0 h_1 (fun h_3 => zr (8 * x1) ∧ (zr ((8 * x1) + x2) ∧ ((0 ≤ (8 * x1) + x2 ∧ (8 * x1) + x2 < 193) ∧ ((∀ x6_8 : Int, x6_8 = h_3 (p0 + 3) (((8 * x1) + x2).toNat) → (zr (8 * x1) ∧ (zr ((8 * x1) + x2) ∧ ((0 ≤ (8 * x1) + x2 ∧ (8 * x1) + x2 < 193) ∧ (∀ h_12 : zH, h_12 = zs h_3 (p0 + 3) (((8 * x1) + x2).toNat) x3 → (K x6_8 h_12)))))))))))) ∧ (r_2 ≠ 0 → (K 0 h_1)))
set_option maxRecDepth 100000 in
theorem s_RM_setCount_112 {Wf : Heap → List Loc → JFrame → Prop} {m : MethodId} {g : zG} {n : Nat} {H0 : Heap} (X : zX Wf m rm_RM_setCount b_RM_setCount "AliasStreamsModel" 7 g n H0) {K : Int → zH → Prop} (E : zEx Wf m b_RM_setCount (some .int) 7 g n H0 (zPi K))  {p0 : Nat} {x1 : Int} {x2 : Int} {x3 : Int}  (op0 : zO n p0 11) (rx1 : zr x1) (rx2 : zr x2) (rx3 : zr x3) {w0 : Nat} {u1 : Int} (ow0 : zO n w0 11) (ru1 : zr u1) {h : zH} (hh : zh h) (hv : B_RM_setCount_112 K  p0 x1 x2 x3 w0 u1 h) : zW Wf m 7 g n H0 112 [(0, .ref (g.2.2 p0)), (1, zi x1), (2, zi x2), (3, zi x3)] [zi u1, .ref (g.2.2 w0)] h := by
  unfold B_RM_setCount_112 at hv
  refine z_callVi (pc := 112) (As := [zi u1]) (rest := []) X (fun l hl => c_RM_refused hl ow0 ru1 hh hv) cf_RM ow0 rfl mf_RM_refused q1130 ⟨⟨by decide, by decide⟩, rfl, rfl⟩ rfl d_RM_setCount_112 rfl (Nat.le_of_ble_eq_true rfl) (fun r_2 h_1 rr_2 zh_1 hv => ?_)
  refine z_if_eq (pc := 115) (tgt := 120) X rr_2 d_RM_setCount_115 (by decide) (fun hc => ?_) (fun hc => ?_)
  · replace hv := hv.1 hc
    refine z_aload_n (pc := 120) (q := 0) X d_RM_setCount_120 rfl ?_
    refine z_callVv (pc := 121) (As := []) (rest := []) X (fun l hl => c_RM_note hl op0 zh_1 hv) cf_RM op0 rfl mf_RM_note q1236 ⟨⟨by decide, by decide⟩, rfl, rfl⟩ rfl d_RM_setCount_121 rfl (Nat.le_of_ble_eq_true rfl) (fun h_3 zh_3 hv => ?_)
    refine z_aload_n (pc := 124) (q := 0) X d_RM_setCount_124 rfl ?_
    refine z_getr (pc := 125) (j := 9) (dd := 3) X cf_RM op0 (by decide) q1030 rfl rfl d_RM_setCount_125 ?_
    refine z_bipush (pc := 128) X d_RM_setCount_128 (by decide) ?_
    refine z_iload_n (pc := 130) (q := 1) X d_RM_setCount_130 rfl ?_
    obtain ⟨v_5, hv⟩ := hv
    refine z_imul (pc := 131) X d_RM_setCount_131 ?_
    refine z_iload_n (pc := 132) (q := 2) X d_RM_setCount_132 rfl ?_
    obtain ⟨v_6, hv⟩ := hv
    refine z_iadd (pc := 133) X d_RM_setCount_133 ?_
    obtain ⟨v_7, hv⟩ := hv
    refine z_ialdj (pc := 134) (j := ((8 * x1) + x2).toNat) X (gf_RM_9 op0) (gl_RM_9 op0) v_6 v_7 rfl d_RM_setCount_134 ?_
    refine z_topi (fun x6_8 ex6_8 => ?_)
    have rx6_8 : zr x6_8 := by rw [ex6_8]; exact (zh_3.1 _ _ (zO.ne (gf_RM_9 op0) (by decide)))
    replace hv := hv x6_8 ex6_8
    refine z_istore (pc := 135) (lv' := [(6, zi x6_8), (0, .ref (g.2.2 p0)), (1, zi x1), (2, zi x2), (3, zi x3)]) X d_RM_setCount_135 (by decide) rfl ?_
    refine z_aload_n (pc := 137) (q := 1) X d_RM_setCount_137 rfl ?_
    refine z_getr (pc := 138) (j := 9) (dd := 3) X cf_RM op0 (by decide) q1030 rfl rfl d_RM_setCount_138 ?_
    refine z_bipush (pc := 141) X d_RM_setCount_141 (by decide) ?_
    refine z_iload_n (pc := 143) (q := 2) X d_RM_setCount_143 rfl ?_
    obtain ⟨v_9, hv⟩ := hv
    refine z_imul (pc := 144) X d_RM_setCount_144 ?_
    refine z_iload_n (pc := 145) (q := 3) X d_RM_setCount_145 rfl ?_
    obtain ⟨v_10, hv⟩ := hv
    refine z_iadd (pc := 146) X d_RM_setCount_146 ?_
    refine z_iload_n (pc := 147) (q := 4) X d_RM_setCount_147 rfl ?_
    obtain ⟨v_11, hv⟩ := hv
    refine z_iastj (pc := 148) (j := ((8 * x1) + x2).toNat) X (gf_RM_9 op0) (gl_RM_9 op0) v_10 v_11 rfl d_RM_setCount_148 ?_
    refine z_toph (fun h_12 eh_12 => ?_)
    have zh_12 : zh h_12 := by rw [eh_12]; exact zh_set zh_3 (zO.ne (gf_RM_9 op0) (by decide)) rx3
    replace hv := hv h_12 eh_12
    refine z_iload (pc := 149) (q := 0) X d_RM_setCount_149 rfl ?_
    exact E.2.1 rfl _ _ _ _ d_RM_setCount_151 ⟨_, rfl, rx6_8, zh_12, hv⟩
  · replace hv := hv.2 hc
    refine z_iconst (pc := 118) X d_RM_setCount_118 ?_
    exact E.2.1 rfl _ _ _ _ d_RM_setCount_119 ⟨_, rfl, (show zr 0 from by decide), zh_1, hv⟩
def B_RM_setCount_76 (K : Int → zH → Prop)  (p0 : Nat) (x1 : Int) (x2 : Int) (x3 : Int) (x4 : Int) (x5 : Int)  (h : zH) : Prop :=
  (x4 ≠ 0 → (M_RM_in x3 0 99 h (fun r_2 h_1 => (r_2 ≠ 0 → ((x5 ≠ 0 → (B_RM_setCount_112 K  p0 x1 x2 x3 p0 0 h_1)) ∧ (x5 = 0 → (B_RM_setCount_112 K  p0 x1 x2 x3 p0 3 h_1)))) ∧ (r_2 = 0 → (B_RM_setCount_112 K  p0 x1 x2 x3 p0 2 h_1))))) ∧ (x4 = 0 → (B_RM_setCount_112 K  p0 x1 x2 x3 p0 1 h))
set_option maxRecDepth 100000 in
theorem s_RM_setCount_76 {Wf : Heap → List Loc → JFrame → Prop} {m : MethodId} {g : zG} {n : Nat} {H0 : Heap} (X : zX Wf m rm_RM_setCount b_RM_setCount "AliasStreamsModel" 7 g n H0) {K : Int → zH → Prop} (E : zEx Wf m b_RM_setCount (some .int) 7 g n H0 (zPi K))  {p0 : Nat} {x1 : Int} {x2 : Int} {x3 : Int} {x4 : Int} {x5 : Int}  (op0 : zO n p0 11) (rx1 : zr x1) (rx2 : zr x2) (rx3 : zr x3) (rx4 : zr x4) (rx5 : zr x5)   {h : zH} (hh : zh h) (hv : B_RM_setCount_76 K  p0 x1 x2 x3 x4 x5  h) : zW Wf m 7 g n H0 76 [(0, .ref (g.2.2 p0)), (1, zi x1), (2, zi x2), (3, zi x3), (4, zi x4), (5, zi x5)] [] h := by
  unfold B_RM_setCount_76 at hv
  refine z_aload_n (pc := 76) (q := 0) X d_RM_setCount_76 rfl ?_
  refine z_iload (pc := 77) (q := 4) X d_RM_setCount_77 rfl ?_
  refine z_if_ne (pc := 79) (tgt := 86) X rx4 d_RM_setCount_79 (by decide) (fun hc => ?_) (fun hc => ?_)
  · replace hv := hv.1 hc
    refine z_iload_n (pc := 86) (q := 3) X d_RM_setCount_86 rfl ?_
    refine z_i2l (pc := 87) X rx3 d_RM_setCount_87 ?_
    refine z_lconst (pc := 88) (x := 0) X d_RM_setCount_88 (by decide) ?_
    refine z_ldc2 (pc := 89) (x := 99) X d_RM_setCount_89 q1235 (by decide) ?_
    refine z_callSi (pc := 92) (As := [zj x3, zj 0, zj 99]) (rest := [.ref (g.2.2 p0)]) X (fun l hl => c_RM_in hl (zr_l rx3) (show zrl 0 from by decide) (show zrl 99 from by decide) hh hv) mf_RM_in q1127 ⟨⟨by decide, by decide⟩, rfl, rfl⟩ rfl d_RM_setCount_92 rfl (Nat.le_of_ble_eq_true rfl) (fun r_2 h_1 rr_2 zh_1 hv => ?_)
    refine z_if_ne (pc := 95) (tgt := 102) X rr_2 d_RM_setCount_95 (by decide) (fun hc => ?_) (fun hc => ?_)
    · replace hv := hv.1 hc
      refine z_iload (pc := 102) (q := 5) X d_RM_setCount_102 rfl ?_
      refine z_if_ne (pc := 104) (tgt := 111) X rx5 d_RM_setCount_104 (by decide) (fun hc => ?_) (fun hc => ?_)
      · replace hv := hv.1 hc
        refine z_iconst (pc := 111) X d_RM_setCount_111 ?_
        refine z_perm [0, 1, 2, 3] rfl ?_
        exact s_RM_setCount_112 X E  op0 rx1 rx2 rx3 op0 (show zr 0 from by decide) zh_1 hv
      · replace hv := hv.2 hc
        refine z_iconst (pc := 107) X d_RM_setCount_107 ?_
        refine z_goto (pc := 108) (tgt := 112) X d_RM_setCount_108 (by decide) ?_
        refine z_perm [0, 1, 2, 3] rfl ?_
        exact s_RM_setCount_112 X E  op0 rx1 rx2 rx3 op0 (show zr 3 from by decide) zh_1 hv
    · replace hv := hv.2 hc
      refine z_iconst (pc := 98) X d_RM_setCount_98 ?_
      refine z_goto (pc := 99) (tgt := 112) X d_RM_setCount_99 (by decide) ?_
      refine z_perm [0, 1, 2, 3] rfl ?_
      exact s_RM_setCount_112 X E  op0 rx1 rx2 rx3 op0 (show zr 2 from by decide) zh_1 hv
  · replace hv := hv.2 hc
    refine z_iconst (pc := 82) X d_RM_setCount_82 ?_
    refine z_goto (pc := 83) (tgt := 112) X d_RM_setCount_83 (by decide) ?_
    refine z_perm [0, 1, 2, 3] rfl ?_
    exact s_RM_setCount_112 X E  op0 rx1 rx2 rx3 op0 (show zr 1 from by decide) hh hv
def F_RM_setCount_29 (K : Int → zH → Prop)  (L29 : Int × Int × zH → Prop) (p0 : Nat) (x1 : Int) (x2 : Int) (x3 : Int) (x4 : Int) (x5 : Int) (x6 : Int) (h : zH) : Prop :=
  (h p0 4 ≤ x6 → (B_RM_setCount_76 K  p0 x1 x2 x3 x4 x5  h)) ∧ (x6 < h p0 4 → ((x4 = 0 → (B_RM_setCount_76 K  p0 x1 x2 x3 x4 x5  h)) ∧ (x4 ≠ 0 → ((x6 ≠ x2 → (zr (8 * x1) ∧ (zr ((8 * x1) + x6) ∧ ((0 ≤ (8 * x1) + x6 ∧ (8 * x1) + x6 < 193) ∧ ((∀ x5_4 : Int, x5_4 = zw (x5 + (h (p0 + 3) (((8 * x1) + x6).toNat))) → (zr (x6 + 1) ∧ (L29 (x5_4, x6 + 1, h))))))))) ∧ (x6 = x2 → ((∀ x5_6 : Int, x5_6 = zw (x5 + 0) → (zr (x6 + 1) ∧ (L29 (x5_6, x6 + 1, h))))))))))
set_option maxRecDepth 100000 in
theorem s_RM_setCount_29 {Wf : Heap → List Loc → JFrame → Prop} {m : MethodId} {g : zG} {n : Nat} {H0 : Heap} (X : zX Wf m rm_RM_setCount b_RM_setCount "AliasStreamsModel" 7 g n H0) {K : Int → zH → Prop} (E : zEx Wf m b_RM_setCount (some .int) 7 g n H0 (zPi K))  {p0 : Nat} {x1 : Int} {x2 : Int} {x3 : Int} {x4 : Int}  (op0 : zO n p0 11) (rx1 : zr x1) (rx2 : zr x2) (rx3 : zr x3) (rx4 : zr x4) {q0 : Int × Int × zH} (hv0 : zLoop (fun L q => F_RM_setCount_29 K  L p0 x1 x2 x3 x4 q.1 q.2.1 q.2.2) q0) : zr q0.1 → zr q0.2.1 → zh (q0.2.2) → zW Wf m 7 g n H0 29 [(0, .ref (g.2.2 p0)), (1, zi x1), (2, zi x2), (3, zi x3), (4, zi x4), (5, zi q0.1), (6, zi q0.2.1)] [] (q0.2.2) := by
  refine zLoop_use (G := fun q => zr q.1 → zr q.2.1 → zh (q.2.2) → zW Wf m 7 g n H0 29 [(0, .ref (g.2.2 p0)), (1, zi x1), (2, zi x2), (3, zi x3), (4, zi x4), (5, zi q.1), (6, zi q.2.1)] [] (q.2.2)) ?_ hv0
  rintro L29 ⟨x5, x6, h⟩ hL29 hv rx5 rx6 hh
  have hv : F_RM_setCount_29 K  L29 p0 x1 x2 x3 x4 x5 x6 h := hv
  unfold F_RM_setCount_29 at hv
  show zW Wf m 7 g n H0 29 [(0, .ref (g.2.2 p0)), (1, zi x1), (2, zi x2), (3, zi x3), (4, zi x4), (5, zi x5), (6, zi x6)] [] h
  refine z_iload (pc := 29) (q := 6) X d_RM_setCount_29 rfl ?_
  refine z_aload_n (pc := 31) (q := 0) X d_RM_setCount_31 rfl ?_
  refine z_geti (pc := 32) (j := 4) X cf_RM op0 (by decide) q1025 rfl rfl d_RM_setCount_32 ?_
  refine z_icmp_ge (pc := 35) (tgt := 76) X rx6 (hh.1 _ _ (zO.ne op0 (by decide))) d_RM_setCount_35 (by decide) (fun hc => ?_) (fun hc => ?_)
  · replace hv := hv.1 hc
    refine z_perm [0, 1, 2, 3, 4, 5] rfl ?_
    exact s_RM_setCount_76 X E  op0 rx1 rx2 rx3 rx4 rx5  hh hv
  · replace hv := hv.2 hc
    refine z_iload (pc := 38) (q := 4) X d_RM_setCount_38 rfl ?_
    refine z_if_eq (pc := 40) (tgt := 76) X rx4 d_RM_setCount_40 (by decide) (fun hc => ?_) (fun hc => ?_)
    · replace hv := hv.1 hc
      refine z_perm [0, 1, 2, 3, 4, 5] rfl ?_
      exact s_RM_setCount_76 X E  op0 rx1 rx2 rx3 rx4 rx5  hh hv
    · replace hv := hv.2 hc
      refine z_iload (pc := 43) (q := 5) X d_RM_setCount_43 rfl ?_
      refine z_iload (pc := 45) (q := 6) X d_RM_setCount_45 rfl ?_
      refine z_iload_n (pc := 47) (q := 2) X d_RM_setCount_47 rfl ?_
      refine z_icmp_ne (pc := 48) (tgt := 55) X rx6 rx2 d_RM_setCount_48 (by decide) (fun hc => ?_) (fun hc => ?_)
      · replace hv := hv.1 hc
        refine z_aload_n (pc := 55) (q := 0) X d_RM_setCount_55 rfl ?_
        refine z_getr (pc := 56) (j := 9) (dd := 3) X cf_RM op0 (by decide) q1030 rfl rfl d_RM_setCount_56 ?_
        refine z_bipush (pc := 59) X d_RM_setCount_59 (by decide) ?_
        refine z_iload_n (pc := 61) (q := 1) X d_RM_setCount_61 rfl ?_
        obtain ⟨v_1, hv⟩ := hv
        refine z_imul (pc := 62) X d_RM_setCount_62 ?_
        refine z_iload (pc := 63) (q := 6) X d_RM_setCount_63 rfl ?_
        obtain ⟨v_2, hv⟩ := hv
        refine z_iadd (pc := 65) X d_RM_setCount_65 ?_
        obtain ⟨v_3, hv⟩ := hv
        refine z_ialdj (pc := 66) (j := ((8 * x1) + x6).toNat) X (gf_RM_9 op0) (gl_RM_9 op0) v_2 v_3 rfl d_RM_setCount_66 ?_
        refine z_iadd (pc := 67) X d_RM_setCount_67 ?_
        refine z_wi ?_
        refine z_topi (fun x5_4 ex5_4 => ?_)
        have rx5_4 : zr x5_4 := by rw [ex5_4]; exact (zr_w _)
        replace hv := hv x5_4 ex5_4
        refine z_istore (pc := 68) (lv' := [(5, zi x5_4), (0, .ref (g.2.2 p0)), (1, zi x1), (2, zi x2), (3, zi x3), (4, zi x4), (6, zi x6)]) X d_RM_setCount_68 (by decide) rfl ?_
        obtain ⟨v_5, hv⟩ := hv
        refine z_iinc (pc := 70) (q := 6) (lv' := [(6, zi (x6 + 1)), (5, zi x5_4), (0, .ref (g.2.2 p0)), (1, zi x1), (2, zi x2), (3, zi x3), (4, zi x4)]) X d_RM_setCount_70 rfl (by decide) rfl ?_
        refine z_goto (pc := 73) (tgt := 29) X d_RM_setCount_73 (by decide) ?_
        refine z_perm [2, 3, 4, 5, 6, 1, 0] rfl ?_
        exact hL29 _ hv rx5_4 v_5 hh
      · replace hv := hv.2 hc
        refine z_iconst (pc := 51) X d_RM_setCount_51 ?_
        refine z_goto (pc := 52) (tgt := 67) X d_RM_setCount_52 (by decide) ?_
        refine z_iadd (pc := 67) X d_RM_setCount_67 ?_
        refine z_wi ?_
        refine z_topi (fun x5_6 ex5_6 => ?_)
        have rx5_6 : zr x5_6 := by rw [ex5_6]; exact (zr_w _)
        replace hv := hv x5_6 ex5_6
        refine z_istore (pc := 68) (lv' := [(5, zi x5_6), (0, .ref (g.2.2 p0)), (1, zi x1), (2, zi x2), (3, zi x3), (4, zi x4), (6, zi x6)]) X d_RM_setCount_68 (by decide) rfl ?_
        obtain ⟨v_7, hv⟩ := hv
        refine z_iinc (pc := 70) (q := 6) (lv' := [(6, zi (x6 + 1)), (5, zi x5_6), (0, .ref (g.2.2 p0)), (1, zi x1), (2, zi x2), (3, zi x3), (4, zi x4)]) X d_RM_setCount_70 rfl (by decide) rfl ?_
        refine z_goto (pc := 73) (tgt := 29) X d_RM_setCount_73 (by decide) ?_
        refine z_perm [2, 3, 4, 5, 6, 1, 0] rfl ?_
        exact hL29 _ hv rx5_6 v_7 hh
def M_RM_setCount (p0 : Nat) (x1 : Int) (x2 : Int) (x3 : Int) (h : zH) (K : Int → zH → Prop) : Prop :=
  M_RM_isModel p0 x1 h (fun r_2 h_1 => (r_2 = 0 → (zLoop (fun L q => F_RM_setCount_29 K  L p0 x1 x2 x3 0 q.1 q.2.1 q.2.2) (x3, 0, h_1))) ∧ (r_2 ≠ 0 → (M_RM_isSymbol p0 x2 h_1 (fun r_4 h_3 => (r_4 = 0 → (zLoop (fun L q => F_RM_setCount_29 K  L p0 x1 x2 x3 0 q.1 q.2.1 q.2.2) (x3, 0, h_3))) ∧ (r_4 ≠ 0 → (zLoop (fun L q => F_RM_setCount_29 K  L p0 x1 x2 x3 1 q.1 q.2.1 q.2.2) (x3, 0, h_3)))))))
set_option maxRecDepth 100000 in
theorem c_RM_setCount {l : Launch} (hfl : l.flags = flags0) {g : zG} {n : Nat} {p0 : Nat} {x1 : Int} {x2 : Int} {x3 : Int} (op0 : zO n p0 11) (rx1 : zr x1) (rx2 : zr x2) (rx3 : zr x3) {h : zH} (hh : zh h) {K : Int → zH → Prop} (hv : M_RM_setCount p0 x1 x2 x3 h K) : zMet l y_RM_setCount b_RM_setCount 7 (some .int) rm_RM_setCount g n [.ref (g.2.2 p0), zi x1, zi x2, zi x3] h (zPi K) := by
  refine zMet_of (own := "AliasStreamsModel") hfl (by decide) rfl (Nat.le_of_ble_eq_true rfl) (fun Wf m H0 X E => ?_)
  unfold M_RM_setCount at hv
  show zW Wf m 7 g n H0 0 [(0, .ref (g.2.2 p0)), (1, zi x1), (2, zi x2), (3, zi x3)] [] h
  refine z_aload_n (pc := 0) (q := 0) X d_RM_setCount_0 rfl ?_
  refine z_iload_n (pc := 1) (q := 1) X d_RM_setCount_1 rfl ?_
  refine z_callVi (pc := 2) (As := [zi x1]) (rest := []) X (fun l hl => c_RM_isModel hl op0 rx1 hh hv) cf_RM op0 rfl mf_RM_isModel q1201 ⟨⟨by decide, by decide⟩, rfl, rfl⟩ rfl d_RM_setCount_2 rfl (Nat.le_of_ble_eq_true rfl) (fun r_2 h_1 rr_2 zh_1 hv => ?_)
  refine z_if_eq (pc := 5) (tgt := 20) X rr_2 d_RM_setCount_5 (by decide) (fun hc => ?_) (fun hc => ?_)
  · replace hv := hv.1 hc
    refine z_iconst (pc := 20) X d_RM_setCount_20 ?_
    refine z_istore (pc := 21) (lv' := [(4, zi 0), (0, .ref (g.2.2 p0)), (1, zi x1), (2, zi x2), (3, zi x3)]) X d_RM_setCount_21 (by decide) rfl ?_
    refine z_iload_n (pc := 23) (q := 4) X d_RM_setCount_23 rfl ?_
    refine z_istore (pc := 24) (lv' := [(5, zi x3), (4, zi 0), (0, .ref (g.2.2 p0)), (1, zi x1), (2, zi x2), (3, zi x3)]) X d_RM_setCount_24 (by decide) rfl ?_
    refine z_iconst (pc := 26) X d_RM_setCount_26 ?_
    refine z_istore (pc := 27) (lv' := [(6, zi 0), (5, zi x3), (4, zi 0), (0, .ref (g.2.2 p0)), (1, zi x1), (2, zi x2), (3, zi x3)]) X d_RM_setCount_27 (by decide) rfl ?_
    refine z_perm [3, 4, 5, 6, 2, 1, 0] rfl ?_
    exact s_RM_setCount_29 X E  op0 rx1 rx2 rx3 (show zr 0 from by decide) hv rx3 (show zr 0 from by decide) zh_1
  · replace hv := hv.2 hc
    refine z_aload_n (pc := 8) (q := 0) X d_RM_setCount_8 rfl ?_
    refine z_iload_n (pc := 9) (q := 2) X d_RM_setCount_9 rfl ?_
    refine z_callVi (pc := 10) (As := [zi x2]) (rest := []) X (fun l hl => c_RM_isSymbol hl op0 rx2 zh_1 hv) cf_RM op0 rfl mf_RM_isSymbol q1205 ⟨⟨by decide, by decide⟩, rfl, rfl⟩ rfl d_RM_setCount_10 rfl (Nat.le_of_ble_eq_true rfl) (fun r_4 h_3 rr_4 zh_3 hv => ?_)
    refine z_if_eq (pc := 13) (tgt := 20) X rr_4 d_RM_setCount_13 (by decide) (fun hc => ?_) (fun hc => ?_)
    · replace hv := hv.1 hc
      refine z_iconst (pc := 20) X d_RM_setCount_20 ?_
      refine z_istore (pc := 21) (lv' := [(4, zi 0), (0, .ref (g.2.2 p0)), (1, zi x1), (2, zi x2), (3, zi x3)]) X d_RM_setCount_21 (by decide) rfl ?_
      refine z_iload_n (pc := 23) (q := 4) X d_RM_setCount_23 rfl ?_
      refine z_istore (pc := 24) (lv' := [(5, zi x3), (4, zi 0), (0, .ref (g.2.2 p0)), (1, zi x1), (2, zi x2), (3, zi x3)]) X d_RM_setCount_24 (by decide) rfl ?_
      refine z_iconst (pc := 26) X d_RM_setCount_26 ?_
      refine z_istore (pc := 27) (lv' := [(6, zi 0), (5, zi x3), (4, zi 0), (0, .ref (g.2.2 p0)), (1, zi x1), (2, zi x2), (3, zi x3)]) X d_RM_setCount_27 (by decide) rfl ?_
      refine z_perm [3, 4, 5, 6, 2, 1, 0] rfl ?_
      exact s_RM_setCount_29 X E  op0 rx1 rx2 rx3 (show zr 0 from by decide) hv rx3 (show zr 0 from by decide) zh_3
    · replace hv := hv.2 hc
      refine z_iconst (pc := 16) X d_RM_setCount_16 ?_
      refine z_goto (pc := 17) (tgt := 21) X d_RM_setCount_17 (by decide) ?_
      refine z_istore (pc := 21) (lv' := [(4, zi 1), (0, .ref (g.2.2 p0)), (1, zi x1), (2, zi x2), (3, zi x3)]) X d_RM_setCount_21 (by decide) rfl ?_
      refine z_iload_n (pc := 23) (q := 4) X d_RM_setCount_23 rfl ?_
      refine z_istore (pc := 24) (lv' := [(5, zi x3), (4, zi 1), (0, .ref (g.2.2 p0)), (1, zi x1), (2, zi x2), (3, zi x3)]) X d_RM_setCount_24 (by decide) rfl ?_
      refine z_iconst (pc := 26) X d_RM_setCount_26 ?_
      refine z_istore (pc := 27) (lv' := [(6, zi 0), (5, zi x3), (4, zi 1), (0, .ref (g.2.2 p0)), (1, zi x1), (2, zi x2), (3, zi x3)]) X d_RM_setCount_27 (by decide) rfl ?_
      refine z_perm [3, 4, 5, 6, 2, 1, 0] rfl ?_
      exact s_RM_setCount_29 X E  op0 rx1 rx2 rx3 (show zr 1 from by decide) hv rx3 (show zr 0 from by decide) zh_3
theorem d_RM_isThing_0 : decode b_RM_isThing 0 = .ok (.aload_n 0, 1) := by decide +kernel
theorem d_RM_isThing_1 : decode b_RM_isThing 1 = .ok (.iload_n 1, 1) := by decide +kernel
theorem d_RM_isThing_2 : decode b_RM_isThing 2 = .ok (.invokevirtual 170, 3) := by decide +kernel
theorem d_RM_isThing_5 : decode b_RM_isThing 5 = .ok (.ifCond .ne 14, 3) := by decide +kernel
theorem d_RM_isThing_8 : decode b_RM_isThing 8 = .ok (.aload_n 0, 1) := by decide +kernel
theorem d_RM_isThing_9 : decode b_RM_isThing 9 = .ok (.iload_n 1, 1) := by decide +kernel
theorem d_RM_isThing_10 : decode b_RM_isThing 10 = .ok (.bipush 10, 2) := by decide +kernel
theorem d_RM_isThing_12 : decode b_RM_isThing 12 = .ok (.isub, 1) := by decide +kernel
theorem d_RM_isThing_13 : decode b_RM_isThing 13 = .ok (.invokevirtual 167, 3) := by decide +kernel
theorem d_RM_isThing_16 : decode b_RM_isThing 16 = .ok (.ifCond .eq 7, 3) := by decide +kernel
theorem d_RM_isThing_19 : decode b_RM_isThing 19 = .ok (.iconst 1, 1) := by decide +kernel
theorem d_RM_isThing_20 : decode b_RM_isThing 20 = .ok (.goto 4, 3) := by decide +kernel
theorem d_RM_isThing_23 : decode b_RM_isThing 23 = .ok (.iconst 0, 1) := by decide +kernel
theorem d_RM_isThing_24 : decode b_RM_isThing 24 = .ok (.ireturn, 1) := by decide +kernel
def rm_RM_isThing : Room := { frames := 2, cells := 0, slots := 0, locals := 46 }
theorem mf_RM_isThing : zMV y_RM_isThing b_RM_isThing 2 (some .boolean) 1 := ⟨q1246, qs81, q13, q1247, by decide +kernel⟩
def M_RM_isThing (p0 : Nat) (x1 : Int) (h : zH) (K : Int → zH → Prop) : Prop :=
  M_RM_isSymbol p0 x1 h (fun r_2 h_1 => (r_2 ≠ 0 → (K 1 h_1)) ∧ (r_2 = 0 → (M_RM_isModel p0 (zw (x1 - 10)) h_1 (fun r_4 h_3 => (r_4 = 0 → (K 0 h_3)) ∧ (r_4 ≠ 0 → (K 1 h_3))))))
set_option maxRecDepth 100000 in
theorem c_RM_isThing {l : Launch} (hfl : l.flags = flags0) {g : zG} {n : Nat} {p0 : Nat} {x1 : Int} (op0 : zO n p0 11) (rx1 : zr x1) {h : zH} (hh : zh h) {K : Int → zH → Prop} (hv : M_RM_isThing p0 x1 h K) : zMet l y_RM_isThing b_RM_isThing 2 (some .boolean) rm_RM_isThing g n [.ref (g.2.2 p0), zi x1] h (zPi K) := by
  refine zMet_of (own := "AliasStreamsModel") hfl (by decide) rfl (Nat.le_of_ble_eq_true rfl) (fun Wf m H0 X E => ?_)
  unfold M_RM_isThing at hv
  show zW Wf m 2 g n H0 0 [(0, .ref (g.2.2 p0)), (1, zi x1)] [] h
  refine z_aload_n (pc := 0) (q := 0) X d_RM_isThing_0 rfl ?_
  refine z_iload_n (pc := 1) (q := 1) X d_RM_isThing_1 rfl ?_
  refine z_callVi (pc := 2) (As := [zi x1]) (rest := []) X (fun l hl => c_RM_isSymbol hl op0 rx1 hh hv) cf_RM op0 rfl mf_RM_isSymbol q1205 ⟨⟨by decide, by decide⟩, rfl, rfl⟩ rfl d_RM_isThing_2 rfl (Nat.le_of_ble_eq_true rfl) (fun r_2 h_1 rr_2 zh_1 hv => ?_)
  refine z_if_ne (pc := 5) (tgt := 19) X rr_2 d_RM_isThing_5 (by decide) (fun hc => ?_) (fun hc => ?_)
  · replace hv := hv.1 hc
    refine z_iconst (pc := 19) X d_RM_isThing_19 ?_
    refine z_goto (pc := 20) (tgt := 24) X d_RM_isThing_20 (by decide) ?_
    exact E.2.2.1 rfl _ _ _ _ (by decide) d_RM_isThing_24 ⟨_, rfl, (show zr 1 from by decide), zh_1, hv⟩
  · replace hv := hv.2 hc
    refine z_aload_n (pc := 8) (q := 0) X d_RM_isThing_8 rfl ?_
    refine z_iload_n (pc := 9) (q := 1) X d_RM_isThing_9 rfl ?_
    refine z_bipush (pc := 10) X d_RM_isThing_10 (by decide) ?_
    refine z_isub (pc := 12) X d_RM_isThing_12 ?_
    refine z_wi ?_
    refine z_callVi (pc := 13) (As := [zi (zw (x1 - 10))]) (rest := []) X (fun l hl => c_RM_isModel hl op0 (zr_w _) zh_1 hv) cf_RM op0 rfl mf_RM_isModel q1201 ⟨⟨by decide, by decide⟩, rfl, rfl⟩ rfl d_RM_isThing_13 rfl (Nat.le_of_ble_eq_true rfl) (fun r_4 h_3 rr_4 zh_3 hv => ?_)
    refine z_if_eq (pc := 16) (tgt := 23) X rr_4 d_RM_isThing_16 (by decide) (fun hc => ?_) (fun hc => ?_)
    · replace hv := hv.1 hc
      refine z_iconst (pc := 23) X d_RM_isThing_23 ?_
      exact E.2.2.1 rfl _ _ _ _ (by decide) d_RM_isThing_24 ⟨_, rfl, (show zr 0 from by decide), zh_3, hv⟩
    · replace hv := hv.2 hc
      refine z_iconst (pc := 19) X d_RM_isThing_19 ?_
      refine z_goto (pc := 20) (tgt := 24) X d_RM_isThing_20 (by decide) ?_
      exact E.2.2.1 rfl _ _ _ _ (by decide) d_RM_isThing_24 ⟨_, rfl, (show zr 1 from by decide), zh_3, hv⟩
theorem d_RM_put_0 : decode b_RM_put 0 = .ok (.aload_n 0, 1) := by decide +kernel
theorem d_RM_put_1 : decode b_RM_put 1 = .ok (.sipush 188, 3) := by decide +kernel
theorem d_RM_put_4 : decode b_RM_put 4 = .ok (.iaload, 1) := by decide +kernel
theorem d_RM_put_5 : decode b_RM_put 5 = .ok (.istore_n 3, 1) := by decide +kernel
theorem d_RM_put_6 : decode b_RM_put 6 = .ok (.iload_n 3, 1) := by decide +kernel
theorem d_RM_put_7 : decode b_RM_put 7 = .ok (.iload_n 1, 1) := by decide +kernel
theorem d_RM_put_8 : decode b_RM_put 8 = .ok (.if_icmp .le 23, 3) := by decide +kernel
theorem d_RM_put_11 : decode b_RM_put 11 = .ok (.aload_n 0, 1) := by decide +kernel
theorem d_RM_put_12 : decode b_RM_put 12 = .ok (.bipush 24, 2) := by decide +kernel
theorem d_RM_put_14 : decode b_RM_put 14 = .ok (.iload_n 3, 1) := by decide +kernel
theorem d_RM_put_15 : decode b_RM_put 15 = .ok (.iadd, 1) := by decide +kernel
theorem d_RM_put_16 : decode b_RM_put 16 = .ok (.aload_n 0, 1) := by decide +kernel
theorem d_RM_put_17 : decode b_RM_put 17 = .ok (.bipush 24, 2) := by decide +kernel
theorem d_RM_put_19 : decode b_RM_put 19 = .ok (.iload_n 3, 1) := by decide +kernel
theorem d_RM_put_20 : decode b_RM_put 20 = .ok (.iadd, 1) := by decide +kernel
theorem d_RM_put_21 : decode b_RM_put 21 = .ok (.iconst 1, 1) := by decide +kernel
theorem d_RM_put_22 : decode b_RM_put 22 = .ok (.isub, 1) := by decide +kernel
theorem d_RM_put_23 : decode b_RM_put 23 = .ok (.iaload, 1) := by decide +kernel
theorem d_RM_put_24 : decode b_RM_put 24 = .ok (.iastore, 1) := by decide +kernel
theorem d_RM_put_25 : decode b_RM_put 25 = .ok (.iinc 3 (-1), 3) := by decide +kernel
theorem d_RM_put_28 : decode b_RM_put 28 = .ok (.goto (-22), 3) := by decide +kernel
theorem d_RM_put_31 : decode b_RM_put 31 = .ok (.aload_n 0, 1) := by decide +kernel
theorem d_RM_put_32 : decode b_RM_put 32 = .ok (.bipush 24, 2) := by decide +kernel
theorem d_RM_put_34 : decode b_RM_put 34 = .ok (.iload_n 1, 1) := by decide +kernel
theorem d_RM_put_35 : decode b_RM_put 35 = .ok (.iadd, 1) := by decide +kernel
theorem d_RM_put_36 : decode b_RM_put 36 = .ok (.iload_n 2, 1) := by decide +kernel
theorem d_RM_put_37 : decode b_RM_put 37 = .ok (.iastore, 1) := by decide +kernel
theorem d_RM_put_38 : decode b_RM_put 38 = .ok (.aload_n 0, 1) := by decide +kernel
theorem d_RM_put_39 : decode b_RM_put 39 = .ok (.sipush 188, 3) := by decide +kernel
theorem d_RM_put_42 : decode b_RM_put 42 = .ok (.dup2, 1) := by decide +kernel
theorem d_RM_put_43 : decode b_RM_put 43 = .ok (.iaload, 1) := by decide +kernel
theorem d_RM_put_44 : decode b_RM_put 44 = .ok (.iconst 1, 1) := by decide +kernel
theorem d_RM_put_45 : decode b_RM_put 45 = .ok (.iadd, 1) := by decide +kernel
theorem d_RM_put_46 : decode b_RM_put 46 = .ok (.iastore, 1) := by decide +kernel
theorem d_RM_put_47 : decode b_RM_put 47 = .ok (.return_, 1) := by decide +kernel
def rm_RM_put : Room := { frames := 0, cells := 0, slots := 0, locals := 0 }
theorem mf_RM_put : zMS y_RM_put b_RM_put 4 none 3 := ⟨q1249, q13, q1250, by decide +kernel⟩
def F_RM_put_6 (K : zH → Prop)  (L6 : Int × zH → Prop) (p0 : Nat) (x1 : Int) (x2 : Int) (x3 : Int) (h : zH) : Prop :=
  (x3 ≤ x1 → (zr (24 + x1) ∧ ((0 ≤ 24 + x1 ∧ 24 + x1 < ((zln p0 : Nat) : Int)) ∧ (∀ h_3 : zH, h_3 = zs h p0 ((24 + x1).toNat) x2 → ((188 : Int) < ((zln p0 : Nat) : Int) ∧ (zr ((h_3 p0 188) + 1) ∧ ((188 : Int) < ((zln p0 : Nat) : Int) ∧ (∀ h_7 : zH, h_7 = zs h_3 p0 188 ((h_3 p0 188) + 1) → (K h_7))))))))) ∧ (x1 < x3 → (zr (24 + x3) ∧ (zr (24 + x3) ∧ (zr ((24 + x3) - 1) ∧ ((0 ≤ (24 + x3) - 1 ∧ (24 + x3) - 1 < ((zln p0 : Nat) : Int)) ∧ ((0 ≤ 24 + x3 ∧ 24 + x3 < ((zln p0 : Nat) : Int)) ∧ (∀ h_13 : zH, h_13 = zs h p0 ((24 + x3).toNat) (h p0 (((24 + x3) - 1).toNat)) → (zr (x3 + (-1)) ∧ (L6 (x3 + (-1), h_13))))))))))
set_option maxRecDepth 100000 in
theorem s_RM_put_6 {Wf : Heap → List Loc → JFrame → Prop} {m : MethodId} {g : zG} {n : Nat} {H0 : Heap} (X : zX Wf m rm_RM_put b_RM_put "AliasStreamsModel" 4 g n H0) {K : zH → Prop} (E : zEx Wf m b_RM_put none 4 g n H0 (zPv K))  {p0 : Nat} {x1 : Int} {x2 : Int}  (op0 : zO n p0 12) (rx1 : zr x1) (rx2 : zr x2) {q0 : Int × zH} (hv0 : zLoop (fun L q => F_RM_put_6 K  L p0 x1 x2 q.1 q.2) q0) : zr q0.1 → zh (q0.2) → zW Wf m 4 g n H0 6 [(0, .ref (g.2.2 p0)), (1, zi x1), (2, zi x2), (3, zi q0.1)] [] (q0.2) := by
  refine zLoop_use (G := fun q => zr q.1 → zh (q.2) → zW Wf m 4 g n H0 6 [(0, .ref (g.2.2 p0)), (1, zi x1), (2, zi x2), (3, zi q.1)] [] (q.2)) ?_ hv0
  rintro L6 ⟨x3, h⟩ hL6 hv rx3 hh
  have hv : F_RM_put_6 K  L6 p0 x1 x2 x3 h := hv
  unfold F_RM_put_6 at hv
  show zW Wf m 4 g n H0 6 [(0, .ref (g.2.2 p0)), (1, zi x1), (2, zi x2), (3, zi x3)] [] h
  refine z_iload_n (pc := 6) (q := 3) X d_RM_put_6 rfl ?_
  refine z_iload_n (pc := 7) (q := 1) X d_RM_put_7 rfl ?_
  refine z_icmp_le (pc := 8) (tgt := 31) X rx3 rx1 d_RM_put_8 (by decide) (fun hc => ?_) (fun hc => ?_)
  · replace hv := hv.1 hc
    refine z_aload_n (pc := 31) (q := 0) X d_RM_put_31 rfl ?_
    refine z_bipush (pc := 32) X d_RM_put_32 (by decide) ?_
    refine z_iload_n (pc := 34) (q := 1) X d_RM_put_34 rfl ?_
    obtain ⟨v_1, hv⟩ := hv
    refine z_iadd (pc := 35) X d_RM_put_35 ?_
    refine z_iload_n (pc := 36) (q := 2) X d_RM_put_36 rfl ?_
    obtain ⟨v_2, hv⟩ := hv
    refine z_iastj (pc := 37) (j := (24 + x1).toNat) X op0 rfl v_1 v_2 rfl d_RM_put_37 ?_
    refine z_toph (fun h_3 eh_3 => ?_)
    have zh_3 : zh h_3 := by rw [eh_3]; exact zh_set hh (zO.ne op0 (by decide)) rx2
    replace hv := hv h_3 eh_3
    refine z_aload_n (pc := 38) (q := 0) X d_RM_put_38 rfl ?_
    refine z_sipush (pc := 39) X d_RM_put_39 (by decide) ?_
    refine z_dup2 (pc := 42) X d_RM_put_42 rfl rfl ?_
    obtain ⟨v_4, hv⟩ := hv
    refine z_ialdj (pc := 43) (j := 188) X op0 rfl (show zr 188 from by decide) ⟨by decide, v_4⟩ rfl d_RM_put_43 ?_
    refine z_iconst (pc := 44) X d_RM_put_44 ?_
    obtain ⟨v_5, hv⟩ := hv
    refine z_iadd (pc := 45) X d_RM_put_45 ?_
    obtain ⟨v_6, hv⟩ := hv
    refine z_iastj (pc := 46) (j := 188) X op0 rfl (show zr 188 from by decide) ⟨by decide, v_6⟩ rfl d_RM_put_46 ?_
    refine z_toph (fun h_7 eh_7 => ?_)
    have zh_7 : zh h_7 := by rw [eh_7]; exact zh_set zh_3 (zO.ne op0 (by decide)) v_5
    replace hv := hv h_7 eh_7
    exact E.1 rfl _ _ _ d_RM_put_47 ⟨rfl, zh_7, hv⟩
  · replace hv := hv.2 hc
    refine z_aload_n (pc := 11) (q := 0) X d_RM_put_11 rfl ?_
    refine z_bipush (pc := 12) X d_RM_put_12 (by decide) ?_
    refine z_iload_n (pc := 14) (q := 3) X d_RM_put_14 rfl ?_
    obtain ⟨v_8, hv⟩ := hv
    refine z_iadd (pc := 15) X d_RM_put_15 ?_
    refine z_aload_n (pc := 16) (q := 0) X d_RM_put_16 rfl ?_
    refine z_bipush (pc := 17) X d_RM_put_17 (by decide) ?_
    refine z_iload_n (pc := 19) (q := 3) X d_RM_put_19 rfl ?_
    obtain ⟨v_9, hv⟩ := hv
    refine z_iadd (pc := 20) X d_RM_put_20 ?_
    refine z_iconst (pc := 21) X d_RM_put_21 ?_
    obtain ⟨v_10, hv⟩ := hv
    refine z_isub (pc := 22) X d_RM_put_22 ?_
    obtain ⟨v_11, hv⟩ := hv
    refine z_ialdj (pc := 23) (j := ((24 + x3) - 1).toNat) X op0 rfl v_10 v_11 rfl d_RM_put_23 ?_
    obtain ⟨v_12, hv⟩ := hv
    refine z_iastj (pc := 24) (j := (24 + x3).toNat) X op0 rfl v_8 v_12 rfl d_RM_put_24 ?_
    refine z_toph (fun h_13 eh_13 => ?_)
    have zh_13 : zh h_13 := by rw [eh_13]; exact zh_set hh (zO.ne op0 (by decide)) (hh.1 _ _ (zO.ne op0 (by decide)))
    replace hv := hv h_13 eh_13
    obtain ⟨v_14, hv⟩ := hv
    refine z_iinc (pc := 25) (q := 3) (lv' := [(3, zi (x3 + (-1))), (0, .ref (g.2.2 p0)), (1, zi x1), (2, zi x2)]) X d_RM_put_25 rfl (by decide) rfl ?_
    refine z_goto (pc := 28) (tgt := 6) X d_RM_put_28 (by decide) ?_
    refine z_perm [1, 2, 3, 0] rfl ?_
    exact hL6 _ hv v_14 zh_13
def M_RM_put (p0 : Nat) (x1 : Int) (x2 : Int) (h : zH) (K : zH → Prop) : Prop :=
  (188 : Int) < ((zln p0 : Nat) : Int) ∧ ((∀ x3_2 : Int, x3_2 = h p0 188 → (zLoop (fun L q => F_RM_put_6 K  L p0 x1 x2 q.1 q.2) (x3_2, h))))
set_option maxRecDepth 100000 in
theorem c_RM_put {l : Launch} (hfl : l.flags = flags0) {g : zG} {n : Nat} {p0 : Nat} {x1 : Int} {x2 : Int} (op0 : zO n p0 12) (rx1 : zr x1) (rx2 : zr x2) {h : zH} (hh : zh h) {K : zH → Prop} (hv : M_RM_put p0 x1 x2 h K) : zMet l y_RM_put b_RM_put 4 none rm_RM_put g n [.ref (g.2.2 p0), zi x1, zi x2] h (zPv K) := by
  refine zMet_of (own := "AliasStreamsModel") hfl (by decide) rfl (Nat.le_of_ble_eq_true rfl) (fun Wf m H0 X E => ?_)
  unfold M_RM_put at hv
  show zW Wf m 4 g n H0 0 [(0, .ref (g.2.2 p0)), (1, zi x1), (2, zi x2)] [] h
  refine z_aload_n (pc := 0) (q := 0) X d_RM_put_0 rfl ?_
  refine z_sipush (pc := 1) X d_RM_put_1 (by decide) ?_
  obtain ⟨v_1, hv⟩ := hv
  refine z_ialdj (pc := 4) (j := 188) X op0 rfl (show zr 188 from by decide) ⟨by decide, v_1⟩ rfl d_RM_put_4 ?_
  refine z_topi (fun x3_2 ex3_2 => ?_)
  have rx3_2 : zr x3_2 := by rw [ex3_2]; exact (hh.1 _ _ (zO.ne op0 (by decide)))
  replace hv := hv x3_2 ex3_2
  refine z_istore_n (pc := 5) (lv' := [(3, zi x3_2), (0, .ref (g.2.2 p0)), (1, zi x1), (2, zi x2)]) X d_RM_put_5 (by decide) rfl ?_
  refine z_perm [1, 2, 3, 0] rfl ?_
  exact s_RM_put_6 X E  op0 rx1 rx2 hv rx3_2 hh
theorem d_RM_drop_0 : decode b_RM_drop 0 = .ok (.aload_n 0, 1) := by decide +kernel
theorem d_RM_drop_1 : decode b_RM_drop 1 = .ok (.bipush 24, 2) := by decide +kernel
theorem d_RM_drop_3 : decode b_RM_drop 3 = .ok (.iload_n 1, 1) := by decide +kernel
theorem d_RM_drop_4 : decode b_RM_drop 4 = .ok (.iadd, 1) := by decide +kernel
theorem d_RM_drop_5 : decode b_RM_drop 5 = .ok (.iaload, 1) := by decide +kernel
theorem d_RM_drop_6 : decode b_RM_drop 6 = .ok (.istore_n 2, 1) := by decide +kernel
theorem d_RM_drop_7 : decode b_RM_drop 7 = .ok (.iload_n 1, 1) := by decide +kernel
theorem d_RM_drop_8 : decode b_RM_drop 8 = .ok (.istore_n 3, 1) := by decide +kernel
theorem d_RM_drop_9 : decode b_RM_drop 9 = .ok (.iload_n 3, 1) := by decide +kernel
theorem d_RM_drop_10 : decode b_RM_drop 10 = .ok (.iconst 1, 1) := by decide +kernel
theorem d_RM_drop_11 : decode b_RM_drop 11 = .ok (.iadd, 1) := by decide +kernel
theorem d_RM_drop_12 : decode b_RM_drop 12 = .ok (.aload_n 0, 1) := by decide +kernel
theorem d_RM_drop_13 : decode b_RM_drop 13 = .ok (.sipush 188, 3) := by decide +kernel
theorem d_RM_drop_16 : decode b_RM_drop 16 = .ok (.iaload, 1) := by decide +kernel
theorem d_RM_drop_17 : decode b_RM_drop 17 = .ok (.if_icmp .ge 23, 3) := by decide +kernel
theorem d_RM_drop_20 : decode b_RM_drop 20 = .ok (.aload_n 0, 1) := by decide +kernel
theorem d_RM_drop_21 : decode b_RM_drop 21 = .ok (.bipush 24, 2) := by decide +kernel
theorem d_RM_drop_23 : decode b_RM_drop 23 = .ok (.iload_n 3, 1) := by decide +kernel
theorem d_RM_drop_24 : decode b_RM_drop 24 = .ok (.iadd, 1) := by decide +kernel
theorem d_RM_drop_25 : decode b_RM_drop 25 = .ok (.aload_n 0, 1) := by decide +kernel
theorem d_RM_drop_26 : decode b_RM_drop 26 = .ok (.bipush 24, 2) := by decide +kernel
theorem d_RM_drop_28 : decode b_RM_drop 28 = .ok (.iload_n 3, 1) := by decide +kernel
theorem d_RM_drop_29 : decode b_RM_drop 29 = .ok (.iadd, 1) := by decide +kernel
theorem d_RM_drop_30 : decode b_RM_drop 30 = .ok (.iconst 1, 1) := by decide +kernel
theorem d_RM_drop_31 : decode b_RM_drop 31 = .ok (.iadd, 1) := by decide +kernel
theorem d_RM_drop_32 : decode b_RM_drop 32 = .ok (.iaload, 1) := by decide +kernel
theorem d_RM_drop_33 : decode b_RM_drop 33 = .ok (.iastore, 1) := by decide +kernel
theorem d_RM_drop_34 : decode b_RM_drop 34 = .ok (.iinc 3 1, 3) := by decide +kernel
theorem d_RM_drop_37 : decode b_RM_drop 37 = .ok (.goto (-28), 3) := by decide +kernel
theorem d_RM_drop_40 : decode b_RM_drop 40 = .ok (.aload_n 0, 1) := by decide +kernel
theorem d_RM_drop_41 : decode b_RM_drop 41 = .ok (.sipush 188, 3) := by decide +kernel
theorem d_RM_drop_44 : decode b_RM_drop 44 = .ok (.dup2, 1) := by decide +kernel
theorem d_RM_drop_45 : decode b_RM_drop 45 = .ok (.iaload, 1) := by decide +kernel
theorem d_RM_drop_46 : decode b_RM_drop 46 = .ok (.iconst 1, 1) := by decide +kernel
theorem d_RM_drop_47 : decode b_RM_drop 47 = .ok (.isub, 1) := by decide +kernel
theorem d_RM_drop_48 : decode b_RM_drop 48 = .ok (.iastore, 1) := by decide +kernel
theorem d_RM_drop_49 : decode b_RM_drop 49 = .ok (.iload_n 2, 1) := by decide +kernel
theorem d_RM_drop_50 : decode b_RM_drop 50 = .ok (.ireturn, 1) := by decide +kernel
def rm_RM_drop : Room := { frames := 0, cells := 0, slots := 0, locals := 0 }
theorem mf_RM_drop : zMS y_RM_drop b_RM_drop 4 (some .int) 2 := ⟨q1256, q13, q1257, by decide +kernel⟩
def F_RM_drop_9 (K : Int → zH → Prop)  (L9 : Int × zH → Prop) (p0 : Nat) (x2 : Int) (x3 : Int) (h : zH) : Prop :=
  zr (x3 + 1) ∧ ((188 : Int) < ((zln p0 : Nat) : Int) ∧ ((h p0 188 ≤ x3 + 1 → ((188 : Int) < ((zln p0 : Nat) : Int) ∧ (zr ((h p0 188) - 1) ∧ ((188 : Int) < ((zln p0 : Nat) : Int) ∧ (∀ h_6 : zH, h_6 = zs h p0 188 ((h p0 188) - 1) → (K x2 h_6)))))) ∧ (x3 + 1 < h p0 188 → (zr (24 + x3) ∧ (zr (24 + x3) ∧ (zr ((24 + x3) + 1) ∧ ((0 ≤ (24 + x3) + 1 ∧ (24 + x3) + 1 < ((zln p0 : Nat) : Int)) ∧ ((0 ≤ 24 + x3 ∧ 24 + x3 < ((zln p0 : Nat) : Int)) ∧ (∀ h_12 : zH, h_12 = zs h p0 ((24 + x3).toNat) (h p0 (((24 + x3) + 1).toNat)) → (zr (x3 + 1) ∧ (L9 (x3 + 1, h_12))))))))))))
set_option maxRecDepth 100000 in
theorem s_RM_drop_9 {Wf : Heap → List Loc → JFrame → Prop} {m : MethodId} {g : zG} {n : Nat} {H0 : Heap} (X : zX Wf m rm_RM_drop b_RM_drop "AliasStreamsModel" 4 g n H0) {K : Int → zH → Prop} (E : zEx Wf m b_RM_drop (some .int) 4 g n H0 (zPi K))  {p0 : Nat} {x2 : Int}  (op0 : zO n p0 12) (rx2 : zr x2) {q0 : Int × zH} (hv0 : zLoop (fun L q => F_RM_drop_9 K  L p0 x2 q.1 q.2) q0) : zr q0.1 → zh (q0.2) → zW Wf m 4 g n H0 9 [(0, .ref (g.2.2 p0)), (2, zi x2), (3, zi q0.1)] [] (q0.2) := by
  refine zLoop_use (G := fun q => zr q.1 → zh (q.2) → zW Wf m 4 g n H0 9 [(0, .ref (g.2.2 p0)), (2, zi x2), (3, zi q.1)] [] (q.2)) ?_ hv0
  rintro L9 ⟨x3, h⟩ hL9 hv rx3 hh
  have hv : F_RM_drop_9 K  L9 p0 x2 x3 h := hv
  unfold F_RM_drop_9 at hv
  show zW Wf m 4 g n H0 9 [(0, .ref (g.2.2 p0)), (2, zi x2), (3, zi x3)] [] h
  refine z_iload_n (pc := 9) (q := 2) X d_RM_drop_9 rfl ?_
  refine z_iconst (pc := 10) X d_RM_drop_10 ?_
  obtain ⟨v_1, hv⟩ := hv
  refine z_iadd (pc := 11) X d_RM_drop_11 ?_
  refine z_aload_n (pc := 12) (q := 0) X d_RM_drop_12 rfl ?_
  refine z_sipush (pc := 13) X d_RM_drop_13 (by decide) ?_
  obtain ⟨v_2, hv⟩ := hv
  refine z_ialdj (pc := 16) (j := 188) X op0 rfl (show zr 188 from by decide) ⟨by decide, v_2⟩ rfl d_RM_drop_16 ?_
  refine z_icmp_ge (pc := 17) (tgt := 40) X v_1 (hh.1 _ _ (zO.ne op0 (by decide))) d_RM_drop_17 (by decide) (fun hc => ?_) (fun hc => ?_)
  · replace hv := hv.1 hc
    refine z_aload_n (pc := 40) (q := 0) X d_RM_drop_40 rfl ?_
    refine z_sipush (pc := 41) X d_RM_drop_41 (by decide) ?_
    refine z_dup2 (pc := 44) X d_RM_drop_44 rfl rfl ?_
    obtain ⟨v_3, hv⟩ := hv
    refine z_ialdj (pc := 45) (j := 188) X op0 rfl (show zr 188 from by decide) ⟨by decide, v_3⟩ rfl d_RM_drop_45 ?_
    refine z_iconst (pc := 46) X d_RM_drop_46 ?_
    obtain ⟨v_4, hv⟩ := hv
    refine z_isub (pc := 47) X d_RM_drop_47 ?_
    obtain ⟨v_5, hv⟩ := hv
    refine z_iastj (pc := 48) (j := 188) X op0 rfl (show zr 188 from by decide) ⟨by decide, v_5⟩ rfl d_RM_drop_48 ?_
    refine z_toph (fun h_6 eh_6 => ?_)
    have zh_6 : zh h_6 := by rw [eh_6]; exact zh_set hh (zO.ne op0 (by decide)) v_4
    replace hv := hv h_6 eh_6
    refine z_iload_n (pc := 49) (q := 1) X d_RM_drop_49 rfl ?_
    exact E.2.1 rfl _ _ _ _ d_RM_drop_50 ⟨_, rfl, rx2, zh_6, hv⟩
  · replace hv := hv.2 hc
    refine z_aload_n (pc := 20) (q := 0) X d_RM_drop_20 rfl ?_
    refine z_bipush (pc := 21) X d_RM_drop_21 (by decide) ?_
    refine z_iload_n (pc := 23) (q := 2) X d_RM_drop_23 rfl ?_
    obtain ⟨v_7, hv⟩ := hv
    refine z_iadd (pc := 24) X d_RM_drop_24 ?_
    refine z_aload_n (pc := 25) (q := 0) X d_RM_drop_25 rfl ?_
    refine z_bipush (pc := 26) X d_RM_drop_26 (by decide) ?_
    refine z_iload_n (pc := 28) (q := 2) X d_RM_drop_28 rfl ?_
    obtain ⟨v_8, hv⟩ := hv
    refine z_iadd (pc := 29) X d_RM_drop_29 ?_
    refine z_iconst (pc := 30) X d_RM_drop_30 ?_
    obtain ⟨v_9, hv⟩ := hv
    refine z_iadd (pc := 31) X d_RM_drop_31 ?_
    obtain ⟨v_10, hv⟩ := hv
    refine z_ialdj (pc := 32) (j := ((24 + x3) + 1).toNat) X op0 rfl v_9 v_10 rfl d_RM_drop_32 ?_
    obtain ⟨v_11, hv⟩ := hv
    refine z_iastj (pc := 33) (j := (24 + x3).toNat) X op0 rfl v_7 v_11 rfl d_RM_drop_33 ?_
    refine z_toph (fun h_12 eh_12 => ?_)
    have zh_12 : zh h_12 := by rw [eh_12]; exact zh_set hh (zO.ne op0 (by decide)) (hh.1 _ _ (zO.ne op0 (by decide)))
    replace hv := hv h_12 eh_12
    obtain ⟨v_13, hv⟩ := hv
    refine z_iinc (pc := 34) (q := 2) (lv' := [(3, zi (x3 + 1)), (0, .ref (g.2.2 p0)), (2, zi x2)]) X d_RM_drop_34 rfl (by decide) rfl ?_
    refine z_goto (pc := 37) (tgt := 9) X d_RM_drop_37 (by decide) ?_
    refine z_perm [1, 2, 0] rfl ?_
    exact hL9 _ hv v_13 zh_12
def M_RM_drop (p0 : Nat) (x1 : Int) (h : zH) (K : Int → zH → Prop) : Prop :=
  zr (24 + x1) ∧ ((0 ≤ 24 + x1 ∧ 24 + x1 < ((zln p0 : Nat) : Int)) ∧ ((∀ x2_3 : Int, x2_3 = h p0 ((24 + x1).toNat) → (zLoop (fun L q => F_RM_drop_9 K  L p0 x2_3 q.1 q.2) (x1, h)))))
set_option maxRecDepth 100000 in
theorem c_RM_drop {l : Launch} (hfl : l.flags = flags0) {g : zG} {n : Nat} {p0 : Nat} {x1 : Int} (op0 : zO n p0 12) (rx1 : zr x1) {h : zH} (hh : zh h) {K : Int → zH → Prop} (hv : M_RM_drop p0 x1 h K) : zMet l y_RM_drop b_RM_drop 4 (some .int) rm_RM_drop g n [.ref (g.2.2 p0), zi x1] h (zPi K) := by
  refine zMet_of (own := "AliasStreamsModel") hfl (by decide) rfl (Nat.le_of_ble_eq_true rfl) (fun Wf m H0 X E => ?_)
  unfold M_RM_drop at hv
  show zW Wf m 4 g n H0 0 [(0, .ref (g.2.2 p0)), (1, zi x1)] [] h
  refine z_aload_n (pc := 0) (q := 0) X d_RM_drop_0 rfl ?_
  refine z_bipush (pc := 1) X d_RM_drop_1 (by decide) ?_
  refine z_iload_n (pc := 3) (q := 1) X d_RM_drop_3 rfl ?_
  obtain ⟨v_1, hv⟩ := hv
  refine z_iadd (pc := 4) X d_RM_drop_4 ?_
  obtain ⟨v_2, hv⟩ := hv
  refine z_ialdj (pc := 5) (j := (24 + x1).toNat) X op0 rfl v_1 v_2 rfl d_RM_drop_5 ?_
  refine z_topi (fun x2_3 ex2_3 => ?_)
  have rx2_3 : zr x2_3 := by rw [ex2_3]; exact (hh.1 _ _ (zO.ne op0 (by decide)))
  replace hv := hv x2_3 ex2_3
  refine z_istore_n (pc := 6) (lv' := [(2, zi x2_3), (0, .ref (g.2.2 p0)), (1, zi x1)]) X d_RM_drop_6 (by decide) rfl ?_
  refine z_iload_n (pc := 7) (q := 2) X d_RM_drop_7 rfl ?_
  refine z_istore_n (pc := 8) (lv' := [(3, zi x1), (2, zi x2_3), (0, .ref (g.2.2 p0)), (1, zi x1)]) X d_RM_drop_8 (by decide) rfl ?_
  refine z_perm [2, 1, 0] rfl ?_
  exact s_RM_drop_9 X E  op0 rx2_3 hv rx1 hh
theorem d_RM_insert_0 : decode b_RM_insert 0 = .ok (.aload_n 0, 1) := by decide +kernel
theorem d_RM_insert_1 : decode b_RM_insert 1 = .ok (.iload_n 1, 1) := by decide +kernel
theorem d_RM_insert_2 : decode b_RM_insert 2 = .ok (.i2l, 1) := by decide +kernel
theorem d_RM_insert_3 : decode b_RM_insert 3 = .ok (.lconst 0, 1) := by decide +kernel
theorem d_RM_insert_4 : decode b_RM_insert 4 = .ok (.aload_n 0, 1) := by decide +kernel
theorem d_RM_insert_5 : decode b_RM_insert 5 = .ok (.getfield 23, 3) := by decide +kernel
theorem d_RM_insert_8 : decode b_RM_insert 8 = .ok (.sipush 188, 3) := by decide +kernel
theorem d_RM_insert_11 : decode b_RM_insert 11 = .ok (.iaload, 1) := by decide +kernel
theorem d_RM_insert_12 : decode b_RM_insert 12 = .ok (.i2l, 1) := by decide +kernel
theorem d_RM_insert_13 : decode b_RM_insert 13 = .ok (.invokestatic 87, 3) := by decide +kernel
theorem d_RM_insert_16 : decode b_RM_insert 16 = .ok (.ifCond .ne 7, 3) := by decide +kernel
theorem d_RM_insert_19 : decode b_RM_insert 19 = .ok (.iconst 1, 1) := by decide +kernel
theorem d_RM_insert_20 : decode b_RM_insert 20 = .ok (.goto 33, 3) := by decide +kernel
theorem d_RM_insert_23 : decode b_RM_insert 23 = .ok (.aload_n 0, 1) := by decide +kernel
theorem d_RM_insert_24 : decode b_RM_insert 24 = .ok (.iload_n 2, 1) := by decide +kernel
theorem d_RM_insert_25 : decode b_RM_insert 25 = .ok (.invokevirtual 185, 3) := by decide +kernel
theorem d_RM_insert_28 : decode b_RM_insert 28 = .ok (.ifCond .ne 7, 3) := by decide +kernel
theorem d_RM_insert_31 : decode b_RM_insert 31 = .ok (.iconst 2, 1) := by decide +kernel
theorem d_RM_insert_32 : decode b_RM_insert 32 = .ok (.goto 21, 3) := by decide +kernel
theorem d_RM_insert_35 : decode b_RM_insert 35 = .ok (.aload_n 0, 1) := by decide +kernel
theorem d_RM_insert_36 : decode b_RM_insert 36 = .ok (.getfield 23, 3) := by decide +kernel
theorem d_RM_insert_39 : decode b_RM_insert 39 = .ok (.sipush 188, 3) := by decide +kernel
theorem d_RM_insert_42 : decode b_RM_insert 42 = .ok (.iaload, 1) := by decide +kernel
theorem d_RM_insert_43 : decode b_RM_insert 43 = .ok (.bipush 40, 2) := by decide +kernel
theorem d_RM_insert_45 : decode b_RM_insert 45 = .ok (.if_icmp .ne 7, 3) := by decide +kernel
theorem d_RM_insert_48 : decode b_RM_insert 48 = .ok (.iconst 3, 1) := by decide +kernel
theorem d_RM_insert_49 : decode b_RM_insert 49 = .ok (.goto 4, 3) := by decide +kernel
theorem d_RM_insert_52 : decode b_RM_insert 52 = .ok (.iconst 0, 1) := by decide +kernel
theorem d_RM_insert_53 : decode b_RM_insert 53 = .ok (.invokevirtual 114, 3) := by decide +kernel
theorem d_RM_insert_56 : decode b_RM_insert 56 = .ok (.ifCond .eq 5, 3) := by decide +kernel
theorem d_RM_insert_59 : decode b_RM_insert 59 = .ok (.iconst 0, 1) := by decide +kernel
theorem d_RM_insert_60 : decode b_RM_insert 60 = .ok (.ireturn, 1) := by decide +kernel
theorem d_RM_insert_61 : decode b_RM_insert 61 = .ok (.aload_n 0, 1) := by decide +kernel
theorem d_RM_insert_62 : decode b_RM_insert 62 = .ok (.invokevirtual 182, 3) := by decide +kernel
theorem d_RM_insert_65 : decode b_RM_insert 65 = .ok (.aload_n 0, 1) := by decide +kernel
theorem d_RM_insert_66 : decode b_RM_insert 66 = .ok (.getfield 23, 3) := by decide +kernel
theorem d_RM_insert_69 : decode b_RM_insert 69 = .ok (.iload_n 1, 1) := by decide +kernel
theorem d_RM_insert_70 : decode b_RM_insert 70 = .ok (.iload_n 2, 1) := by decide +kernel
theorem d_RM_insert_71 : decode b_RM_insert 71 = .ok (.invokestatic 188, 3) := by decide +kernel
theorem d_RM_insert_74 : decode b_RM_insert 74 = .ok (.aload_n 0, 1) := by decide +kernel
theorem d_RM_insert_75 : decode b_RM_insert 75 = .ok (.getfield 23, 3) := by decide +kernel
theorem d_RM_insert_78 : decode b_RM_insert 78 = .ok (.sipush 188, 3) := by decide +kernel
theorem d_RM_insert_81 : decode b_RM_insert 81 = .ok (.iaload, 1) := by decide +kernel
theorem d_RM_insert_82 : decode b_RM_insert 82 = .ok (.ireturn, 1) := by decide +kernel
def rm_RM_insert : Room := { frames := 3, cells := 0, slots := 0, locals := 67 }
theorem mf_RM_insert : zMV y_RM_insert b_RM_insert 3 (some .int) 2 := ⟨q1241, q1242, q13, q1243, by decide +kernel⟩
def B_RM_insert_53 (K : Int → zH → Prop)  (p0 : Nat) (x1 : Int) (x2 : Int) (w0 : Nat) (u1 : Int) (h : zH) : Prop :=
  M_RM_refused w0 u1 h (fun r_2 h_1 => (r_2 = 0 → (M_RM_note p0 h_1 (fun h_3 => M_RM_put (p0 + 3) x1 x2 h_3 (fun h_5 => K (h_5 (p0 + 3) 188) h_5)))) ∧ (r_2 ≠ 0 → (K 0 h_1)))
set_option maxRecDepth 100000 in
theorem s_RM_insert_53 {Wf : Heap → List Loc → JFrame → Prop} {m : MethodId} {g : zG} {n : Nat} {H0 : Heap} (X : zX Wf m rm_RM_insert b_RM_insert "AliasStreamsModel" 3 g n H0) {K : Int → zH → Prop} (E : zEx Wf m b_RM_insert (some .int) 3 g n H0 (zPi K))  {p0 : Nat} {x1 : Int} {x2 : Int}  (op0 : zO n p0 11) (rx1 : zr x1) (rx2 : zr x2) {w0 : Nat} {u1 : Int} (ow0 : zO n w0 11) (ru1 : zr u1) {h : zH} (hh : zh h) (hv : B_RM_insert_53 K  p0 x1 x2 w0 u1 h) : zW Wf m 3 g n H0 53 [(0, .ref (g.2.2 p0)), (1, zi x1), (2, zi x2)] [zi u1, .ref (g.2.2 w0)] h := by
  unfold B_RM_insert_53 at hv
  refine z_callVi (pc := 53) (As := [zi u1]) (rest := []) X (fun l hl => c_RM_refused hl ow0 ru1 hh hv) cf_RM ow0 rfl mf_RM_refused q1130 ⟨⟨by decide, by decide⟩, rfl, rfl⟩ rfl d_RM_insert_53 rfl (Nat.le_of_ble_eq_true rfl) (fun r_2 h_1 rr_2 zh_1 hv => ?_)
  refine z_if_eq (pc := 56) (tgt := 61) X rr_2 d_RM_insert_56 (by decide) (fun hc => ?_) (fun hc => ?_)
  · replace hv := hv.1 hc
    refine z_aload_n (pc := 61) (q := 0) X d_RM_insert_61 rfl ?_
    refine z_callVv (pc := 62) (As := []) (rest := []) X (fun l hl => c_RM_note hl op0 zh_1 hv) cf_RM op0 rfl mf_RM_note q1236 ⟨⟨by decide, by decide⟩, rfl, rfl⟩ rfl d_RM_insert_62 rfl (Nat.le_of_ble_eq_true rfl) (fun h_3 zh_3 hv => ?_)
    refine z_aload_n (pc := 65) (q := 0) X d_RM_insert_65 rfl ?_
    refine z_getr (pc := 66) (j := 9) (dd := 3) X cf_RM op0 (by decide) q1030 rfl rfl d_RM_insert_66 ?_
    refine z_iload_n (pc := 69) (q := 1) X d_RM_insert_69 rfl ?_
    refine z_iload_n (pc := 70) (q := 2) X d_RM_insert_70 rfl ?_
    refine z_callSv (pc := 71) (As := [.ref (g.2.2 (p0 + 3)), zi x1, zi x2]) (rest := []) X (fun l hl => c_RM_put hl (gf_RM_9 op0) rx1 rx2 zh_3 hv) mf_RM_put q1248 ⟨⟨by decide, by decide⟩, rfl, rfl⟩ rfl d_RM_insert_71 rfl (Nat.le_of_ble_eq_true rfl) (fun h_5 zh_5 hv => ?_)
    refine z_aload_n (pc := 74) (q := 0) X d_RM_insert_74 rfl ?_
    refine z_getr (pc := 75) (j := 9) (dd := 3) X cf_RM op0 (by decide) q1030 rfl rfl d_RM_insert_75 ?_
    refine z_sipush (pc := 78) X d_RM_insert_78 (by decide) ?_
    refine z_ialdj (pc := 81) (j := 188) X (gf_RM_9 op0) (gl_RM_9 op0) (show zr 188 from by decide) ⟨by decide, by decide⟩ rfl d_RM_insert_81 ?_
    exact E.2.1 rfl _ _ _ _ d_RM_insert_82 ⟨_, rfl, (zh_5.1 _ _ (zO.ne (gf_RM_9 op0) (by decide))), zh_5, hv⟩
  · replace hv := hv.2 hc
    refine z_iconst (pc := 59) X d_RM_insert_59 ?_
    exact E.2.1 rfl _ _ _ _ d_RM_insert_60 ⟨_, rfl, (show zr 0 from by decide), zh_1, hv⟩
def M_RM_insert (p0 : Nat) (x1 : Int) (x2 : Int) (h : zH) (K : Int → zH → Prop) : Prop :=
  M_RM_in x1 0 (h (p0 + 3) 188) h (fun r_2 h_1 => (r_2 ≠ 0 → (M_RM_isThing p0 x2 h_1 (fun r_4 h_3 => (r_4 ≠ 0 → ((h_3 (p0 + 3) 188 ≠ 40 → (B_RM_insert_53 K  p0 x1 x2 p0 0 h_3)) ∧ (h_3 (p0 + 3) 188 = 40 → (B_RM_insert_53 K  p0 x1 x2 p0 3 h_3)))) ∧ (r_4 = 0 → (B_RM_insert_53 K  p0 x1 x2 p0 2 h_3))))) ∧ (r_2 = 0 → (B_RM_insert_53 K  p0 x1 x2 p0 1 h_1)))
set_option maxRecDepth 100000 in
theorem c_RM_insert {l : Launch} (hfl : l.flags = flags0) {g : zG} {n : Nat} {p0 : Nat} {x1 : Int} {x2 : Int} (op0 : zO n p0 11) (rx1 : zr x1) (rx2 : zr x2) {h : zH} (hh : zh h) {K : Int → zH → Prop} (hv : M_RM_insert p0 x1 x2 h K) : zMet l y_RM_insert b_RM_insert 3 (some .int) rm_RM_insert g n [.ref (g.2.2 p0), zi x1, zi x2] h (zPi K) := by
  refine zMet_of (own := "AliasStreamsModel") hfl (by decide) rfl (Nat.le_of_ble_eq_true rfl) (fun Wf m H0 X E => ?_)
  unfold M_RM_insert at hv
  show zW Wf m 3 g n H0 0 [(0, .ref (g.2.2 p0)), (1, zi x1), (2, zi x2)] [] h
  refine z_aload_n (pc := 0) (q := 0) X d_RM_insert_0 rfl ?_
  refine z_iload_n (pc := 1) (q := 1) X d_RM_insert_1 rfl ?_
  refine z_i2l (pc := 2) X rx1 d_RM_insert_2 ?_
  refine z_lconst (pc := 3) (x := 0) X d_RM_insert_3 (by decide) ?_
  refine z_aload_n (pc := 4) (q := 0) X d_RM_insert_4 rfl ?_
  refine z_getr (pc := 5) (j := 9) (dd := 3) X cf_RM op0 (by decide) q1030 rfl rfl d_RM_insert_5 ?_
  refine z_sipush (pc := 8) X d_RM_insert_8 (by decide) ?_
  refine z_ialdj (pc := 11) (j := 188) X (gf_RM_9 op0) (gl_RM_9 op0) (show zr 188 from by decide) ⟨by decide, by decide⟩ rfl d_RM_insert_11 ?_
  refine z_i2l (pc := 12) X (hh.1 _ _ (zO.ne (gf_RM_9 op0) (by decide))) d_RM_insert_12 ?_
  refine z_callSi (pc := 13) (As := [zj x1, zj 0, zj (h (p0 + 3) 188)]) (rest := [.ref (g.2.2 p0)]) X (fun l hl => c_RM_in hl (zr_l rx1) (show zrl 0 from by decide) (zr_l (hh.1 _ _ (zO.ne (gf_RM_9 op0) (by decide)))) hh hv) mf_RM_in q1127 ⟨⟨by decide, by decide⟩, rfl, rfl⟩ rfl d_RM_insert_13 rfl (Nat.le_of_ble_eq_true rfl) (fun r_2 h_1 rr_2 zh_1 hv => ?_)
  refine z_if_ne (pc := 16) (tgt := 23) X rr_2 d_RM_insert_16 (by decide) (fun hc => ?_) (fun hc => ?_)
  · replace hv := hv.1 hc
    refine z_aload_n (pc := 23) (q := 0) X d_RM_insert_23 rfl ?_
    refine z_iload_n (pc := 24) (q := 2) X d_RM_insert_24 rfl ?_
    refine z_callVi (pc := 25) (As := [zi x2]) (rest := [.ref (g.2.2 p0)]) X (fun l hl => c_RM_isThing hl op0 rx2 zh_1 hv) cf_RM op0 rfl mf_RM_isThing q1244 ⟨⟨by decide, by decide⟩, rfl, rfl⟩ rfl d_RM_insert_25 rfl (Nat.le_of_ble_eq_true rfl) (fun r_4 h_3 rr_4 zh_3 hv => ?_)
    refine z_if_ne (pc := 28) (tgt := 35) X rr_4 d_RM_insert_28 (by decide) (fun hc => ?_) (fun hc => ?_)
    · replace hv := hv.1 hc
      refine z_aload_n (pc := 35) (q := 0) X d_RM_insert_35 rfl ?_
      refine z_getr (pc := 36) (j := 9) (dd := 3) X cf_RM op0 (by decide) q1030 rfl rfl d_RM_insert_36 ?_
      refine z_sipush (pc := 39) X d_RM_insert_39 (by decide) ?_
      refine z_ialdj (pc := 42) (j := 188) X (gf_RM_9 op0) (gl_RM_9 op0) (show zr 188 from by decide) ⟨by decide, by decide⟩ rfl d_RM_insert_42 ?_
      refine z_bipush (pc := 43) X d_RM_insert_43 (by decide) ?_
      refine z_icmp_ne (pc := 45) (tgt := 52) X (zh_3.1 _ _ (zO.ne (gf_RM_9 op0) (by decide))) (show zr 40 from by decide) d_RM_insert_45 (by decide) (fun hc => ?_) (fun hc => ?_)
      · replace hv := hv.1 hc
        refine z_iconst (pc := 52) X d_RM_insert_52 ?_
        exact s_RM_insert_53 X E  op0 rx1 rx2 op0 (show zr 0 from by decide) zh_3 hv
      · replace hv := hv.2 hc
        refine z_iconst (pc := 48) X d_RM_insert_48 ?_
        refine z_goto (pc := 49) (tgt := 53) X d_RM_insert_49 (by decide) ?_
        exact s_RM_insert_53 X E  op0 rx1 rx2 op0 (show zr 3 from by decide) zh_3 hv
    · replace hv := hv.2 hc
      refine z_iconst (pc := 31) X d_RM_insert_31 ?_
      refine z_goto (pc := 32) (tgt := 53) X d_RM_insert_32 (by decide) ?_
      exact s_RM_insert_53 X E  op0 rx1 rx2 op0 (show zr 2 from by decide) zh_3 hv
  · replace hv := hv.2 hc
    refine z_iconst (pc := 19) X d_RM_insert_19 ?_
    refine z_goto (pc := 20) (tgt := 53) X d_RM_insert_20 (by decide) ?_
    exact s_RM_insert_53 X E  op0 rx1 rx2 op0 (show zr 1 from by decide) zh_1 hv
theorem d_RM_remove_0 : decode b_RM_remove 0 = .ok (.aload_n 0, 1) := by decide +kernel
theorem d_RM_remove_1 : decode b_RM_remove 1 = .ok (.aload_n 0, 1) := by decide +kernel
theorem d_RM_remove_2 : decode b_RM_remove 2 = .ok (.iload_n 1, 1) := by decide +kernel
theorem d_RM_remove_3 : decode b_RM_remove 3 = .ok (.invokevirtual 177, 3) := by decide +kernel
theorem d_RM_remove_6 : decode b_RM_remove 6 = .ok (.ifCond .eq 7, 3) := by decide +kernel
theorem d_RM_remove_9 : decode b_RM_remove 9 = .ok (.iconst 0, 1) := by decide +kernel
theorem d_RM_remove_10 : decode b_RM_remove 10 = .ok (.goto 4, 3) := by decide +kernel
theorem d_RM_remove_13 : decode b_RM_remove 13 = .ok (.iconst 1, 1) := by decide +kernel
theorem d_RM_remove_14 : decode b_RM_remove 14 = .ok (.invokevirtual 114, 3) := by decide +kernel
theorem d_RM_remove_17 : decode b_RM_remove 17 = .ok (.ifCond .eq 5, 3) := by decide +kernel
theorem d_RM_remove_20 : decode b_RM_remove 20 = .ok (.iconst 0, 1) := by decide +kernel
theorem d_RM_remove_21 : decode b_RM_remove 21 = .ok (.ireturn, 1) := by decide +kernel
theorem d_RM_remove_22 : decode b_RM_remove 22 = .ok (.aload_n 0, 1) := by decide +kernel
theorem d_RM_remove_23 : decode b_RM_remove 23 = .ok (.invokevirtual 182, 3) := by decide +kernel
theorem d_RM_remove_26 : decode b_RM_remove 26 = .ok (.aload_n 0, 1) := by decide +kernel
theorem d_RM_remove_27 : decode b_RM_remove 27 = .ok (.getfield 23, 3) := by decide +kernel
theorem d_RM_remove_30 : decode b_RM_remove 30 = .ok (.iload_n 1, 1) := by decide +kernel
theorem d_RM_remove_31 : decode b_RM_remove 31 = .ok (.invokestatic 192, 3) := by decide +kernel
theorem d_RM_remove_34 : decode b_RM_remove 34 = .ok (.ireturn, 1) := by decide +kernel
def rm_RM_remove : Room := { frames := 2, cells := 0, slots := 0, locals := 46 }
theorem mf_RM_remove : zMV y_RM_remove b_RM_remove 2 (some .int) 1 := ⟨q1252, q1253, q13, q1254, by decide +kernel⟩
def B_RM_remove_14 (K : Int → zH → Prop)  (p0 : Nat) (x1 : Int) (w0 : Nat) (u1 : Int) (h : zH) : Prop :=
  M_RM_refused w0 u1 h (fun r_2 h_1 => (r_2 = 0 → (M_RM_note p0 h_1 (fun h_3 => M_RM_drop (p0 + 3) x1 h_3 (fun r_6 h_5 => K r_6 h_5)))) ∧ (r_2 ≠ 0 → (K 0 h_1)))
set_option maxRecDepth 100000 in
theorem s_RM_remove_14 {Wf : Heap → List Loc → JFrame → Prop} {m : MethodId} {g : zG} {n : Nat} {H0 : Heap} (X : zX Wf m rm_RM_remove b_RM_remove "AliasStreamsModel" 2 g n H0) {K : Int → zH → Prop} (E : zEx Wf m b_RM_remove (some .int) 2 g n H0 (zPi K))  {p0 : Nat} {x1 : Int}  (op0 : zO n p0 11) (rx1 : zr x1) {w0 : Nat} {u1 : Int} (ow0 : zO n w0 11) (ru1 : zr u1) {h : zH} (hh : zh h) (hv : B_RM_remove_14 K  p0 x1 w0 u1 h) : zW Wf m 2 g n H0 14 [(0, .ref (g.2.2 p0)), (1, zi x1)] [zi u1, .ref (g.2.2 w0)] h := by
  unfold B_RM_remove_14 at hv
  refine z_callVi (pc := 14) (As := [zi u1]) (rest := []) X (fun l hl => c_RM_refused hl ow0 ru1 hh hv) cf_RM ow0 rfl mf_RM_refused q1130 ⟨⟨by decide, by decide⟩, rfl, rfl⟩ rfl d_RM_remove_14 rfl (Nat.le_of_ble_eq_true rfl) (fun r_2 h_1 rr_2 zh_1 hv => ?_)
  refine z_if_eq (pc := 17) (tgt := 22) X rr_2 d_RM_remove_17 (by decide) (fun hc => ?_) (fun hc => ?_)
  · replace hv := hv.1 hc
    refine z_aload_n (pc := 22) (q := 0) X d_RM_remove_22 rfl ?_
    refine z_callVv (pc := 23) (As := []) (rest := []) X (fun l hl => c_RM_note hl op0 zh_1 hv) cf_RM op0 rfl mf_RM_note q1236 ⟨⟨by decide, by decide⟩, rfl, rfl⟩ rfl d_RM_remove_23 rfl (Nat.le_of_ble_eq_true rfl) (fun h_3 zh_3 hv => ?_)
    refine z_aload_n (pc := 26) (q := 0) X d_RM_remove_26 rfl ?_
    refine z_getr (pc := 27) (j := 9) (dd := 3) X cf_RM op0 (by decide) q1030 rfl rfl d_RM_remove_27 ?_
    refine z_iload_n (pc := 30) (q := 1) X d_RM_remove_30 rfl ?_
    refine z_callSi (pc := 31) (As := [.ref (g.2.2 (p0 + 3)), zi x1]) (rest := []) X (fun l hl => c_RM_drop hl (gf_RM_9 op0) rx1 zh_3 hv) mf_RM_drop q1255 ⟨⟨by decide, by decide⟩, rfl, rfl⟩ rfl d_RM_remove_31 rfl (Nat.le_of_ble_eq_true rfl) (fun r_6 h_5 rr_6 zh_5 hv => ?_)
    exact E.2.1 rfl _ _ _ _ d_RM_remove_34 ⟨_, rfl, rr_6, zh_5, hv⟩
  · replace hv := hv.2 hc
    refine z_iconst (pc := 20) X d_RM_remove_20 ?_
    exact E.2.1 rfl _ _ _ _ d_RM_remove_21 ⟨_, rfl, (show zr 0 from by decide), zh_1, hv⟩
def M_RM_remove (p0 : Nat) (x1 : Int) (h : zH) (K : Int → zH → Prop) : Prop :=
  M_RM_isItem p0 x1 h (fun r_2 h_1 => (r_2 = 0 → (B_RM_remove_14 K  p0 x1 p0 1 h_1)) ∧ (r_2 ≠ 0 → (B_RM_remove_14 K  p0 x1 p0 0 h_1)))
set_option maxRecDepth 100000 in
theorem c_RM_remove {l : Launch} (hfl : l.flags = flags0) {g : zG} {n : Nat} {p0 : Nat} {x1 : Int} (op0 : zO n p0 11) (rx1 : zr x1) {h : zH} (hh : zh h) {K : Int → zH → Prop} (hv : M_RM_remove p0 x1 h K) : zMet l y_RM_remove b_RM_remove 2 (some .int) rm_RM_remove g n [.ref (g.2.2 p0), zi x1] h (zPi K) := by
  refine zMet_of (own := "AliasStreamsModel") hfl (by decide) rfl (Nat.le_of_ble_eq_true rfl) (fun Wf m H0 X E => ?_)
  unfold M_RM_remove at hv
  show zW Wf m 2 g n H0 0 [(0, .ref (g.2.2 p0)), (1, zi x1)] [] h
  refine z_aload_n (pc := 0) (q := 0) X d_RM_remove_0 rfl ?_
  refine z_aload_n (pc := 1) (q := 0) X d_RM_remove_1 rfl ?_
  refine z_iload_n (pc := 2) (q := 1) X d_RM_remove_2 rfl ?_
  refine z_callVi (pc := 3) (As := [zi x1]) (rest := [.ref (g.2.2 p0)]) X (fun l hl => c_RM_isItem hl op0 rx1 hh hv) cf_RM op0 rfl mf_RM_isItem q1223 ⟨⟨by decide, by decide⟩, rfl, rfl⟩ rfl d_RM_remove_3 rfl (Nat.le_of_ble_eq_true rfl) (fun r_2 h_1 rr_2 zh_1 hv => ?_)
  refine z_if_eq (pc := 6) (tgt := 13) X rr_2 d_RM_remove_6 (by decide) (fun hc => ?_) (fun hc => ?_)
  · replace hv := hv.1 hc
    refine z_iconst (pc := 13) X d_RM_remove_13 ?_
    exact s_RM_remove_14 X E  op0 rx1 op0 (show zr 1 from by decide) zh_1 hv
  · replace hv := hv.2 hc
    refine z_iconst (pc := 9) X d_RM_remove_9 ?_
    refine z_goto (pc := 10) (tgt := 14) X d_RM_remove_10 (by decide) ?_
    exact s_RM_remove_14 X E  op0 rx1 op0 (show zr 0 from by decide) zh_1 hv
theorem d_RM_canEncode_0 : decode b_RM_canEncode 0 = .ok (.aload_n 0, 1) := by decide +kernel
theorem d_RM_canEncode_1 : decode b_RM_canEncode 1 = .ok (.aload_n 1, 1) := by decide +kernel
theorem d_RM_canEncode_2 : decode b_RM_canEncode 2 = .ok (.invokevirtual 164, 3) := by decide +kernel
theorem d_RM_canEncode_5 : decode b_RM_canEncode 5 = .ok (.aload_n 0, 1) := by decide +kernel
theorem d_RM_canEncode_6 : decode b_RM_canEncode 6 = .ok (.aload_n 1, 1) := by decide +kernel
theorem d_RM_canEncode_7 : decode b_RM_canEncode 7 = .ok (.invokevirtual 160, 3) := by decide +kernel
theorem d_RM_canEncode_10 : decode b_RM_canEncode 10 = .ok (.aload_n 0, 1) := by decide +kernel
theorem d_RM_canEncode_11 : decode b_RM_canEncode 11 = .ok (.invokevirtual 196, 3) := by decide +kernel
theorem d_RM_canEncode_14 : decode b_RM_canEncode 14 = .ok (.bipush (-9), 2) := by decide +kernel
theorem d_RM_canEncode_16 : decode b_RM_canEncode 16 = .ok (.if_icmp .ne 7, 3) := by decide +kernel
theorem d_RM_canEncode_19 : decode b_RM_canEncode 19 = .ok (.iconst 1, 1) := by decide +kernel
theorem d_RM_canEncode_20 : decode b_RM_canEncode 20 = .ok (.goto 4, 3) := by decide +kernel
theorem d_RM_canEncode_23 : decode b_RM_canEncode 23 = .ok (.iconst 0, 1) := by decide +kernel
theorem d_RM_canEncode_24 : decode b_RM_canEncode 24 = .ok (.ireturn, 1) := by decide +kernel
def rm_RM_canEncode : Room := { frames := 2, cells := 0, slots := 0, locals := 50 }
theorem mf_RM_canEncode : zMV y_RM_canEncode b_RM_canEncode 2 (some .boolean) 1 := ⟨q1264, qs82, q13, q1265, by decide +kernel⟩
def M_RM_canEncode (p0 : Nat) (p1 : Nat) (h : zH) (K : Int → zH → Prop) : Prop :=
  M_RM_layTables p0 p1 h (fun h_1 => M_RM_layMessage p0 p1 h_1 (fun h_3 => M_RM_unfitOf p0 h_3 (fun r_6 h_5 => (r_6 ≠ (-9) → (K 0 h_5)) ∧ (r_6 = (-9) → (K 1 h_5)))))
set_option maxRecDepth 100000 in
theorem c_RM_canEncode {l : Launch} (hfl : l.flags = flags0) {g : zG} {n : Nat} {p0 : Nat} {p1 : Nat} (op0 : zO n p0 11) (op1 : zO n p1 12) {h : zH} (hh : zh h) {K : Int → zH → Prop} (hv : M_RM_canEncode p0 p1 h K) : zMet l y_RM_canEncode b_RM_canEncode 2 (some .boolean) rm_RM_canEncode g n [.ref (g.2.2 p0), .ref (g.2.2 p1)] h (zPi K) := by
  refine zMet_of (own := "AliasStreamsModel") hfl (by decide) rfl (Nat.le_of_ble_eq_true rfl) (fun Wf m H0 X E => ?_)
  unfold M_RM_canEncode at hv
  show zW Wf m 2 g n H0 0 [(0, .ref (g.2.2 p0)), (1, .ref (g.2.2 p1))] [] h
  refine z_aload_n (pc := 0) (q := 0) X d_RM_canEncode_0 rfl ?_
  refine z_aload_n (pc := 1) (q := 1) X d_RM_canEncode_1 rfl ?_
  refine z_callVv (pc := 2) (As := [.ref (g.2.2 p1)]) (rest := []) X (fun l hl => c_RM_layTables hl op0 op1 hh hv) cf_RM op0 rfl mf_RM_layTables q1181 ⟨⟨by decide, by decide⟩, rfl, rfl⟩ rfl d_RM_canEncode_2 rfl (Nat.le_of_ble_eq_true rfl) (fun h_1 zh_1 hv => ?_)
  refine z_aload_n (pc := 5) (q := 0) X d_RM_canEncode_5 rfl ?_
  refine z_aload_n (pc := 6) (q := 1) X d_RM_canEncode_6 rfl ?_
  refine z_callVv (pc := 7) (As := [.ref (g.2.2 p1)]) (rest := []) X (fun l hl => c_RM_layMessage hl op0 op1 zh_1 hv) cf_RM op0 rfl mf_RM_layMessage q1177 ⟨⟨by decide, by decide⟩, rfl, rfl⟩ rfl d_RM_canEncode_7 rfl (Nat.le_of_ble_eq_true rfl) (fun h_3 zh_3 hv => ?_)
  refine z_aload_n (pc := 10) (q := 0) X d_RM_canEncode_10 rfl ?_
  refine z_callVi (pc := 11) (As := []) (rest := []) X (fun l hl => c_RM_unfitOf hl op0 zh_3 hv) cf_RM op0 rfl mf_RM_unfitOf q1266 ⟨⟨by decide, by decide⟩, rfl, rfl⟩ rfl d_RM_canEncode_11 rfl (Nat.le_of_ble_eq_true rfl) (fun r_6 h_5 rr_6 zh_5 hv => ?_)
  refine z_bipush (pc := 14) X d_RM_canEncode_14 (by decide) ?_
  refine z_icmp_ne (pc := 16) (tgt := 23) X rr_6 (show zr (-9) from by decide) d_RM_canEncode_16 (by decide) (fun hc => ?_) (fun hc => ?_)
  · replace hv := hv.1 hc
    refine z_iconst (pc := 23) X d_RM_canEncode_23 ?_
    exact E.2.2.1 rfl _ _ _ _ (by decide) d_RM_canEncode_24 ⟨_, rfl, (show zr 0 from by decide), zh_5, hv⟩
  · replace hv := hv.2 hc
    refine z_iconst (pc := 19) X d_RM_canEncode_19 ?_
    refine z_goto (pc := 20) (tgt := 24) X d_RM_canEncode_20 (by decide) ?_
    exact E.2.2.1 rfl _ _ _ _ (by decide) d_RM_canEncode_24 ⟨_, rfl, (show zr 1 from by decide), zh_5, hv⟩
theorem d_RM_encode_0 : decode b_RM_encode 0 = .ok (.aload_n 0, 1) := by decide +kernel
theorem d_RM_encode_1 : decode b_RM_encode 1 = .ok (.aload_n 0, 1) := by decide +kernel
theorem d_RM_encode_2 : decode b_RM_encode 2 = .ok (.aload_n 0, 1) := by decide +kernel
theorem d_RM_encode_3 : decode b_RM_encode 3 = .ok (.getfield 23, 3) := by decide +kernel
theorem d_RM_encode_6 : decode b_RM_encode 6 = .ok (.invokevirtual 200, 3) := by decide +kernel
theorem d_RM_encode_9 : decode b_RM_encode 9 = .ok (.ifCond .eq 7, 3) := by decide +kernel
theorem d_RM_encode_12 : decode b_RM_encode 12 = .ok (.iconst 0, 1) := by decide +kernel
theorem d_RM_encode_13 : decode b_RM_encode 13 = .ok (.goto 4, 3) := by decide +kernel
theorem d_RM_encode_16 : decode b_RM_encode 16 = .ok (.iconst 1, 1) := by decide +kernel
theorem d_RM_encode_17 : decode b_RM_encode 17 = .ok (.invokevirtual 114, 3) := by decide +kernel
theorem d_RM_encode_20 : decode b_RM_encode 20 = .ok (.ifCond .eq 5, 3) := by decide +kernel
theorem d_RM_encode_23 : decode b_RM_encode 23 = .ok (.iconst 0, 1) := by decide +kernel
theorem d_RM_encode_24 : decode b_RM_encode 24 = .ok (.ireturn, 1) := by decide +kernel
theorem d_RM_encode_25 : decode b_RM_encode 25 = .ok (.aload_n 0, 1) := by decide +kernel
theorem d_RM_encode_26 : decode b_RM_encode 26 = .ok (.invokevirtual 182, 3) := by decide +kernel
theorem d_RM_encode_29 : decode b_RM_encode 29 = .ok (.aload_n 0, 1) := by decide +kernel
theorem d_RM_encode_30 : decode b_RM_encode 30 = .ok (.aload_n 0, 1) := by decide +kernel
theorem d_RM_encode_31 : decode b_RM_encode 31 = .ok (.getfield 23, 3) := by decide +kernel
theorem d_RM_encode_34 : decode b_RM_encode 34 = .ok (.invokevirtual 203, 3) := by decide +kernel
theorem d_RM_encode_37 : decode b_RM_encode 37 = .ok (.aload_n 0, 1) := by decide +kernel
theorem d_RM_encode_38 : decode b_RM_encode 38 = .ok (.getfield 23, 3) := by decide +kernel
theorem d_RM_encode_41 : decode b_RM_encode 41 = .ok (.sipush 190, 3) := by decide +kernel
theorem d_RM_encode_44 : decode b_RM_encode 44 = .ok (.iaload, 1) := by decide +kernel
theorem d_RM_encode_45 : decode b_RM_encode 45 = .ok (.ireturn, 1) := by decide +kernel
def rm_RM_encode : Room := { frames := 3, cells := 0, slots := 0, locals := 71 }
theorem mf_RM_encode : zMV y_RM_encode b_RM_encode 1 (some .int) 0 := ⟨q1259, q1260, q13, q1261, by decide +kernel⟩
def B_RM_encode_17 (K : Int → zH → Prop)  (p0 : Nat) (w0 : Nat) (u1 : Int) (h : zH) : Prop :=
  M_RM_refused w0 u1 h (fun r_2 h_1 => (r_2 = 0 → (M_RM_note p0 h_1 (fun h_3 => M_RM_encodeTo p0 (p0 + 3) h_3 (fun h_5 => K (h_5 (p0 + 3) 190) h_5)))) ∧ (r_2 ≠ 0 → (K 0 h_1)))
set_option maxRecDepth 100000 in
theorem s_RM_encode_17 {Wf : Heap → List Loc → JFrame → Prop} {m : MethodId} {g : zG} {n : Nat} {H0 : Heap} (X : zX Wf m rm_RM_encode b_RM_encode "AliasStreamsModel" 1 g n H0) {K : Int → zH → Prop} (E : zEx Wf m b_RM_encode (some .int) 1 g n H0 (zPi K))  {p0 : Nat}  (op0 : zO n p0 11) {w0 : Nat} {u1 : Int} (ow0 : zO n w0 11) (ru1 : zr u1) {h : zH} (hh : zh h) (hv : B_RM_encode_17 K  p0 w0 u1 h) : zW Wf m 1 g n H0 17 [(0, .ref (g.2.2 p0))] [zi u1, .ref (g.2.2 w0)] h := by
  unfold B_RM_encode_17 at hv
  refine z_callVi (pc := 17) (As := [zi u1]) (rest := []) X (fun l hl => c_RM_refused hl ow0 ru1 hh hv) cf_RM ow0 rfl mf_RM_refused q1130 ⟨⟨by decide, by decide⟩, rfl, rfl⟩ rfl d_RM_encode_17 rfl (Nat.le_of_ble_eq_true rfl) (fun r_2 h_1 rr_2 zh_1 hv => ?_)
  refine z_if_eq (pc := 20) (tgt := 25) X rr_2 d_RM_encode_20 (by decide) (fun hc => ?_) (fun hc => ?_)
  · replace hv := hv.1 hc
    refine z_aload_n (pc := 25) (q := 0) X d_RM_encode_25 rfl ?_
    refine z_callVv (pc := 26) (As := []) (rest := []) X (fun l hl => c_RM_note hl op0 zh_1 hv) cf_RM op0 rfl mf_RM_note q1236 ⟨⟨by decide, by decide⟩, rfl, rfl⟩ rfl d_RM_encode_26 rfl (Nat.le_of_ble_eq_true rfl) (fun h_3 zh_3 hv => ?_)
    refine z_aload_n (pc := 29) (q := 0) X d_RM_encode_29 rfl ?_
    refine z_aload_n (pc := 30) (q := 0) X d_RM_encode_30 rfl ?_
    refine z_getr (pc := 31) (j := 9) (dd := 3) X cf_RM op0 (by decide) q1030 rfl rfl d_RM_encode_31 ?_
    refine z_callVv (pc := 34) (As := [.ref (g.2.2 (p0 + 3))]) (rest := []) X (fun l hl => c_RM_encodeTo hl op0 (gf_RM_9 op0) zh_3 hv) cf_RM op0 rfl mf_RM_encodeTo q1270 ⟨⟨by decide, by decide⟩, rfl, rfl⟩ rfl d_RM_encode_34 rfl (Nat.le_of_ble_eq_true rfl) (fun h_5 zh_5 hv => ?_)
    refine z_aload_n (pc := 37) (q := 0) X d_RM_encode_37 rfl ?_
    refine z_getr (pc := 38) (j := 9) (dd := 3) X cf_RM op0 (by decide) q1030 rfl rfl d_RM_encode_38 ?_
    refine z_sipush (pc := 41) X d_RM_encode_41 (by decide) ?_
    refine z_ialdj (pc := 44) (j := 190) X (gf_RM_9 op0) (gl_RM_9 op0) (show zr 190 from by decide) ⟨by decide, by decide⟩ rfl d_RM_encode_44 ?_
    exact E.2.1 rfl _ _ _ _ d_RM_encode_45 ⟨_, rfl, (zh_5.1 _ _ (zO.ne (gf_RM_9 op0) (by decide))), zh_5, hv⟩
  · replace hv := hv.2 hc
    refine z_iconst (pc := 23) X d_RM_encode_23 ?_
    exact E.2.1 rfl _ _ _ _ d_RM_encode_24 ⟨_, rfl, (show zr 0 from by decide), zh_1, hv⟩
def M_RM_encode (p0 : Nat) (h : zH) (K : Int → zH → Prop) : Prop :=
  M_RM_canEncode p0 (p0 + 3) h (fun r_2 h_1 => (r_2 = 0 → (B_RM_encode_17 K  p0 p0 1 h_1)) ∧ (r_2 ≠ 0 → (B_RM_encode_17 K  p0 p0 0 h_1)))
set_option maxRecDepth 100000 in
theorem c_RM_encode {l : Launch} (hfl : l.flags = flags0) {g : zG} {n : Nat} {p0 : Nat} (op0 : zO n p0 11) {h : zH} (hh : zh h) {K : Int → zH → Prop} (hv : M_RM_encode p0 h K) : zMet l y_RM_encode b_RM_encode 1 (some .int) rm_RM_encode g n [.ref (g.2.2 p0)] h (zPi K) := by
  refine zMet_of (own := "AliasStreamsModel") hfl (by decide) rfl (Nat.le_of_ble_eq_true rfl) (fun Wf m H0 X E => ?_)
  unfold M_RM_encode at hv
  show zW Wf m 1 g n H0 0 [(0, .ref (g.2.2 p0))] [] h
  refine z_aload_n (pc := 0) (q := 0) X d_RM_encode_0 rfl ?_
  refine z_aload_n (pc := 1) (q := 0) X d_RM_encode_1 rfl ?_
  refine z_aload_n (pc := 2) (q := 0) X d_RM_encode_2 rfl ?_
  refine z_getr (pc := 3) (j := 9) (dd := 3) X cf_RM op0 (by decide) q1030 rfl rfl d_RM_encode_3 ?_
  refine z_callVi (pc := 6) (As := [.ref (g.2.2 (p0 + 3))]) (rest := [.ref (g.2.2 p0)]) X (fun l hl => c_RM_canEncode hl op0 (gf_RM_9 op0) hh hv) cf_RM op0 rfl mf_RM_canEncode q1262 ⟨⟨by decide, by decide⟩, rfl, rfl⟩ rfl d_RM_encode_6 rfl (Nat.le_of_ble_eq_true rfl) (fun r_2 h_1 rr_2 zh_1 hv => ?_)
  refine z_if_eq (pc := 9) (tgt := 16) X rr_2 d_RM_encode_9 (by decide) (fun hc => ?_) (fun hc => ?_)
  · replace hv := hv.1 hc
    refine z_iconst (pc := 16) X d_RM_encode_16 ?_
    exact s_RM_encode_17 X E  op0 op0 (show zr 1 from by decide) zh_1 hv
  · replace hv := hv.2 hc
    refine z_iconst (pc := 12) X d_RM_encode_12 ?_
    refine z_goto (pc := 13) (tgt := 17) X d_RM_encode_13 (by decide) ?_
    exact s_RM_encode_17 X E  op0 op0 (show zr 0 from by decide) zh_1 hv

/-! the law from its loop's head on (printed by wip/whole/lawgen2.py) -/
def C_LW_law_1082 (N : Nat) (xs : Nat → Int32) (L : Int × zH → Prop) (i : Int) (h : zH) : Prop :=
  zr (i + 1) ∧ ((0 ≤ i + 1 ∧ i + 1 < (N : Int)) ∧ (zr (i + 2) ∧ ((0 ≤ i + 2 ∧ i + 2 < (N : Int)) ∧ (M_LW_setHead 0 ((xs (i + 1).toNat).toInt) ((xs (i + 2).toNat).toInt) 220 h (fun r_6 h_5 => zr (i + 1) ∧ ((0 ≤ i + 1 ∧ i + 1 < (N : Int)) ∧ (zr (i + 2) ∧ ((0 ≤ i + 2 ∧ i + 2 < (N : Int)) ∧ (M_RM_setHead 197 ((xs (i + 1).toNat).toInt) ((xs (i + 2).toNat).toInt) h_5 (fun r_12 h_11 => M_RM_thrown 197 h_11 (fun r_14 h_13 => (r_14 = r_6 → ((r_6 ≠ 0 → (zr (i + 4) ∧ (L (i + 4, h_13)))) ∧ (r_6 = 0 → ((h_13 220 0 = r_12 → (zr (i + 4) ∧ (L (i + 4, h_13)))) ∧ (h_13 220 0 ≠ r_12 → (False)))))) ∧ (r_14 ≠ r_6 → (False)))))))))))))
set_option maxHeartbeats 4000000 in
set_option maxRecDepth 100000 in
theorem sc_LW_law_1082 {p : Program} {l : Launch} {e : Env} {s : State} {m : MethodId} {below : List Frame} {meth : Method} {c : Code} {b N : Nat} {xs : Nat → Int32} {g : zG} (C : zLC p l s m meth c b N xs g) (hN : N ≤ 2048) (oX : zO 221 0 10) (oM : zO 221 197 11) (oO : zO 221 220 16) (rfl_ln : zln 220 = 1) {L : Int × zH → Prop} (hL : ∀ q : Int × zH, L q → ∀ cells slots : Nat, 0 ≤ q.1 → q.1 ≤ 2052 → cells ≤ 1000 + q.1.toNat → slots ≤ 20000 + 6 * q.1.toNat → zr q.1 → zh q.2 → zW (zWl p l e s m below meth c b cells slots) m 8 g 221 s.heap 23 [(0, .ref b), (1, .ref (g.2.2 0)), (2, .ref (g.2.2 197)), (3, .ref (g.2.2 220)), (4, zi q.1)] [] q.2) {i : Int} {h : zH} {cells slots : Nat} (hi0 : 0 ≤ i) (hi4 : i ≤ (N : Int) - 4) (hcb : cells ≤ 1000 + i.toNat) (hsb : slots ≤ 20000 + 6 * i.toNat) (ri : zr i) (hh : zh h) (hv : C_LW_law_1082 N xs L i h) : zW (zWl p l e s m below meth c b cells slots) m 8 g 221 s.heap 1082 [(0, .ref b), (1, .ref (g.2.2 0)), (2, .ref (g.2.2 197)), (3, .ref (g.2.2 220)), (4, zi i)] [] h := by
  unfold C_LW_law_1082 at hv
  have rN : zr (N : Int) := by omega
  have hce : cells ≤ 601024 := by omega
  have hsl : slots ≤ 7293034 := by omega
  have X := zXl (e := e) (below := below) C hce hsl
  refine z_aload_n (pc := 1082) (q := 1) X d_LW_law_1082 rfl ?_
  refine z_aload_n (pc := 1083) (q := 0) X d_LW_law_1083 rfl ?_
  refine z_iload (pc := 1084) (q := 4) X d_LW_law_1084 rfl ?_
  refine z_iconst (pc := 1086) X d_LW_law_1086 ?_
  obtain ⟨v_1, hv⟩ := hv
  refine z_iadd (pc := 1087) X d_LW_law_1087 ?_
  obtain ⟨v_2, hv⟩ := hv
  refine z_sld (pc := 1088) C v_1 v_2 d_LW_law_1088 ?_
  refine z_aload_n (pc := 1089) (q := 0) X d_LW_law_1089 rfl ?_
  refine z_iload (pc := 1090) (q := 4) X d_LW_law_1090 rfl ?_
  refine z_iconst (pc := 1092) X d_LW_law_1092 ?_
  obtain ⟨v_3, hv⟩ := hv
  refine z_iadd (pc := 1093) X d_LW_law_1093 ?_
  obtain ⟨v_4, hv⟩ := hv
  refine z_sld (pc := 1094) C v_3 v_4 d_LW_law_1094 ?_
  refine z_aload_n (pc := 1095) (q := 3) X d_LW_law_1095 rfl ?_
  refine z_callH (k := 4) (pc := 1096) (As := [.ref (g.2.2 0), zi ((xs (i + 1).toNat).toInt), zi ((xs (i + 2).toNat).toInt), .ref (g.2.2 220)]) (rest := []) C (by omega) (by omega) (fun l hl => c_LW_setHead hl oX (zr_int _) (zr_int _) oO hh hv) q831 q0 q832w (by decide +kernel) q830 ⟨⟨by decide, by decide⟩, rfl, rfl⟩ rfl d_LW_law_1096 rfl (Nat.le_of_ble_eq_true rfl) (fun r_6 h_5 rr_6 zh_5 hv => ?_)
  have hce1 : cells + 1 ≤ 601024 := by omega
  have hsl1 : slots + 6 ≤ 7293034 := by omega
  have X := zXl (e := e) (below := below) C hce1 hsl1
  refine z_istore (pc := 1099) (lv' := [(5, zi r_6), (0, .ref b), (1, .ref (g.2.2 0)), (2, .ref (g.2.2 197)), (3, .ref (g.2.2 220)), (4, zi i)]) X d_LW_law_1099 (by decide) rfl ?_
  refine z_aload_n (pc := 1101) (q := 3) X d_LW_law_1101 rfl ?_
  refine z_aload_n (pc := 1102) (q := 1) X d_LW_law_1102 rfl ?_
  refine z_iload (pc := 1103) (q := 5) X d_LW_law_1103 rfl ?_
  refine z_iconst (pc := 1105) X d_LW_law_1105 ?_
  obtain ⟨v_7, hv⟩ := hv
  refine z_iadd (pc := 1106) X d_LW_law_1106 ?_
  obtain ⟨v_8, hv⟩ := hv
  refine z_sld (pc := 1107) C v_7 v_8 d_LW_law_1107 ?_
  refine z_aload_n (pc := 1108) (q := 1) X d_LW_law_1108 rfl ?_
  refine z_iload (pc := 1109) (q := 5) X d_LW_law_1109 rfl ?_
  refine z_iconst (pc := 1111) X d_LW_law_1111 ?_
  obtain ⟨v_9, hv⟩ := hv
  refine z_iadd (pc := 1112) X d_LW_law_1112 ?_
  obtain ⟨v_10, hv⟩ := hv
  refine z_sld (pc := 1113) C v_9 v_10 d_LW_law_1113 ?_
  refine z_callVi (pc := 1114) (As := [zi ((xs (i + 1).toNat).toInt), zi ((xs (i + 2).toNat).toInt)]) (rest := []) X (fun l hl => c_RM_setHead hl oM (zr_int _) (zr_int _) zh_5 hv) cf_RM oM rfl mf_RM_setHead q1303 ⟨⟨by decide, by decide⟩, rfl, rfl⟩ rfl d_LW_law_1114 rfl (Nat.le_of_ble_eq_true rfl) (fun r_12 h_11 rr_12 zh_11 hv => ?_)
  refine z_istore (pc := 1117) (lv' := [(6, zi r_12), (5, zi r_6), (0, .ref b), (1, .ref (g.2.2 0)), (2, .ref (g.2.2 197)), (3, .ref (g.2.2 220)), (4, zi i)]) X d_LW_law_1117 (by decide) rfl ?_
  refine z_aload_n (pc := 1119) (q := 4) X d_LW_law_1119 rfl ?_
  refine z_callVi (pc := 1120) (As := []) (rest := []) X (fun l hl => c_RM_thrown hl oM zh_11 hv) cf_RM oM rfl mf_RM_thrown q1118 ⟨⟨by decide, by decide⟩, rfl, rfl⟩ rfl d_LW_law_1120 rfl (Nat.le_of_ble_eq_true rfl) (fun r_14 h_13 rr_14 zh_13 hv => ?_)
  refine z_iload (pc := 1123) (q := 1) X d_LW_law_1123 rfl ?_
  refine z_icmp_eq (pc := 1125) (tgt := 1130) X rr_14 rr_6 d_LW_law_1125 (by decide) (fun hc => ?_) (fun hc => ?_)
  · replace hv := hv.1 hc
    refine z_iload (pc := 1130) (q := 1) X d_LW_law_1130 rfl ?_
    refine z_if_ne (pc := 1132) (tgt := 1147) X rr_6 d_LW_law_1132 (by decide) (fun hc => ?_) (fun hc => ?_)
    · replace hv := hv.1 hc
      refine z_goto (pc := 1147) (tgt := 1964) X d_LW_law_1147 (by decide) ?_
      obtain ⟨v_15, hv⟩ := hv
      refine z_iinc (pc := 1964) (q := 6) (lv' := [(4, zi (i + 4)), (6, zi r_12), (5, zi r_6), (0, .ref b), (1, .ref (g.2.2 0)), (2, .ref (g.2.2 197)), (3, .ref (g.2.2 220))]) X d_LW_law_1964 rfl (by decide) rfl ?_
      refine z_goto (pc := 1967) (tgt := 23) X d_LW_law_1967 (by decide) ?_
      refine z_perm [3, 4, 5, 6, 0] rfl ?_
      exact hL (i + 4, h_13) hv (cells + 1) (slots + 6) (show (0 : Int) ≤ i + 4 by omega) (show i + 4 ≤ (2052 : Int) by omega) (show cells + 1 ≤ 1000 + (i + 4).toNat by omega) (show slots + 6 ≤ 20000 + 6 * (i + 4).toNat by omega) v_15 zh_13
    · replace hv := hv.2 hc
      refine z_aload_n (pc := 1135) (q := 5) X d_LW_law_1135 rfl ?_
      refine z_iconst (pc := 1136) X d_LW_law_1136 ?_
      refine z_laldj (pc := 1137) (j := 0) X oO rfl_ln (show zr 0 from by decide) ⟨by decide, by decide⟩ rfl d_LW_law_1137 ?_
      refine z_iload (pc := 1138) (q := 0) X d_LW_law_1138 rfl ?_
      refine z_i2l (pc := 1140) X rr_12 d_LW_law_1140 ?_
      refine z_lif_eq (pc := 1141) (tgt := 1147) X (zh_13.2 _) (zr_l rr_12) d_LW_law_1141 d_LW_law_1142 (by decide) (fun hc => ?_) (fun hc => ?_)
      · replace hv := hv.1 hc
        refine z_goto (pc := 1147) (tgt := 1964) X d_LW_law_1147 (by decide) ?_
        obtain ⟨v_16, hv⟩ := hv
        refine z_iinc (pc := 1964) (q := 6) (lv' := [(4, zi (i + 4)), (6, zi r_12), (5, zi r_6), (0, .ref b), (1, .ref (g.2.2 0)), (2, .ref (g.2.2 197)), (3, .ref (g.2.2 220))]) X d_LW_law_1964 rfl (by decide) rfl ?_
        refine z_goto (pc := 1967) (tgt := 23) X d_LW_law_1967 (by decide) ?_
        refine z_perm [3, 4, 5, 6, 0] rfl ?_
        exact hL (i + 4, h_13) hv (cells + 1) (slots + 6) (show (0 : Int) ≤ i + 4 by omega) (show i + 4 ≤ (2052 : Int) by omega) (show cells + 1 ≤ 1000 + (i + 4).toNat by omega) (show slots + 6 ≤ 20000 + 6 * (i + 4).toNat by omega) v_16 zh_13
      · replace hv := hv.2 hc
        refine z_iconst (pc := 1145) X d_LW_law_1145 ?_
        exact hv.elim
  · replace hv := hv.2 hc
    refine z_iconst (pc := 1128) X d_LW_law_1128 ?_
    exact hv.elim
def C_LW_law_1150 (N : Nat) (xs : Nat → Int32) (L : Int × zH → Prop) (i : Int) (h : zH) : Prop :=
  zr (i + 1) ∧ ((0 ≤ i + 1 ∧ i + 1 < (N : Int)) ∧ (zr (i + 2) ∧ ((0 ≤ i + 2 ∧ i + 2 < (N : Int)) ∧ (M_LW_setPlan 0 ((xs (i + 1).toNat).toInt) ((xs (i + 2).toNat).toInt) 220 h (fun r_6 h_5 => zr (i + 1) ∧ ((0 ≤ i + 1 ∧ i + 1 < (N : Int)) ∧ (zr (i + 2) ∧ ((0 ≤ i + 2 ∧ i + 2 < (N : Int)) ∧ (M_RM_setPlan 197 ((xs (i + 1).toNat).toInt) ((xs (i + 2).toNat).toInt) h_5 (fun r_12 h_11 => M_RM_thrown 197 h_11 (fun r_14 h_13 => (r_14 = r_6 → ((r_6 ≠ 0 → (zr (i + 4) ∧ (L (i + 4, h_13)))) ∧ (r_6 = 0 → ((h_13 220 0 = r_12 → (zr (i + 4) ∧ (L (i + 4, h_13)))) ∧ (h_13 220 0 ≠ r_12 → (False)))))) ∧ (r_14 ≠ r_6 → (False)))))))))))))
set_option maxHeartbeats 4000000 in
set_option maxRecDepth 100000 in
theorem sc_LW_law_1150 {p : Program} {l : Launch} {e : Env} {s : State} {m : MethodId} {below : List Frame} {meth : Method} {c : Code} {b N : Nat} {xs : Nat → Int32} {g : zG} (C : zLC p l s m meth c b N xs g) (hN : N ≤ 2048) (oX : zO 221 0 10) (oM : zO 221 197 11) (oO : zO 221 220 16) (rfl_ln : zln 220 = 1) {L : Int × zH → Prop} (hL : ∀ q : Int × zH, L q → ∀ cells slots : Nat, 0 ≤ q.1 → q.1 ≤ 2052 → cells ≤ 1000 + q.1.toNat → slots ≤ 20000 + 6 * q.1.toNat → zr q.1 → zh q.2 → zW (zWl p l e s m below meth c b cells slots) m 8 g 221 s.heap 23 [(0, .ref b), (1, .ref (g.2.2 0)), (2, .ref (g.2.2 197)), (3, .ref (g.2.2 220)), (4, zi q.1)] [] q.2) {i : Int} {h : zH} {cells slots : Nat} (hi0 : 0 ≤ i) (hi4 : i ≤ (N : Int) - 4) (hcb : cells ≤ 1000 + i.toNat) (hsb : slots ≤ 20000 + 6 * i.toNat) (ri : zr i) (hh : zh h) (hv : C_LW_law_1150 N xs L i h) : zW (zWl p l e s m below meth c b cells slots) m 8 g 221 s.heap 1150 [(0, .ref b), (1, .ref (g.2.2 0)), (2, .ref (g.2.2 197)), (3, .ref (g.2.2 220)), (4, zi i)] [] h := by
  unfold C_LW_law_1150 at hv
  have rN : zr (N : Int) := by omega
  have hce : cells ≤ 601024 := by omega
  have hsl : slots ≤ 7293034 := by omega
  have X := zXl (e := e) (below := below) C hce hsl
  refine z_aload_n (pc := 1150) (q := 1) X d_LW_law_1150 rfl ?_
  refine z_aload_n (pc := 1151) (q := 0) X d_LW_law_1151 rfl ?_
  refine z_iload (pc := 1152) (q := 4) X d_LW_law_1152 rfl ?_
  refine z_iconst (pc := 1154) X d_LW_law_1154 ?_
  obtain ⟨v_1, hv⟩ := hv
  refine z_iadd (pc := 1155) X d_LW_law_1155 ?_
  obtain ⟨v_2, hv⟩ := hv
  refine z_sld (pc := 1156) C v_1 v_2 d_LW_law_1156 ?_
  refine z_aload_n (pc := 1157) (q := 0) X d_LW_law_1157 rfl ?_
  refine z_iload (pc := 1158) (q := 4) X d_LW_law_1158 rfl ?_
  refine z_iconst (pc := 1160) X d_LW_law_1160 ?_
  obtain ⟨v_3, hv⟩ := hv
  refine z_iadd (pc := 1161) X d_LW_law_1161 ?_
  obtain ⟨v_4, hv⟩ := hv
  refine z_sld (pc := 1162) C v_3 v_4 d_LW_law_1162 ?_
  refine z_aload_n (pc := 1163) (q := 3) X d_LW_law_1163 rfl ?_
  refine z_callH (k := 4) (pc := 1164) (As := [.ref (g.2.2 0), zi ((xs (i + 1).toNat).toInt), zi ((xs (i + 2).toNat).toInt), .ref (g.2.2 220)]) (rest := []) C (by omega) (by omega) (fun l hl => c_LW_setPlan hl oX (zr_int _) (zr_int _) oO hh hv) q840 q0 q841w (by decide +kernel) q839 ⟨⟨by decide, by decide⟩, rfl, rfl⟩ rfl d_LW_law_1164 rfl (Nat.le_of_ble_eq_true rfl) (fun r_6 h_5 rr_6 zh_5 hv => ?_)
  have hce1 : cells + 1 ≤ 601024 := by omega
  have hsl1 : slots + 6 ≤ 7293034 := by omega
  have X := zXl (e := e) (below := below) C hce1 hsl1
  refine z_istore (pc := 1167) (lv' := [(5, zi r_6), (0, .ref b), (1, .ref (g.2.2 0)), (2, .ref (g.2.2 197)), (3, .ref (g.2.2 220)), (4, zi i)]) X d_LW_law_1167 (by decide) rfl ?_
  refine z_aload_n (pc := 1169) (q := 3) X d_LW_law_1169 rfl ?_
  refine z_aload_n (pc := 1170) (q := 1) X d_LW_law_1170 rfl ?_
  refine z_iload (pc := 1171) (q := 5) X d_LW_law_1171 rfl ?_
  refine z_iconst (pc := 1173) X d_LW_law_1173 ?_
  obtain ⟨v_7, hv⟩ := hv
  refine z_iadd (pc := 1174) X d_LW_law_1174 ?_
  obtain ⟨v_8, hv⟩ := hv
  refine z_sld (pc := 1175) C v_7 v_8 d_LW_law_1175 ?_
  refine z_aload_n (pc := 1176) (q := 1) X d_LW_law_1176 rfl ?_
  refine z_iload (pc := 1177) (q := 5) X d_LW_law_1177 rfl ?_
  refine z_iconst (pc := 1179) X d_LW_law_1179 ?_
  obtain ⟨v_9, hv⟩ := hv
  refine z_iadd (pc := 1180) X d_LW_law_1180 ?_
  obtain ⟨v_10, hv⟩ := hv
  refine z_sld (pc := 1181) C v_9 v_10 d_LW_law_1181 ?_
  refine z_callVi (pc := 1182) (As := [zi ((xs (i + 1).toNat).toInt), zi ((xs (i + 2).toNat).toInt)]) (rest := []) X (fun l hl => c_RM_setPlan hl oM (zr_int _) (zr_int _) zh_5 hv) cf_RM oM rfl mf_RM_setPlan q1309 ⟨⟨by decide, by decide⟩, rfl, rfl⟩ rfl d_LW_law_1182 rfl (Nat.le_of_ble_eq_true rfl) (fun r_12 h_11 rr_12 zh_11 hv => ?_)
  refine z_istore (pc := 1185) (lv' := [(6, zi r_12), (5, zi r_6), (0, .ref b), (1, .ref (g.2.2 0)), (2, .ref (g.2.2 197)), (3, .ref (g.2.2 220)), (4, zi i)]) X d_LW_law_1185 (by decide) rfl ?_
  refine z_aload_n (pc := 1187) (q := 4) X d_LW_law_1187 rfl ?_
  refine z_callVi (pc := 1188) (As := []) (rest := []) X (fun l hl => c_RM_thrown hl oM zh_11 hv) cf_RM oM rfl mf_RM_thrown q1118 ⟨⟨by decide, by decide⟩, rfl, rfl⟩ rfl d_LW_law_1188 rfl (Nat.le_of_ble_eq_true rfl) (fun r_14 h_13 rr_14 zh_13 hv => ?_)
  refine z_iload (pc := 1191) (q := 1) X d_LW_law_1191 rfl ?_
  refine z_icmp_eq (pc := 1193) (tgt := 1198) X rr_14 rr_6 d_LW_law_1193 (by decide) (fun hc => ?_) (fun hc => ?_)
  · replace hv := hv.1 hc
    refine z_iload (pc := 1198) (q := 1) X d_LW_law_1198 rfl ?_
    refine z_if_ne (pc := 1200) (tgt := 1215) X rr_6 d_LW_law_1200 (by decide) (fun hc => ?_) (fun hc => ?_)
    · replace hv := hv.1 hc
      refine z_goto (pc := 1215) (tgt := 1964) X d_LW_law_1215 (by decide) ?_
      obtain ⟨v_15, hv⟩ := hv
      refine z_iinc (pc := 1964) (q := 6) (lv' := [(4, zi (i + 4)), (6, zi r_12), (5, zi r_6), (0, .ref b), (1, .ref (g.2.2 0)), (2, .ref (g.2.2 197)), (3, .ref (g.2.2 220))]) X d_LW_law_1964 rfl (by decide) rfl ?_
      refine z_goto (pc := 1967) (tgt := 23) X d_LW_law_1967 (by decide) ?_
      refine z_perm [3, 4, 5, 6, 0] rfl ?_
      exact hL (i + 4, h_13) hv (cells + 1) (slots + 6) (show (0 : Int) ≤ i + 4 by omega) (show i + 4 ≤ (2052 : Int) by omega) (show cells + 1 ≤ 1000 + (i + 4).toNat by omega) (show slots + 6 ≤ 20000 + 6 * (i + 4).toNat by omega) v_15 zh_13
    · replace hv := hv.2 hc
      refine z_aload_n (pc := 1203) (q := 5) X d_LW_law_1203 rfl ?_
      refine z_iconst (pc := 1204) X d_LW_law_1204 ?_
      refine z_laldj (pc := 1205) (j := 0) X oO rfl_ln (show zr 0 from by decide) ⟨by decide, by decide⟩ rfl d_LW_law_1205 ?_
      refine z_iload (pc := 1206) (q := 0) X d_LW_law_1206 rfl ?_
      refine z_i2l (pc := 1208) X rr_12 d_LW_law_1208 ?_
      refine z_lif_eq (pc := 1209) (tgt := 1215) X (zh_13.2 _) (zr_l rr_12) d_LW_law_1209 d_LW_law_1210 (by decide) (fun hc => ?_) (fun hc => ?_)
      · replace hv := hv.1 hc
        refine z_goto (pc := 1215) (tgt := 1964) X d_LW_law_1215 (by decide) ?_
        obtain ⟨v_16, hv⟩ := hv
        refine z_iinc (pc := 1964) (q := 6) (lv' := [(4, zi (i + 4)), (6, zi r_12), (5, zi r_6), (0, .ref b), (1, .ref (g.2.2 0)), (2, .ref (g.2.2 197)), (3, .ref (g.2.2 220))]) X d_LW_law_1964 rfl (by decide) rfl ?_
        refine z_goto (pc := 1967) (tgt := 23) X d_LW_law_1967 (by decide) ?_
        refine z_perm [3, 4, 5, 6, 0] rfl ?_
        exact hL (i + 4, h_13) hv (cells + 1) (slots + 6) (show (0 : Int) ≤ i + 4 by omega) (show i + 4 ≤ (2052 : Int) by omega) (show cells + 1 ≤ 1000 + (i + 4).toNat by omega) (show slots + 6 ≤ 20000 + 6 * (i + 4).toNat by omega) v_16 zh_13
      · replace hv := hv.2 hc
        refine z_iconst (pc := 1213) X d_LW_law_1213 ?_
        exact hv.elim
  · replace hv := hv.2 hc
    refine z_iconst (pc := 1196) X d_LW_law_1196 ?_
    exact hv.elim
def C_LW_law_1218 (N : Nat) (xs : Nat → Int32) (L : Int × zH → Prop) (i : Int) (h : zH) : Prop :=
  M_LW_undo 0 220 h (fun r_2 h_1 => M_RM_undo 197 h_1 (fun r_4 h_3 => M_RM_thrown 197 h_3 (fun r_6 h_5 => (r_6 = r_2 → ((r_2 ≠ 0 → (zr (i + 4) ∧ (L (i + 4, h_5)))) ∧ (r_2 = 0 → ((h_5 220 0 = r_4 → (zr (i + 4) ∧ (L (i + 4, h_5)))) ∧ (h_5 220 0 ≠ r_4 → (False)))))) ∧ (r_6 ≠ r_2 → (False)))))
set_option maxHeartbeats 4000000 in
set_option maxRecDepth 100000 in
theorem sc_LW_law_1218 {p : Program} {l : Launch} {e : Env} {s : State} {m : MethodId} {below : List Frame} {meth : Method} {c : Code} {b N : Nat} {xs : Nat → Int32} {g : zG} (C : zLC p l s m meth c b N xs g) (hN : N ≤ 2048) (oX : zO 221 0 10) (oM : zO 221 197 11) (oO : zO 221 220 16) (rfl_ln : zln 220 = 1) {L : Int × zH → Prop} (hL : ∀ q : Int × zH, L q → ∀ cells slots : Nat, 0 ≤ q.1 → q.1 ≤ 2052 → cells ≤ 1000 + q.1.toNat → slots ≤ 20000 + 6 * q.1.toNat → zr q.1 → zh q.2 → zW (zWl p l e s m below meth c b cells slots) m 8 g 221 s.heap 23 [(0, .ref b), (1, .ref (g.2.2 0)), (2, .ref (g.2.2 197)), (3, .ref (g.2.2 220)), (4, zi q.1)] [] q.2) {i : Int} {h : zH} {cells slots : Nat} (hi0 : 0 ≤ i) (hi4 : i ≤ (N : Int) - 4) (hcb : cells ≤ 1000 + i.toNat) (hsb : slots ≤ 20000 + 6 * i.toNat) (ri : zr i) (hh : zh h) (hv : C_LW_law_1218 N xs L i h) : zW (zWl p l e s m below meth c b cells slots) m 8 g 221 s.heap 1218 [(0, .ref b), (1, .ref (g.2.2 0)), (2, .ref (g.2.2 197)), (3, .ref (g.2.2 220)), (4, zi i)] [] h := by
  unfold C_LW_law_1218 at hv
  have rN : zr (N : Int) := by omega
  have hce : cells ≤ 601024 := by omega
  have hsl : slots ≤ 7293034 := by omega
  have X := zXl (e := e) (below := below) C hce hsl
  refine z_aload_n (pc := 1218) (q := 1) X d_LW_law_1218 rfl ?_
  refine z_aload_n (pc := 1219) (q := 3) X d_LW_law_1219 rfl ?_
  refine z_callH (k := 2) (pc := 1220) (As := [.ref (g.2.2 0), .ref (g.2.2 220)]) (rest := []) C (by omega) (by omega) (fun l hl => c_LW_undo hl oX oO hh hv) q848 q0 q849w (by decide +kernel) q847 ⟨⟨by decide, by decide⟩, rfl, rfl⟩ rfl d_LW_law_1220 rfl (Nat.le_of_ble_eq_true rfl) (fun r_2 h_1 rr_2 zh_1 hv => ?_)
  have hce1 : cells + 1 ≤ 601024 := by omega
  have hsl1 : slots + 6 ≤ 7293034 := by omega
  have X := zXl (e := e) (below := below) C hce1 hsl1
  refine z_istore (pc := 1223) (lv' := [(5, zi r_2), (0, .ref b), (1, .ref (g.2.2 0)), (2, .ref (g.2.2 197)), (3, .ref (g.2.2 220)), (4, zi i)]) X d_LW_law_1223 (by decide) rfl ?_
  refine z_aload_n (pc := 1225) (q := 3) X d_LW_law_1225 rfl ?_
  refine z_callVi (pc := 1226) (As := []) (rest := []) X (fun l hl => c_RM_undo hl oM zh_1 hv) cf_RM oM rfl mf_RM_undo q1317 ⟨⟨by decide, by decide⟩, rfl, rfl⟩ rfl d_LW_law_1226 rfl (Nat.le_of_ble_eq_true rfl) (fun r_4 h_3 rr_4 zh_3 hv => ?_)
  refine z_istore (pc := 1229) (lv' := [(6, zi r_4), (5, zi r_2), (0, .ref b), (1, .ref (g.2.2 0)), (2, .ref (g.2.2 197)), (3, .ref (g.2.2 220)), (4, zi i)]) X d_LW_law_1229 (by decide) rfl ?_
  refine z_aload_n (pc := 1231) (q := 4) X d_LW_law_1231 rfl ?_
  refine z_callVi (pc := 1232) (As := []) (rest := []) X (fun l hl => c_RM_thrown hl oM zh_3 hv) cf_RM oM rfl mf_RM_thrown q1118 ⟨⟨by decide, by decide⟩, rfl, rfl⟩ rfl d_LW_law_1232 rfl (Nat.le_of_ble_eq_true rfl) (fun r_6 h_5 rr_6 zh_5 hv => ?_)
  refine z_iload (pc := 1235) (q := 1) X d_LW_law_1235 rfl ?_
  refine z_icmp_eq (pc := 1237) (tgt := 1242) X rr_6 rr_2 d_LW_law_1237 (by decide) (fun hc => ?_) (fun hc => ?_)
  · replace hv := hv.1 hc
    refine z_iload (pc := 1242) (q := 1) X d_LW_law_1242 rfl ?_
    refine z_if_ne (pc := 1244) (tgt := 1259) X rr_2 d_LW_law_1244 (by decide) (fun hc => ?_) (fun hc => ?_)
    · replace hv := hv.1 hc
      refine z_goto (pc := 1259) (tgt := 1964) X d_LW_law_1259 (by decide) ?_
      obtain ⟨v_7, hv⟩ := hv
      refine z_iinc (pc := 1964) (q := 6) (lv' := [(4, zi (i + 4)), (6, zi r_4), (5, zi r_2), (0, .ref b), (1, .ref (g.2.2 0)), (2, .ref (g.2.2 197)), (3, .ref (g.2.2 220))]) X d_LW_law_1964 rfl (by decide) rfl ?_
      refine z_goto (pc := 1967) (tgt := 23) X d_LW_law_1967 (by decide) ?_
      refine z_perm [3, 4, 5, 6, 0] rfl ?_
      exact hL (i + 4, h_5) hv (cells + 1) (slots + 6) (show (0 : Int) ≤ i + 4 by omega) (show i + 4 ≤ (2052 : Int) by omega) (show cells + 1 ≤ 1000 + (i + 4).toNat by omega) (show slots + 6 ≤ 20000 + 6 * (i + 4).toNat by omega) v_7 zh_5
    · replace hv := hv.2 hc
      refine z_aload_n (pc := 1247) (q := 5) X d_LW_law_1247 rfl ?_
      refine z_iconst (pc := 1248) X d_LW_law_1248 ?_
      refine z_laldj (pc := 1249) (j := 0) X oO rfl_ln (show zr 0 from by decide) ⟨by decide, by decide⟩ rfl d_LW_law_1249 ?_
      refine z_iload (pc := 1250) (q := 0) X d_LW_law_1250 rfl ?_
      refine z_i2l (pc := 1252) X rr_4 d_LW_law_1252 ?_
      refine z_lif_eq (pc := 1253) (tgt := 1259) X (zh_5.2 _) (zr_l rr_4) d_LW_law_1253 d_LW_law_1254 (by decide) (fun hc => ?_) (fun hc => ?_)
      · replace hv := hv.1 hc
        refine z_goto (pc := 1259) (tgt := 1964) X d_LW_law_1259 (by decide) ?_
        obtain ⟨v_8, hv⟩ := hv
        refine z_iinc (pc := 1964) (q := 6) (lv' := [(4, zi (i + 4)), (6, zi r_4), (5, zi r_2), (0, .ref b), (1, .ref (g.2.2 0)), (2, .ref (g.2.2 197)), (3, .ref (g.2.2 220))]) X d_LW_law_1964 rfl (by decide) rfl ?_
        refine z_goto (pc := 1967) (tgt := 23) X d_LW_law_1967 (by decide) ?_
        refine z_perm [3, 4, 5, 6, 0] rfl ?_
        exact hL (i + 4, h_5) hv (cells + 1) (slots + 6) (show (0 : Int) ≤ i + 4 by omega) (show i + 4 ≤ (2052 : Int) by omega) (show cells + 1 ≤ 1000 + (i + 4).toNat by omega) (show slots + 6 ≤ 20000 + 6 * (i + 4).toNat by omega) v_8 zh_5
      · replace hv := hv.2 hc
        refine z_iconst (pc := 1257) X d_LW_law_1257 ?_
        exact hv.elim
  · replace hv := hv.2 hc
    refine z_iconst (pc := 1240) X d_LW_law_1240 ?_
    exact hv.elim
def C_LW_law_1262 (N : Nat) (xs : Nat → Int32) (L : Int × zH → Prop) (i : Int) (h : zH) : Prop :=
  zr (i + 1) ∧ ((0 ≤ i + 1 ∧ i + 1 < (N : Int)) ∧ (zr (i + 2) ∧ ((0 ≤ i + 2 ∧ i + 2 < (N : Int)) ∧ (M_LW_taken 0 ((xs (i + 1).toNat).toInt) ((xs (i + 2).toNat).toInt) 220 h (fun r_6 h_5 => zr (i + 1) ∧ ((0 ≤ i + 1 ∧ i + 1 < (N : Int)) ∧ (zr (i + 2) ∧ ((0 ≤ i + 2 ∧ i + 2 < (N : Int)) ∧ (M_RM_taken 197 ((xs (i + 1).toNat).toInt) ((xs (i + 2).toNat).toInt) h_5 (fun r_12 h_11 => M_RM_thrown 197 h_11 (fun r_14 h_13 => (r_14 = r_6 → ((r_6 ≠ 0 → (zr (i + 4) ∧ (L (i + 4, h_13)))) ∧ (r_6 = 0 → ((h_13 220 0 = r_12 → (zr (i + 4) ∧ (L (i + 4, h_13)))) ∧ (h_13 220 0 ≠ r_12 → (False)))))) ∧ (r_14 ≠ r_6 → (False)))))))))))))
set_option maxHeartbeats 4000000 in
set_option maxRecDepth 100000 in
theorem sc_LW_law_1262 {p : Program} {l : Launch} {e : Env} {s : State} {m : MethodId} {below : List Frame} {meth : Method} {c : Code} {b N : Nat} {xs : Nat → Int32} {g : zG} (C : zLC p l s m meth c b N xs g) (hN : N ≤ 2048) (oX : zO 221 0 10) (oM : zO 221 197 11) (oO : zO 221 220 16) (rfl_ln : zln 220 = 1) {L : Int × zH → Prop} (hL : ∀ q : Int × zH, L q → ∀ cells slots : Nat, 0 ≤ q.1 → q.1 ≤ 2052 → cells ≤ 1000 + q.1.toNat → slots ≤ 20000 + 6 * q.1.toNat → zr q.1 → zh q.2 → zW (zWl p l e s m below meth c b cells slots) m 8 g 221 s.heap 23 [(0, .ref b), (1, .ref (g.2.2 0)), (2, .ref (g.2.2 197)), (3, .ref (g.2.2 220)), (4, zi q.1)] [] q.2) {i : Int} {h : zH} {cells slots : Nat} (hi0 : 0 ≤ i) (hi4 : i ≤ (N : Int) - 4) (hcb : cells ≤ 1000 + i.toNat) (hsb : slots ≤ 20000 + 6 * i.toNat) (ri : zr i) (hh : zh h) (hv : C_LW_law_1262 N xs L i h) : zW (zWl p l e s m below meth c b cells slots) m 8 g 221 s.heap 1262 [(0, .ref b), (1, .ref (g.2.2 0)), (2, .ref (g.2.2 197)), (3, .ref (g.2.2 220)), (4, zi i)] [] h := by
  unfold C_LW_law_1262 at hv
  have rN : zr (N : Int) := by omega
  have hce : cells ≤ 601024 := by omega
  have hsl : slots ≤ 7293034 := by omega
  have X := zXl (e := e) (below := below) C hce hsl
  refine z_aload_n (pc := 1262) (q := 1) X d_LW_law_1262 rfl ?_
  refine z_aload_n (pc := 1263) (q := 0) X d_LW_law_1263 rfl ?_
  refine z_iload (pc := 1264) (q := 4) X d_LW_law_1264 rfl ?_
  refine z_iconst (pc := 1266) X d_LW_law_1266 ?_
  obtain ⟨v_1, hv⟩ := hv
  refine z_iadd (pc := 1267) X d_LW_law_1267 ?_
  obtain ⟨v_2, hv⟩ := hv
  refine z_sld (pc := 1268) C v_1 v_2 d_LW_law_1268 ?_
  refine z_aload_n (pc := 1269) (q := 0) X d_LW_law_1269 rfl ?_
  refine z_iload (pc := 1270) (q := 4) X d_LW_law_1270 rfl ?_
  refine z_iconst (pc := 1272) X d_LW_law_1272 ?_
  obtain ⟨v_3, hv⟩ := hv
  refine z_iadd (pc := 1273) X d_LW_law_1273 ?_
  obtain ⟨v_4, hv⟩ := hv
  refine z_sld (pc := 1274) C v_3 v_4 d_LW_law_1274 ?_
  refine z_aload_n (pc := 1275) (q := 3) X d_LW_law_1275 rfl ?_
  refine z_callH (k := 4) (pc := 1276) (As := [.ref (g.2.2 0), zi ((xs (i + 1).toNat).toInt), zi ((xs (i + 2).toNat).toInt), .ref (g.2.2 220)]) (rest := []) C (by omega) (by omega) (fun l hl => c_LW_taken hl oX (zr_int _) (zr_int _) oO hh hv) q860 q0 q861w (by decide +kernel) q859 ⟨⟨by decide, by decide⟩, rfl, rfl⟩ rfl d_LW_law_1276 rfl (Nat.le_of_ble_eq_true rfl) (fun r_6 h_5 rr_6 zh_5 hv => ?_)
  have hce1 : cells + 1 ≤ 601024 := by omega
  have hsl1 : slots + 6 ≤ 7293034 := by omega
  have X := zXl (e := e) (below := below) C hce1 hsl1
  refine z_istore (pc := 1279) (lv' := [(5, zi r_6), (0, .ref b), (1, .ref (g.2.2 0)), (2, .ref (g.2.2 197)), (3, .ref (g.2.2 220)), (4, zi i)]) X d_LW_law_1279 (by decide) rfl ?_
  refine z_aload_n (pc := 1281) (q := 3) X d_LW_law_1281 rfl ?_
  refine z_aload_n (pc := 1282) (q := 1) X d_LW_law_1282 rfl ?_
  refine z_iload (pc := 1283) (q := 5) X d_LW_law_1283 rfl ?_
  refine z_iconst (pc := 1285) X d_LW_law_1285 ?_
  obtain ⟨v_7, hv⟩ := hv
  refine z_iadd (pc := 1286) X d_LW_law_1286 ?_
  obtain ⟨v_8, hv⟩ := hv
  refine z_sld (pc := 1287) C v_7 v_8 d_LW_law_1287 ?_
  refine z_aload_n (pc := 1288) (q := 1) X d_LW_law_1288 rfl ?_
  refine z_iload (pc := 1289) (q := 5) X d_LW_law_1289 rfl ?_
  refine z_iconst (pc := 1291) X d_LW_law_1291 ?_
  obtain ⟨v_9, hv⟩ := hv
  refine z_iadd (pc := 1292) X d_LW_law_1292 ?_
  obtain ⟨v_10, hv⟩ := hv
  refine z_sld (pc := 1293) C v_9 v_10 d_LW_law_1293 ?_
  refine z_callVi (pc := 1294) (As := [zi ((xs (i + 1).toNat).toInt), zi ((xs (i + 2).toNat).toInt)]) (rest := []) X (fun l hl => c_RM_taken hl oM (zr_int _) (zr_int _) zh_5 hv) cf_RM oM rfl mf_RM_taken q1321 ⟨⟨by decide, by decide⟩, rfl, rfl⟩ rfl d_LW_law_1294 rfl (Nat.le_of_ble_eq_true rfl) (fun r_12 h_11 rr_12 zh_11 hv => ?_)
  refine z_istore (pc := 1297) (lv' := [(6, zi r_12), (5, zi r_6), (0, .ref b), (1, .ref (g.2.2 0)), (2, .ref (g.2.2 197)), (3, .ref (g.2.2 220)), (4, zi i)]) X d_LW_law_1297 (by decide) rfl ?_
  refine z_aload_n (pc := 1299) (q := 4) X d_LW_law_1299 rfl ?_
  refine z_callVi (pc := 1300) (As := []) (rest := []) X (fun l hl => c_RM_thrown hl oM zh_11 hv) cf_RM oM rfl mf_RM_thrown q1118 ⟨⟨by decide, by decide⟩, rfl, rfl⟩ rfl d_LW_law_1300 rfl (Nat.le_of_ble_eq_true rfl) (fun r_14 h_13 rr_14 zh_13 hv => ?_)
  refine z_iload (pc := 1303) (q := 1) X d_LW_law_1303 rfl ?_
  refine z_icmp_eq (pc := 1305) (tgt := 1310) X rr_14 rr_6 d_LW_law_1305 (by decide) (fun hc => ?_) (fun hc => ?_)
  · replace hv := hv.1 hc
    refine z_iload (pc := 1310) (q := 1) X d_LW_law_1310 rfl ?_
    refine z_if_ne (pc := 1312) (tgt := 1327) X rr_6 d_LW_law_1312 (by decide) (fun hc => ?_) (fun hc => ?_)
    · replace hv := hv.1 hc
      refine z_goto (pc := 1327) (tgt := 1964) X d_LW_law_1327 (by decide) ?_
      obtain ⟨v_15, hv⟩ := hv
      refine z_iinc (pc := 1964) (q := 6) (lv' := [(4, zi (i + 4)), (6, zi r_12), (5, zi r_6), (0, .ref b), (1, .ref (g.2.2 0)), (2, .ref (g.2.2 197)), (3, .ref (g.2.2 220))]) X d_LW_law_1964 rfl (by decide) rfl ?_
      refine z_goto (pc := 1967) (tgt := 23) X d_LW_law_1967 (by decide) ?_
      refine z_perm [3, 4, 5, 6, 0] rfl ?_
      exact hL (i + 4, h_13) hv (cells + 1) (slots + 6) (show (0 : Int) ≤ i + 4 by omega) (show i + 4 ≤ (2052 : Int) by omega) (show cells + 1 ≤ 1000 + (i + 4).toNat by omega) (show slots + 6 ≤ 20000 + 6 * (i + 4).toNat by omega) v_15 zh_13
    · replace hv := hv.2 hc
      refine z_aload_n (pc := 1315) (q := 5) X d_LW_law_1315 rfl ?_
      refine z_iconst (pc := 1316) X d_LW_law_1316 ?_
      refine z_laldj (pc := 1317) (j := 0) X oO rfl_ln (show zr 0 from by decide) ⟨by decide, by decide⟩ rfl d_LW_law_1317 ?_
      refine z_iload (pc := 1318) (q := 0) X d_LW_law_1318 rfl ?_
      refine z_i2l (pc := 1320) X rr_12 d_LW_law_1320 ?_
      refine z_lif_eq (pc := 1321) (tgt := 1327) X (zh_13.2 _) (zr_l rr_12) d_LW_law_1321 d_LW_law_1322 (by decide) (fun hc => ?_) (fun hc => ?_)
      · replace hv := hv.1 hc
        refine z_goto (pc := 1327) (tgt := 1964) X d_LW_law_1327 (by decide) ?_
        obtain ⟨v_16, hv⟩ := hv
        refine z_iinc (pc := 1964) (q := 6) (lv' := [(4, zi (i + 4)), (6, zi r_12), (5, zi r_6), (0, .ref b), (1, .ref (g.2.2 0)), (2, .ref (g.2.2 197)), (3, .ref (g.2.2 220))]) X d_LW_law_1964 rfl (by decide) rfl ?_
        refine z_goto (pc := 1967) (tgt := 23) X d_LW_law_1967 (by decide) ?_
        refine z_perm [3, 4, 5, 6, 0] rfl ?_
        exact hL (i + 4, h_13) hv (cells + 1) (slots + 6) (show (0 : Int) ≤ i + 4 by omega) (show i + 4 ≤ (2052 : Int) by omega) (show cells + 1 ≤ 1000 + (i + 4).toNat by omega) (show slots + 6 ≤ 20000 + 6 * (i + 4).toNat by omega) v_16 zh_13
      · replace hv := hv.2 hc
        refine z_iconst (pc := 1325) X d_LW_law_1325 ?_
        exact hv.elim
  · replace hv := hv.2 hc
    refine z_iconst (pc := 1308) X d_LW_law_1308 ?_
    exact hv.elim
def C_LW_law_1330 (N : Nat) (xs : Nat → Int32) (L : Int × zH → Prop) (i : Int) (h : zH) : Prop :=
  M_AS_failure 0 h (fun r_2 h_1 => M_RM_failure 197 h_1 (fun r_4 h_3 => (r_2 = r_4 → (zr (i + 4) ∧ (L (i + 4, h_3)))) ∧ (r_2 ≠ r_4 → (False))))
set_option maxHeartbeats 4000000 in
set_option maxRecDepth 100000 in
theorem sc_LW_law_1330 {p : Program} {l : Launch} {e : Env} {s : State} {m : MethodId} {below : List Frame} {meth : Method} {c : Code} {b N : Nat} {xs : Nat → Int32} {g : zG} (C : zLC p l s m meth c b N xs g) (hN : N ≤ 2048) (oX : zO 221 0 10) (oM : zO 221 197 11) (oO : zO 221 220 16) (rfl_ln : zln 220 = 1) {L : Int × zH → Prop} (hL : ∀ q : Int × zH, L q → ∀ cells slots : Nat, 0 ≤ q.1 → q.1 ≤ 2052 → cells ≤ 1000 + q.1.toNat → slots ≤ 20000 + 6 * q.1.toNat → zr q.1 → zh q.2 → zW (zWl p l e s m below meth c b cells slots) m 8 g 221 s.heap 23 [(0, .ref b), (1, .ref (g.2.2 0)), (2, .ref (g.2.2 197)), (3, .ref (g.2.2 220)), (4, zi q.1)] [] q.2) {i : Int} {h : zH} {cells slots : Nat} (hi0 : 0 ≤ i) (hi4 : i ≤ (N : Int) - 4) (hcb : cells ≤ 1000 + i.toNat) (hsb : slots ≤ 20000 + 6 * i.toNat) (ri : zr i) (hh : zh h) (hv : C_LW_law_1330 N xs L i h) : zW (zWl p l e s m below meth c b cells slots) m 8 g 221 s.heap 1330 [(0, .ref b), (1, .ref (g.2.2 0)), (2, .ref (g.2.2 197)), (3, .ref (g.2.2 220)), (4, zi i)] [] h := by
  unfold C_LW_law_1330 at hv
  have rN : zr (N : Int) := by omega
  have hce : cells ≤ 601024 := by omega
  have hsl : slots ≤ 7293034 := by omega
  have X := zXl (e := e) (below := below) C hce hsl
  refine z_aload_n (pc := 1330) (q := 1) X d_LW_law_1330 rfl ?_
  refine z_callVi (pc := 1331) (As := []) (rest := []) X (fun l hl => c_AS_failure hl oX hh hv) cf_AS oX rfl mf_AS_failure q437 ⟨⟨by decide, by decide⟩, rfl, rfl⟩ rfl d_LW_law_1331 rfl (Nat.le_of_ble_eq_true rfl) (fun r_2 h_1 rr_2 zh_1 hv => ?_)
  refine z_aload_n (pc := 1334) (q := 2) X d_LW_law_1334 rfl ?_
  refine z_callVi (pc := 1335) (As := []) (rest := [zi r_2]) X (fun l hl => c_RM_failure hl oM zh_1 hv) cf_RM oM rfl mf_RM_failure q1326 ⟨⟨by decide, by decide⟩, rfl, rfl⟩ rfl d_LW_law_1335 rfl (Nat.le_of_ble_eq_true rfl) (fun r_4 h_3 rr_4 zh_3 hv => ?_)
  refine z_icmp_eq (pc := 1338) (tgt := 1964) X rr_2 rr_4 d_LW_law_1338 (by decide) (fun hc => ?_) (fun hc => ?_)
  · replace hv := hv.1 hc
    obtain ⟨v_5, hv⟩ := hv
    refine z_iinc (pc := 1964) (q := 4) (lv' := [(4, zi (i + 4)), (0, .ref b), (1, .ref (g.2.2 0)), (2, .ref (g.2.2 197)), (3, .ref (g.2.2 220))]) X d_LW_law_1964 rfl (by decide) rfl ?_
    refine z_goto (pc := 1967) (tgt := 23) X d_LW_law_1967 (by decide) ?_
    refine z_perm [1, 2, 3, 4, 0] rfl ?_
    exact hL (i + 4, h_3) hv cells slots (show (0 : Int) ≤ i + 4 by omega) (show i + 4 ≤ (2052 : Int) by omega) (show cells ≤ 1000 + (i + 4).toNat by omega) (show slots ≤ 20000 + 6 * (i + 4).toNat by omega) v_5 zh_3
  · replace hv := hv.2 hc
    refine z_iconst (pc := 1341) X d_LW_law_1341 ?_
    exact hv.elim
def C_LW_law_1343 (N : Nat) (xs : Nat → Int32) (L : Int × zH → Prop) (i : Int) (h : zH) : Prop :=
  M_AS_unfit 0 h (fun r_2 h_1 => M_RM_unfit 197 h_1 (fun r_4 h_3 => (r_2 = r_4 → (zr (i + 4) ∧ (L (i + 4, h_3)))) ∧ (r_2 ≠ r_4 → (False))))
set_option maxHeartbeats 4000000 in
set_option maxRecDepth 100000 in
theorem sc_LW_law_1343 {p : Program} {l : Launch} {e : Env} {s : State} {m : MethodId} {below : List Frame} {meth : Method} {c : Code} {b N : Nat} {xs : Nat → Int32} {g : zG} (C : zLC p l s m meth c b N xs g) (hN : N ≤ 2048) (oX : zO 221 0 10) (oM : zO 221 197 11) (oO : zO 221 220 16) (rfl_ln : zln 220 = 1) {L : Int × zH → Prop} (hL : ∀ q : Int × zH, L q → ∀ cells slots : Nat, 0 ≤ q.1 → q.1 ≤ 2052 → cells ≤ 1000 + q.1.toNat → slots ≤ 20000 + 6 * q.1.toNat → zr q.1 → zh q.2 → zW (zWl p l e s m below meth c b cells slots) m 8 g 221 s.heap 23 [(0, .ref b), (1, .ref (g.2.2 0)), (2, .ref (g.2.2 197)), (3, .ref (g.2.2 220)), (4, zi q.1)] [] q.2) {i : Int} {h : zH} {cells slots : Nat} (hi0 : 0 ≤ i) (hi4 : i ≤ (N : Int) - 4) (hcb : cells ≤ 1000 + i.toNat) (hsb : slots ≤ 20000 + 6 * i.toNat) (ri : zr i) (hh : zh h) (hv : C_LW_law_1343 N xs L i h) : zW (zWl p l e s m below meth c b cells slots) m 8 g 221 s.heap 1343 [(0, .ref b), (1, .ref (g.2.2 0)), (2, .ref (g.2.2 197)), (3, .ref (g.2.2 220)), (4, zi i)] [] h := by
  unfold C_LW_law_1343 at hv
  have rN : zr (N : Int) := by omega
  have hce : cells ≤ 601024 := by omega
  have hsl : slots ≤ 7293034 := by omega
  have X := zXl (e := e) (below := below) C hce hsl
  refine z_aload_n (pc := 1343) (q := 1) X d_LW_law_1343 rfl ?_
  refine z_callVi (pc := 1344) (As := []) (rest := []) X (fun l hl => c_AS_unfit hl oX hh hv) cf_AS oX rfl mf_AS_unfit q461 ⟨⟨by decide, by decide⟩, rfl, rfl⟩ rfl d_LW_law_1344 rfl (Nat.le_of_ble_eq_true rfl) (fun r_2 h_1 rr_2 zh_1 hv => ?_)
  refine z_aload_n (pc := 1347) (q := 2) X d_LW_law_1347 rfl ?_
  refine z_callVi (pc := 1348) (As := []) (rest := [zi r_2]) X (fun l hl => c_RM_unfit hl oM zh_1 hv) cf_RM oM rfl mf_RM_unfit q1330 ⟨⟨by decide, by decide⟩, rfl, rfl⟩ rfl d_LW_law_1348 rfl (Nat.le_of_ble_eq_true rfl) (fun r_4 h_3 rr_4 zh_3 hv => ?_)
  refine z_icmp_eq (pc := 1351) (tgt := 1964) X rr_2 rr_4 d_LW_law_1351 (by decide) (fun hc => ?_) (fun hc => ?_)
  · replace hv := hv.1 hc
    obtain ⟨v_5, hv⟩ := hv
    refine z_iinc (pc := 1964) (q := 4) (lv' := [(4, zi (i + 4)), (0, .ref b), (1, .ref (g.2.2 0)), (2, .ref (g.2.2 197)), (3, .ref (g.2.2 220))]) X d_LW_law_1964 rfl (by decide) rfl ?_
    refine z_goto (pc := 1967) (tgt := 23) X d_LW_law_1967 (by decide) ?_
    refine z_perm [1, 2, 3, 4, 0] rfl ?_
    exact hL (i + 4, h_3) hv cells slots (show (0 : Int) ≤ i + 4 by omega) (show i + 4 ≤ (2052 : Int) by omega) (show cells ≤ 1000 + (i + 4).toNat by omega) (show slots ≤ 20000 + 6 * (i + 4).toNat by omega) v_5 zh_3
  · replace hv := hv.2 hc
    refine z_iconst (pc := 1354) X d_LW_law_1354 ?_
    exact hv.elim
def C_LW_law_1356 (N : Nat) (xs : Nat → Int32) (L : Int × zH → Prop) (i : Int) (h : zH) : Prop :=
  zr (i + 1) ∧ ((0 ≤ i + 1 ∧ i + 1 < (N : Int)) ∧ (M_LW_digitsWith 0 ((xs (i + 1).toNat).toInt) 220 h (fun r_4 h_3 => zr (i + 1) ∧ ((0 ≤ i + 1 ∧ i + 1 < (N : Int)) ∧ (M_RM_digitsWith 197 ((xs (i + 1).toNat).toInt) h_3 (fun r_8 h_7 => M_RM_thrown 197 h_7 (fun r_10 h_9 => (r_10 = r_4 → ((r_4 ≠ 0 → (zr (i + 4) ∧ (L (i + 4, h_9)))) ∧ (r_4 = 0 → ((h_9 220 0 = r_8 → (zr (i + 4) ∧ (L (i + 4, h_9)))) ∧ (h_9 220 0 ≠ r_8 → (False)))))) ∧ (r_10 ≠ r_4 → (False)))))))))
set_option maxHeartbeats 4000000 in
set_option maxRecDepth 100000 in
theorem sc_LW_law_1356 {p : Program} {l : Launch} {e : Env} {s : State} {m : MethodId} {below : List Frame} {meth : Method} {c : Code} {b N : Nat} {xs : Nat → Int32} {g : zG} (C : zLC p l s m meth c b N xs g) (hN : N ≤ 2048) (oX : zO 221 0 10) (oM : zO 221 197 11) (oO : zO 221 220 16) (rfl_ln : zln 220 = 1) {L : Int × zH → Prop} (hL : ∀ q : Int × zH, L q → ∀ cells slots : Nat, 0 ≤ q.1 → q.1 ≤ 2052 → cells ≤ 1000 + q.1.toNat → slots ≤ 20000 + 6 * q.1.toNat → zr q.1 → zh q.2 → zW (zWl p l e s m below meth c b cells slots) m 8 g 221 s.heap 23 [(0, .ref b), (1, .ref (g.2.2 0)), (2, .ref (g.2.2 197)), (3, .ref (g.2.2 220)), (4, zi q.1)] [] q.2) {i : Int} {h : zH} {cells slots : Nat} (hi0 : 0 ≤ i) (hi4 : i ≤ (N : Int) - 4) (hcb : cells ≤ 1000 + i.toNat) (hsb : slots ≤ 20000 + 6 * i.toNat) (ri : zr i) (hh : zh h) (hv : C_LW_law_1356 N xs L i h) : zW (zWl p l e s m below meth c b cells slots) m 8 g 221 s.heap 1356 [(0, .ref b), (1, .ref (g.2.2 0)), (2, .ref (g.2.2 197)), (3, .ref (g.2.2 220)), (4, zi i)] [] h := by
  unfold C_LW_law_1356 at hv
  have rN : zr (N : Int) := by omega
  have hce : cells ≤ 601024 := by omega
  have hsl : slots ≤ 7293034 := by omega
  have X := zXl (e := e) (below := below) C hce hsl
  refine z_aload_n (pc := 1356) (q := 1) X d_LW_law_1356 rfl ?_
  refine z_aload_n (pc := 1357) (q := 0) X d_LW_law_1357 rfl ?_
  refine z_iload (pc := 1358) (q := 4) X d_LW_law_1358 rfl ?_
  refine z_iconst (pc := 1360) X d_LW_law_1360 ?_
  obtain ⟨v_1, hv⟩ := hv
  refine z_iadd (pc := 1361) X d_LW_law_1361 ?_
  obtain ⟨v_2, hv⟩ := hv
  refine z_sld (pc := 1362) C v_1 v_2 d_LW_law_1362 ?_
  refine z_aload_n (pc := 1363) (q := 3) X d_LW_law_1363 rfl ?_
  refine z_callH (k := 3) (pc := 1364) (As := [.ref (g.2.2 0), zi ((xs (i + 1).toNat).toInt), .ref (g.2.2 220)]) (rest := []) C (by omega) (by omega) (fun l hl => c_LW_digitsWith hl oX (zr_int _) oO hh hv) q869 q0 q870w (by decide +kernel) q868 ⟨⟨by decide, by decide⟩, rfl, rfl⟩ rfl d_LW_law_1364 rfl (Nat.le_of_ble_eq_true rfl) (fun r_4 h_3 rr_4 zh_3 hv => ?_)
  have hce1 : cells + 1 ≤ 601024 := by omega
  have hsl1 : slots + 6 ≤ 7293034 := by omega
  have X := zXl (e := e) (below := below) C hce1 hsl1
  refine z_istore (pc := 1367) (lv' := [(5, zi r_4), (0, .ref b), (1, .ref (g.2.2 0)), (2, .ref (g.2.2 197)), (3, .ref (g.2.2 220)), (4, zi i)]) X d_LW_law_1367 (by decide) rfl ?_
  refine z_aload_n (pc := 1369) (q := 3) X d_LW_law_1369 rfl ?_
  refine z_aload_n (pc := 1370) (q := 1) X d_LW_law_1370 rfl ?_
  refine z_iload (pc := 1371) (q := 5) X d_LW_law_1371 rfl ?_
  refine z_iconst (pc := 1373) X d_LW_law_1373 ?_
  obtain ⟨v_5, hv⟩ := hv
  refine z_iadd (pc := 1374) X d_LW_law_1374 ?_
  obtain ⟨v_6, hv⟩ := hv
  refine z_sld (pc := 1375) C v_5 v_6 d_LW_law_1375 ?_
  refine z_callVi (pc := 1376) (As := [zi ((xs (i + 1).toNat).toInt)]) (rest := []) X (fun l hl => c_RM_digitsWith hl oM (zr_int _) zh_3 hv) cf_RM oM rfl mf_RM_digitsWith q1334 ⟨⟨by decide, by decide⟩, rfl, rfl⟩ rfl d_LW_law_1376 rfl (Nat.le_of_ble_eq_true rfl) (fun r_8 h_7 rr_8 zh_7 hv => ?_)
  refine z_istore (pc := 1379) (lv' := [(6, zi r_8), (5, zi r_4), (0, .ref b), (1, .ref (g.2.2 0)), (2, .ref (g.2.2 197)), (3, .ref (g.2.2 220)), (4, zi i)]) X d_LW_law_1379 (by decide) rfl ?_
  refine z_aload_n (pc := 1381) (q := 4) X d_LW_law_1381 rfl ?_
  refine z_callVi (pc := 1382) (As := []) (rest := []) X (fun l hl => c_RM_thrown hl oM zh_7 hv) cf_RM oM rfl mf_RM_thrown q1118 ⟨⟨by decide, by decide⟩, rfl, rfl⟩ rfl d_LW_law_1382 rfl (Nat.le_of_ble_eq_true rfl) (fun r_10 h_9 rr_10 zh_9 hv => ?_)
  refine z_iload (pc := 1385) (q := 1) X d_LW_law_1385 rfl ?_
  refine z_icmp_eq (pc := 1387) (tgt := 1392) X rr_10 rr_4 d_LW_law_1387 (by decide) (fun hc => ?_) (fun hc => ?_)
  · replace hv := hv.1 hc
    refine z_iload (pc := 1392) (q := 1) X d_LW_law_1392 rfl ?_
    refine z_if_ne (pc := 1394) (tgt := 1409) X rr_4 d_LW_law_1394 (by decide) (fun hc => ?_) (fun hc => ?_)
    · replace hv := hv.1 hc
      refine z_goto (pc := 1409) (tgt := 1964) X d_LW_law_1409 (by decide) ?_
      obtain ⟨v_11, hv⟩ := hv
      refine z_iinc (pc := 1964) (q := 6) (lv' := [(4, zi (i + 4)), (6, zi r_8), (5, zi r_4), (0, .ref b), (1, .ref (g.2.2 0)), (2, .ref (g.2.2 197)), (3, .ref (g.2.2 220))]) X d_LW_law_1964 rfl (by decide) rfl ?_
      refine z_goto (pc := 1967) (tgt := 23) X d_LW_law_1967 (by decide) ?_
      refine z_perm [3, 4, 5, 6, 0] rfl ?_
      exact hL (i + 4, h_9) hv (cells + 1) (slots + 6) (show (0 : Int) ≤ i + 4 by omega) (show i + 4 ≤ (2052 : Int) by omega) (show cells + 1 ≤ 1000 + (i + 4).toNat by omega) (show slots + 6 ≤ 20000 + 6 * (i + 4).toNat by omega) v_11 zh_9
    · replace hv := hv.2 hc
      refine z_aload_n (pc := 1397) (q := 5) X d_LW_law_1397 rfl ?_
      refine z_iconst (pc := 1398) X d_LW_law_1398 ?_
      refine z_laldj (pc := 1399) (j := 0) X oO rfl_ln (show zr 0 from by decide) ⟨by decide, by decide⟩ rfl d_LW_law_1399 ?_
      refine z_iload (pc := 1400) (q := 0) X d_LW_law_1400 rfl ?_
      refine z_i2l (pc := 1402) X rr_8 d_LW_law_1402 ?_
      refine z_lif_eq (pc := 1403) (tgt := 1409) X (zh_9.2 _) (zr_l rr_8) d_LW_law_1403 d_LW_law_1404 (by decide) (fun hc => ?_) (fun hc => ?_)
      · replace hv := hv.1 hc
        refine z_goto (pc := 1409) (tgt := 1964) X d_LW_law_1409 (by decide) ?_
        obtain ⟨v_12, hv⟩ := hv
        refine z_iinc (pc := 1964) (q := 6) (lv' := [(4, zi (i + 4)), (6, zi r_8), (5, zi r_4), (0, .ref b), (1, .ref (g.2.2 0)), (2, .ref (g.2.2 197)), (3, .ref (g.2.2 220))]) X d_LW_law_1964 rfl (by decide) rfl ?_
        refine z_goto (pc := 1967) (tgt := 23) X d_LW_law_1967 (by decide) ?_
        refine z_perm [3, 4, 5, 6, 0] rfl ?_
        exact hL (i + 4, h_9) hv (cells + 1) (slots + 6) (show (0 : Int) ≤ i + 4 by omega) (show i + 4 ≤ (2052 : Int) by omega) (show cells + 1 ≤ 1000 + (i + 4).toNat by omega) (show slots + 6 ≤ 20000 + 6 * (i + 4).toNat by omega) v_12 zh_9
      · replace hv := hv.2 hc
        refine z_iconst (pc := 1407) X d_LW_law_1407 ?_
        exact hv.elim
  · replace hv := hv.2 hc
    refine z_iconst (pc := 1390) X d_LW_law_1390 ?_
    exact hv.elim
def C_LW_law_1412 (N : Nat) (xs : Nat → Int32) (L : Int × zH → Prop) (i : Int) (h : zH) : Prop :=
  zr (i + 1) ∧ ((0 ≤ i + 1 ∧ i + 1 < (N : Int)) ∧ (zr (i + 2) ∧ ((0 ≤ i + 2 ∧ i + 2 < (N : Int)) ∧ (zr (i + 3) ∧ ((0 ≤ i + 3 ∧ i + 3 < (N : Int)) ∧ (M_LW_product 0 ((xs (i + 1).toNat).toInt) ((xs (i + 2).toNat).toInt) ((xs (i + 3).toNat).toInt) 220 h (fun r_8 h_7 => zr (i + 1) ∧ ((0 ≤ i + 1 ∧ i + 1 < (N : Int)) ∧ (zr (i + 2) ∧ ((0 ≤ i + 2 ∧ i + 2 < (N : Int)) ∧ (zr (i + 3) ∧ ((0 ≤ i + 3 ∧ i + 3 < (N : Int)) ∧ (M_RM_product 197 ((xs (i + 1).toNat).toInt) ((xs (i + 2).toNat).toInt) ((xs (i + 3).toNat).toInt) h_7 (fun r_16 h_15 => M_RM_thrown 197 h_15 (fun r_18 h_17 => (r_18 = r_8 → ((r_8 ≠ 0 → (zr (i + 4) ∧ (L (i + 4, h_17)))) ∧ (r_8 = 0 → ((h_17 220 0 = r_16 → (zr (i + 4) ∧ (L (i + 4, h_17)))) ∧ (h_17 220 0 ≠ r_16 → (False)))))) ∧ (r_18 ≠ r_8 → (False)))))))))))))))))
set_option maxHeartbeats 4000000 in
set_option maxRecDepth 100000 in
theorem sc_LW_law_1412 {p : Program} {l : Launch} {e : Env} {s : State} {m : MethodId} {below : List Frame} {meth : Method} {c : Code} {b N : Nat} {xs : Nat → Int32} {g : zG} (C : zLC p l s m meth c b N xs g) (hN : N ≤ 2048) (oX : zO 221 0 10) (oM : zO 221 197 11) (oO : zO 221 220 16) (rfl_ln : zln 220 = 1) {L : Int × zH → Prop} (hL : ∀ q : Int × zH, L q → ∀ cells slots : Nat, 0 ≤ q.1 → q.1 ≤ 2052 → cells ≤ 1000 + q.1.toNat → slots ≤ 20000 + 6 * q.1.toNat → zr q.1 → zh q.2 → zW (zWl p l e s m below meth c b cells slots) m 8 g 221 s.heap 23 [(0, .ref b), (1, .ref (g.2.2 0)), (2, .ref (g.2.2 197)), (3, .ref (g.2.2 220)), (4, zi q.1)] [] q.2) {i : Int} {h : zH} {cells slots : Nat} (hi0 : 0 ≤ i) (hi4 : i ≤ (N : Int) - 4) (hcb : cells ≤ 1000 + i.toNat) (hsb : slots ≤ 20000 + 6 * i.toNat) (ri : zr i) (hh : zh h) (hv : C_LW_law_1412 N xs L i h) : zW (zWl p l e s m below meth c b cells slots) m 8 g 221 s.heap 1412 [(0, .ref b), (1, .ref (g.2.2 0)), (2, .ref (g.2.2 197)), (3, .ref (g.2.2 220)), (4, zi i)] [] h := by
  unfold C_LW_law_1412 at hv
  have rN : zr (N : Int) := by omega
  have hce : cells ≤ 601024 := by omega
  have hsl : slots ≤ 7293034 := by omega
  have X := zXl (e := e) (below := below) C hce hsl
  refine z_aload_n (pc := 1412) (q := 1) X d_LW_law_1412 rfl ?_
  refine z_aload_n (pc := 1413) (q := 0) X d_LW_law_1413 rfl ?_
  refine z_iload (pc := 1414) (q := 4) X d_LW_law_1414 rfl ?_
  refine z_iconst (pc := 1416) X d_LW_law_1416 ?_
  obtain ⟨v_1, hv⟩ := hv
  refine z_iadd (pc := 1417) X d_LW_law_1417 ?_
  obtain ⟨v_2, hv⟩ := hv
  refine z_sld (pc := 1418) C v_1 v_2 d_LW_law_1418 ?_
  refine z_aload_n (pc := 1419) (q := 0) X d_LW_law_1419 rfl ?_
  refine z_iload (pc := 1420) (q := 4) X d_LW_law_1420 rfl ?_
  refine z_iconst (pc := 1422) X d_LW_law_1422 ?_
  obtain ⟨v_3, hv⟩ := hv
  refine z_iadd (pc := 1423) X d_LW_law_1423 ?_
  obtain ⟨v_4, hv⟩ := hv
  refine z_sld (pc := 1424) C v_3 v_4 d_LW_law_1424 ?_
  refine z_aload_n (pc := 1425) (q := 0) X d_LW_law_1425 rfl ?_
  refine z_iload (pc := 1426) (q := 4) X d_LW_law_1426 rfl ?_
  refine z_iconst (pc := 1428) X d_LW_law_1428 ?_
  obtain ⟨v_5, hv⟩ := hv
  refine z_iadd (pc := 1429) X d_LW_law_1429 ?_
  obtain ⟨v_6, hv⟩ := hv
  refine z_sld (pc := 1430) C v_5 v_6 d_LW_law_1430 ?_
  refine z_aload_n (pc := 1431) (q := 3) X d_LW_law_1431 rfl ?_
  refine z_callH (k := 5) (pc := 1432) (As := [.ref (g.2.2 0), zi ((xs (i + 1).toNat).toInt), zi ((xs (i + 2).toNat).toInt), zi ((xs (i + 3).toNat).toInt), .ref (g.2.2 220)]) (rest := []) C (by omega) (by omega) (fun l hl => c_LW_product hl oX (zr_int _) (zr_int _) (zr_int _) oO hh hv) q881 q0 q882w (by decide +kernel) q880 ⟨⟨by decide, by decide⟩, rfl, rfl⟩ rfl d_LW_law_1432 rfl (Nat.le_of_ble_eq_true rfl) (fun r_8 h_7 rr_8 zh_7 hv => ?_)
  have hce1 : cells + 1 ≤ 601024 := by omega
  have hsl1 : slots + 6 ≤ 7293034 := by omega
  have X := zXl (e := e) (below := below) C hce1 hsl1
  refine z_istore (pc := 1435) (lv' := [(5, zi r_8), (0, .ref b), (1, .ref (g.2.2 0)), (2, .ref (g.2.2 197)), (3, .ref (g.2.2 220)), (4, zi i)]) X d_LW_law_1435 (by decide) rfl ?_
  refine z_aload_n (pc := 1437) (q := 3) X d_LW_law_1437 rfl ?_
  refine z_aload_n (pc := 1438) (q := 1) X d_LW_law_1438 rfl ?_
  refine z_iload (pc := 1439) (q := 5) X d_LW_law_1439 rfl ?_
  refine z_iconst (pc := 1441) X d_LW_law_1441 ?_
  obtain ⟨v_9, hv⟩ := hv
  refine z_iadd (pc := 1442) X d_LW_law_1442 ?_
  obtain ⟨v_10, hv⟩ := hv
  refine z_sld (pc := 1443) C v_9 v_10 d_LW_law_1443 ?_
  refine z_aload_n (pc := 1444) (q := 1) X d_LW_law_1444 rfl ?_
  refine z_iload (pc := 1445) (q := 5) X d_LW_law_1445 rfl ?_
  refine z_iconst (pc := 1447) X d_LW_law_1447 ?_
  obtain ⟨v_11, hv⟩ := hv
  refine z_iadd (pc := 1448) X d_LW_law_1448 ?_
  obtain ⟨v_12, hv⟩ := hv
  refine z_sld (pc := 1449) C v_11 v_12 d_LW_law_1449 ?_
  refine z_aload_n (pc := 1450) (q := 1) X d_LW_law_1450 rfl ?_
  refine z_iload (pc := 1451) (q := 5) X d_LW_law_1451 rfl ?_
  refine z_iconst (pc := 1453) X d_LW_law_1453 ?_
  obtain ⟨v_13, hv⟩ := hv
  refine z_iadd (pc := 1454) X d_LW_law_1454 ?_
  obtain ⟨v_14, hv⟩ := hv
  refine z_sld (pc := 1455) C v_13 v_14 d_LW_law_1455 ?_
  refine z_callVj (pc := 1456) (As := [zi ((xs (i + 1).toNat).toInt), zi ((xs (i + 2).toNat).toInt), zi ((xs (i + 3).toNat).toInt)]) (rest := []) X (fun l hl => c_RM_product hl oM (zr_int _) (zr_int _) (zr_int _) zh_7 hv) cf_RM oM rfl mf_RM_product q1338 ⟨⟨by decide, by decide⟩, rfl, rfl⟩ rfl d_LW_law_1456 rfl (Nat.le_of_ble_eq_true rfl) (fun r_16 h_15 rr_16 zh_15 hv => ?_)
  refine z_lstore (pc := 1459) (lv' := [(6, zj r_16), (5, zi r_8), (0, .ref b), (1, .ref (g.2.2 0)), (2, .ref (g.2.2 197)), (3, .ref (g.2.2 220)), (4, zi i)]) X d_LW_law_1459 (by decide) rfl ?_
  refine z_aload_n (pc := 1461) (q := 4) X d_LW_law_1461 rfl ?_
  refine z_callVi (pc := 1462) (As := []) (rest := []) X (fun l hl => c_RM_thrown hl oM zh_15 hv) cf_RM oM rfl mf_RM_thrown q1118 ⟨⟨by decide, by decide⟩, rfl, rfl⟩ rfl d_LW_law_1462 rfl (Nat.le_of_ble_eq_true rfl) (fun r_18 h_17 rr_18 zh_17 hv => ?_)
  refine z_iload (pc := 1465) (q := 1) X d_LW_law_1465 rfl ?_
  refine z_icmp_eq (pc := 1467) (tgt := 1472) X rr_18 rr_8 d_LW_law_1467 (by decide) (fun hc => ?_) (fun hc => ?_)
  · replace hv := hv.1 hc
    refine z_iload (pc := 1472) (q := 1) X d_LW_law_1472 rfl ?_
    refine z_if_ne (pc := 1474) (tgt := 1488) X rr_8 d_LW_law_1474 (by decide) (fun hc => ?_) (fun hc => ?_)
    · replace hv := hv.1 hc
      refine z_goto (pc := 1488) (tgt := 1964) X d_LW_law_1488 (by decide) ?_
      obtain ⟨v_19, hv⟩ := hv
      refine z_iinc (pc := 1964) (q := 6) (lv' := [(4, zi (i + 4)), (6, zj r_16), (5, zi r_8), (0, .ref b), (1, .ref (g.2.2 0)), (2, .ref (g.2.2 197)), (3, .ref (g.2.2 220))]) X d_LW_law_1964 rfl (by decide) rfl ?_
      refine z_goto (pc := 1967) (tgt := 23) X d_LW_law_1967 (by decide) ?_
      refine z_perm [3, 4, 5, 6, 0] rfl ?_
      exact hL (i + 4, h_17) hv (cells + 1) (slots + 6) (show (0 : Int) ≤ i + 4 by omega) (show i + 4 ≤ (2052 : Int) by omega) (show cells + 1 ≤ 1000 + (i + 4).toNat by omega) (show slots + 6 ≤ 20000 + 6 * (i + 4).toNat by omega) v_19 zh_17
    · replace hv := hv.2 hc
      refine z_aload_n (pc := 1477) (q := 5) X d_LW_law_1477 rfl ?_
      refine z_iconst (pc := 1478) X d_LW_law_1478 ?_
      refine z_laldj (pc := 1479) (j := 0) X oO rfl_ln (show zr 0 from by decide) ⟨by decide, by decide⟩ rfl d_LW_law_1479 ?_
      refine z_lload (pc := 1480) (q := 0) X d_LW_law_1480 rfl ?_
      refine z_lif_eq (pc := 1482) (tgt := 1488) X (zh_17.2 _) rr_16 d_LW_law_1482 d_LW_law_1483 (by decide) (fun hc => ?_) (fun hc => ?_)
      · replace hv := hv.1 hc
        refine z_goto (pc := 1488) (tgt := 1964) X d_LW_law_1488 (by decide) ?_
        obtain ⟨v_20, hv⟩ := hv
        refine z_iinc (pc := 1964) (q := 6) (lv' := [(4, zi (i + 4)), (6, zj r_16), (5, zi r_8), (0, .ref b), (1, .ref (g.2.2 0)), (2, .ref (g.2.2 197)), (3, .ref (g.2.2 220))]) X d_LW_law_1964 rfl (by decide) rfl ?_
        refine z_goto (pc := 1967) (tgt := 23) X d_LW_law_1967 (by decide) ?_
        refine z_perm [3, 4, 5, 6, 0] rfl ?_
        exact hL (i + 4, h_17) hv (cells + 1) (slots + 6) (show (0 : Int) ≤ i + 4 by omega) (show i + 4 ≤ (2052 : Int) by omega) (show cells + 1 ≤ 1000 + (i + 4).toNat by omega) (show slots + 6 ≤ 20000 + 6 * (i + 4).toNat by omega) v_20 zh_17
      · replace hv := hv.2 hc
        refine z_iconst (pc := 1486) X d_LW_law_1486 ?_
        exact hv.elim
  · replace hv := hv.2 hc
    refine z_iconst (pc := 1470) X d_LW_law_1470 ?_
    exact hv.elim
def C_LW_law_1491 (N : Nat) (xs : Nat → Int32) (L : Int × zH → Prop) (i : Int) (h : zH) : Prop :=
  zr (i + 1) ∧ ((0 ≤ i + 1 ∧ i + 1 < (N : Int)) ∧ (zr (i + 2) ∧ ((0 ≤ i + 2 ∧ i + 2 < (N : Int)) ∧ (M_LW_bestModel 0 ((xs (i + 1).toNat).toInt) ((xs (i + 2).toNat).toInt) 220 h (fun r_6 h_5 => zr (i + 1) ∧ ((0 ≤ i + 1 ∧ i + 1 < (N : Int)) ∧ (zr (i + 2) ∧ ((0 ≤ i + 2 ∧ i + 2 < (N : Int)) ∧ (M_RM_bestModel 197 ((xs (i + 1).toNat).toInt) ((xs (i + 2).toNat).toInt) h_5 (fun r_12 h_11 => M_RM_thrown 197 h_11 (fun r_14 h_13 => (r_14 = r_6 → ((r_6 ≠ 0 → (zr (i + 4) ∧ (L (i + 4, h_13)))) ∧ (r_6 = 0 → ((h_13 220 0 = r_12 → (zr (i + 4) ∧ (L (i + 4, h_13)))) ∧ (h_13 220 0 ≠ r_12 → (False)))))) ∧ (r_14 ≠ r_6 → (False)))))))))))))
set_option maxHeartbeats 4000000 in
set_option maxRecDepth 100000 in
theorem sc_LW_law_1491 {p : Program} {l : Launch} {e : Env} {s : State} {m : MethodId} {below : List Frame} {meth : Method} {c : Code} {b N : Nat} {xs : Nat → Int32} {g : zG} (C : zLC p l s m meth c b N xs g) (hN : N ≤ 2048) (oX : zO 221 0 10) (oM : zO 221 197 11) (oO : zO 221 220 16) (rfl_ln : zln 220 = 1) {L : Int × zH → Prop} (hL : ∀ q : Int × zH, L q → ∀ cells slots : Nat, 0 ≤ q.1 → q.1 ≤ 2052 → cells ≤ 1000 + q.1.toNat → slots ≤ 20000 + 6 * q.1.toNat → zr q.1 → zh q.2 → zW (zWl p l e s m below meth c b cells slots) m 8 g 221 s.heap 23 [(0, .ref b), (1, .ref (g.2.2 0)), (2, .ref (g.2.2 197)), (3, .ref (g.2.2 220)), (4, zi q.1)] [] q.2) {i : Int} {h : zH} {cells slots : Nat} (hi0 : 0 ≤ i) (hi4 : i ≤ (N : Int) - 4) (hcb : cells ≤ 1000 + i.toNat) (hsb : slots ≤ 20000 + 6 * i.toNat) (ri : zr i) (hh : zh h) (hv : C_LW_law_1491 N xs L i h) : zW (zWl p l e s m below meth c b cells slots) m 8 g 221 s.heap 1491 [(0, .ref b), (1, .ref (g.2.2 0)), (2, .ref (g.2.2 197)), (3, .ref (g.2.2 220)), (4, zi i)] [] h := by
  unfold C_LW_law_1491 at hv
  have rN : zr (N : Int) := by omega
  have hce : cells ≤ 601024 := by omega
  have hsl : slots ≤ 7293034 := by omega
  have X := zXl (e := e) (below := below) C hce hsl
  refine z_aload_n (pc := 1491) (q := 1) X d_LW_law_1491 rfl ?_
  refine z_aload_n (pc := 1492) (q := 0) X d_LW_law_1492 rfl ?_
  refine z_iload (pc := 1493) (q := 4) X d_LW_law_1493 rfl ?_
  refine z_iconst (pc := 1495) X d_LW_law_1495 ?_
  obtain ⟨v_1, hv⟩ := hv
  refine z_iadd (pc := 1496) X d_LW_law_1496 ?_
  obtain ⟨v_2, hv⟩ := hv
  refine z_sld (pc := 1497) C v_1 v_2 d_LW_law_1497 ?_
  refine z_aload_n (pc := 1498) (q := 0) X d_LW_law_1498 rfl ?_
  refine z_iload (pc := 1499) (q := 4) X d_LW_law_1499 rfl ?_
  refine z_iconst (pc := 1501) X d_LW_law_1501 ?_
  obtain ⟨v_3, hv⟩ := hv
  refine z_iadd (pc := 1502) X d_LW_law_1502 ?_
  obtain ⟨v_4, hv⟩ := hv
  refine z_sld (pc := 1503) C v_3 v_4 d_LW_law_1503 ?_
  refine z_aload_n (pc := 1504) (q := 3) X d_LW_law_1504 rfl ?_
  refine z_callH (k := 4) (pc := 1505) (As := [.ref (g.2.2 0), zi ((xs (i + 1).toNat).toInt), zi ((xs (i + 2).toNat).toInt), .ref (g.2.2 220)]) (rest := []) C (by omega) (by omega) (fun l hl => c_LW_bestModel hl oX (zr_int _) (zr_int _) oO hh hv) q895 q0 q896w (by decide +kernel) q894 ⟨⟨by decide, by decide⟩, rfl, rfl⟩ rfl d_LW_law_1505 rfl (Nat.le_of_ble_eq_true rfl) (fun r_6 h_5 rr_6 zh_5 hv => ?_)
  have hce1 : cells + 1 ≤ 601024 := by omega
  have hsl1 : slots + 6 ≤ 7293034 := by omega
  have X := zXl (e := e) (below := below) C hce1 hsl1
  refine z_istore (pc := 1508) (lv' := [(5, zi r_6), (0, .ref b), (1, .ref (g.2.2 0)), (2, .ref (g.2.2 197)), (3, .ref (g.2.2 220)), (4, zi i)]) X d_LW_law_1508 (by decide) rfl ?_
  refine z_aload_n (pc := 1510) (q := 3) X d_LW_law_1510 rfl ?_
  refine z_aload_n (pc := 1511) (q := 1) X d_LW_law_1511 rfl ?_
  refine z_iload (pc := 1512) (q := 5) X d_LW_law_1512 rfl ?_
  refine z_iconst (pc := 1514) X d_LW_law_1514 ?_
  obtain ⟨v_7, hv⟩ := hv
  refine z_iadd (pc := 1515) X d_LW_law_1515 ?_
  obtain ⟨v_8, hv⟩ := hv
  refine z_sld (pc := 1516) C v_7 v_8 d_LW_law_1516 ?_
  refine z_aload_n (pc := 1517) (q := 1) X d_LW_law_1517 rfl ?_
  refine z_iload (pc := 1518) (q := 5) X d_LW_law_1518 rfl ?_
  refine z_iconst (pc := 1520) X d_LW_law_1520 ?_
  obtain ⟨v_9, hv⟩ := hv
  refine z_iadd (pc := 1521) X d_LW_law_1521 ?_
  obtain ⟨v_10, hv⟩ := hv
  refine z_sld (pc := 1522) C v_9 v_10 d_LW_law_1522 ?_
  refine z_callVi (pc := 1523) (As := [zi ((xs (i + 1).toNat).toInt), zi ((xs (i + 2).toNat).toInt)]) (rest := []) X (fun l hl => c_RM_bestModel hl oM (zr_int _) (zr_int _) zh_5 hv) cf_RM oM rfl mf_RM_bestModel q1351 ⟨⟨by decide, by decide⟩, rfl, rfl⟩ rfl d_LW_law_1523 rfl (Nat.le_of_ble_eq_true rfl) (fun r_12 h_11 rr_12 zh_11 hv => ?_)
  refine z_istore (pc := 1526) (lv' := [(6, zi r_12), (5, zi r_6), (0, .ref b), (1, .ref (g.2.2 0)), (2, .ref (g.2.2 197)), (3, .ref (g.2.2 220)), (4, zi i)]) X d_LW_law_1526 (by decide) rfl ?_
  refine z_aload_n (pc := 1528) (q := 4) X d_LW_law_1528 rfl ?_
  refine z_callVi (pc := 1529) (As := []) (rest := []) X (fun l hl => c_RM_thrown hl oM zh_11 hv) cf_RM oM rfl mf_RM_thrown q1118 ⟨⟨by decide, by decide⟩, rfl, rfl⟩ rfl d_LW_law_1529 rfl (Nat.le_of_ble_eq_true rfl) (fun r_14 h_13 rr_14 zh_13 hv => ?_)
  refine z_iload (pc := 1532) (q := 1) X d_LW_law_1532 rfl ?_
  refine z_icmp_eq (pc := 1534) (tgt := 1539) X rr_14 rr_6 d_LW_law_1534 (by decide) (fun hc => ?_) (fun hc => ?_)
  · replace hv := hv.1 hc
    refine z_iload (pc := 1539) (q := 1) X d_LW_law_1539 rfl ?_
    refine z_if_ne (pc := 1541) (tgt := 1556) X rr_6 d_LW_law_1541 (by decide) (fun hc => ?_) (fun hc => ?_)
    · replace hv := hv.1 hc
      refine z_goto (pc := 1556) (tgt := 1964) X d_LW_law_1556 (by decide) ?_
      obtain ⟨v_15, hv⟩ := hv
      refine z_iinc (pc := 1964) (q := 6) (lv' := [(4, zi (i + 4)), (6, zi r_12), (5, zi r_6), (0, .ref b), (1, .ref (g.2.2 0)), (2, .ref (g.2.2 197)), (3, .ref (g.2.2 220))]) X d_LW_law_1964 rfl (by decide) rfl ?_
      refine z_goto (pc := 1967) (tgt := 23) X d_LW_law_1967 (by decide) ?_
      refine z_perm [3, 4, 5, 6, 0] rfl ?_
      exact hL (i + 4, h_13) hv (cells + 1) (slots + 6) (show (0 : Int) ≤ i + 4 by omega) (show i + 4 ≤ (2052 : Int) by omega) (show cells + 1 ≤ 1000 + (i + 4).toNat by omega) (show slots + 6 ≤ 20000 + 6 * (i + 4).toNat by omega) v_15 zh_13
    · replace hv := hv.2 hc
      refine z_aload_n (pc := 1544) (q := 5) X d_LW_law_1544 rfl ?_
      refine z_iconst (pc := 1545) X d_LW_law_1545 ?_
      refine z_laldj (pc := 1546) (j := 0) X oO rfl_ln (show zr 0 from by decide) ⟨by decide, by decide⟩ rfl d_LW_law_1546 ?_
      refine z_iload (pc := 1547) (q := 0) X d_LW_law_1547 rfl ?_
      refine z_i2l (pc := 1549) X rr_12 d_LW_law_1549 ?_
      refine z_lif_eq (pc := 1550) (tgt := 1556) X (zh_13.2 _) (zr_l rr_12) d_LW_law_1550 d_LW_law_1551 (by decide) (fun hc => ?_) (fun hc => ?_)
      · replace hv := hv.1 hc
        refine z_goto (pc := 1556) (tgt := 1964) X d_LW_law_1556 (by decide) ?_
        obtain ⟨v_16, hv⟩ := hv
        refine z_iinc (pc := 1964) (q := 6) (lv' := [(4, zi (i + 4)), (6, zi r_12), (5, zi r_6), (0, .ref b), (1, .ref (g.2.2 0)), (2, .ref (g.2.2 197)), (3, .ref (g.2.2 220))]) X d_LW_law_1964 rfl (by decide) rfl ?_
        refine z_goto (pc := 1967) (tgt := 23) X d_LW_law_1967 (by decide) ?_
        refine z_perm [3, 4, 5, 6, 0] rfl ?_
        exact hL (i + 4, h_13) hv (cells + 1) (slots + 6) (show (0 : Int) ≤ i + 4 by omega) (show i + 4 ≤ (2052 : Int) by omega) (show cells + 1 ≤ 1000 + (i + 4).toNat by omega) (show slots + 6 ≤ 20000 + 6 * (i + 4).toNat by omega) v_16 zh_13
      · replace hv := hv.2 hc
        refine z_iconst (pc := 1554) X d_LW_law_1554 ?_
        exact hv.elim
  · replace hv := hv.2 hc
    refine z_iconst (pc := 1537) X d_LW_law_1537 ?_
    exact hv.elim
def C_LW_law_1559 (N : Nat) (xs : Nat → Int32) (L : Int × zH → Prop) (i : Int) (h : zH) : Prop :=
  M_AS_difference 0 h (fun r_2 h_1 => M_RM_difference 197 h_1 (fun r_4 h_3 => (r_2 = r_4 → (zr (i + 4) ∧ (L (i + 4, h_3)))) ∧ (r_2 ≠ r_4 → (False))))
set_option maxHeartbeats 4000000 in
set_option maxRecDepth 100000 in
theorem sc_LW_law_1559 {p : Program} {l : Launch} {e : Env} {s : State} {m : MethodId} {below : List Frame} {meth : Method} {c : Code} {b N : Nat} {xs : Nat → Int32} {g : zG} (C : zLC p l s m meth c b N xs g) (hN : N ≤ 2048) (oX : zO 221 0 10) (oM : zO 221 197 11) (oO : zO 221 220 16) (rfl_ln : zln 220 = 1) {L : Int × zH → Prop} (hL : ∀ q : Int × zH, L q → ∀ cells slots : Nat, 0 ≤ q.1 → q.1 ≤ 2052 → cells ≤ 1000 + q.1.toNat → slots ≤ 20000 + 6 * q.1.toNat → zr q.1 → zh q.2 → zW (zWl p l e s m below meth c b cells slots) m 8 g 221 s.heap 23 [(0, .ref b), (1, .ref (g.2.2 0)), (2, .ref (g.2.2 197)), (3, .ref (g.2.2 220)), (4, zi q.1)] [] q.2) {i : Int} {h : zH} {cells slots : Nat} (hi0 : 0 ≤ i) (hi4 : i ≤ (N : Int) - 4) (hcb : cells ≤ 1000 + i.toNat) (hsb : slots ≤ 20000 + 6 * i.toNat) (ri : zr i) (hh : zh h) (hv : C_LW_law_1559 N xs L i h) : zW (zWl p l e s m below meth c b cells slots) m 8 g 221 s.heap 1559 [(0, .ref b), (1, .ref (g.2.2 0)), (2, .ref (g.2.2 197)), (3, .ref (g.2.2 220)), (4, zi i)] [] h := by
  unfold C_LW_law_1559 at hv
  have rN : zr (N : Int) := by omega
  have hce : cells ≤ 601024 := by omega
  have hsl : slots ≤ 7293034 := by omega
  have X := zXl (e := e) (below := below) C hce hsl
  refine z_aload_n (pc := 1559) (q := 1) X d_LW_law_1559 rfl ?_
  refine z_callVi (pc := 1560) (As := []) (rest := []) X (fun l hl => c_AS_difference hl oX hh hv) cf_AS oX rfl mf_AS_difference q475 ⟨⟨by decide, by decide⟩, rfl, rfl⟩ rfl d_LW_law_1560 rfl (Nat.le_of_ble_eq_true rfl) (fun r_2 h_1 rr_2 zh_1 hv => ?_)
  refine z_aload_n (pc := 1563) (q := 2) X d_LW_law_1563 rfl ?_
  refine z_callVi (pc := 1564) (As := []) (rest := [zi r_2]) X (fun l hl => c_RM_difference hl oM zh_1 hv) cf_RM oM rfl mf_RM_difference q1355 ⟨⟨by decide, by decide⟩, rfl, rfl⟩ rfl d_LW_law_1564 rfl (Nat.le_of_ble_eq_true rfl) (fun r_4 h_3 rr_4 zh_3 hv => ?_)
  refine z_icmp_eq (pc := 1567) (tgt := 1964) X rr_2 rr_4 d_LW_law_1567 (by decide) (fun hc => ?_) (fun hc => ?_)
  · replace hv := hv.1 hc
    obtain ⟨v_5, hv⟩ := hv
    refine z_iinc (pc := 1964) (q := 4) (lv' := [(4, zi (i + 4)), (0, .ref b), (1, .ref (g.2.2 0)), (2, .ref (g.2.2 197)), (3, .ref (g.2.2 220))]) X d_LW_law_1964 rfl (by decide) rfl ?_
    refine z_goto (pc := 1967) (tgt := 23) X d_LW_law_1967 (by decide) ?_
    refine z_perm [1, 2, 3, 4, 0] rfl ?_
    exact hL (i + 4, h_3) hv cells slots (show (0 : Int) ≤ i + 4 by omega) (show i + 4 ≤ (2052 : Int) by omega) (show cells ≤ 1000 + (i + 4).toNat by omega) (show slots ≤ 20000 + 6 * (i + 4).toNat by omega) v_5 zh_3
  · replace hv := hv.2 hc
    refine z_iconst (pc := 1570) X d_LW_law_1570 ?_
    exact hv.elim
def C_LW_law_1572 (N : Nat) (xs : Nat → Int32) (L : Int × zH → Prop) (i : Int) (h : zH) : Prop :=
  zr (i + 1) ∧ ((0 ≤ i + 1 ∧ i + 1 < (N : Int)) ∧ (zr (i + 2) ∧ ((0 ≤ i + 2 ∧ i + 2 < (N : Int)) ∧ (zr (i + 3) ∧ ((0 ≤ i + 3 ∧ i + 3 < (N : Int)) ∧ (M_LW_effect 0 ((xs (i + 1).toNat).toInt) ((xs (i + 2).toNat).toInt) ((xs (i + 3).toNat).toInt) 220 h (fun r_8 h_7 => zr (i + 1) ∧ ((0 ≤ i + 1 ∧ i + 1 < (N : Int)) ∧ (zr (i + 2) ∧ ((0 ≤ i + 2 ∧ i + 2 < (N : Int)) ∧ (zr (i + 3) ∧ ((0 ≤ i + 3 ∧ i + 3 < (N : Int)) ∧ (M_RM_effect 197 ((xs (i + 1).toNat).toInt) ((xs (i + 2).toNat).toInt) ((xs (i + 3).toNat).toInt) h_7 (fun r_16 h_15 => M_RM_thrown 197 h_15 (fun r_18 h_17 => (r_18 = r_8 → ((r_8 ≠ 0 → (zr (i + 4) ∧ (L (i + 4, h_17)))) ∧ (r_8 = 0 → ((h_17 220 0 = r_16 → (zr (i + 4) ∧ (L (i + 4, h_17)))) ∧ (h_17 220 0 ≠ r_16 → (False)))))) ∧ (r_18 ≠ r_8 → (False)))))))))))))))))
set_option maxHeartbeats 4000000 in
set_option maxRecDepth 100000 in
theorem sc_LW_law_1572 {p : Program} {l : Launch} {e : Env} {s : State} {m : MethodId} {below : List Frame} {meth : Method} {c : Code} {b N : Nat} {xs : Nat → Int32} {g : zG} (C : zLC p l s m meth c b N xs g) (hN : N ≤ 2048) (oX : zO 221 0 10) (oM : zO 221 197 11) (oO : zO 221 220 16) (rfl_ln : zln 220 = 1) {L : Int × zH → Prop} (hL : ∀ q : Int × zH, L q → ∀ cells slots : Nat, 0 ≤ q.1 → q.1 ≤ 2052 → cells ≤ 1000 + q.1.toNat → slots ≤ 20000 + 6 * q.1.toNat → zr q.1 → zh q.2 → zW (zWl p l e s m below meth c b cells slots) m 8 g 221 s.heap 23 [(0, .ref b), (1, .ref (g.2.2 0)), (2, .ref (g.2.2 197)), (3, .ref (g.2.2 220)), (4, zi q.1)] [] q.2) {i : Int} {h : zH} {cells slots : Nat} (hi0 : 0 ≤ i) (hi4 : i ≤ (N : Int) - 4) (hcb : cells ≤ 1000 + i.toNat) (hsb : slots ≤ 20000 + 6 * i.toNat) (ri : zr i) (hh : zh h) (hv : C_LW_law_1572 N xs L i h) : zW (zWl p l e s m below meth c b cells slots) m 8 g 221 s.heap 1572 [(0, .ref b), (1, .ref (g.2.2 0)), (2, .ref (g.2.2 197)), (3, .ref (g.2.2 220)), (4, zi i)] [] h := by
  unfold C_LW_law_1572 at hv
  have rN : zr (N : Int) := by omega
  have hce : cells ≤ 601024 := by omega
  have hsl : slots ≤ 7293034 := by omega
  have X := zXl (e := e) (below := below) C hce hsl
  refine z_aload_n (pc := 1572) (q := 1) X d_LW_law_1572 rfl ?_
  refine z_aload_n (pc := 1573) (q := 0) X d_LW_law_1573 rfl ?_
  refine z_iload (pc := 1574) (q := 4) X d_LW_law_1574 rfl ?_
  refine z_iconst (pc := 1576) X d_LW_law_1576 ?_
  obtain ⟨v_1, hv⟩ := hv
  refine z_iadd (pc := 1577) X d_LW_law_1577 ?_
  obtain ⟨v_2, hv⟩ := hv
  refine z_sld (pc := 1578) C v_1 v_2 d_LW_law_1578 ?_
  refine z_aload_n (pc := 1579) (q := 0) X d_LW_law_1579 rfl ?_
  refine z_iload (pc := 1580) (q := 4) X d_LW_law_1580 rfl ?_
  refine z_iconst (pc := 1582) X d_LW_law_1582 ?_
  obtain ⟨v_3, hv⟩ := hv
  refine z_iadd (pc := 1583) X d_LW_law_1583 ?_
  obtain ⟨v_4, hv⟩ := hv
  refine z_sld (pc := 1584) C v_3 v_4 d_LW_law_1584 ?_
  refine z_aload_n (pc := 1585) (q := 0) X d_LW_law_1585 rfl ?_
  refine z_iload (pc := 1586) (q := 4) X d_LW_law_1586 rfl ?_
  refine z_iconst (pc := 1588) X d_LW_law_1588 ?_
  obtain ⟨v_5, hv⟩ := hv
  refine z_iadd (pc := 1589) X d_LW_law_1589 ?_
  obtain ⟨v_6, hv⟩ := hv
  refine z_sld (pc := 1590) C v_5 v_6 d_LW_law_1590 ?_
  refine z_aload_n (pc := 1591) (q := 3) X d_LW_law_1591 rfl ?_
  refine z_callH (k := 5) (pc := 1592) (As := [.ref (g.2.2 0), zi ((xs (i + 1).toNat).toInt), zi ((xs (i + 2).toNat).toInt), zi ((xs (i + 3).toNat).toInt), .ref (g.2.2 220)]) (rest := []) C (by omega) (by omega) (fun l hl => c_LW_effect hl oX (zr_int _) (zr_int _) (zr_int _) oO hh hv) q903 q0 q904w (by decide +kernel) q902 ⟨⟨by decide, by decide⟩, rfl, rfl⟩ rfl d_LW_law_1592 rfl (Nat.le_of_ble_eq_true rfl) (fun r_8 h_7 rr_8 zh_7 hv => ?_)
  have hce1 : cells + 1 ≤ 601024 := by omega
  have hsl1 : slots + 6 ≤ 7293034 := by omega
  have X := zXl (e := e) (below := below) C hce1 hsl1
  refine z_istore (pc := 1595) (lv' := [(5, zi r_8), (0, .ref b), (1, .ref (g.2.2 0)), (2, .ref (g.2.2 197)), (3, .ref (g.2.2 220)), (4, zi i)]) X d_LW_law_1595 (by decide) rfl ?_
  refine z_aload_n (pc := 1597) (q := 3) X d_LW_law_1597 rfl ?_
  refine z_aload_n (pc := 1598) (q := 1) X d_LW_law_1598 rfl ?_
  refine z_iload (pc := 1599) (q := 5) X d_LW_law_1599 rfl ?_
  refine z_iconst (pc := 1601) X d_LW_law_1601 ?_
  obtain ⟨v_9, hv⟩ := hv
  refine z_iadd (pc := 1602) X d_LW_law_1602 ?_
  obtain ⟨v_10, hv⟩ := hv
  refine z_sld (pc := 1603) C v_9 v_10 d_LW_law_1603 ?_
  refine z_aload_n (pc := 1604) (q := 1) X d_LW_law_1604 rfl ?_
  refine z_iload (pc := 1605) (q := 5) X d_LW_law_1605 rfl ?_
  refine z_iconst (pc := 1607) X d_LW_law_1607 ?_
  obtain ⟨v_11, hv⟩ := hv
  refine z_iadd (pc := 1608) X d_LW_law_1608 ?_
  obtain ⟨v_12, hv⟩ := hv
  refine z_sld (pc := 1609) C v_11 v_12 d_LW_law_1609 ?_
  refine z_aload_n (pc := 1610) (q := 1) X d_LW_law_1610 rfl ?_
  refine z_iload (pc := 1611) (q := 5) X d_LW_law_1611 rfl ?_
  refine z_iconst (pc := 1613) X d_LW_law_1613 ?_
  obtain ⟨v_13, hv⟩ := hv
  refine z_iadd (pc := 1614) X d_LW_law_1614 ?_
  obtain ⟨v_14, hv⟩ := hv
  refine z_sld (pc := 1615) C v_13 v_14 d_LW_law_1615 ?_
  refine z_callVi (pc := 1616) (As := [zi ((xs (i + 1).toNat).toInt), zi ((xs (i + 2).toNat).toInt), zi ((xs (i + 3).toNat).toInt)]) (rest := []) X (fun l hl => c_RM_effect hl oM (zr_int _) (zr_int _) (zr_int _) zh_7 hv) cf_RM oM rfl mf_RM_effect q1359 ⟨⟨by decide, by decide⟩, rfl, rfl⟩ rfl d_LW_law_1616 rfl (Nat.le_of_ble_eq_true rfl) (fun r_16 h_15 rr_16 zh_15 hv => ?_)
  refine z_istore (pc := 1619) (lv' := [(6, zi r_16), (5, zi r_8), (0, .ref b), (1, .ref (g.2.2 0)), (2, .ref (g.2.2 197)), (3, .ref (g.2.2 220)), (4, zi i)]) X d_LW_law_1619 (by decide) rfl ?_
  refine z_aload_n (pc := 1621) (q := 4) X d_LW_law_1621 rfl ?_
  refine z_callVi (pc := 1622) (As := []) (rest := []) X (fun l hl => c_RM_thrown hl oM zh_15 hv) cf_RM oM rfl mf_RM_thrown q1118 ⟨⟨by decide, by decide⟩, rfl, rfl⟩ rfl d_LW_law_1622 rfl (Nat.le_of_ble_eq_true rfl) (fun r_18 h_17 rr_18 zh_17 hv => ?_)
  refine z_iload (pc := 1625) (q := 1) X d_LW_law_1625 rfl ?_
  refine z_icmp_eq (pc := 1627) (tgt := 1632) X rr_18 rr_8 d_LW_law_1627 (by decide) (fun hc => ?_) (fun hc => ?_)
  · replace hv := hv.1 hc
    refine z_iload (pc := 1632) (q := 1) X d_LW_law_1632 rfl ?_
    refine z_if_ne (pc := 1634) (tgt := 1649) X rr_8 d_LW_law_1634 (by decide) (fun hc => ?_) (fun hc => ?_)
    · replace hv := hv.1 hc
      refine z_goto (pc := 1649) (tgt := 1964) X d_LW_law_1649 (by decide) ?_
      obtain ⟨v_19, hv⟩ := hv
      refine z_iinc (pc := 1964) (q := 6) (lv' := [(4, zi (i + 4)), (6, zi r_16), (5, zi r_8), (0, .ref b), (1, .ref (g.2.2 0)), (2, .ref (g.2.2 197)), (3, .ref (g.2.2 220))]) X d_LW_law_1964 rfl (by decide) rfl ?_
      refine z_goto (pc := 1967) (tgt := 23) X d_LW_law_1967 (by decide) ?_
      refine z_perm [3, 4, 5, 6, 0] rfl ?_
      exact hL (i + 4, h_17) hv (cells + 1) (slots + 6) (show (0 : Int) ≤ i + 4 by omega) (show i + 4 ≤ (2052 : Int) by omega) (show cells + 1 ≤ 1000 + (i + 4).toNat by omega) (show slots + 6 ≤ 20000 + 6 * (i + 4).toNat by omega) v_19 zh_17
    · replace hv := hv.2 hc
      refine z_aload_n (pc := 1637) (q := 5) X d_LW_law_1637 rfl ?_
      refine z_iconst (pc := 1638) X d_LW_law_1638 ?_
      refine z_laldj (pc := 1639) (j := 0) X oO rfl_ln (show zr 0 from by decide) ⟨by decide, by decide⟩ rfl d_LW_law_1639 ?_
      refine z_iload (pc := 1640) (q := 0) X d_LW_law_1640 rfl ?_
      refine z_i2l (pc := 1642) X rr_16 d_LW_law_1642 ?_
      refine z_lif_eq (pc := 1643) (tgt := 1649) X (zh_17.2 _) (zr_l rr_16) d_LW_law_1643 d_LW_law_1644 (by decide) (fun hc => ?_) (fun hc => ?_)
      · replace hv := hv.1 hc
        refine z_goto (pc := 1649) (tgt := 1964) X d_LW_law_1649 (by decide) ?_
        obtain ⟨v_20, hv⟩ := hv
        refine z_iinc (pc := 1964) (q := 6) (lv' := [(4, zi (i + 4)), (6, zi r_16), (5, zi r_8), (0, .ref b), (1, .ref (g.2.2 0)), (2, .ref (g.2.2 197)), (3, .ref (g.2.2 220))]) X d_LW_law_1964 rfl (by decide) rfl ?_
        refine z_goto (pc := 1967) (tgt := 23) X d_LW_law_1967 (by decide) ?_
        refine z_perm [3, 4, 5, 6, 0] rfl ?_
        exact hL (i + 4, h_17) hv (cells + 1) (slots + 6) (show (0 : Int) ≤ i + 4 by omega) (show i + 4 ≤ (2052 : Int) by omega) (show cells + 1 ≤ 1000 + (i + 4).toNat by omega) (show slots + 6 ≤ 20000 + 6 * (i + 4).toNat by omega) v_20 zh_17
      · replace hv := hv.2 hc
        refine z_iconst (pc := 1647) X d_LW_law_1647 ?_
        exact hv.elim
  · replace hv := hv.2 hc
    refine z_iconst (pc := 1630) X d_LW_law_1630 ?_
    exact hv.elim
def C_LW_law_1652 (N : Nat) (xs : Nat → Int32) (L : Int × zH → Prop) (i : Int) (h : zH) : Prop :=
  zr (i + 1) ∧ ((0 ≤ i + 1 ∧ i + 1 < (N : Int)) ∧ (zr (i + 2) ∧ ((0 ≤ i + 2 ∧ i + 2 < (N : Int)) ∧ (zr (i + 3) ∧ ((0 ≤ i + 3 ∧ i + 3 < (N : Int)) ∧ (M_LW_runScript 0 ((xs (i + 1).toNat).toInt) (zorl (zshl ((xs (i + 2).toNat).toInt) 32) (zandl ((xs (i + 3).toNat).toInt) 4294967295)) 220 h (fun r_8 h_7 => zr (i + 1) ∧ ((0 ≤ i + 1 ∧ i + 1 < (N : Int)) ∧ (zr (i + 2) ∧ ((0 ≤ i + 2 ∧ i + 2 < (N : Int)) ∧ (zr (i + 3) ∧ ((0 ≤ i + 3 ∧ i + 3 < (N : Int)) ∧ (M_RM_runScript 197 ((xs (i + 1).toNat).toInt) (zorl (zshl ((xs (i + 2).toNat).toInt) 32) (zandl ((xs (i + 3).toNat).toInt) 4294967295)) h_7 (fun r_16 h_15 => M_RM_thrown 197 h_15 (fun r_18 h_17 => (r_18 = r_8 → ((r_8 ≠ 0 → (zr (i + 4) ∧ (L (i + 4, h_17)))) ∧ (r_8 = 0 → ((h_17 220 0 = r_16 → (zr (i + 4) ∧ (L (i + 4, h_17)))) ∧ (h_17 220 0 ≠ r_16 → (False)))))) ∧ (r_18 ≠ r_8 → (False)))))))))))))))))
set_option maxHeartbeats 4000000 in
set_option maxRecDepth 100000 in
theorem sc_LW_law_1652 {p : Program} {l : Launch} {e : Env} {s : State} {m : MethodId} {below : List Frame} {meth : Method} {c : Code} {b N : Nat} {xs : Nat → Int32} {g : zG} (C : zLC p l s m meth c b N xs g) (hN : N ≤ 2048) (oX : zO 221 0 10) (oM : zO 221 197 11) (oO : zO 221 220 16) (rfl_ln : zln 220 = 1) {L : Int × zH → Prop} (hL : ∀ q : Int × zH, L q → ∀ cells slots : Nat, 0 ≤ q.1 → q.1 ≤ 2052 → cells ≤ 1000 + q.1.toNat → slots ≤ 20000 + 6 * q.1.toNat → zr q.1 → zh q.2 → zW (zWl p l e s m below meth c b cells slots) m 8 g 221 s.heap 23 [(0, .ref b), (1, .ref (g.2.2 0)), (2, .ref (g.2.2 197)), (3, .ref (g.2.2 220)), (4, zi q.1)] [] q.2) {i : Int} {h : zH} {cells slots : Nat} (hi0 : 0 ≤ i) (hi4 : i ≤ (N : Int) - 4) (hcb : cells ≤ 1000 + i.toNat) (hsb : slots ≤ 20000 + 6 * i.toNat) (ri : zr i) (hh : zh h) (hv : C_LW_law_1652 N xs L i h) : zW (zWl p l e s m below meth c b cells slots) m 8 g 221 s.heap 1652 [(0, .ref b), (1, .ref (g.2.2 0)), (2, .ref (g.2.2 197)), (3, .ref (g.2.2 220)), (4, zi i)] [] h := by
  unfold C_LW_law_1652 at hv
  have rN : zr (N : Int) := by omega
  have hce : cells ≤ 601024 := by omega
  have hsl : slots ≤ 7293034 := by omega
  have X := zXl (e := e) (below := below) C hce hsl
  refine z_aload_n (pc := 1652) (q := 1) X d_LW_law_1652 rfl ?_
  refine z_aload_n (pc := 1653) (q := 0) X d_LW_law_1653 rfl ?_
  refine z_iload (pc := 1654) (q := 4) X d_LW_law_1654 rfl ?_
  refine z_iconst (pc := 1656) X d_LW_law_1656 ?_
  obtain ⟨v_1, hv⟩ := hv
  refine z_iadd (pc := 1657) X d_LW_law_1657 ?_
  obtain ⟨v_2, hv⟩ := hv
  refine z_sld (pc := 1658) C v_1 v_2 d_LW_law_1658 ?_
  refine z_aload_n (pc := 1659) (q := 0) X d_LW_law_1659 rfl ?_
  refine z_iload (pc := 1660) (q := 4) X d_LW_law_1660 rfl ?_
  refine z_iconst (pc := 1662) X d_LW_law_1662 ?_
  obtain ⟨v_3, hv⟩ := hv
  refine z_iadd (pc := 1663) X d_LW_law_1663 ?_
  obtain ⟨v_4, hv⟩ := hv
  refine z_sld (pc := 1664) C v_3 v_4 d_LW_law_1664 ?_
  refine z_i2l (pc := 1665) X (zr_int _) d_LW_law_1665 ?_
  refine z_bipush (pc := 1666) X d_LW_law_1666 (by decide) ?_
  refine z_lshl (pc := 1668) X d_LW_law_1668 ?_
  refine z_aload_n (pc := 1669) (q := 0) X d_LW_law_1669 rfl ?_
  refine z_iload (pc := 1670) (q := 4) X d_LW_law_1670 rfl ?_
  refine z_iconst (pc := 1672) X d_LW_law_1672 ?_
  obtain ⟨v_5, hv⟩ := hv
  refine z_iadd (pc := 1673) X d_LW_law_1673 ?_
  obtain ⟨v_6, hv⟩ := hv
  refine z_sld (pc := 1674) C v_5 v_6 d_LW_law_1674 ?_
  refine z_i2l (pc := 1675) X (zr_int _) d_LW_law_1675 ?_
  refine z_ldc2 (pc := 1676) (x := 4294967295) X d_LW_law_1676 q1392 (by decide) ?_
  refine z_land (pc := 1679) X d_LW_law_1679 ?_
  refine z_lor (pc := 1680) X d_LW_law_1680 ?_
  refine z_aload_n (pc := 1681) (q := 3) X d_LW_law_1681 rfl ?_
  refine z_callH (k := 4) (pc := 1682) (As := [.ref (g.2.2 0), zi ((xs (i + 1).toNat).toInt), zj (zorl (zshl ((xs (i + 2).toNat).toInt) 32) (zandl ((xs (i + 3).toNat).toInt) 4294967295)), .ref (g.2.2 220)]) (rest := []) C (by omega) (by omega) (fun l hl => c_LW_runScript hl oX (zr_int _) (zrl_int _) oO hh hv) q916 q0 q917w (by decide +kernel) q915 ⟨⟨by decide, by decide⟩, rfl, rfl⟩ rfl d_LW_law_1682 rfl (Nat.le_of_ble_eq_true rfl) (fun r_8 h_7 rr_8 zh_7 hv => ?_)
  have hce1 : cells + 1 ≤ 601024 := by omega
  have hsl1 : slots + 6 ≤ 7293034 := by omega
  have X := zXl (e := e) (below := below) C hce1 hsl1
  refine z_istore (pc := 1685) (lv' := [(5, zi r_8), (0, .ref b), (1, .ref (g.2.2 0)), (2, .ref (g.2.2 197)), (3, .ref (g.2.2 220)), (4, zi i)]) X d_LW_law_1685 (by decide) rfl ?_
  refine z_aload_n (pc := 1687) (q := 3) X d_LW_law_1687 rfl ?_
  refine z_aload_n (pc := 1688) (q := 1) X d_LW_law_1688 rfl ?_
  refine z_iload (pc := 1689) (q := 5) X d_LW_law_1689 rfl ?_
  refine z_iconst (pc := 1691) X d_LW_law_1691 ?_
  obtain ⟨v_9, hv⟩ := hv
  refine z_iadd (pc := 1692) X d_LW_law_1692 ?_
  obtain ⟨v_10, hv⟩ := hv
  refine z_sld (pc := 1693) C v_9 v_10 d_LW_law_1693 ?_
  refine z_aload_n (pc := 1694) (q := 1) X d_LW_law_1694 rfl ?_
  refine z_iload (pc := 1695) (q := 5) X d_LW_law_1695 rfl ?_
  refine z_iconst (pc := 1697) X d_LW_law_1697 ?_
  obtain ⟨v_11, hv⟩ := hv
  refine z_iadd (pc := 1698) X d_LW_law_1698 ?_
  obtain ⟨v_12, hv⟩ := hv
  refine z_sld (pc := 1699) C v_11 v_12 d_LW_law_1699 ?_
  refine z_i2l (pc := 1700) X (zr_int _) d_LW_law_1700 ?_
  refine z_bipush (pc := 1701) X d_LW_law_1701 (by decide) ?_
  refine z_lshl (pc := 1703) X d_LW_law_1703 ?_
  refine z_aload_n (pc := 1704) (q := 1) X d_LW_law_1704 rfl ?_
  refine z_iload (pc := 1705) (q := 5) X d_LW_law_1705 rfl ?_
  refine z_iconst (pc := 1707) X d_LW_law_1707 ?_
  obtain ⟨v_13, hv⟩ := hv
  refine z_iadd (pc := 1708) X d_LW_law_1708 ?_
  obtain ⟨v_14, hv⟩ := hv
  refine z_sld (pc := 1709) C v_13 v_14 d_LW_law_1709 ?_
  refine z_i2l (pc := 1710) X (zr_int _) d_LW_law_1710 ?_
  refine z_ldc2 (pc := 1711) (x := 4294967295) X d_LW_law_1711 q1392 (by decide) ?_
  refine z_land (pc := 1714) X d_LW_law_1714 ?_
  refine z_lor (pc := 1715) X d_LW_law_1715 ?_
  refine z_callVi (pc := 1716) (As := [zi ((xs (i + 1).toNat).toInt), zj (zorl (zshl ((xs (i + 2).toNat).toInt) 32) (zandl ((xs (i + 3).toNat).toInt) 4294967295))]) (rest := []) X (fun l hl => c_RM_runScript hl oM (zr_int _) (zrl_int _) zh_7 hv) cf_RM oM rfl mf_RM_runScript q1363 ⟨⟨by decide, by decide⟩, rfl, rfl⟩ rfl d_LW_law_1716 rfl (Nat.le_of_ble_eq_true rfl) (fun r_16 h_15 rr_16 zh_15 hv => ?_)
  refine z_istore (pc := 1719) (lv' := [(6, zi r_16), (5, zi r_8), (0, .ref b), (1, .ref (g.2.2 0)), (2, .ref (g.2.2 197)), (3, .ref (g.2.2 220)), (4, zi i)]) X d_LW_law_1719 (by decide) rfl ?_
  refine z_aload_n (pc := 1721) (q := 4) X d_LW_law_1721 rfl ?_
  refine z_callVi (pc := 1722) (As := []) (rest := []) X (fun l hl => c_RM_thrown hl oM zh_15 hv) cf_RM oM rfl mf_RM_thrown q1118 ⟨⟨by decide, by decide⟩, rfl, rfl⟩ rfl d_LW_law_1722 rfl (Nat.le_of_ble_eq_true rfl) (fun r_18 h_17 rr_18 zh_17 hv => ?_)
  refine z_iload (pc := 1725) (q := 1) X d_LW_law_1725 rfl ?_
  refine z_icmp_eq (pc := 1727) (tgt := 1732) X rr_18 rr_8 d_LW_law_1727 (by decide) (fun hc => ?_) (fun hc => ?_)
  · replace hv := hv.1 hc
    refine z_iload (pc := 1732) (q := 1) X d_LW_law_1732 rfl ?_
    refine z_if_ne (pc := 1734) (tgt := 1749) X rr_8 d_LW_law_1734 (by decide) (fun hc => ?_) (fun hc => ?_)
    · replace hv := hv.1 hc
      refine z_goto (pc := 1749) (tgt := 1964) X d_LW_law_1749 (by decide) ?_
      obtain ⟨v_19, hv⟩ := hv
      refine z_iinc (pc := 1964) (q := 6) (lv' := [(4, zi (i + 4)), (6, zi r_16), (5, zi r_8), (0, .ref b), (1, .ref (g.2.2 0)), (2, .ref (g.2.2 197)), (3, .ref (g.2.2 220))]) X d_LW_law_1964 rfl (by decide) rfl ?_
      refine z_goto (pc := 1967) (tgt := 23) X d_LW_law_1967 (by decide) ?_
      refine z_perm [3, 4, 5, 6, 0] rfl ?_
      exact hL (i + 4, h_17) hv (cells + 1) (slots + 6) (show (0 : Int) ≤ i + 4 by omega) (show i + 4 ≤ (2052 : Int) by omega) (show cells + 1 ≤ 1000 + (i + 4).toNat by omega) (show slots + 6 ≤ 20000 + 6 * (i + 4).toNat by omega) v_19 zh_17
    · replace hv := hv.2 hc
      refine z_aload_n (pc := 1737) (q := 5) X d_LW_law_1737 rfl ?_
      refine z_iconst (pc := 1738) X d_LW_law_1738 ?_
      refine z_laldj (pc := 1739) (j := 0) X oO rfl_ln (show zr 0 from by decide) ⟨by decide, by decide⟩ rfl d_LW_law_1739 ?_
      refine z_iload (pc := 1740) (q := 0) X d_LW_law_1740 rfl ?_
      refine z_i2l (pc := 1742) X rr_16 d_LW_law_1742 ?_
      refine z_lif_eq (pc := 1743) (tgt := 1749) X (zh_17.2 _) (zr_l rr_16) d_LW_law_1743 d_LW_law_1744 (by decide) (fun hc => ?_) (fun hc => ?_)
      · replace hv := hv.1 hc
        refine z_goto (pc := 1749) (tgt := 1964) X d_LW_law_1749 (by decide) ?_
        obtain ⟨v_20, hv⟩ := hv
        refine z_iinc (pc := 1964) (q := 6) (lv' := [(4, zi (i + 4)), (6, zi r_16), (5, zi r_8), (0, .ref b), (1, .ref (g.2.2 0)), (2, .ref (g.2.2 197)), (3, .ref (g.2.2 220))]) X d_LW_law_1964 rfl (by decide) rfl ?_
        refine z_goto (pc := 1967) (tgt := 23) X d_LW_law_1967 (by decide) ?_
        refine z_perm [3, 4, 5, 6, 0] rfl ?_
        exact hL (i + 4, h_17) hv (cells + 1) (slots + 6) (show (0 : Int) ≤ i + 4 by omega) (show i + 4 ≤ (2052 : Int) by omega) (show cells + 1 ≤ 1000 + (i + 4).toNat by omega) (show slots + 6 ≤ 20000 + 6 * (i + 4).toNat by omega) v_20 zh_17
      · replace hv := hv.2 hc
        refine z_iconst (pc := 1747) X d_LW_law_1747 ?_
        exact hv.elim
  · replace hv := hv.2 hc
    refine z_iconst (pc := 1730) X d_LW_law_1730 ?_
    exact hv.elim
def C_LW_law_1752 (N : Nat) (xs : Nat → Int32) (L : Int × zH → Prop) (i : Int) (h : zH) : Prop :=
  zr (i + 1) ∧ ((0 ≤ i + 1 ∧ i + 1 < (N : Int)) ∧ (zr (i + 2) ∧ ((0 ≤ i + 2 ∧ i + 2 < (N : Int)) ∧ (zr (i + 3) ∧ ((0 ≤ i + 3 ∧ i + 3 < (N : Int)) ∧ (M_LW_simulate 0 (zorl (zshl ((xs (i + 1).toNat).toInt) 32) (zandl ((xs (i + 2).toNat).toInt) 4294967295)) ((xs (i + 3).toNat).toInt) 220 h (fun r_8 h_7 => zr (i + 1) ∧ ((0 ≤ i + 1 ∧ i + 1 < (N : Int)) ∧ (zr (i + 2) ∧ ((0 ≤ i + 2 ∧ i + 2 < (N : Int)) ∧ (zr (i + 3) ∧ ((0 ≤ i + 3 ∧ i + 3 < (N : Int)) ∧ (M_RM_simulate 197 (zorl (zshl ((xs (i + 1).toNat).toInt) 32) (zandl ((xs (i + 2).toNat).toInt) 4294967295)) ((xs (i + 3).toNat).toInt) h_7 (fun r_16 h_15 => M_RM_thrown 197 h_15 (fun r_18 h_17 => (r_18 = r_8 → ((r_8 ≠ 0 → (zr (i + 4) ∧ (L (i + 4, h_17)))) ∧ (r_8 = 0 → ((h_17 220 0 = r_16 → (zr (i + 4) ∧ (L (i + 4, h_17)))) ∧ (h_17 220 0 ≠ r_16 → (False)))))) ∧ (r_18 ≠ r_8 → (False)))))))))))))))))
set_option maxHeartbeats 4000000 in
set_option maxRecDepth 100000 in
theorem sc_LW_law_1752 {p : Program} {l : Launch} {e : Env} {s : State} {m : MethodId} {below : List Frame} {meth : Method} {c : Code} {b N : Nat} {xs : Nat → Int32} {g : zG} (C : zLC p l s m meth c b N xs g) (hN : N ≤ 2048) (oX : zO 221 0 10) (oM : zO 221 197 11) (oO : zO 221 220 16) (rfl_ln : zln 220 = 1) {L : Int × zH → Prop} (hL : ∀ q : Int × zH, L q → ∀ cells slots : Nat, 0 ≤ q.1 → q.1 ≤ 2052 → cells ≤ 1000 + q.1.toNat → slots ≤ 20000 + 6 * q.1.toNat → zr q.1 → zh q.2 → zW (zWl p l e s m below meth c b cells slots) m 8 g 221 s.heap 23 [(0, .ref b), (1, .ref (g.2.2 0)), (2, .ref (g.2.2 197)), (3, .ref (g.2.2 220)), (4, zi q.1)] [] q.2) {i : Int} {h : zH} {cells slots : Nat} (hi0 : 0 ≤ i) (hi4 : i ≤ (N : Int) - 4) (hcb : cells ≤ 1000 + i.toNat) (hsb : slots ≤ 20000 + 6 * i.toNat) (ri : zr i) (hh : zh h) (hv : C_LW_law_1752 N xs L i h) : zW (zWl p l e s m below meth c b cells slots) m 8 g 221 s.heap 1752 [(0, .ref b), (1, .ref (g.2.2 0)), (2, .ref (g.2.2 197)), (3, .ref (g.2.2 220)), (4, zi i)] [] h := by
  unfold C_LW_law_1752 at hv
  have rN : zr (N : Int) := by omega
  have hce : cells ≤ 601024 := by omega
  have hsl : slots ≤ 7293034 := by omega
  have X := zXl (e := e) (below := below) C hce hsl
  refine z_aload_n (pc := 1752) (q := 1) X d_LW_law_1752 rfl ?_
  refine z_aload_n (pc := 1753) (q := 0) X d_LW_law_1753 rfl ?_
  refine z_iload (pc := 1754) (q := 4) X d_LW_law_1754 rfl ?_
  refine z_iconst (pc := 1756) X d_LW_law_1756 ?_
  obtain ⟨v_1, hv⟩ := hv
  refine z_iadd (pc := 1757) X d_LW_law_1757 ?_
  obtain ⟨v_2, hv⟩ := hv
  refine z_sld (pc := 1758) C v_1 v_2 d_LW_law_1758 ?_
  refine z_i2l (pc := 1759) X (zr_int _) d_LW_law_1759 ?_
  refine z_bipush (pc := 1760) X d_LW_law_1760 (by decide) ?_
  refine z_lshl (pc := 1762) X d_LW_law_1762 ?_
  refine z_aload_n (pc := 1763) (q := 0) X d_LW_law_1763 rfl ?_
  refine z_iload (pc := 1764) (q := 4) X d_LW_law_1764 rfl ?_
  refine z_iconst (pc := 1766) X d_LW_law_1766 ?_
  obtain ⟨v_3, hv⟩ := hv
  refine z_iadd (pc := 1767) X d_LW_law_1767 ?_
  obtain ⟨v_4, hv⟩ := hv
  refine z_sld (pc := 1768) C v_3 v_4 d_LW_law_1768 ?_
  refine z_i2l (pc := 1769) X (zr_int _) d_LW_law_1769 ?_
  refine z_ldc2 (pc := 1770) (x := 4294967295) X d_LW_law_1770 q1392 (by decide) ?_
  refine z_land (pc := 1773) X d_LW_law_1773 ?_
  refine z_lor (pc := 1774) X d_LW_law_1774 ?_
  refine z_aload_n (pc := 1775) (q := 0) X d_LW_law_1775 rfl ?_
  refine z_iload (pc := 1776) (q := 4) X d_LW_law_1776 rfl ?_
  refine z_iconst (pc := 1778) X d_LW_law_1778 ?_
  obtain ⟨v_5, hv⟩ := hv
  refine z_iadd (pc := 1779) X d_LW_law_1779 ?_
  obtain ⟨v_6, hv⟩ := hv
  refine z_sld (pc := 1780) C v_5 v_6 d_LW_law_1780 ?_
  refine z_aload_n (pc := 1781) (q := 3) X d_LW_law_1781 rfl ?_
  refine z_callH (k := 4) (pc := 1782) (As := [.ref (g.2.2 0), zj (zorl (zshl ((xs (i + 1).toNat).toInt) 32) (zandl ((xs (i + 2).toNat).toInt) 4294967295)), zi ((xs (i + 3).toNat).toInt), .ref (g.2.2 220)]) (rest := []) C (by omega) (by omega) (fun l hl => c_LW_simulate hl oX (zrl_int _) (zr_int _) oO hh hv) q981 q0 q982w (by decide +kernel) q980 ⟨⟨by decide, by decide⟩, rfl, rfl⟩ rfl d_LW_law_1782 rfl (Nat.le_of_ble_eq_true rfl) (fun r_8 h_7 rr_8 zh_7 hv => ?_)
  have hce1 : cells + 1 ≤ 601024 := by omega
  have hsl1 : slots + 6 ≤ 7293034 := by omega
  have X := zXl (e := e) (below := below) C hce1 hsl1
  refine z_istore (pc := 1785) (lv' := [(5, zi r_8), (0, .ref b), (1, .ref (g.2.2 0)), (2, .ref (g.2.2 197)), (3, .ref (g.2.2 220)), (4, zi i)]) X d_LW_law_1785 (by decide) rfl ?_
  refine z_aload_n (pc := 1787) (q := 3) X d_LW_law_1787 rfl ?_
  refine z_aload_n (pc := 1788) (q := 1) X d_LW_law_1788 rfl ?_
  refine z_iload (pc := 1789) (q := 5) X d_LW_law_1789 rfl ?_
  refine z_iconst (pc := 1791) X d_LW_law_1791 ?_
  obtain ⟨v_9, hv⟩ := hv
  refine z_iadd (pc := 1792) X d_LW_law_1792 ?_
  obtain ⟨v_10, hv⟩ := hv
  refine z_sld (pc := 1793) C v_9 v_10 d_LW_law_1793 ?_
  refine z_i2l (pc := 1794) X (zr_int _) d_LW_law_1794 ?_
  refine z_bipush (pc := 1795) X d_LW_law_1795 (by decide) ?_
  refine z_lshl (pc := 1797) X d_LW_law_1797 ?_
  refine z_aload_n (pc := 1798) (q := 1) X d_LW_law_1798 rfl ?_
  refine z_iload (pc := 1799) (q := 5) X d_LW_law_1799 rfl ?_
  refine z_iconst (pc := 1801) X d_LW_law_1801 ?_
  obtain ⟨v_11, hv⟩ := hv
  refine z_iadd (pc := 1802) X d_LW_law_1802 ?_
  obtain ⟨v_12, hv⟩ := hv
  refine z_sld (pc := 1803) C v_11 v_12 d_LW_law_1803 ?_
  refine z_i2l (pc := 1804) X (zr_int _) d_LW_law_1804 ?_
  refine z_ldc2 (pc := 1805) (x := 4294967295) X d_LW_law_1805 q1392 (by decide) ?_
  refine z_land (pc := 1808) X d_LW_law_1808 ?_
  refine z_lor (pc := 1809) X d_LW_law_1809 ?_
  refine z_aload_n (pc := 1810) (q := 1) X d_LW_law_1810 rfl ?_
  refine z_iload (pc := 1811) (q := 5) X d_LW_law_1811 rfl ?_
  refine z_iconst (pc := 1813) X d_LW_law_1813 ?_
  obtain ⟨v_13, hv⟩ := hv
  refine z_iadd (pc := 1814) X d_LW_law_1814 ?_
  obtain ⟨v_14, hv⟩ := hv
  refine z_sld (pc := 1815) C v_13 v_14 d_LW_law_1815 ?_
  refine z_callVi (pc := 1816) (As := [zj (zorl (zshl ((xs (i + 1).toNat).toInt) 32) (zandl ((xs (i + 2).toNat).toInt) 4294967295)), zi ((xs (i + 3).toNat).toInt)]) (rest := []) X (fun l hl => c_RM_simulate hl oM (zrl_int _) (zr_int _) zh_7 hv) cf_RM oM rfl mf_RM_simulate q1377 ⟨⟨by decide, by decide⟩, rfl, rfl⟩ rfl d_LW_law_1816 rfl (Nat.le_of_ble_eq_true rfl) (fun r_16 h_15 rr_16 zh_15 hv => ?_)
  refine z_istore (pc := 1819) (lv' := [(6, zi r_16), (5, zi r_8), (0, .ref b), (1, .ref (g.2.2 0)), (2, .ref (g.2.2 197)), (3, .ref (g.2.2 220)), (4, zi i)]) X d_LW_law_1819 (by decide) rfl ?_
  refine z_aload_n (pc := 1821) (q := 4) X d_LW_law_1821 rfl ?_
  refine z_callVi (pc := 1822) (As := []) (rest := []) X (fun l hl => c_RM_thrown hl oM zh_15 hv) cf_RM oM rfl mf_RM_thrown q1118 ⟨⟨by decide, by decide⟩, rfl, rfl⟩ rfl d_LW_law_1822 rfl (Nat.le_of_ble_eq_true rfl) (fun r_18 h_17 rr_18 zh_17 hv => ?_)
  refine z_iload (pc := 1825) (q := 1) X d_LW_law_1825 rfl ?_
  refine z_icmp_eq (pc := 1827) (tgt := 1832) X rr_18 rr_8 d_LW_law_1827 (by decide) (fun hc => ?_) (fun hc => ?_)
  · replace hv := hv.1 hc
    refine z_iload (pc := 1832) (q := 1) X d_LW_law_1832 rfl ?_
    refine z_if_ne (pc := 1834) (tgt := 1849) X rr_8 d_LW_law_1834 (by decide) (fun hc => ?_) (fun hc => ?_)
    · replace hv := hv.1 hc
      refine z_goto (pc := 1849) (tgt := 1964) X d_LW_law_1849 (by decide) ?_
      obtain ⟨v_19, hv⟩ := hv
      refine z_iinc (pc := 1964) (q := 6) (lv' := [(4, zi (i + 4)), (6, zi r_16), (5, zi r_8), (0, .ref b), (1, .ref (g.2.2 0)), (2, .ref (g.2.2 197)), (3, .ref (g.2.2 220))]) X d_LW_law_1964 rfl (by decide) rfl ?_
      refine z_goto (pc := 1967) (tgt := 23) X d_LW_law_1967 (by decide) ?_
      refine z_perm [3, 4, 5, 6, 0] rfl ?_
      exact hL (i + 4, h_17) hv (cells + 1) (slots + 6) (show (0 : Int) ≤ i + 4 by omega) (show i + 4 ≤ (2052 : Int) by omega) (show cells + 1 ≤ 1000 + (i + 4).toNat by omega) (show slots + 6 ≤ 20000 + 6 * (i + 4).toNat by omega) v_19 zh_17
    · replace hv := hv.2 hc
      refine z_aload_n (pc := 1837) (q := 5) X d_LW_law_1837 rfl ?_
      refine z_iconst (pc := 1838) X d_LW_law_1838 ?_
      refine z_laldj (pc := 1839) (j := 0) X oO rfl_ln (show zr 0 from by decide) ⟨by decide, by decide⟩ rfl d_LW_law_1839 ?_
      refine z_iload (pc := 1840) (q := 0) X d_LW_law_1840 rfl ?_
      refine z_i2l (pc := 1842) X rr_16 d_LW_law_1842 ?_
      refine z_lif_eq (pc := 1843) (tgt := 1849) X (zh_17.2 _) (zr_l rr_16) d_LW_law_1843 d_LW_law_1844 (by decide) (fun hc => ?_) (fun hc => ?_)
      · replace hv := hv.1 hc
        refine z_goto (pc := 1849) (tgt := 1964) X d_LW_law_1849 (by decide) ?_
        obtain ⟨v_20, hv⟩ := hv
        refine z_iinc (pc := 1964) (q := 6) (lv' := [(4, zi (i + 4)), (6, zi r_16), (5, zi r_8), (0, .ref b), (1, .ref (g.2.2 0)), (2, .ref (g.2.2 197)), (3, .ref (g.2.2 220))]) X d_LW_law_1964 rfl (by decide) rfl ?_
        refine z_goto (pc := 1967) (tgt := 23) X d_LW_law_1967 (by decide) ?_
        refine z_perm [3, 4, 5, 6, 0] rfl ?_
        exact hL (i + 4, h_17) hv (cells + 1) (slots + 6) (show (0 : Int) ≤ i + 4 by omega) (show i + 4 ≤ (2052 : Int) by omega) (show cells + 1 ≤ 1000 + (i + 4).toNat by omega) (show slots + 6 ≤ 20000 + 6 * (i + 4).toNat by omega) v_20 zh_17
      · replace hv := hv.2 hc
        refine z_iconst (pc := 1847) X d_LW_law_1847 ?_
        exact hv.elim
  · replace hv := hv.2 hc
    refine z_iconst (pc := 1830) X d_LW_law_1830 ?_
    exact hv.elim
def C_LW_law_1852 (N : Nat) (xs : Nat → Int32) (L : Int × zH → Prop) (i : Int) (h : zH) : Prop :=
  zr (i + 1) ∧ ((0 ≤ i + 1 ∧ i + 1 < (N : Int)) ∧ (M_LW_save 0 ((xs (i + 1).toNat).toInt) 220 h (fun r_4 h_3 => zr (i + 1) ∧ ((0 ≤ i + 1 ∧ i + 1 < (N : Int)) ∧ (M_RM_save 197 ((xs (i + 1).toNat).toInt) h_3 (fun r_8 h_7 => M_RM_thrown 197 h_7 (fun r_10 h_9 => (r_10 = r_4 → ((r_4 ≠ 0 → (zr (i + 4) ∧ (L (i + 4, h_9)))) ∧ (r_4 = 0 → ((h_9 220 0 = r_8 → (zr (i + 4) ∧ (L (i + 4, h_9)))) ∧ (h_9 220 0 ≠ r_8 → (False)))))) ∧ (r_10 ≠ r_4 → (False)))))))))
set_option maxHeartbeats 4000000 in
set_option maxRecDepth 100000 in
theorem sc_LW_law_1852 {p : Program} {l : Launch} {e : Env} {s : State} {m : MethodId} {below : List Frame} {meth : Method} {c : Code} {b N : Nat} {xs : Nat → Int32} {g : zG} (C : zLC p l s m meth c b N xs g) (hN : N ≤ 2048) (oX : zO 221 0 10) (oM : zO 221 197 11) (oO : zO 221 220 16) (rfl_ln : zln 220 = 1) {L : Int × zH → Prop} (hL : ∀ q : Int × zH, L q → ∀ cells slots : Nat, 0 ≤ q.1 → q.1 ≤ 2052 → cells ≤ 1000 + q.1.toNat → slots ≤ 20000 + 6 * q.1.toNat → zr q.1 → zh q.2 → zW (zWl p l e s m below meth c b cells slots) m 8 g 221 s.heap 23 [(0, .ref b), (1, .ref (g.2.2 0)), (2, .ref (g.2.2 197)), (3, .ref (g.2.2 220)), (4, zi q.1)] [] q.2) {i : Int} {h : zH} {cells slots : Nat} (hi0 : 0 ≤ i) (hi4 : i ≤ (N : Int) - 4) (hcb : cells ≤ 1000 + i.toNat) (hsb : slots ≤ 20000 + 6 * i.toNat) (ri : zr i) (hh : zh h) (hv : C_LW_law_1852 N xs L i h) : zW (zWl p l e s m below meth c b cells slots) m 8 g 221 s.heap 1852 [(0, .ref b), (1, .ref (g.2.2 0)), (2, .ref (g.2.2 197)), (3, .ref (g.2.2 220)), (4, zi i)] [] h := by
  unfold C_LW_law_1852 at hv
  have rN : zr (N : Int) := by omega
  have hce : cells ≤ 601024 := by omega
  have hsl : slots ≤ 7293034 := by omega
  have X := zXl (e := e) (below := below) C hce hsl
  refine z_aload_n (pc := 1852) (q := 1) X d_LW_law_1852 rfl ?_
  refine z_aload_n (pc := 1853) (q := 0) X d_LW_law_1853 rfl ?_
  refine z_iload (pc := 1854) (q := 4) X d_LW_law_1854 rfl ?_
  refine z_iconst (pc := 1856) X d_LW_law_1856 ?_
  obtain ⟨v_1, hv⟩ := hv
  refine z_iadd (pc := 1857) X d_LW_law_1857 ?_
  obtain ⟨v_2, hv⟩ := hv
  refine z_sld (pc := 1858) C v_1 v_2 d_LW_law_1858 ?_
  refine z_aload_n (pc := 1859) (q := 3) X d_LW_law_1859 rfl ?_
  refine z_callH (k := 3) (pc := 1860) (As := [.ref (g.2.2 0), zi ((xs (i + 1).toNat).toInt), .ref (g.2.2 220)]) (rest := []) C (by omega) (by omega) (fun l hl => c_LW_save hl oX (zr_int _) oO hh hv) q996 q0 q997w (by decide +kernel) q995 ⟨⟨by decide, by decide⟩, rfl, rfl⟩ rfl d_LW_law_1860 rfl (Nat.le_of_ble_eq_true rfl) (fun r_4 h_3 rr_4 zh_3 hv => ?_)
  have hce1 : cells + 1 ≤ 601024 := by omega
  have hsl1 : slots + 6 ≤ 7293034 := by omega
  have X := zXl (e := e) (below := below) C hce1 hsl1
  refine z_istore (pc := 1863) (lv' := [(5, zi r_4), (0, .ref b), (1, .ref (g.2.2 0)), (2, .ref (g.2.2 197)), (3, .ref (g.2.2 220)), (4, zi i)]) X d_LW_law_1863 (by decide) rfl ?_
  refine z_aload_n (pc := 1865) (q := 3) X d_LW_law_1865 rfl ?_
  refine z_aload_n (pc := 1866) (q := 1) X d_LW_law_1866 rfl ?_
  refine z_iload (pc := 1867) (q := 5) X d_LW_law_1867 rfl ?_
  refine z_iconst (pc := 1869) X d_LW_law_1869 ?_
  obtain ⟨v_5, hv⟩ := hv
  refine z_iadd (pc := 1870) X d_LW_law_1870 ?_
  obtain ⟨v_6, hv⟩ := hv
  refine z_sld (pc := 1871) C v_5 v_6 d_LW_law_1871 ?_
  refine z_callVi (pc := 1872) (As := [zi ((xs (i + 1).toNat).toInt)]) (rest := []) X (fun l hl => c_RM_save hl oM (zr_int _) zh_3 hv) cf_RM oM rfl mf_RM_save q1384 ⟨⟨by decide, by decide⟩, rfl, rfl⟩ rfl d_LW_law_1872 rfl (Nat.le_of_ble_eq_true rfl) (fun r_8 h_7 rr_8 zh_7 hv => ?_)
  refine z_istore (pc := 1875) (lv' := [(6, zi r_8), (5, zi r_4), (0, .ref b), (1, .ref (g.2.2 0)), (2, .ref (g.2.2 197)), (3, .ref (g.2.2 220)), (4, zi i)]) X d_LW_law_1875 (by decide) rfl ?_
  refine z_aload_n (pc := 1877) (q := 4) X d_LW_law_1877 rfl ?_
  refine z_callVi (pc := 1878) (As := []) (rest := []) X (fun l hl => c_RM_thrown hl oM zh_7 hv) cf_RM oM rfl mf_RM_thrown q1118 ⟨⟨by decide, by decide⟩, rfl, rfl⟩ rfl d_LW_law_1878 rfl (Nat.le_of_ble_eq_true rfl) (fun r_10 h_9 rr_10 zh_9 hv => ?_)
  refine z_iload (pc := 1881) (q := 1) X d_LW_law_1881 rfl ?_
  refine z_icmp_eq (pc := 1883) (tgt := 1888) X rr_10 rr_4 d_LW_law_1883 (by decide) (fun hc => ?_) (fun hc => ?_)
  · replace hv := hv.1 hc
    refine z_iload (pc := 1888) (q := 1) X d_LW_law_1888 rfl ?_
    refine z_if_ne (pc := 1890) (tgt := 1905) X rr_4 d_LW_law_1890 (by decide) (fun hc => ?_) (fun hc => ?_)
    · replace hv := hv.1 hc
      refine z_goto (pc := 1905) (tgt := 1964) X d_LW_law_1905 (by decide) ?_
      obtain ⟨v_11, hv⟩ := hv
      refine z_iinc (pc := 1964) (q := 6) (lv' := [(4, zi (i + 4)), (6, zi r_8), (5, zi r_4), (0, .ref b), (1, .ref (g.2.2 0)), (2, .ref (g.2.2 197)), (3, .ref (g.2.2 220))]) X d_LW_law_1964 rfl (by decide) rfl ?_
      refine z_goto (pc := 1967) (tgt := 23) X d_LW_law_1967 (by decide) ?_
      refine z_perm [3, 4, 5, 6, 0] rfl ?_
      exact hL (i + 4, h_9) hv (cells + 1) (slots + 6) (show (0 : Int) ≤ i + 4 by omega) (show i + 4 ≤ (2052 : Int) by omega) (show cells + 1 ≤ 1000 + (i + 4).toNat by omega) (show slots + 6 ≤ 20000 + 6 * (i + 4).toNat by omega) v_11 zh_9
    · replace hv := hv.2 hc
      refine z_aload_n (pc := 1893) (q := 5) X d_LW_law_1893 rfl ?_
      refine z_iconst (pc := 1894) X d_LW_law_1894 ?_
      refine z_laldj (pc := 1895) (j := 0) X oO rfl_ln (show zr 0 from by decide) ⟨by decide, by decide⟩ rfl d_LW_law_1895 ?_
      refine z_iload (pc := 1896) (q := 0) X d_LW_law_1896 rfl ?_
      refine z_i2l (pc := 1898) X rr_8 d_LW_law_1898 ?_
      refine z_lif_eq (pc := 1899) (tgt := 1905) X (zh_9.2 _) (zr_l rr_8) d_LW_law_1899 d_LW_law_1900 (by decide) (fun hc => ?_) (fun hc => ?_)
      · replace hv := hv.1 hc
        refine z_goto (pc := 1905) (tgt := 1964) X d_LW_law_1905 (by decide) ?_
        obtain ⟨v_12, hv⟩ := hv
        refine z_iinc (pc := 1964) (q := 6) (lv' := [(4, zi (i + 4)), (6, zi r_8), (5, zi r_4), (0, .ref b), (1, .ref (g.2.2 0)), (2, .ref (g.2.2 197)), (3, .ref (g.2.2 220))]) X d_LW_law_1964 rfl (by decide) rfl ?_
        refine z_goto (pc := 1967) (tgt := 23) X d_LW_law_1967 (by decide) ?_
        refine z_perm [3, 4, 5, 6, 0] rfl ?_
        exact hL (i + 4, h_9) hv (cells + 1) (slots + 6) (show (0 : Int) ≤ i + 4 by omega) (show i + 4 ≤ (2052 : Int) by omega) (show cells + 1 ≤ 1000 + (i + 4).toNat by omega) (show slots + 6 ≤ 20000 + 6 * (i + 4).toNat by omega) v_12 zh_9
      · replace hv := hv.2 hc
        refine z_iconst (pc := 1903) X d_LW_law_1903 ?_
        exact hv.elim
  · replace hv := hv.2 hc
    refine z_iconst (pc := 1886) X d_LW_law_1886 ?_
    exact hv.elim
def C_LW_law_1908 (N : Nat) (xs : Nat → Int32) (L : Int × zH → Prop) (i : Int) (h : zH) : Prop :=
  zr (i + 1) ∧ ((0 ≤ i + 1 ∧ i + 1 < (N : Int)) ∧ (M_LW_restore 0 ((xs (i + 1).toNat).toInt) 220 h (fun r_4 h_3 => zr (i + 1) ∧ ((0 ≤ i + 1 ∧ i + 1 < (N : Int)) ∧ (M_RM_restore 197 ((xs (i + 1).toNat).toInt) h_3 (fun r_8 h_7 => M_RM_thrown 197 h_7 (fun r_10 h_9 => (r_10 = r_4 → ((r_4 ≠ 0 → (zr (i + 4) ∧ (L (i + 4, h_9)))) ∧ (r_4 = 0 → ((h_9 220 0 = r_8 → (zr (i + 4) ∧ (L (i + 4, h_9)))) ∧ (h_9 220 0 ≠ r_8 → (False)))))) ∧ (r_10 ≠ r_4 → (False)))))))))
set_option maxHeartbeats 4000000 in
set_option maxRecDepth 100000 in
theorem sc_LW_law_1908 {p : Program} {l : Launch} {e : Env} {s : State} {m : MethodId} {below : List Frame} {meth : Method} {c : Code} {b N : Nat} {xs : Nat → Int32} {g : zG} (C : zLC p l s m meth c b N xs g) (hN : N ≤ 2048) (oX : zO 221 0 10) (oM : zO 221 197 11) (oO : zO 221 220 16) (rfl_ln : zln 220 = 1) {L : Int × zH → Prop} (hL : ∀ q : Int × zH, L q → ∀ cells slots : Nat, 0 ≤ q.1 → q.1 ≤ 2052 → cells ≤ 1000 + q.1.toNat → slots ≤ 20000 + 6 * q.1.toNat → zr q.1 → zh q.2 → zW (zWl p l e s m below meth c b cells slots) m 8 g 221 s.heap 23 [(0, .ref b), (1, .ref (g.2.2 0)), (2, .ref (g.2.2 197)), (3, .ref (g.2.2 220)), (4, zi q.1)] [] q.2) {i : Int} {h : zH} {cells slots : Nat} (hi0 : 0 ≤ i) (hi4 : i ≤ (N : Int) - 4) (hcb : cells ≤ 1000 + i.toNat) (hsb : slots ≤ 20000 + 6 * i.toNat) (ri : zr i) (hh : zh h) (hv : C_LW_law_1908 N xs L i h) : zW (zWl p l e s m below meth c b cells slots) m 8 g 221 s.heap 1908 [(0, .ref b), (1, .ref (g.2.2 0)), (2, .ref (g.2.2 197)), (3, .ref (g.2.2 220)), (4, zi i)] [] h := by
  unfold C_LW_law_1908 at hv
  have rN : zr (N : Int) := by omega
  have hce : cells ≤ 601024 := by omega
  have hsl : slots ≤ 7293034 := by omega
  have X := zXl (e := e) (below := below) C hce hsl
  refine z_aload_n (pc := 1908) (q := 1) X d_LW_law_1908 rfl ?_
  refine z_aload_n (pc := 1909) (q := 0) X d_LW_law_1909 rfl ?_
  refine z_iload (pc := 1910) (q := 4) X d_LW_law_1910 rfl ?_
  refine z_iconst (pc := 1912) X d_LW_law_1912 ?_
  obtain ⟨v_1, hv⟩ := hv
  refine z_iadd (pc := 1913) X d_LW_law_1913 ?_
  obtain ⟨v_2, hv⟩ := hv
  refine z_sld (pc := 1914) C v_1 v_2 d_LW_law_1914 ?_
  refine z_aload_n (pc := 1915) (q := 3) X d_LW_law_1915 rfl ?_
  refine z_callH (k := 3) (pc := 1916) (As := [.ref (g.2.2 0), zi ((xs (i + 1).toNat).toInt), .ref (g.2.2 220)]) (rest := []) C (by omega) (by omega) (fun l hl => c_LW_restore hl oX (zr_int _) oO hh hv) q1008 q0 q1009w (by decide +kernel) q1007 ⟨⟨by decide, by decide⟩, rfl, rfl⟩ rfl d_LW_law_1916 rfl (Nat.le_of_ble_eq_true rfl) (fun r_4 h_3 rr_4 zh_3 hv => ?_)
  have hce1 : cells + 1 ≤ 601024 := by omega
  have hsl1 : slots + 6 ≤ 7293034 := by omega
  have X := zXl (e := e) (below := below) C hce1 hsl1
  refine z_istore (pc := 1919) (lv' := [(5, zi r_4), (0, .ref b), (1, .ref (g.2.2 0)), (2, .ref (g.2.2 197)), (3, .ref (g.2.2 220)), (4, zi i)]) X d_LW_law_1919 (by decide) rfl ?_
  refine z_aload_n (pc := 1921) (q := 3) X d_LW_law_1921 rfl ?_
  refine z_aload_n (pc := 1922) (q := 1) X d_LW_law_1922 rfl ?_
  refine z_iload (pc := 1923) (q := 5) X d_LW_law_1923 rfl ?_
  refine z_iconst (pc := 1925) X d_LW_law_1925 ?_
  obtain ⟨v_5, hv⟩ := hv
  refine z_iadd (pc := 1926) X d_LW_law_1926 ?_
  obtain ⟨v_6, hv⟩ := hv
  refine z_sld (pc := 1927) C v_5 v_6 d_LW_law_1927 ?_
  refine z_callVi (pc := 1928) (As := [zi ((xs (i + 1).toNat).toInt)]) (rest := []) X (fun l hl => c_RM_restore hl oM (zr_int _) zh_3 hv) cf_RM oM rfl mf_RM_restore q1388 ⟨⟨by decide, by decide⟩, rfl, rfl⟩ rfl d_LW_law_1928 rfl (Nat.le_of_ble_eq_true rfl) (fun r_8 h_7 rr_8 zh_7 hv => ?_)
  refine z_istore (pc := 1931) (lv' := [(6, zi r_8), (5, zi r_4), (0, .ref b), (1, .ref (g.2.2 0)), (2, .ref (g.2.2 197)), (3, .ref (g.2.2 220)), (4, zi i)]) X d_LW_law_1931 (by decide) rfl ?_
  refine z_aload_n (pc := 1933) (q := 4) X d_LW_law_1933 rfl ?_
  refine z_callVi (pc := 1934) (As := []) (rest := []) X (fun l hl => c_RM_thrown hl oM zh_7 hv) cf_RM oM rfl mf_RM_thrown q1118 ⟨⟨by decide, by decide⟩, rfl, rfl⟩ rfl d_LW_law_1934 rfl (Nat.le_of_ble_eq_true rfl) (fun r_10 h_9 rr_10 zh_9 hv => ?_)
  refine z_iload (pc := 1937) (q := 1) X d_LW_law_1937 rfl ?_
  refine z_icmp_eq (pc := 1939) (tgt := 1944) X rr_10 rr_4 d_LW_law_1939 (by decide) (fun hc => ?_) (fun hc => ?_)
  · replace hv := hv.1 hc
    refine z_iload (pc := 1944) (q := 1) X d_LW_law_1944 rfl ?_
    refine z_if_ne (pc := 1946) (tgt := 1961) X rr_4 d_LW_law_1946 (by decide) (fun hc => ?_) (fun hc => ?_)
    · replace hv := hv.1 hc
      refine z_goto (pc := 1961) (tgt := 1964) X d_LW_law_1961 (by decide) ?_
      obtain ⟨v_11, hv⟩ := hv
      refine z_iinc (pc := 1964) (q := 6) (lv' := [(4, zi (i + 4)), (6, zi r_8), (5, zi r_4), (0, .ref b), (1, .ref (g.2.2 0)), (2, .ref (g.2.2 197)), (3, .ref (g.2.2 220))]) X d_LW_law_1964 rfl (by decide) rfl ?_
      refine z_goto (pc := 1967) (tgt := 23) X d_LW_law_1967 (by decide) ?_
      refine z_perm [3, 4, 5, 6, 0] rfl ?_
      exact hL (i + 4, h_9) hv (cells + 1) (slots + 6) (show (0 : Int) ≤ i + 4 by omega) (show i + 4 ≤ (2052 : Int) by omega) (show cells + 1 ≤ 1000 + (i + 4).toNat by omega) (show slots + 6 ≤ 20000 + 6 * (i + 4).toNat by omega) v_11 zh_9
    · replace hv := hv.2 hc
      refine z_aload_n (pc := 1949) (q := 5) X d_LW_law_1949 rfl ?_
      refine z_iconst (pc := 1950) X d_LW_law_1950 ?_
      refine z_laldj (pc := 1951) (j := 0) X oO rfl_ln (show zr 0 from by decide) ⟨by decide, by decide⟩ rfl d_LW_law_1951 ?_
      refine z_iload (pc := 1952) (q := 0) X d_LW_law_1952 rfl ?_
      refine z_i2l (pc := 1954) X rr_8 d_LW_law_1954 ?_
      refine z_lif_eq (pc := 1955) (tgt := 1961) X (zh_9.2 _) (zr_l rr_8) d_LW_law_1955 d_LW_law_1956 (by decide) (fun hc => ?_) (fun hc => ?_)
      · replace hv := hv.1 hc
        refine z_goto (pc := 1961) (tgt := 1964) X d_LW_law_1961 (by decide) ?_
        obtain ⟨v_12, hv⟩ := hv
        refine z_iinc (pc := 1964) (q := 6) (lv' := [(4, zi (i + 4)), (6, zi r_8), (5, zi r_4), (0, .ref b), (1, .ref (g.2.2 0)), (2, .ref (g.2.2 197)), (3, .ref (g.2.2 220))]) X d_LW_law_1964 rfl (by decide) rfl ?_
        refine z_goto (pc := 1967) (tgt := 23) X d_LW_law_1967 (by decide) ?_
        refine z_perm [3, 4, 5, 6, 0] rfl ?_
        exact hL (i + 4, h_9) hv (cells + 1) (slots + 6) (show (0 : Int) ≤ i + 4 by omega) (show i + 4 ≤ (2052 : Int) by omega) (show cells + 1 ≤ 1000 + (i + 4).toNat by omega) (show slots + 6 ≤ 20000 + 6 * (i + 4).toNat by omega) v_12 zh_9
      · replace hv := hv.2 hc
        refine z_iconst (pc := 1959) X d_LW_law_1959 ?_
        exact hv.elim
  · replace hv := hv.2 hc
    refine z_iconst (pc := 1942) X d_LW_law_1942 ?_
    exact hv.elim
def C_LW_law_1964 (N : Nat) (xs : Nat → Int32) (L : Int × zH → Prop) (i : Int) (h : zH) : Prop :=
  zr (i + 4) ∧ (L (i + 4, h))
set_option maxHeartbeats 4000000 in
set_option maxRecDepth 100000 in
theorem sc_LW_law_1964 {p : Program} {l : Launch} {e : Env} {s : State} {m : MethodId} {below : List Frame} {meth : Method} {c : Code} {b N : Nat} {xs : Nat → Int32} {g : zG} (C : zLC p l s m meth c b N xs g) (hN : N ≤ 2048) (oX : zO 221 0 10) (oM : zO 221 197 11) (oO : zO 221 220 16) (rfl_ln : zln 220 = 1) {L : Int × zH → Prop} (hL : ∀ q : Int × zH, L q → ∀ cells slots : Nat, 0 ≤ q.1 → q.1 ≤ 2052 → cells ≤ 1000 + q.1.toNat → slots ≤ 20000 + 6 * q.1.toNat → zr q.1 → zh q.2 → zW (zWl p l e s m below meth c b cells slots) m 8 g 221 s.heap 23 [(0, .ref b), (1, .ref (g.2.2 0)), (2, .ref (g.2.2 197)), (3, .ref (g.2.2 220)), (4, zi q.1)] [] q.2) {i : Int} {h : zH} {cells slots : Nat} (hi0 : 0 ≤ i) (hi4 : i ≤ (N : Int) - 4) (hcb : cells ≤ 1000 + i.toNat) (hsb : slots ≤ 20000 + 6 * i.toNat) (ri : zr i) (hh : zh h) (hv : C_LW_law_1964 N xs L i h) : zW (zWl p l e s m below meth c b cells slots) m 8 g 221 s.heap 1964 [(0, .ref b), (1, .ref (g.2.2 0)), (2, .ref (g.2.2 197)), (3, .ref (g.2.2 220)), (4, zi i)] [] h := by
  unfold C_LW_law_1964 at hv
  have rN : zr (N : Int) := by omega
  have hce : cells ≤ 601024 := by omega
  have hsl : slots ≤ 7293034 := by omega
  have X := zXl (e := e) (below := below) C hce hsl
  obtain ⟨v_1, hv⟩ := hv
  refine z_iinc (pc := 1964) (q := 4) (lv' := [(4, zi (i + 4)), (0, .ref b), (1, .ref (g.2.2 0)), (2, .ref (g.2.2 197)), (3, .ref (g.2.2 220))]) X d_LW_law_1964 rfl (by decide) rfl ?_
  refine z_goto (pc := 1967) (tgt := 23) X d_LW_law_1967 (by decide) ?_
  refine z_perm [1, 2, 3, 4, 0] rfl ?_
  exact hL (i + 4, h) hv cells slots (show (0 : Int) ≤ i + 4 by omega) (show i + 4 ≤ (2052 : Int) by omega) (show cells ≤ 1000 + (i + 4).toNat by omega) (show slots ≤ 20000 + 6 * (i + 4).toNat by omega) v_1 hh

/-! 36.ASa (printed by wip/whole/methgen.py) -/
theorem d_AS_append_0 : decode b_AS_append 0 = .ok (.iload_n 1, 1) := by decide +kernel
theorem d_AS_append_1 : decode b_AS_append 1 = .ok (.ifCond .lt 10, 3) := by decide +kernel
theorem d_AS_append_4 : decode b_AS_append 4 = .ok (.iload_n 1, 1) := by decide +kernel
theorem d_AS_append_5 : decode b_AS_append 5 = .ok (.sipush 255, 3) := by decide +kernel
theorem d_AS_append_8 : decode b_AS_append 8 = .ok (.if_icmp .le 13, 3) := by decide +kernel
theorem d_AS_append_11 : decode b_AS_append 11 = .ok (.new 83, 3) := by decide +kernel
theorem d_AS_append_14 : decode b_AS_append 14 = .ok (.dup, 1) := by decide +kernel
theorem d_AS_append_15 : decode b_AS_append 15 = .ok (.ldc 85, 2) := by decide +kernel
theorem d_AS_append_17 : decode b_AS_append 17 = .ok (.invokespecial 87, 3) := by decide +kernel
theorem d_AS_append_20 : decode b_AS_append 20 = .ok (.athrow, 1) := by decide +kernel
theorem d_AS_append_21 : decode b_AS_append 21 = .ok (.aload_n 0, 1) := by decide +kernel
theorem d_AS_append_22 : decode b_AS_append 22 = .ok (.getfield 12, 3) := by decide +kernel
theorem d_AS_append_25 : decode b_AS_append 25 = .ok (.getfield 90, 3) := by decide +kernel
theorem d_AS_append_28 : decode b_AS_append 28 = .ok (.bipush 100, 2) := by decide +kernel
theorem d_AS_append_30 : decode b_AS_append 30 = .ok (.if_icmp .lt 13, 3) := by decide +kernel
theorem d_AS_append_33 : decode b_AS_append 33 = .ok (.new 94, 3) := by decide +kernel
theorem d_AS_append_36 : decode b_AS_append 36 = .ok (.dup, 1) := by decide +kernel
theorem d_AS_append_37 : decode b_AS_append 37 = .ok (.ldc 96, 2) := by decide +kernel
theorem d_AS_append_39 : decode b_AS_append 39 = .ok (.invokespecial 98, 3) := by decide +kernel
theorem d_AS_append_42 : decode b_AS_append 42 = .ok (.athrow, 1) := by decide +kernel
theorem d_AS_append_43 : decode b_AS_append 43 = .ok (.aload_n 0, 1) := by decide +kernel
theorem d_AS_append_44 : decode b_AS_append 44 = .ok (.getfield 12, 3) := by decide +kernel
theorem d_AS_append_47 : decode b_AS_append 47 = .ok (.iload_n 1, 1) := by decide +kernel
theorem d_AS_append_48 : decode b_AS_append 48 = .ok (.invokevirtual 99, 3) := by decide +kernel
theorem d_AS_append_51 : decode b_AS_append 51 = .ok (.aload_n 0, 1) := by decide +kernel
theorem d_AS_append_52 : decode b_AS_append 52 = .ok (.getfield 12, 3) := by decide +kernel
theorem d_AS_append_55 : decode b_AS_append 55 = .ok (.getfield 90, 3) := by decide +kernel
theorem d_AS_append_58 : decode b_AS_append 58 = .ok (.ireturn, 1) := by decide +kernel
def rm_AS_append : Room := { frames := 6, cells := 1, slots := 6, locals := 90 }
theorem mf_AS_append : zMV y_AS_append b_AS_append 2 (some .int) 1 := ⟨q489, q490, q1, q491, by decide +kernel⟩
def M_AS_append (p0 : Nat) (x1 : Int) (h : zH) (K : Int → zH → Prop) (XK : Nat → zH → Prop) : Prop :=
  (x1 < 0 → (XK 1 h)) ∧ (0 ≤ x1 → ((x1 ≤ 255 → ((h (p0 + 1) 3 < 100 → (M_Text_add (p0 + 1) x1 h (fun h_1 => K (h_1 (p0 + 1) 3) h_1))) ∧ (100 ≤ h (p0 + 1) 3 → (XK 2 h)))) ∧ (255 < x1 → (XK 1 h))))
set_option maxRecDepth 100000 in
theorem c_AS_append {l : Launch} (hfl : l.flags = flags0) {g : zG} {n : Nat} {p0 : Nat} {x1 : Int} (op0 : zO n p0 10) (rx1 : zr x1) {h : zH} (hh : zh h) {K : Int → zH → Prop} {XK : Nat → zH → Prop} (hv : M_AS_append p0 x1 h K XK) : zMetX l y_AS_append b_AS_append 2 (some .int) rm_AS_append g n [.ref (g.2.2 p0), zi x1] h (zPi K) XK := by
  refine zMetX_of hfl (by decide) rfl (Nat.le_of_ble_eq_true rfl) ⟨rfl, rfl, by decide, by decide⟩ (fun Wf m H0 X E T => ?_)
  unfold M_AS_append at hv
  show zW Wf m 2 g n H0 0 [(0, .ref (g.2.2 p0)), (1, zi x1)] [] h
  refine z_iload_n (pc := 0) (q := 1) X d_AS_append_0 rfl ?_
  refine z_if_lt (pc := 1) (tgt := 11) X rx1 d_AS_append_1 (by decide) (fun hc => ?_) (fun hc => ?_)
  · replace hv := hv.1 hc
    exact T _ _ _ 1 _ _ _ _ _ (by decide +kernel : (1, "java/lang/IllegalArgumentException", 83, 87) ∈ zExc) zst_85 ⟨d_AS_append_11, d_AS_append_14, Or.inl ⟨d_AS_append_15, d_AS_append_17, d_AS_append_20⟩⟩ hh hv
  · replace hv := hv.2 hc
    refine z_iload_n (pc := 4) (q := 1) X d_AS_append_4 rfl ?_
    refine z_sipush (pc := 5) X d_AS_append_5 (by decide) ?_
    refine z_icmp_le (pc := 8) (tgt := 21) X rx1 (show zr 255 from by decide) d_AS_append_8 (by decide) (fun hc => ?_) (fun hc => ?_)
    · replace hv := hv.1 hc
      refine z_aload_n (pc := 21) (q := 0) X d_AS_append_21 rfl ?_
      refine z_getr (pc := 22) (j := 0) (dd := 1) X cf_AS op0 (by decide) q366 rfl rfl d_AS_append_22 ?_
      refine z_getiN (pc := 25) (j := 3) X cf_Text (gf_AS_0 op0) (by decide) q41 rfl rfl d_AS_append_25 ?_
      refine z_bipush (pc := 28) X d_AS_append_28 (by decide) ?_
      refine z_icmp_lt (pc := 30) (tgt := 43) X (hh.1 _ _ (zO.ne (gf_AS_0 op0) (by decide))) (show zr 100 from by decide) d_AS_append_30 (by decide) (fun hc => ?_) (fun hc => ?_)
      · replace hv := hv.1 hc
        refine z_aload_n (pc := 43) (q := 0) X d_AS_append_43 rfl ?_
        refine z_getr (pc := 44) (j := 0) (dd := 1) X cf_AS op0 (by decide) q366 rfl rfl d_AS_append_44 ?_
        refine z_iload_n (pc := 47) (q := 1) X d_AS_append_47 rfl ?_
        refine z_callVNv (pc := 48) (As := [zi x1]) (rest := []) X (fun l hl => c_Text_add hl (gf_AS_0 op0) rx1 hh hv) cf_Text (gf_AS_0 op0) rfl mf_Text_add q576 ⟨⟨by decide, by decide⟩, rfl, rfl⟩ rfl d_AS_append_48 rfl (Nat.le_of_ble_eq_true rfl) (fun h_1 zh_1 hv => ?_)
        refine z_aload_n (pc := 51) (q := 0) X d_AS_append_51 rfl ?_
        refine z_getr (pc := 52) (j := 0) (dd := 1) X cf_AS op0 (by decide) q366 rfl rfl d_AS_append_52 ?_
        refine z_getiN (pc := 55) (j := 3) X cf_Text (gf_AS_0 op0) (by decide) q41 rfl rfl d_AS_append_55 ?_
        exact E.2.1 rfl _ _ _ _ d_AS_append_58 ⟨_, rfl, (zh_1.1 _ _ (zO.ne (gf_AS_0 op0) (by decide))), zh_1, hv⟩
      · replace hv := hv.2 hc
        exact T _ _ _ 2 _ _ _ _ _ (by decide +kernel : (2, "java/lang/IllegalStateException", 94, 98) ∈ zExc) zst_96 ⟨d_AS_append_33, d_AS_append_36, Or.inl ⟨d_AS_append_37, d_AS_append_39, d_AS_append_42⟩⟩ hh hv
    · replace hv := hv.2 hc
      exact T _ _ _ 1 _ _ _ _ _ (by decide +kernel : (1, "java/lang/IllegalArgumentException", 83, 87) ∈ zExc) zst_85 ⟨d_AS_append_11, d_AS_append_14, Or.inl ⟨d_AS_append_15, d_AS_append_17, d_AS_append_20⟩⟩ hh hv
theorem d_AS_clearText_0 : decode b_AS_clearText 0 = .ok (.aload_n 0, 1) := by decide +kernel
theorem d_AS_clearText_1 : decode b_AS_clearText 1 = .ok (.getfield 12, 3) := by decide +kernel
theorem d_AS_clearText_4 : decode b_AS_clearText 4 = .ok (.getfield 90, 3) := by decide +kernel
theorem d_AS_clearText_7 : decode b_AS_clearText 7 = .ok (.istore_n 1, 1) := by decide +kernel
theorem d_AS_clearText_8 : decode b_AS_clearText 8 = .ok (.aload_n 0, 1) := by decide +kernel
theorem d_AS_clearText_9 : decode b_AS_clearText 9 = .ok (.getfield 12, 3) := by decide +kernel
theorem d_AS_clearText_12 : decode b_AS_clearText 12 = .ok (.iconst 0, 1) := by decide +kernel
theorem d_AS_clearText_13 : decode b_AS_clearText 13 = .ok (.putfield 90, 3) := by decide +kernel
theorem d_AS_clearText_16 : decode b_AS_clearText 16 = .ok (.iload_n 1, 1) := by decide +kernel
theorem d_AS_clearText_17 : decode b_AS_clearText 17 = .ok (.ireturn, 1) := by decide +kernel
def rm_AS_clearText : Room := { frames := 0, cells := 0, slots := 0, locals := 0 }
theorem mf_AS_clearText : zMV y_AS_clearText b_AS_clearText 2 (some .int) 0 := ⟨q398, q399, q1, q400, by decide +kernel⟩
def M_AS_clearText (p0 : Nat) (h : zH) (K : Int → zH → Prop) : Prop :=
  (∀ x1_1 : Int, x1_1 = h (p0 + 1) 3 → ((∀ h_2 : zH, h_2 = zs h (p0 + 1) 3 0 → (K x1_1 h_2))))
set_option maxRecDepth 100000 in
theorem c_AS_clearText {l : Launch} (hfl : l.flags = flags0) {g : zG} {n : Nat} {p0 : Nat} (op0 : zO n p0 10) {h : zH} (hh : zh h) {K : Int → zH → Prop} (hv : M_AS_clearText p0 h K) : zMet l y_AS_clearText b_AS_clearText 2 (some .int) rm_AS_clearText g n [.ref (g.2.2 p0)] h (zPi K) := by
  refine zMet_of (own := "AliasStreams") hfl (by decide) rfl (Nat.le_of_ble_eq_true rfl) (fun Wf m H0 X E => ?_)
  unfold M_AS_clearText at hv
  show zW Wf m 2 g n H0 0 [(0, .ref (g.2.2 p0))] [] h
  refine z_aload_n (pc := 0) (q := 0) X d_AS_clearText_0 rfl ?_
  refine z_getr (pc := 1) (j := 0) (dd := 1) X cf_AS op0 (by decide) q366 rfl rfl d_AS_clearText_1 ?_
  refine z_getiN (pc := 4) (j := 3) X cf_Text (gf_AS_0 op0) (by decide) q41 rfl rfl d_AS_clearText_4 ?_
  refine z_topi (fun x1_1 ex1_1 => ?_)
  have rx1_1 : zr x1_1 := by rw [ex1_1]; exact (hh.1 _ _ (zO.ne (gf_AS_0 op0) (by decide)))
  replace hv := hv x1_1 ex1_1
  refine z_istore_n (pc := 7) (lv' := [(1, zi x1_1), (0, .ref (g.2.2 p0))]) X d_AS_clearText_7 (by decide) rfl ?_
  refine z_aload_n (pc := 8) (q := 1) X d_AS_clearText_8 rfl ?_
  refine z_getr (pc := 9) (j := 0) (dd := 1) X cf_AS op0 (by decide) q366 rfl rfl d_AS_clearText_9 ?_
  refine z_iconst (pc := 12) X d_AS_clearText_12 ?_
  refine z_putN (pc := 13) (j := 3) X cf_Text (gf_AS_0 op0) (by decide) q41 rfl rfl rfl rfl d_AS_clearText_13 ?_
  refine z_toph (fun h_2 eh_2 => ?_)
  have zh_2 : zh h_2 := by rw [eh_2]; exact zh_set hh (zO.ne (gf_AS_0 op0) (by decide)) (show zr 0 from by decide)
  replace hv := hv h_2 eh_2
  refine z_iload_n (pc := 16) (q := 0) X d_AS_clearText_16 rfl ?_
  exact E.2.1 rfl _ _ _ _ d_AS_clearText_17 ⟨_, rfl, rx1_1, zh_2, hv⟩
theorem d_AS_errorPosition_0 : decode b_AS_errorPosition 0 = .ok (.aload_n 0, 1) := by decide +kernel
theorem d_AS_errorPosition_1 : decode b_AS_errorPosition 1 = .ok (.getfield 12, 3) := by decide +kernel
theorem d_AS_errorPosition_4 : decode b_AS_errorPosition 4 = .ok (.invokevirtual 103, 3) := by decide +kernel
theorem d_AS_errorPosition_7 : decode b_AS_errorPosition 7 = .ok (.ireturn, 1) := by decide +kernel
def rm_AS_errorPosition : Room := { frames := 5, cells := 0, slots := 0, locals := 109 }
theorem mf_AS_errorPosition : zMV y_AS_errorPosition b_AS_errorPosition 1 (some .int) 0 := ⟨q402, q403, q1, q404, by decide +kernel⟩
def M_AS_errorPosition (p0 : Nat) (h : zH) (K : Int → zH → Prop) : Prop :=
  M_Text_read (p0 + 1) h (fun r_2 h_1 => K r_2 h_1)
set_option maxRecDepth 100000 in
theorem c_AS_errorPosition {l : Launch} (hfl : l.flags = flags0) {g : zG} {n : Nat} {p0 : Nat} (op0 : zO n p0 10) {h : zH} (hh : zh h) {K : Int → zH → Prop} (hv : M_AS_errorPosition p0 h K) : zMet l y_AS_errorPosition b_AS_errorPosition 1 (some .int) rm_AS_errorPosition g n [.ref (g.2.2 p0)] h (zPi K) := by
  refine zMet_of (own := "AliasStreams") hfl (by decide) rfl (Nat.le_of_ble_eq_true rfl) (fun Wf m H0 X E => ?_)
  unfold M_AS_errorPosition at hv
  show zW Wf m 1 g n H0 0 [(0, .ref (g.2.2 p0))] [] h
  refine z_aload_n (pc := 0) (q := 0) X d_AS_errorPosition_0 rfl ?_
  refine z_getr (pc := 1) (j := 0) (dd := 1) X cf_AS op0 (by decide) q366 rfl rfl d_AS_errorPosition_1 ?_
  refine z_callVNi (pc := 4) (As := []) (rest := []) X (fun l hl => c_Text_read hl (gf_AS_0 op0) hh hv) cf_Text (gf_AS_0 op0) rfl mf_Text_read q405 ⟨⟨by decide, by decide⟩, rfl, rfl⟩ rfl d_AS_errorPosition_4 rfl (Nat.le_of_ble_eq_true rfl) (fun r_2 h_1 rr_2 zh_1 hv => ?_)
  exact E.2.1 rfl _ _ _ _ d_AS_errorPosition_7 ⟨_, rfl, rr_2, zh_1, hv⟩
theorem d_AS_load_0 : decode b_AS_load 0 = .ok (.aload_n 0, 1) := by decide +kernel
theorem d_AS_load_1 : decode b_AS_load 1 = .ok (.getfield 12, 3) := by decide +kernel
theorem d_AS_load_4 : decode b_AS_load 4 = .ok (.invokevirtual 103, 3) := by decide +kernel
theorem d_AS_load_7 : decode b_AS_load 7 = .ok (.bipush (-9), 2) := by decide +kernel
theorem d_AS_load_9 : decode b_AS_load 9 = .ok (.if_icmp .eq 13, 3) := by decide +kernel
theorem d_AS_load_12 : decode b_AS_load 12 = .ok (.new 94, 3) := by decide +kernel
theorem d_AS_load_15 : decode b_AS_load 15 = .ok (.dup, 1) := by decide +kernel
theorem d_AS_load_16 : decode b_AS_load 16 = .ok (.ldc 107, 2) := by decide +kernel
theorem d_AS_load_18 : decode b_AS_load 18 = .ok (.invokespecial 98, 3) := by decide +kernel
theorem d_AS_load_21 : decode b_AS_load 21 = .ok (.athrow, 1) := by decide +kernel
theorem d_AS_load_22 : decode b_AS_load 22 = .ok (.aload_n 0, 1) := by decide +kernel
theorem d_AS_load_23 : decode b_AS_load 23 = .ok (.getfield 19, 3) := by decide +kernel
theorem d_AS_load_26 : decode b_AS_load 26 = .ok (.aload_n 0, 1) := by decide +kernel
theorem d_AS_load_27 : decode b_AS_load 27 = .ok (.getfield 12, 3) := by decide +kernel
theorem d_AS_load_30 : decode b_AS_load 30 = .ok (.getfield 109, 3) := by decide +kernel
theorem d_AS_load_33 : decode b_AS_load 33 = .ok (.putfield 112, 3) := by decide +kernel
theorem d_AS_load_36 : decode b_AS_load 36 = .ok (.aload_n 0, 1) := by decide +kernel
theorem d_AS_load_37 : decode b_AS_load 37 = .ok (.getfield 19, 3) := by decide +kernel
theorem d_AS_load_40 : decode b_AS_load 40 = .ok (.aload_n 0, 1) := by decide +kernel
theorem d_AS_load_41 : decode b_AS_load 41 = .ok (.getfield 12, 3) := by decide +kernel
theorem d_AS_load_44 : decode b_AS_load 44 = .ok (.getfield 113, 3) := by decide +kernel
theorem d_AS_load_47 : decode b_AS_load 47 = .ok (.putfield 116, 3) := by decide +kernel
theorem d_AS_load_50 : decode b_AS_load 50 = .ok (.aload_n 0, 1) := by decide +kernel
theorem d_AS_load_51 : decode b_AS_load 51 = .ok (.getfield 26, 3) := by decide +kernel
theorem d_AS_load_54 : decode b_AS_load 54 = .ok (.aload_n 0, 1) := by decide +kernel
theorem d_AS_load_55 : decode b_AS_load 55 = .ok (.getfield 12, 3) := by decide +kernel
theorem d_AS_load_58 : decode b_AS_load 58 = .ok (.invokevirtual 117, 3) := by decide +kernel
theorem d_AS_load_61 : decode b_AS_load 61 = .ok (.aload_n 0, 1) := by decide +kernel
theorem d_AS_load_62 : decode b_AS_load 62 = .ok (.getfield 19, 3) := by decide +kernel
theorem d_AS_load_65 : decode b_AS_load 65 = .ok (.aload_n 0, 1) := by decide +kernel
theorem d_AS_load_66 : decode b_AS_load 66 = .ok (.getfield 26, 3) := by decide +kernel
theorem d_AS_load_69 : decode b_AS_load 69 = .ok (.getfield 75, 3) := by decide +kernel
theorem d_AS_load_72 : decode b_AS_load 72 = .ok (.invokevirtual 79, 3) := by decide +kernel
theorem d_AS_load_75 : decode b_AS_load 75 = .ok (.aload_n 0, 1) := by decide +kernel
theorem d_AS_load_76 : decode b_AS_load 76 = .ok (.getfield 33, 3) := by decide +kernel
theorem d_AS_load_79 : decode b_AS_load 79 = .ok (.invokevirtual 121, 3) := by decide +kernel
theorem d_AS_load_82 : decode b_AS_load 82 = .ok (.aload_n 0, 1) := by decide +kernel
theorem d_AS_load_83 : decode b_AS_load 83 = .ok (.getfield 40, 3) := by decide +kernel
theorem d_AS_load_86 : decode b_AS_load 86 = .ok (.invokevirtual 124, 3) := by decide +kernel
theorem d_AS_load_89 : decode b_AS_load 89 = .ok (.aload_n 0, 1) := by decide +kernel
theorem d_AS_load_90 : decode b_AS_load 90 = .ok (.getfield 26, 3) := by decide +kernel
theorem d_AS_load_93 : decode b_AS_load 93 = .ok (.getfield 127, 3) := by decide +kernel
theorem d_AS_load_96 : decode b_AS_load 96 = .ok (.ireturn, 1) := by decide +kernel
def rm_AS_load : Room := { frames := 6, cells := 1, slots := 6, locals := 117 }
theorem mf_AS_load : zMV y_AS_load b_AS_load 1 (some .int) 0 := ⟨q584, q585, q1, q586, by decide +kernel⟩
def M_AS_load (p0 : Nat) (h : zH) (K : Int → zH → Prop) (XK : Nat → zH → Prop) : Prop :=
  M_Text_read (p0 + 1) h (fun r_2 h_1 => (r_2 = (-9) → ((∀ h_3 : zH, h_3 = zs h_1 (p0 + 5) 1 (h_1 (p0 + 1) 4) → ((∀ h_4 : zH, h_4 = zs h_3 (p0 + 5) 2 (h_3 (p0 + 1) 5) → (M_State_begin (p0 + 37) (p0 + 1) h_4 (fun h_5 => M_Models_makeAll (p0 + 5) ((p0 + 37) + 1) h_5 (fun h_7 => M_History_forget (p0 + 44) h_7 (fun h_9 => M_Saves_empty (p0 + 144) h_9 (fun h_11 => K (h_11 (p0 + 37) 3) h_11)))))))))) ∧ (r_2 ≠ (-9) → (XK 2 h_1)))
set_option maxRecDepth 100000 in
theorem c_AS_load {l : Launch} (hfl : l.flags = flags0) {g : zG} {n : Nat} {p0 : Nat} (op0 : zO n p0 10) {h : zH} (hh : zh h) {K : Int → zH → Prop} {XK : Nat → zH → Prop} (hv : M_AS_load p0 h K XK) : zMetX l y_AS_load b_AS_load 1 (some .int) rm_AS_load g n [.ref (g.2.2 p0)] h (zPi K) XK := by
  refine zMetX_of hfl (by decide) rfl (Nat.le_of_ble_eq_true rfl) ⟨rfl, rfl, by decide, by decide⟩ (fun Wf m H0 X E T => ?_)
  unfold M_AS_load at hv
  show zW Wf m 1 g n H0 0 [(0, .ref (g.2.2 p0))] [] h
  refine z_aload_n (pc := 0) (q := 0) X d_AS_load_0 rfl ?_
  refine z_getr (pc := 1) (j := 0) (dd := 1) X cf_AS op0 (by decide) q366 rfl rfl d_AS_load_1 ?_
  refine z_callVNi (pc := 4) (As := []) (rest := []) X (fun l hl => c_Text_read hl (gf_AS_0 op0) hh hv) cf_Text (gf_AS_0 op0) rfl mf_Text_read q405 ⟨⟨by decide, by decide⟩, rfl, rfl⟩ rfl d_AS_load_4 rfl (Nat.le_of_ble_eq_true rfl) (fun r_2 h_1 rr_2 zh_1 hv => ?_)
  refine z_bipush (pc := 7) X d_AS_load_7 (by decide) ?_
  refine z_icmp_eq (pc := 9) (tgt := 22) X rr_2 (show zr (-9) from by decide) d_AS_load_9 (by decide) (fun hc => ?_) (fun hc => ?_)
  · replace hv := hv.1 hc
    refine z_aload_n (pc := 22) (q := 0) X d_AS_load_22 rfl ?_
    refine z_getr (pc := 23) (j := 1) (dd := 5) X cf_AS op0 (by decide) q367 rfl rfl d_AS_load_23 ?_
    refine z_aload_n (pc := 26) (q := 0) X d_AS_load_26 rfl ?_
    refine z_getr (pc := 27) (j := 0) (dd := 1) X cf_AS op0 (by decide) q366 rfl rfl d_AS_load_27 ?_
    refine z_getiN (pc := 30) (j := 4) X cf_Text (gf_AS_0 op0) (by decide) q43 rfl rfl d_AS_load_30 ?_
    refine z_putN (pc := 33) (j := 1) X cf_Models (gf_AS_1 op0) (by decide) q117 rfl rfl rfl rfl d_AS_load_33 ?_
    refine z_toph (fun h_3 eh_3 => ?_)
    have zh_3 : zh h_3 := by rw [eh_3]; exact zh_set zh_1 (zO.ne (gf_AS_1 op0) (by decide)) (zh_1.1 _ _ (zO.ne (gf_AS_0 op0) (by decide)))
    replace hv := hv h_3 eh_3
    refine z_aload_n (pc := 36) (q := 0) X d_AS_load_36 rfl ?_
    refine z_getr (pc := 37) (j := 1) (dd := 5) X cf_AS op0 (by decide) q367 rfl rfl d_AS_load_37 ?_
    refine z_aload_n (pc := 40) (q := 0) X d_AS_load_40 rfl ?_
    refine z_getr (pc := 41) (j := 0) (dd := 1) X cf_AS op0 (by decide) q366 rfl rfl d_AS_load_41 ?_
    refine z_getiN (pc := 44) (j := 5) X cf_Text (gf_AS_0 op0) (by decide) q45 rfl rfl d_AS_load_44 ?_
    refine z_putN (pc := 47) (j := 2) X cf_Models (gf_AS_1 op0) (by decide) q119 rfl rfl rfl rfl d_AS_load_47 ?_
    refine z_toph (fun h_4 eh_4 => ?_)
    have zh_4 : zh h_4 := by rw [eh_4]; exact zh_set zh_3 (zO.ne (gf_AS_1 op0) (by decide)) (zh_3.1 _ _ (zO.ne (gf_AS_0 op0) (by decide)))
    replace hv := hv h_4 eh_4
    refine z_aload_n (pc := 50) (q := 0) X d_AS_load_50 rfl ?_
    refine z_getr (pc := 51) (j := 2) (dd := 37) X cf_AS op0 (by decide) q368 rfl rfl d_AS_load_51 ?_
    refine z_aload_n (pc := 54) (q := 0) X d_AS_load_54 rfl ?_
    refine z_getr (pc := 55) (j := 0) (dd := 1) X cf_AS op0 (by decide) q366 rfl rfl d_AS_load_55 ?_
    refine z_callVNv (pc := 58) (As := [.ref (g.2.2 (p0 + 1))]) (rest := []) X (fun l hl => c_State_begin hl (gf_AS_2 op0) (gf_AS_0 op0) zh_4 hv) cf_State (gf_AS_2 op0) rfl mf_State_begin q588 ⟨⟨by decide, by decide⟩, rfl, rfl⟩ rfl d_AS_load_58 rfl (Nat.le_of_ble_eq_true rfl) (fun h_5 zh_5 hv => ?_)
    refine z_aload_n (pc := 61) (q := 0) X d_AS_load_61 rfl ?_
    refine z_getr (pc := 62) (j := 1) (dd := 5) X cf_AS op0 (by decide) q367 rfl rfl d_AS_load_62 ?_
    refine z_aload_n (pc := 65) (q := 0) X d_AS_load_65 rfl ?_
    refine z_getr (pc := 66) (j := 2) (dd := 37) X cf_AS op0 (by decide) q368 rfl rfl d_AS_load_66 ?_
    refine z_getrN (pc := 69) (j := 0) (dd := 1) X cf_State (gf_AS_2 op0) (by decide) q170 rfl rfl d_AS_load_69 ?_
    refine z_callVNv (pc := 72) (As := [.ref (g.2.2 ((p0 + 37) + 1))]) (rest := []) X (fun l hl => c_Models_makeAll hl (gf_AS_1 op0) (gf_State_0 (gf_AS_2 op0)) zh_5 hv) cf_Models (gf_AS_1 op0) rfl mf_Models_makeAll q313 ⟨⟨by decide, by decide⟩, rfl, rfl⟩ rfl d_AS_load_72 rfl (Nat.le_of_ble_eq_true rfl) (fun h_7 zh_7 hv => ?_)
    refine z_aload_n (pc := 75) (q := 0) X d_AS_load_75 rfl ?_
    refine z_getr (pc := 76) (j := 3) (dd := 44) X cf_AS op0 (by decide) q369 rfl rfl d_AS_load_76 ?_
    refine z_callVNv (pc := 79) (As := []) (rest := []) X (fun l hl => c_History_forget hl (gf_AS_3 op0) zh_7 hv) cf_History (gf_AS_3 op0) rfl mf_History_forget q599 ⟨⟨by decide, by decide⟩, rfl, rfl⟩ rfl d_AS_load_79 rfl (Nat.le_of_ble_eq_true rfl) (fun h_9 zh_9 hv => ?_)
    refine z_aload_n (pc := 82) (q := 0) X d_AS_load_82 rfl ?_
    refine z_getr (pc := 83) (j := 4) (dd := 144) X cf_AS op0 (by decide) q370 rfl rfl d_AS_load_83 ?_
    refine z_callVNv (pc := 86) (As := []) (rest := []) X (fun l hl => c_Saves_empty hl (gf_AS_4 op0) zh_9 hv) cf_Saves (gf_AS_4 op0) rfl mf_Saves_empty q603 ⟨⟨by decide, by decide⟩, rfl, rfl⟩ rfl d_AS_load_86 rfl (Nat.le_of_ble_eq_true rfl) (fun h_11 zh_11 hv => ?_)
    refine z_aload_n (pc := 89) (q := 0) X d_AS_load_89 rfl ?_
    refine z_getr (pc := 90) (j := 2) (dd := 37) X cf_AS op0 (by decide) q368 rfl rfl d_AS_load_90 ?_
    refine z_getiN (pc := 93) (j := 3) X cf_State (gf_AS_2 op0) (by decide) q180 rfl rfl d_AS_load_93 ?_
    exact E.2.1 rfl _ _ _ _ d_AS_load_96 ⟨_, rfl, (zh_11.1 _ _ (zO.ne (gf_AS_2 op0) (by decide))), zh_11, hv⟩
  · replace hv := hv.2 hc
    exact T _ _ _ 2 _ _ _ _ _ (by decide +kernel : (2, "java/lang/IllegalStateException", 94, 98) ∈ zExc) zst_107 ⟨d_AS_load_12, d_AS_load_15, Or.inl ⟨d_AS_load_16, d_AS_load_18, d_AS_load_21⟩⟩ zh_1 hv
theorem d_AS_about_0 : decode b_AS_about 0 = .ok (.iload_n 1, 1) := by decide +kernel
theorem d_AS_about_1 : decode b_AS_about 1 = .ok (.tableswitch 142 0 6 #[43, 51, 59, 67, 86, 97, 108], 43) := by decide +kernel
theorem d_AS_about_44 : decode b_AS_about 44 = .ok (.aload_n 0, 1) := by decide +kernel
theorem d_AS_about_45 : decode b_AS_about 45 = .ok (.getfield 19, 3) := by decide +kernel
theorem d_AS_about_48 : decode b_AS_about 48 = .ok (.getfield 112, 3) := by decide +kernel
theorem d_AS_about_51 : decode b_AS_about 51 = .ok (.ireturn, 1) := by decide +kernel
theorem d_AS_about_52 : decode b_AS_about 52 = .ok (.aload_n 0, 1) := by decide +kernel
theorem d_AS_about_53 : decode b_AS_about 53 = .ok (.getfield 19, 3) := by decide +kernel
theorem d_AS_about_56 : decode b_AS_about 56 = .ok (.getfield 116, 3) := by decide +kernel
theorem d_AS_about_59 : decode b_AS_about 59 = .ok (.ireturn, 1) := by decide +kernel
theorem d_AS_about_60 : decode b_AS_about 60 = .ok (.aload_n 0, 1) := by decide +kernel
theorem d_AS_about_61 : decode b_AS_about 61 = .ok (.getfield 26, 3) := by decide +kernel
theorem d_AS_about_64 : decode b_AS_about 64 = .ok (.getfield 127, 3) := by decide +kernel
theorem d_AS_about_67 : decode b_AS_about 67 = .ok (.ireturn, 1) := by decide +kernel
theorem d_AS_about_68 : decode b_AS_about 68 = .ok (.aload_n 0, 1) := by decide +kernel
theorem d_AS_about_69 : decode b_AS_about 69 = .ok (.getfield 47, 3) := by decide +kernel
theorem d_AS_about_72 : decode b_AS_about 72 = .ok (.aload_n 0, 1) := by decide +kernel
theorem d_AS_about_73 : decode b_AS_about 73 = .ok (.getfield 26, 3) := by decide +kernel
theorem d_AS_about_76 : decode b_AS_about 76 = .ok (.invokevirtual 130, 3) := by decide +kernel
theorem d_AS_about_79 : decode b_AS_about 79 = .ok (.aload_n 0, 1) := by decide +kernel
theorem d_AS_about_80 : decode b_AS_about 80 = .ok (.getfield 47, 3) := by decide +kernel
theorem d_AS_about_83 : decode b_AS_about 83 = .ok (.getfield 134, 3) := by decide +kernel
theorem d_AS_about_86 : decode b_AS_about 86 = .ok (.ireturn, 1) := by decide +kernel
theorem d_AS_about_87 : decode b_AS_about 87 = .ok (.aload_n 0, 1) := by decide +kernel
theorem d_AS_about_88 : decode b_AS_about 88 = .ok (.getfield 26, 3) := by decide +kernel
theorem d_AS_about_91 : decode b_AS_about 91 = .ok (.getfield 137, 3) := by decide +kernel
theorem d_AS_about_94 : decode b_AS_about 94 = .ok (.getfield 140, 3) := by decide +kernel
theorem d_AS_about_97 : decode b_AS_about 97 = .ok (.ireturn, 1) := by decide +kernel
theorem d_AS_about_98 : decode b_AS_about 98 = .ok (.aload_n 0, 1) := by decide +kernel
theorem d_AS_about_99 : decode b_AS_about 99 = .ok (.getfield 26, 3) := by decide +kernel
theorem d_AS_about_102 : decode b_AS_about 102 = .ok (.getfield 137, 3) := by decide +kernel
theorem d_AS_about_105 : decode b_AS_about 105 = .ok (.getfield 143, 3) := by decide +kernel
theorem d_AS_about_108 : decode b_AS_about 108 = .ok (.ireturn, 1) := by decide +kernel
theorem d_AS_about_109 : decode b_AS_about 109 = .ok (.aload_n 0, 1) := by decide +kernel
theorem d_AS_about_110 : decode b_AS_about 110 = .ok (.getfield 54, 3) := by decide +kernel
theorem d_AS_about_113 : decode b_AS_about 113 = .ok (.aload_n 0, 1) := by decide +kernel
theorem d_AS_about_114 : decode b_AS_about 114 = .ok (.getfield 26, 3) := by decide +kernel
theorem d_AS_about_117 : decode b_AS_about 117 = .ok (.getfield 137, 3) := by decide +kernel
theorem d_AS_about_120 : decode b_AS_about 120 = .ok (.aload_n 0, 1) := by decide +kernel
theorem d_AS_about_121 : decode b_AS_about 121 = .ok (.getfield 19, 3) := by decide +kernel
theorem d_AS_about_124 : decode b_AS_about 124 = .ok (.invokevirtual 146, 3) := by decide +kernel
theorem d_AS_about_127 : decode b_AS_about 127 = .ok (.aload_n 0, 1) := by decide +kernel
theorem d_AS_about_128 : decode b_AS_about 128 = .ok (.getfield 54, 3) := by decide +kernel
theorem d_AS_about_131 : decode b_AS_about 131 = .ok (.getfield 150, 3) := by decide +kernel
theorem d_AS_about_134 : decode b_AS_about 134 = .ok (.ifCond .eq 7, 3) := by decide +kernel
theorem d_AS_about_137 : decode b_AS_about 137 = .ok (.iconst 1, 1) := by decide +kernel
theorem d_AS_about_138 : decode b_AS_about 138 = .ok (.goto 4, 3) := by decide +kernel
theorem d_AS_about_141 : decode b_AS_about 141 = .ok (.iconst 0, 1) := by decide +kernel
theorem d_AS_about_142 : decode b_AS_about 142 = .ok (.ireturn, 1) := by decide +kernel
theorem d_AS_about_143 : decode b_AS_about 143 = .ok (.new 83, 3) := by decide +kernel
theorem d_AS_about_146 : decode b_AS_about 146 = .ok (.dup, 1) := by decide +kernel
theorem d_AS_about_147 : decode b_AS_about 147 = .ok (.ldc 154, 2) := by decide +kernel
theorem d_AS_about_149 : decode b_AS_about 149 = .ok (.invokespecial 87, 3) := by decide +kernel
theorem d_AS_about_152 : decode b_AS_about 152 = .ok (.athrow, 1) := by decide +kernel
def rm_AS_about : Room := { frames := 6, cells := 1, slots := 6, locals := 90 }
theorem mf_AS_about : zMV y_AS_about b_AS_about 2 (some .int) 1 := ⟨q611, q612, q1, q613, by decide +kernel⟩
def M_AS_about (p0 : Nat) (x1 : Int) (h : zH) (K : Int → zH → Prop) (XK : Nat → zH → Prop) : Prop :=
  ((x1 < 0 ∨ 6 < x1) → (XK 1 h)) ∧ (x1 = 0 → (K (h (p0 + 5) 1) h)) ∧ (x1 = 1 → (K (h (p0 + 5) 2) h)) ∧ (x1 = 2 → (K (h (p0 + 37) 3) h)) ∧ (x1 = 3 → (M_Symbols_list (p0 + 161) (p0 + 37) h (fun h_1 => K (h_1 (p0 + 161) 2) h_1))) ∧ (x1 = 4 → (K (h ((p0 + 37) + 3) 4) h)) ∧ (x1 = 5 → (K (h ((p0 + 37) + 3) 3) h)) ∧ (x1 = 6 → (M_Taking_takeAll (p0 + 164) ((p0 + 37) + 3) (p0 + 5) h (fun h_3 => (h_3 (p0 + 164) 7 = 0 → (K 0 h_3)) ∧ (h_3 (p0 + 164) 7 ≠ 0 → (K 1 h_3)))))
set_option maxRecDepth 100000 in
theorem c_AS_about {l : Launch} (hfl : l.flags = flags0) {g : zG} {n : Nat} {p0 : Nat} {x1 : Int} (op0 : zO n p0 10) (rx1 : zr x1) {h : zH} (hh : zh h) {K : Int → zH → Prop} {XK : Nat → zH → Prop} (hv : M_AS_about p0 x1 h K XK) : zMetX l y_AS_about b_AS_about 2 (some .int) rm_AS_about g n [.ref (g.2.2 p0), zi x1] h (zPi K) XK := by
  refine zMetX_of hfl (by decide) rfl (Nat.le_of_ble_eq_true rfl) ⟨rfl, rfl, by decide, by decide⟩ (fun Wf m H0 X E T => ?_)
  unfold M_AS_about at hv
  show zW Wf m 2 g n H0 0 [(0, .ref (g.2.2 p0)), (1, zi x1)] [] h
  refine z_iload_n (pc := 0) (q := 1) X d_AS_about_0 rfl ?_
  rcases (show (x1 < 0 ∨ 6 < x1) ∨ x1 = 0 ∨ x1 = 1 ∨ x1 = 2 ∨ x1 = 3 ∨ x1 = 4 ∨ x1 = 5 ∨ x1 = 6 by omega) with hc | hc | hc | hc | hc | hc | hc | hc
  · replace hv := hv.1 hc
    refine z_tableOut (pc := 1) (tgt := 143) X rx1 d_AS_about_1 hc (by decide) ?_
    exact T _ _ _ 1 _ _ _ _ _ (by decide +kernel : (1, "java/lang/IllegalArgumentException", 83, 87) ∈ zExc) zst_154 ⟨d_AS_about_143, d_AS_about_146, Or.inl ⟨d_AS_about_147, d_AS_about_149, d_AS_about_152⟩⟩ hh hv
  · replace hv := hv.2.1 hc
    refine z_tableIn (pc := 1) (tgt := 44) (off := 43) X rx1 d_AS_about_1 (by omega) (by omega) (by rw [hc]; rfl) (by decide) ?_
    refine z_aload_n (pc := 44) (q := 0) X d_AS_about_44 rfl ?_
    refine z_getr (pc := 45) (j := 1) (dd := 5) X cf_AS op0 (by decide) q367 rfl rfl d_AS_about_45 ?_
    refine z_getiN (pc := 48) (j := 1) X cf_Models (gf_AS_1 op0) (by decide) q117 rfl rfl d_AS_about_48 ?_
    exact E.2.1 rfl _ _ _ _ d_AS_about_51 ⟨_, rfl, (hh.1 _ _ (zO.ne (gf_AS_1 op0) (by decide))), hh, hv⟩
  · replace hv := hv.2.2.1 hc
    refine z_tableIn (pc := 1) (tgt := 52) (off := 51) X rx1 d_AS_about_1 (by omega) (by omega) (by rw [hc]; rfl) (by decide) ?_
    refine z_aload_n (pc := 52) (q := 0) X d_AS_about_52 rfl ?_
    refine z_getr (pc := 53) (j := 1) (dd := 5) X cf_AS op0 (by decide) q367 rfl rfl d_AS_about_53 ?_
    refine z_getiN (pc := 56) (j := 2) X cf_Models (gf_AS_1 op0) (by decide) q119 rfl rfl d_AS_about_56 ?_
    exact E.2.1 rfl _ _ _ _ d_AS_about_59 ⟨_, rfl, (hh.1 _ _ (zO.ne (gf_AS_1 op0) (by decide))), hh, hv⟩
  · replace hv := hv.2.2.2.1 hc
    refine z_tableIn (pc := 1) (tgt := 60) (off := 59) X rx1 d_AS_about_1 (by omega) (by omega) (by rw [hc]; rfl) (by decide) ?_
    refine z_aload_n (pc := 60) (q := 0) X d_AS_about_60 rfl ?_
    refine z_getr (pc := 61) (j := 2) (dd := 37) X cf_AS op0 (by decide) q368 rfl rfl d_AS_about_61 ?_
    refine z_getiN (pc := 64) (j := 3) X cf_State (gf_AS_2 op0) (by decide) q180 rfl rfl d_AS_about_64 ?_
    exact E.2.1 rfl _ _ _ _ d_AS_about_67 ⟨_, rfl, (hh.1 _ _ (zO.ne (gf_AS_2 op0) (by decide))), hh, hv⟩
  · replace hv := hv.2.2.2.2.1 hc
    refine z_tableIn (pc := 1) (tgt := 68) (off := 67) X rx1 d_AS_about_1 (by omega) (by omega) (by rw [hc]; rfl) (by decide) ?_
    refine z_aload_n (pc := 68) (q := 0) X d_AS_about_68 rfl ?_
    refine z_getr (pc := 69) (j := 5) (dd := 161) X cf_AS op0 (by decide) q371 rfl rfl d_AS_about_69 ?_
    refine z_aload_n (pc := 72) (q := 0) X d_AS_about_72 rfl ?_
    refine z_getr (pc := 73) (j := 2) (dd := 37) X cf_AS op0 (by decide) q368 rfl rfl d_AS_about_73 ?_
    refine z_callVNv (pc := 76) (As := [.ref (g.2.2 (p0 + 37))]) (rest := []) X (fun l hl => c_Symbols_list hl (gf_AS_5 op0) (gf_AS_2 op0) hh hv) cf_Symbols (gf_AS_5 op0) rfl mf_Symbols_list q465 ⟨⟨by decide, by decide⟩, rfl, rfl⟩ rfl d_AS_about_76 rfl (Nat.le_of_ble_eq_true rfl) (fun h_1 zh_1 hv => ?_)
    refine z_aload_n (pc := 79) (q := 0) X d_AS_about_79 rfl ?_
    refine z_getr (pc := 80) (j := 5) (dd := 161) X cf_AS op0 (by decide) q371 rfl rfl d_AS_about_80 ?_
    refine z_getiN (pc := 83) (j := 2) X cf_Symbols (gf_AS_5 op0) (by decide) q240 rfl rfl d_AS_about_83 ?_
    exact E.2.1 rfl _ _ _ _ d_AS_about_86 ⟨_, rfl, (zh_1.1 _ _ (zO.ne (gf_AS_5 op0) (by decide))), zh_1, hv⟩
  · replace hv := hv.2.2.2.2.2.1 hc
    refine z_tableIn (pc := 1) (tgt := 87) (off := 86) X rx1 d_AS_about_1 (by omega) (by omega) (by rw [hc]; rfl) (by decide) ?_
    refine z_aload_n (pc := 87) (q := 0) X d_AS_about_87 rfl ?_
    refine z_getr (pc := 88) (j := 2) (dd := 37) X cf_AS op0 (by decide) q368 rfl rfl d_AS_about_88 ?_
    refine z_getrN (pc := 91) (j := 2) (dd := 3) X cf_State (gf_AS_2 op0) (by decide) q176 rfl rfl d_AS_about_91 ?_
    refine z_getiN (pc := 94) (j := 4) X cf_Tape (gf_State_2 (gf_AS_2 op0)) (by decide) q157 rfl rfl d_AS_about_94 ?_
    exact E.2.1 rfl _ _ _ _ d_AS_about_97 ⟨_, rfl, (hh.1 _ _ (zO.ne (gf_State_2 (gf_AS_2 op0)) (by decide))), hh, hv⟩
  · replace hv := hv.2.2.2.2.2.2.1 hc
    refine z_tableIn (pc := 1) (tgt := 98) (off := 97) X rx1 d_AS_about_1 (by omega) (by omega) (by rw [hc]; rfl) (by decide) ?_
    refine z_aload_n (pc := 98) (q := 0) X d_AS_about_98 rfl ?_
    refine z_getr (pc := 99) (j := 2) (dd := 37) X cf_AS op0 (by decide) q368 rfl rfl d_AS_about_99 ?_
    refine z_getrN (pc := 102) (j := 2) (dd := 3) X cf_State (gf_AS_2 op0) (by decide) q176 rfl rfl d_AS_about_102 ?_
    refine z_getiN (pc := 105) (j := 3) X cf_Tape (gf_State_2 (gf_AS_2 op0)) (by decide) q152 rfl rfl d_AS_about_105 ?_
    exact E.2.1 rfl _ _ _ _ d_AS_about_108 ⟨_, rfl, (hh.1 _ _ (zO.ne (gf_State_2 (gf_AS_2 op0)) (by decide))), hh, hv⟩
  · replace hv := hv.2.2.2.2.2.2.2 hc
    refine z_tableIn (pc := 1) (tgt := 109) (off := 108) X rx1 d_AS_about_1 (by omega) (by omega) (by rw [hc]; rfl) (by decide) ?_
    refine z_aload_n (pc := 109) (q := 0) X d_AS_about_109 rfl ?_
    refine z_getr (pc := 110) (j := 6) (dd := 164) X cf_AS op0 (by decide) q372 rfl rfl d_AS_about_110 ?_
    refine z_aload_n (pc := 113) (q := 0) X d_AS_about_113 rfl ?_
    refine z_getr (pc := 114) (j := 2) (dd := 37) X cf_AS op0 (by decide) q368 rfl rfl d_AS_about_114 ?_
    refine z_getrN (pc := 117) (j := 2) (dd := 3) X cf_State (gf_AS_2 op0) (by decide) q176 rfl rfl d_AS_about_117 ?_
    refine z_aload_n (pc := 120) (q := 0) X d_AS_about_120 rfl ?_
    refine z_getr (pc := 121) (j := 1) (dd := 5) X cf_AS op0 (by decide) q367 rfl rfl d_AS_about_121 ?_
    refine z_callVNv (pc := 124) (As := [.ref (g.2.2 ((p0 + 37) + 3)), .ref (g.2.2 (p0 + 5))]) (rest := []) X (fun l hl => c_Taking_takeAll hl (gf_AS_6 op0) (gf_State_2 (gf_AS_2 op0)) (gf_AS_1 op0) hh hv) cf_Taking (gf_AS_6 op0) rfl mf_Taking_takeAll q441 ⟨⟨by decide, by decide⟩, rfl, rfl⟩ rfl d_AS_about_124 rfl (Nat.le_of_ble_eq_true rfl) (fun h_3 zh_3 hv => ?_)
    refine z_aload_n (pc := 127) (q := 0) X d_AS_about_127 rfl ?_
    refine z_getr (pc := 128) (j := 6) (dd := 164) X cf_AS op0 (by decide) q372 rfl rfl d_AS_about_128 ?_
    refine z_getiN (pc := 131) (j := 7) X cf_Taking (gf_AS_6 op0) (by decide) q270 rfl rfl d_AS_about_131 ?_
    refine z_if_eq (pc := 134) (tgt := 141) X (zh_3.1 _ _ (zO.ne (gf_AS_6 op0) (by decide))) d_AS_about_134 (by decide) (fun hc => ?_) (fun hc => ?_)
    · replace hv := hv.1 hc
      refine z_iconst (pc := 141) X d_AS_about_141 ?_
      exact E.2.1 rfl _ _ _ _ d_AS_about_142 ⟨_, rfl, (show zr 0 from by decide), zh_3, hv⟩
    · replace hv := hv.2 hc
      refine z_iconst (pc := 137) X d_AS_about_137 ?_
      refine z_goto (pc := 138) (tgt := 142) X d_AS_about_138 (by decide) ?_
      exact E.2.1 rfl _ _ _ _ d_AS_about_142 ⟨_, rfl, (show zr 1 from by decide), zh_3, hv⟩
theorem d_AS_symbol_0 : decode b_AS_symbol 0 = .ok (.aload_n 0, 1) := by decide +kernel
theorem d_AS_symbol_1 : decode b_AS_symbol 1 = .ok (.getfield 19, 3) := by decide +kernel
theorem d_AS_symbol_4 : decode b_AS_symbol 4 = .ok (.iload_n 1, 1) := by decide +kernel
theorem d_AS_symbol_5 : decode b_AS_symbol 5 = .ok (.invokevirtual 156, 3) := by decide +kernel
theorem d_AS_symbol_8 : decode b_AS_symbol 8 = .ok (.ifCond .eq 14, 3) := by decide +kernel
theorem d_AS_symbol_11 : decode b_AS_symbol 11 = .ok (.aload_n 0, 1) := by decide +kernel
theorem d_AS_symbol_12 : decode b_AS_symbol 12 = .ok (.getfield 19, 3) := by decide +kernel
theorem d_AS_symbol_15 : decode b_AS_symbol 15 = .ok (.iload_n 2, 1) := by decide +kernel
theorem d_AS_symbol_16 : decode b_AS_symbol 16 = .ok (.invokevirtual 160, 3) := by decide +kernel
theorem d_AS_symbol_19 : decode b_AS_symbol 19 = .ok (.ifCond .ne 13, 3) := by decide +kernel
theorem d_AS_symbol_22 : decode b_AS_symbol 22 = .ok (.new 163, 3) := by decide +kernel
theorem d_AS_symbol_25 : decode b_AS_symbol 25 = .ok (.dup, 1) := by decide +kernel
theorem d_AS_symbol_26 : decode b_AS_symbol 26 = .ok (.ldc 165, 2) := by decide +kernel
theorem d_AS_symbol_28 : decode b_AS_symbol 28 = .ok (.invokespecial 167, 3) := by decide +kernel
theorem d_AS_symbol_31 : decode b_AS_symbol 31 = .ok (.athrow, 1) := by decide +kernel
theorem d_AS_symbol_32 : decode b_AS_symbol 32 = .ok (.iload_n 3, 1) := by decide +kernel
theorem d_AS_symbol_33 : decode b_AS_symbol 33 = .ok (.ifCond .lt 8, 3) := by decide +kernel
theorem d_AS_symbol_36 : decode b_AS_symbol 36 = .ok (.iload_n 3, 1) := by decide +kernel
theorem d_AS_symbol_37 : decode b_AS_symbol 37 = .ok (.iconst 1, 1) := by decide +kernel
theorem d_AS_symbol_38 : decode b_AS_symbol 38 = .ok (.if_icmp .le 13, 3) := by decide +kernel
theorem d_AS_symbol_41 : decode b_AS_symbol 41 = .ok (.new 83, 3) := by decide +kernel
theorem d_AS_symbol_44 : decode b_AS_symbol 44 = .ok (.dup, 1) := by decide +kernel
theorem d_AS_symbol_45 : decode b_AS_symbol 45 = .ok (.ldc 168, 2) := by decide +kernel
theorem d_AS_symbol_47 : decode b_AS_symbol 47 = .ok (.invokespecial 87, 3) := by decide +kernel
theorem d_AS_symbol_50 : decode b_AS_symbol 50 = .ok (.athrow, 1) := by decide +kernel
theorem d_AS_symbol_51 : decode b_AS_symbol 51 = .ok (.iload_n 3, 1) := by decide +kernel
theorem d_AS_symbol_52 : decode b_AS_symbol 52 = .ok (.ifCond .ne 15, 3) := by decide +kernel
theorem d_AS_symbol_55 : decode b_AS_symbol 55 = .ok (.aload_n 0, 1) := by decide +kernel
theorem d_AS_symbol_56 : decode b_AS_symbol 56 = .ok (.getfield 26, 3) := by decide +kernel
theorem d_AS_symbol_59 : decode b_AS_symbol 59 = .ok (.iload_n 1, 1) := by decide +kernel
theorem d_AS_symbol_60 : decode b_AS_symbol 60 = .ok (.iload_n 2, 1) := by decide +kernel
theorem d_AS_symbol_61 : decode b_AS_symbol 61 = .ok (.invokevirtual 170, 3) := by decide +kernel
theorem d_AS_symbol_64 : decode b_AS_symbol 64 = .ok (.goto 15, 3) := by decide +kernel
theorem d_AS_symbol_67 : decode b_AS_symbol 67 = .ok (.aload_n 0, 1) := by decide +kernel
theorem d_AS_symbol_68 : decode b_AS_symbol 68 = .ok (.getfield 19, 3) := by decide +kernel
theorem d_AS_symbol_71 : decode b_AS_symbol 71 = .ok (.iload_n 1, 1) := by decide +kernel
theorem d_AS_symbol_72 : decode b_AS_symbol 72 = .ok (.invokevirtual 174, 3) := by decide +kernel
theorem d_AS_symbol_75 : decode b_AS_symbol 75 = .ok (.iload_n 2, 1) := by decide +kernel
theorem d_AS_symbol_76 : decode b_AS_symbol 76 = .ok (.invokevirtual 178, 3) := by decide +kernel
theorem d_AS_symbol_79 : decode b_AS_symbol 79 = .ok (.ireturn, 1) := by decide +kernel
def rm_AS_symbol : Room := { frames := 6, cells := 1, slots := 6, locals := 90 }
theorem mf_AS_symbol : zMV y_AS_symbol b_AS_symbol 4 (some .int) 3 := ⟨q620, q621, q1, q622, by decide +kernel⟩
def M_AS_symbol (p0 : Nat) (x1 : Int) (x2 : Int) (x3 : Int) (h : zH) (K : Int → zH → Prop) (XK : Nat → zH → Prop) : Prop :=
  M_Models_hasModel (p0 + 5) x1 h (fun r_2 h_1 => (r_2 = 0 → (XK 3 h_1)) ∧ (r_2 ≠ 0 → (M_Models_hasSymbol (p0 + 5) x2 h_1 (fun r_4 h_3 => (r_4 ≠ 0 → ((x3 < 0 → (XK 1 h_3)) ∧ (0 ≤ x3 → ((x3 ≤ 1 → ((x3 ≠ 0 → (M_Models_of (p0 + 5) x1 h_3 (fun p_6 h_5 => M_Model_frequencyOf p_6 x2 h_5 (fun r_8 h_7 => K r_8 h_7)))) ∧ (x3 = 0 → (M_State_countOf (p0 + 37) x1 x2 h_3 (fun r_10 h_9 => K r_10 h_9))))) ∧ (1 < x3 → (XK 1 h_3)))))) ∧ (r_4 = 0 → (XK 3 h_3))))))
set_option maxRecDepth 100000 in
theorem c_AS_symbol {l : Launch} (hfl : l.flags = flags0) {g : zG} {n : Nat} {p0 : Nat} {x1 : Int} {x2 : Int} {x3 : Int} (op0 : zO n p0 10) (rx1 : zr x1) (rx2 : zr x2) (rx3 : zr x3) {h : zH} (hh : zh h) {K : Int → zH → Prop} {XK : Nat → zH → Prop} (hv : M_AS_symbol p0 x1 x2 x3 h K XK) : zMetX l y_AS_symbol b_AS_symbol 4 (some .int) rm_AS_symbol g n [.ref (g.2.2 p0), zi x1, zi x2, zi x3] h (zPi K) XK := by
  refine zMetX_of hfl (by decide) rfl (Nat.le_of_ble_eq_true rfl) ⟨rfl, rfl, by decide, by decide⟩ (fun Wf m H0 X E T => ?_)
  unfold M_AS_symbol at hv
  show zW Wf m 4 g n H0 0 [(0, .ref (g.2.2 p0)), (1, zi x1), (2, zi x2), (3, zi x3)] [] h
  refine z_aload_n (pc := 0) (q := 0) X d_AS_symbol_0 rfl ?_
  refine z_getr (pc := 1) (j := 1) (dd := 5) X cf_AS op0 (by decide) q367 rfl rfl d_AS_symbol_1 ?_
  refine z_iload_n (pc := 4) (q := 1) X d_AS_symbol_4 rfl ?_
  refine z_callVNi (pc := 5) (As := [zi x1]) (rest := []) X (fun l hl => c_Models_hasModel hl (gf_AS_1 op0) rx1 hh hv) cf_Models (gf_AS_1 op0) rfl mf_Models_hasModel q623 ⟨⟨by decide, by decide⟩, rfl, rfl⟩ rfl d_AS_symbol_5 rfl (Nat.le_of_ble_eq_true rfl) (fun r_2 h_1 rr_2 zh_1 hv => ?_)
  refine z_if_eq (pc := 8) (tgt := 22) X rr_2 d_AS_symbol_8 (by decide) (fun hc => ?_) (fun hc => ?_)
  · replace hv := hv.1 hc
    exact T _ _ _ 3 _ _ _ _ _ (by decide +kernel : (3, "java/lang/IndexOutOfBoundsException", 163, 167) ∈ zExc) zst_165 ⟨d_AS_symbol_22, d_AS_symbol_25, Or.inl ⟨d_AS_symbol_26, d_AS_symbol_28, d_AS_symbol_31⟩⟩ zh_1 hv
  · replace hv := hv.2 hc
    refine z_aload_n (pc := 11) (q := 0) X d_AS_symbol_11 rfl ?_
    refine z_getr (pc := 12) (j := 1) (dd := 5) X cf_AS op0 (by decide) q367 rfl rfl d_AS_symbol_12 ?_
    refine z_iload_n (pc := 15) (q := 2) X d_AS_symbol_15 rfl ?_
    refine z_callVNi (pc := 16) (As := [zi x2]) (rest := []) X (fun l hl => c_Models_hasSymbol hl (gf_AS_1 op0) rx2 zh_1 hv) cf_Models (gf_AS_1 op0) rfl mf_Models_hasSymbol q627 ⟨⟨by decide, by decide⟩, rfl, rfl⟩ rfl d_AS_symbol_16 rfl (Nat.le_of_ble_eq_true rfl) (fun r_4 h_3 rr_4 zh_3 hv => ?_)
    refine z_if_ne (pc := 19) (tgt := 32) X rr_4 d_AS_symbol_19 (by decide) (fun hc => ?_) (fun hc => ?_)
    · replace hv := hv.1 hc
      refine z_iload_n (pc := 32) (q := 3) X d_AS_symbol_32 rfl ?_
      refine z_if_lt (pc := 33) (tgt := 41) X rx3 d_AS_symbol_33 (by decide) (fun hc => ?_) (fun hc => ?_)
      · replace hv := hv.1 hc
        exact T _ _ _ 1 _ _ _ _ _ (by decide +kernel : (1, "java/lang/IllegalArgumentException", 83, 87) ∈ zExc) zst_168 ⟨d_AS_symbol_41, d_AS_symbol_44, Or.inl ⟨d_AS_symbol_45, d_AS_symbol_47, d_AS_symbol_50⟩⟩ zh_3 hv
      · replace hv := hv.2 hc
        refine z_iload_n (pc := 36) (q := 3) X d_AS_symbol_36 rfl ?_
        refine z_iconst (pc := 37) X d_AS_symbol_37 ?_
        refine z_icmp_le (pc := 38) (tgt := 51) X rx3 (show zr 1 from by decide) d_AS_symbol_38 (by decide) (fun hc => ?_) (fun hc => ?_)
        · replace hv := hv.1 hc
          refine z_iload_n (pc := 51) (q := 3) X d_AS_symbol_51 rfl ?_
          refine z_if_ne (pc := 52) (tgt := 67) X rx3 d_AS_symbol_52 (by decide) (fun hc => ?_) (fun hc => ?_)
          · replace hv := hv.1 hc
            refine z_aload_n (pc := 67) (q := 0) X d_AS_symbol_67 rfl ?_
            refine z_getr (pc := 68) (j := 1) (dd := 5) X cf_AS op0 (by decide) q367 rfl rfl d_AS_symbol_68 ?_
            refine z_iload_n (pc := 71) (q := 1) X d_AS_symbol_71 rfl ?_
            refine z_callVNr (pc := 72) (As := [zi x1]) (rest := []) X (fun l hl => c_Models_of hl (gf_AS_1 op0) rx1 zh_3 hv) cf_Models (gf_AS_1 op0) rfl mf_Models_of q653 ⟨⟨by decide, by decide⟩, rfl, rfl⟩ rfl d_AS_symbol_72 rfl (Nat.le_of_ble_eq_true rfl) (fun p_6 h_5 op_6 zh_5 hv => ?_)
            refine z_iload_n (pc := 75) (q := 2) X d_AS_symbol_75 rfl ?_
            refine z_callVNi (pc := 76) (As := [zi x2]) (rest := []) X (fun l hl => c_Model_frequencyOf hl op_6 rx2 zh_5 hv) cf_Model op_6 rfl mf_Model_frequencyOf q654 ⟨⟨by decide, by decide⟩, rfl, rfl⟩ rfl d_AS_symbol_76 rfl (Nat.le_of_ble_eq_true rfl) (fun r_8 h_7 rr_8 zh_7 hv => ?_)
            exact E.2.1 rfl _ _ _ _ d_AS_symbol_79 ⟨_, rfl, rr_8, zh_7, hv⟩
          · replace hv := hv.2 hc
            refine z_aload_n (pc := 55) (q := 0) X d_AS_symbol_55 rfl ?_
            refine z_getr (pc := 56) (j := 2) (dd := 37) X cf_AS op0 (by decide) q368 rfl rfl d_AS_symbol_56 ?_
            refine z_iload_n (pc := 59) (q := 1) X d_AS_symbol_59 rfl ?_
            refine z_iload_n (pc := 60) (q := 2) X d_AS_symbol_60 rfl ?_
            refine z_callVNi (pc := 61) (As := [zi x1, zi x2]) (rest := []) X (fun l hl => c_State_countOf hl (gf_AS_2 op0) rx1 rx2 zh_3 hv) cf_State (gf_AS_2 op0) rfl mf_State_countOf q648 ⟨⟨by decide, by decide⟩, rfl, rfl⟩ rfl d_AS_symbol_61 rfl (Nat.le_of_ble_eq_true rfl) (fun r_10 h_9 rr_10 zh_9 hv => ?_)
            refine z_goto (pc := 64) (tgt := 79) X d_AS_symbol_64 (by decide) ?_
            exact E.2.1 rfl _ _ _ _ d_AS_symbol_79 ⟨_, rfl, rr_10, zh_9, hv⟩
        · replace hv := hv.2 hc
          exact T _ _ _ 1 _ _ _ _ _ (by decide +kernel : (1, "java/lang/IllegalArgumentException", 83, 87) ∈ zExc) zst_168 ⟨d_AS_symbol_41, d_AS_symbol_44, Or.inl ⟨d_AS_symbol_45, d_AS_symbol_47, d_AS_symbol_50⟩⟩ zh_3 hv
    · replace hv := hv.2 hc
      exact T _ _ _ 3 _ _ _ _ _ (by decide +kernel : (3, "java/lang/IndexOutOfBoundsException", 163, 167) ∈ zExc) zst_165 ⟨d_AS_symbol_22, d_AS_symbol_25, Or.inl ⟨d_AS_symbol_26, d_AS_symbol_28, d_AS_symbol_31⟩⟩ zh_3 hv
theorem d_AS_bucket_0 : decode b_AS_bucket 0 = .ok (.aload_n 0, 1) := by decide +kernel
theorem d_AS_bucket_1 : decode b_AS_bucket 1 = .ok (.getfield 19, 3) := by decide +kernel
theorem d_AS_bucket_4 : decode b_AS_bucket 4 = .ok (.iload_n 1, 1) := by decide +kernel
theorem d_AS_bucket_5 : decode b_AS_bucket 5 = .ok (.invokevirtual 156, 3) := by decide +kernel
theorem d_AS_bucket_8 : decode b_AS_bucket 8 = .ok (.ifCond .eq 13, 3) := by decide +kernel
theorem d_AS_bucket_11 : decode b_AS_bucket 11 = .ok (.iload_n 2, 1) := by decide +kernel
theorem d_AS_bucket_12 : decode b_AS_bucket 12 = .ok (.ifCond .lt 9, 3) := by decide +kernel
theorem d_AS_bucket_15 : decode b_AS_bucket 15 = .ok (.iload_n 2, 1) := by decide +kernel
theorem d_AS_bucket_16 : decode b_AS_bucket 16 = .ok (.bipush 8, 2) := by decide +kernel
theorem d_AS_bucket_18 : decode b_AS_bucket 18 = .ok (.if_icmp .lt 13, 3) := by decide +kernel
theorem d_AS_bucket_21 : decode b_AS_bucket 21 = .ok (.new 163, 3) := by decide +kernel
theorem d_AS_bucket_24 : decode b_AS_bucket 24 = .ok (.dup, 1) := by decide +kernel
theorem d_AS_bucket_25 : decode b_AS_bucket 25 = .ok (.ldc 184, 2) := by decide +kernel
theorem d_AS_bucket_27 : decode b_AS_bucket 27 = .ok (.invokespecial 167, 3) := by decide +kernel
theorem d_AS_bucket_30 : decode b_AS_bucket 30 = .ok (.athrow, 1) := by decide +kernel
theorem d_AS_bucket_31 : decode b_AS_bucket 31 = .ok (.iload_n 3, 1) := by decide +kernel
theorem d_AS_bucket_32 : decode b_AS_bucket 32 = .ok (.ifCond .lt 8, 3) := by decide +kernel
theorem d_AS_bucket_35 : decode b_AS_bucket 35 = .ok (.iload_n 3, 1) := by decide +kernel
theorem d_AS_bucket_36 : decode b_AS_bucket 36 = .ok (.iconst 1, 1) := by decide +kernel
theorem d_AS_bucket_37 : decode b_AS_bucket 37 = .ok (.if_icmp .le 13, 3) := by decide +kernel
theorem d_AS_bucket_40 : decode b_AS_bucket 40 = .ok (.new 83, 3) := by decide +kernel
theorem d_AS_bucket_43 : decode b_AS_bucket 43 = .ok (.dup, 1) := by decide +kernel
theorem d_AS_bucket_44 : decode b_AS_bucket 44 = .ok (.ldc 168, 2) := by decide +kernel
theorem d_AS_bucket_46 : decode b_AS_bucket 46 = .ok (.invokespecial 87, 3) := by decide +kernel
theorem d_AS_bucket_49 : decode b_AS_bucket 49 = .ok (.athrow, 1) := by decide +kernel
theorem d_AS_bucket_50 : decode b_AS_bucket 50 = .ok (.aload_n 0, 1) := by decide +kernel
theorem d_AS_bucket_51 : decode b_AS_bucket 51 = .ok (.getfield 19, 3) := by decide +kernel
theorem d_AS_bucket_54 : decode b_AS_bucket 54 = .ok (.iload_n 1, 1) := by decide +kernel
theorem d_AS_bucket_55 : decode b_AS_bucket 55 = .ok (.invokevirtual 174, 3) := by decide +kernel
theorem d_AS_bucket_58 : decode b_AS_bucket 58 = .ok (.astore 4, 2) := by decide +kernel
theorem d_AS_bucket_60 : decode b_AS_bucket 60 = .ok (.iload_n 3, 1) := by decide +kernel
theorem d_AS_bucket_61 : decode b_AS_bucket 61 = .ok (.ifCond .ne 13, 3) := by decide +kernel
theorem d_AS_bucket_64 : decode b_AS_bucket 64 = .ok (.aload 4, 2) := by decide +kernel
theorem d_AS_bucket_66 : decode b_AS_bucket 66 = .ok (.getfield 186, 3) := by decide +kernel
theorem d_AS_bucket_69 : decode b_AS_bucket 69 = .ok (.iload_n 2, 1) := by decide +kernel
theorem d_AS_bucket_70 : decode b_AS_bucket 70 = .ok (.iaload, 1) := by decide +kernel
theorem d_AS_bucket_71 : decode b_AS_bucket 71 = .ok (.goto 10, 3) := by decide +kernel
theorem d_AS_bucket_74 : decode b_AS_bucket 74 = .ok (.aload 4, 2) := by decide +kernel
theorem d_AS_bucket_76 : decode b_AS_bucket 76 = .ok (.getfield 189, 3) := by decide +kernel
theorem d_AS_bucket_79 : decode b_AS_bucket 79 = .ok (.iload_n 2, 1) := by decide +kernel
theorem d_AS_bucket_80 : decode b_AS_bucket 80 = .ok (.iaload, 1) := by decide +kernel
theorem d_AS_bucket_81 : decode b_AS_bucket 81 = .ok (.ireturn, 1) := by decide +kernel
def rm_AS_bucket : Room := { frames := 6, cells := 1, slots := 6, locals := 90 }
theorem mf_AS_bucket : zMV y_AS_bucket b_AS_bucket 5 (some .int) 3 := ⟨q659, q660, q1, q661, by decide +kernel⟩
def M_AS_bucket (p0 : Nat) (x1 : Int) (x2 : Int) (x3 : Int) (h : zH) (K : Int → zH → Prop) (XK : Nat → zH → Prop) : Prop :=
  M_Models_hasModel (p0 + 5) x1 h (fun r_2 h_1 => (r_2 = 0 → (XK 3 h_1)) ∧ (r_2 ≠ 0 → ((x2 < 0 → (XK 3 h_1)) ∧ (0 ≤ x2 → ((x2 < 8 → ((x3 < 0 → (XK 1 h_1)) ∧ (0 ≤ x3 → ((x3 ≤ 1 → (M_Models_of (p0 + 5) x1 h_1 (fun p_4 h_3 => (x3 ≠ 0 → ((0 ≤ x2 ∧ x2 < 8) ∧ (K (h_3 (p_4 + 4) x2.toNat) h_3))) ∧ (x3 = 0 → ((0 ≤ x2 ∧ x2 < 8) ∧ (K (h_3 (p_4 + 3) x2.toNat) h_3)))))) ∧ (1 < x3 → (XK 1 h_1)))))) ∧ (8 ≤ x2 → (XK 3 h_1)))))))
set_option maxRecDepth 100000 in
theorem c_AS_bucket {l : Launch} (hfl : l.flags = flags0) {g : zG} {n : Nat} {p0 : Nat} {x1 : Int} {x2 : Int} {x3 : Int} (op0 : zO n p0 10) (rx1 : zr x1) (rx2 : zr x2) (rx3 : zr x3) {h : zH} (hh : zh h) {K : Int → zH → Prop} {XK : Nat → zH → Prop} (hv : M_AS_bucket p0 x1 x2 x3 h K XK) : zMetX l y_AS_bucket b_AS_bucket 5 (some .int) rm_AS_bucket g n [.ref (g.2.2 p0), zi x1, zi x2, zi x3] h (zPi K) XK := by
  refine zMetX_of hfl (by decide) rfl (Nat.le_of_ble_eq_true rfl) ⟨rfl, rfl, by decide, by decide⟩ (fun Wf m H0 X E T => ?_)
  unfold M_AS_bucket at hv
  show zW Wf m 5 g n H0 0 [(0, .ref (g.2.2 p0)), (1, zi x1), (2, zi x2), (3, zi x3)] [] h
  refine z_aload_n (pc := 0) (q := 0) X d_AS_bucket_0 rfl ?_
  refine z_getr (pc := 1) (j := 1) (dd := 5) X cf_AS op0 (by decide) q367 rfl rfl d_AS_bucket_1 ?_
  refine z_iload_n (pc := 4) (q := 1) X d_AS_bucket_4 rfl ?_
  refine z_callVNi (pc := 5) (As := [zi x1]) (rest := []) X (fun l hl => c_Models_hasModel hl (gf_AS_1 op0) rx1 hh hv) cf_Models (gf_AS_1 op0) rfl mf_Models_hasModel q623 ⟨⟨by decide, by decide⟩, rfl, rfl⟩ rfl d_AS_bucket_5 rfl (Nat.le_of_ble_eq_true rfl) (fun r_2 h_1 rr_2 zh_1 hv => ?_)
  refine z_if_eq (pc := 8) (tgt := 21) X rr_2 d_AS_bucket_8 (by decide) (fun hc => ?_) (fun hc => ?_)
  · replace hv := hv.1 hc
    exact T _ _ _ 3 _ _ _ _ _ (by decide +kernel : (3, "java/lang/IndexOutOfBoundsException", 163, 167) ∈ zExc) zst_184 ⟨d_AS_bucket_21, d_AS_bucket_24, Or.inl ⟨d_AS_bucket_25, d_AS_bucket_27, d_AS_bucket_30⟩⟩ zh_1 hv
  · replace hv := hv.2 hc
    refine z_iload_n (pc := 11) (q := 2) X d_AS_bucket_11 rfl ?_
    refine z_if_lt (pc := 12) (tgt := 21) X rx2 d_AS_bucket_12 (by decide) (fun hc => ?_) (fun hc => ?_)
    · replace hv := hv.1 hc
      exact T _ _ _ 3 _ _ _ _ _ (by decide +kernel : (3, "java/lang/IndexOutOfBoundsException", 163, 167) ∈ zExc) zst_184 ⟨d_AS_bucket_21, d_AS_bucket_24, Or.inl ⟨d_AS_bucket_25, d_AS_bucket_27, d_AS_bucket_30⟩⟩ zh_1 hv
    · replace hv := hv.2 hc
      refine z_iload_n (pc := 15) (q := 2) X d_AS_bucket_15 rfl ?_
      refine z_bipush (pc := 16) X d_AS_bucket_16 (by decide) ?_
      refine z_icmp_lt (pc := 18) (tgt := 31) X rx2 (show zr 8 from by decide) d_AS_bucket_18 (by decide) (fun hc => ?_) (fun hc => ?_)
      · replace hv := hv.1 hc
        refine z_iload_n (pc := 31) (q := 3) X d_AS_bucket_31 rfl ?_
        refine z_if_lt (pc := 32) (tgt := 40) X rx3 d_AS_bucket_32 (by decide) (fun hc => ?_) (fun hc => ?_)
        · replace hv := hv.1 hc
          exact T _ _ _ 1 _ _ _ _ _ (by decide +kernel : (1, "java/lang/IllegalArgumentException", 83, 87) ∈ zExc) zst_168 ⟨d_AS_bucket_40, d_AS_bucket_43, Or.inl ⟨d_AS_bucket_44, d_AS_bucket_46, d_AS_bucket_49⟩⟩ zh_1 hv
        · replace hv := hv.2 hc
          refine z_iload_n (pc := 35) (q := 3) X d_AS_bucket_35 rfl ?_
          refine z_iconst (pc := 36) X d_AS_bucket_36 ?_
          refine z_icmp_le (pc := 37) (tgt := 50) X rx3 (show zr 1 from by decide) d_AS_bucket_37 (by decide) (fun hc => ?_) (fun hc => ?_)
          · replace hv := hv.1 hc
            refine z_aload_n (pc := 50) (q := 0) X d_AS_bucket_50 rfl ?_
            refine z_getr (pc := 51) (j := 1) (dd := 5) X cf_AS op0 (by decide) q367 rfl rfl d_AS_bucket_51 ?_
            refine z_iload_n (pc := 54) (q := 1) X d_AS_bucket_54 rfl ?_
            refine z_callVNr (pc := 55) (As := [zi x1]) (rest := []) X (fun l hl => c_Models_of hl (gf_AS_1 op0) rx1 zh_1 hv) cf_Models (gf_AS_1 op0) rfl mf_Models_of q653 ⟨⟨by decide, by decide⟩, rfl, rfl⟩ rfl d_AS_bucket_55 rfl (Nat.le_of_ble_eq_true rfl) (fun p_4 h_3 op_4 zh_3 hv => ?_)
            refine z_astore (pc := 58) (lv' := [(4, .ref (g.2.2 p_4)), (0, .ref (g.2.2 p0)), (1, zi x1), (2, zi x2), (3, zi x3)]) X d_AS_bucket_58 (by decide) rfl ?_
            refine z_iload_n (pc := 60) (q := 4) X d_AS_bucket_60 rfl ?_
            refine z_if_ne (pc := 61) (tgt := 74) X rx3 d_AS_bucket_61 (by decide) (fun hc => ?_) (fun hc => ?_)
            · replace hv := hv.1 hc
              refine z_aload (pc := 74) (q := 0) X d_AS_bucket_74 rfl ?_
              refine z_getrN (pc := 76) (j := 3) (dd := 4) X cf_Model op_4 (by decide) q85 rfl rfl d_AS_bucket_76 ?_
              refine z_iload_n (pc := 79) (q := 3) X d_AS_bucket_79 rfl ?_
              obtain ⟨v_5, hv⟩ := hv
              refine z_ialdj (pc := 80) (j := x2.toNat) X (gf_Model_3 op_4) (gl_Model_3 op_4) rx2 v_5 rfl d_AS_bucket_80 ?_
              exact E.2.1 rfl _ _ _ _ d_AS_bucket_81 ⟨_, rfl, (zh_3.1 _ _ (zO.ne (gf_Model_3 op_4) (by decide))), zh_3, hv⟩
            · replace hv := hv.2 hc
              refine z_aload (pc := 64) (q := 0) X d_AS_bucket_64 rfl ?_
              refine z_getrN (pc := 66) (j := 2) (dd := 3) X cf_Model op_4 (by decide) q83 rfl rfl d_AS_bucket_66 ?_
              refine z_iload_n (pc := 69) (q := 3) X d_AS_bucket_69 rfl ?_
              obtain ⟨v_6, hv⟩ := hv
              refine z_ialdj (pc := 70) (j := x2.toNat) X (gf_Model_2 op_4) (gl_Model_2 op_4) rx2 v_6 rfl d_AS_bucket_70 ?_
              refine z_goto (pc := 71) (tgt := 81) X d_AS_bucket_71 (by decide) ?_
              exact E.2.1 rfl _ _ _ _ d_AS_bucket_81 ⟨_, rfl, (zh_3.1 _ _ (zO.ne (gf_Model_2 op_4) (by decide))), zh_3, hv⟩
          · replace hv := hv.2 hc
            exact T _ _ _ 1 _ _ _ _ _ (by decide +kernel : (1, "java/lang/IllegalArgumentException", 83, 87) ∈ zExc) zst_168 ⟨d_AS_bucket_40, d_AS_bucket_43, Or.inl ⟨d_AS_bucket_44, d_AS_bucket_46, d_AS_bucket_49⟩⟩ zh_1 hv
      · replace hv := hv.2 hc
        exact T _ _ _ 3 _ _ _ _ _ (by decide +kernel : (3, "java/lang/IndexOutOfBoundsException", 163, 167) ∈ zExc) zst_184 ⟨d_AS_bucket_21, d_AS_bucket_24, Or.inl ⟨d_AS_bucket_25, d_AS_bucket_27, d_AS_bucket_30⟩⟩ zh_1 hv
theorem d_AS_slot_0 : decode b_AS_slot 0 = .ok (.aload_n 0, 1) := by decide +kernel
theorem d_AS_slot_1 : decode b_AS_slot 1 = .ok (.getfield 19, 3) := by decide +kernel
theorem d_AS_slot_4 : decode b_AS_slot 4 = .ok (.iload_n 1, 1) := by decide +kernel
theorem d_AS_slot_5 : decode b_AS_slot 5 = .ok (.invokevirtual 156, 3) := by decide +kernel
theorem d_AS_slot_8 : decode b_AS_slot 8 = .ok (.ifCond .eq 13, 3) := by decide +kernel
theorem d_AS_slot_11 : decode b_AS_slot 11 = .ok (.iload_n 2, 1) := by decide +kernel
theorem d_AS_slot_12 : decode b_AS_slot 12 = .ok (.ifCond .lt 9, 3) := by decide +kernel
theorem d_AS_slot_15 : decode b_AS_slot 15 = .ok (.iload_n 2, 1) := by decide +kernel
theorem d_AS_slot_16 : decode b_AS_slot 16 = .ok (.bipush 32, 2) := by decide +kernel
theorem d_AS_slot_18 : decode b_AS_slot 18 = .ok (.if_icmp .lt 13, 3) := by decide +kernel
theorem d_AS_slot_21 : decode b_AS_slot 21 = .ok (.new 163, 3) := by decide +kernel
theorem d_AS_slot_24 : decode b_AS_slot 24 = .ok (.dup, 1) := by decide +kernel
theorem d_AS_slot_25 : decode b_AS_slot 25 = .ok (.ldc 192, 2) := by decide +kernel
theorem d_AS_slot_27 : decode b_AS_slot 27 = .ok (.invokespecial 167, 3) := by decide +kernel
theorem d_AS_slot_30 : decode b_AS_slot 30 = .ok (.athrow, 1) := by decide +kernel
theorem d_AS_slot_31 : decode b_AS_slot 31 = .ok (.iload_n 3, 1) := by decide +kernel
theorem d_AS_slot_32 : decode b_AS_slot 32 = .ok (.ifCond .lt 8, 3) := by decide +kernel
theorem d_AS_slot_35 : decode b_AS_slot 35 = .ok (.iload_n 3, 1) := by decide +kernel
theorem d_AS_slot_36 : decode b_AS_slot 36 = .ok (.iconst 1, 1) := by decide +kernel
theorem d_AS_slot_37 : decode b_AS_slot 37 = .ok (.if_icmp .le 13, 3) := by decide +kernel
theorem d_AS_slot_40 : decode b_AS_slot 40 = .ok (.new 83, 3) := by decide +kernel
theorem d_AS_slot_43 : decode b_AS_slot 43 = .ok (.dup, 1) := by decide +kernel
theorem d_AS_slot_44 : decode b_AS_slot 44 = .ok (.ldc 168, 2) := by decide +kernel
theorem d_AS_slot_46 : decode b_AS_slot 46 = .ok (.invokespecial 87, 3) := by decide +kernel
theorem d_AS_slot_49 : decode b_AS_slot 49 = .ok (.athrow, 1) := by decide +kernel
theorem d_AS_slot_50 : decode b_AS_slot 50 = .ok (.aload_n 0, 1) := by decide +kernel
theorem d_AS_slot_51 : decode b_AS_slot 51 = .ok (.getfield 19, 3) := by decide +kernel
theorem d_AS_slot_54 : decode b_AS_slot 54 = .ok (.iload_n 1, 1) := by decide +kernel
theorem d_AS_slot_55 : decode b_AS_slot 55 = .ok (.invokevirtual 174, 3) := by decide +kernel
theorem d_AS_slot_58 : decode b_AS_slot 58 = .ok (.astore 4, 2) := by decide +kernel
theorem d_AS_slot_60 : decode b_AS_slot 60 = .ok (.iload_n 3, 1) := by decide +kernel
theorem d_AS_slot_61 : decode b_AS_slot 61 = .ok (.ifCond .ne 13, 3) := by decide +kernel
theorem d_AS_slot_64 : decode b_AS_slot 64 = .ok (.aload 4, 2) := by decide +kernel
theorem d_AS_slot_66 : decode b_AS_slot 66 = .ok (.getfield 194, 3) := by decide +kernel
theorem d_AS_slot_69 : decode b_AS_slot 69 = .ok (.iload_n 2, 1) := by decide +kernel
theorem d_AS_slot_70 : decode b_AS_slot 70 = .ok (.iaload, 1) := by decide +kernel
theorem d_AS_slot_71 : decode b_AS_slot 71 = .ok (.goto 10, 3) := by decide +kernel
theorem d_AS_slot_74 : decode b_AS_slot 74 = .ok (.aload 4, 2) := by decide +kernel
theorem d_AS_slot_76 : decode b_AS_slot 76 = .ok (.getfield 197, 3) := by decide +kernel
theorem d_AS_slot_79 : decode b_AS_slot 79 = .ok (.iload_n 2, 1) := by decide +kernel
theorem d_AS_slot_80 : decode b_AS_slot 80 = .ok (.iaload, 1) := by decide +kernel
theorem d_AS_slot_81 : decode b_AS_slot 81 = .ok (.ireturn, 1) := by decide +kernel
def rm_AS_slot : Room := { frames := 6, cells := 1, slots := 6, locals := 90 }
theorem mf_AS_slot : zMV y_AS_slot b_AS_slot 5 (some .int) 3 := ⟨q667, q668, q1, q669, by decide +kernel⟩
def M_AS_slot (p0 : Nat) (x1 : Int) (x2 : Int) (x3 : Int) (h : zH) (K : Int → zH → Prop) (XK : Nat → zH → Prop) : Prop :=
  M_Models_hasModel (p0 + 5) x1 h (fun r_2 h_1 => (r_2 = 0 → (XK 3 h_1)) ∧ (r_2 ≠ 0 → ((x2 < 0 → (XK 3 h_1)) ∧ (0 ≤ x2 → ((x2 < 32 → ((x3 < 0 → (XK 1 h_1)) ∧ (0 ≤ x3 → ((x3 ≤ 1 → (M_Models_of (p0 + 5) x1 h_1 (fun p_4 h_3 => (x3 ≠ 0 → ((0 ≤ x2 ∧ x2 < 32) ∧ (K (h_3 (p_4 + 7) x2.toNat) h_3))) ∧ (x3 = 0 → ((0 ≤ x2 ∧ x2 < 32) ∧ (K (h_3 (p_4 + 6) x2.toNat) h_3)))))) ∧ (1 < x3 → (XK 1 h_1)))))) ∧ (32 ≤ x2 → (XK 3 h_1)))))))
set_option maxRecDepth 100000 in
theorem c_AS_slot {l : Launch} (hfl : l.flags = flags0) {g : zG} {n : Nat} {p0 : Nat} {x1 : Int} {x2 : Int} {x3 : Int} (op0 : zO n p0 10) (rx1 : zr x1) (rx2 : zr x2) (rx3 : zr x3) {h : zH} (hh : zh h) {K : Int → zH → Prop} {XK : Nat → zH → Prop} (hv : M_AS_slot p0 x1 x2 x3 h K XK) : zMetX l y_AS_slot b_AS_slot 5 (some .int) rm_AS_slot g n [.ref (g.2.2 p0), zi x1, zi x2, zi x3] h (zPi K) XK := by
  refine zMetX_of hfl (by decide) rfl (Nat.le_of_ble_eq_true rfl) ⟨rfl, rfl, by decide, by decide⟩ (fun Wf m H0 X E T => ?_)
  unfold M_AS_slot at hv
  show zW Wf m 5 g n H0 0 [(0, .ref (g.2.2 p0)), (1, zi x1), (2, zi x2), (3, zi x3)] [] h
  refine z_aload_n (pc := 0) (q := 0) X d_AS_slot_0 rfl ?_
  refine z_getr (pc := 1) (j := 1) (dd := 5) X cf_AS op0 (by decide) q367 rfl rfl d_AS_slot_1 ?_
  refine z_iload_n (pc := 4) (q := 1) X d_AS_slot_4 rfl ?_
  refine z_callVNi (pc := 5) (As := [zi x1]) (rest := []) X (fun l hl => c_Models_hasModel hl (gf_AS_1 op0) rx1 hh hv) cf_Models (gf_AS_1 op0) rfl mf_Models_hasModel q623 ⟨⟨by decide, by decide⟩, rfl, rfl⟩ rfl d_AS_slot_5 rfl (Nat.le_of_ble_eq_true rfl) (fun r_2 h_1 rr_2 zh_1 hv => ?_)
  refine z_if_eq (pc := 8) (tgt := 21) X rr_2 d_AS_slot_8 (by decide) (fun hc => ?_) (fun hc => ?_)
  · replace hv := hv.1 hc
    exact T _ _ _ 3 _ _ _ _ _ (by decide +kernel : (3, "java/lang/IndexOutOfBoundsException", 163, 167) ∈ zExc) zst_192 ⟨d_AS_slot_21, d_AS_slot_24, Or.inl ⟨d_AS_slot_25, d_AS_slot_27, d_AS_slot_30⟩⟩ zh_1 hv
  · replace hv := hv.2 hc
    refine z_iload_n (pc := 11) (q := 2) X d_AS_slot_11 rfl ?_
    refine z_if_lt (pc := 12) (tgt := 21) X rx2 d_AS_slot_12 (by decide) (fun hc => ?_) (fun hc => ?_)
    · replace hv := hv.1 hc
      exact T _ _ _ 3 _ _ _ _ _ (by decide +kernel : (3, "java/lang/IndexOutOfBoundsException", 163, 167) ∈ zExc) zst_192 ⟨d_AS_slot_21, d_AS_slot_24, Or.inl ⟨d_AS_slot_25, d_AS_slot_27, d_AS_slot_30⟩⟩ zh_1 hv
    · replace hv := hv.2 hc
      refine z_iload_n (pc := 15) (q := 2) X d_AS_slot_15 rfl ?_
      refine z_bipush (pc := 16) X d_AS_slot_16 (by decide) ?_
      refine z_icmp_lt (pc := 18) (tgt := 31) X rx2 (show zr 32 from by decide) d_AS_slot_18 (by decide) (fun hc => ?_) (fun hc => ?_)
      · replace hv := hv.1 hc
        refine z_iload_n (pc := 31) (q := 3) X d_AS_slot_31 rfl ?_
        refine z_if_lt (pc := 32) (tgt := 40) X rx3 d_AS_slot_32 (by decide) (fun hc => ?_) (fun hc => ?_)
        · replace hv := hv.1 hc
          exact T _ _ _ 1 _ _ _ _ _ (by decide +kernel : (1, "java/lang/IllegalArgumentException", 83, 87) ∈ zExc) zst_168 ⟨d_AS_slot_40, d_AS_slot_43, Or.inl ⟨d_AS_slot_44, d_AS_slot_46, d_AS_slot_49⟩⟩ zh_1 hv
        · replace hv := hv.2 hc
          refine z_iload_n (pc := 35) (q := 3) X d_AS_slot_35 rfl ?_
          refine z_iconst (pc := 36) X d_AS_slot_36 ?_
          refine z_icmp_le (pc := 37) (tgt := 50) X rx3 (show zr 1 from by decide) d_AS_slot_37 (by decide) (fun hc => ?_) (fun hc => ?_)
          · replace hv := hv.1 hc
            refine z_aload_n (pc := 50) (q := 0) X d_AS_slot_50 rfl ?_
            refine z_getr (pc := 51) (j := 1) (dd := 5) X cf_AS op0 (by decide) q367 rfl rfl d_AS_slot_51 ?_
            refine z_iload_n (pc := 54) (q := 1) X d_AS_slot_54 rfl ?_
            refine z_callVNr (pc := 55) (As := [zi x1]) (rest := []) X (fun l hl => c_Models_of hl (gf_AS_1 op0) rx1 zh_1 hv) cf_Models (gf_AS_1 op0) rfl mf_Models_of q653 ⟨⟨by decide, by decide⟩, rfl, rfl⟩ rfl d_AS_slot_55 rfl (Nat.le_of_ble_eq_true rfl) (fun p_4 h_3 op_4 zh_3 hv => ?_)
            refine z_astore (pc := 58) (lv' := [(4, .ref (g.2.2 p_4)), (0, .ref (g.2.2 p0)), (1, zi x1), (2, zi x2), (3, zi x3)]) X d_AS_slot_58 (by decide) rfl ?_
            refine z_iload_n (pc := 60) (q := 4) X d_AS_slot_60 rfl ?_
            refine z_if_ne (pc := 61) (tgt := 74) X rx3 d_AS_slot_61 (by decide) (fun hc => ?_) (fun hc => ?_)
            · replace hv := hv.1 hc
              refine z_aload (pc := 74) (q := 0) X d_AS_slot_74 rfl ?_
              refine z_getrN (pc := 76) (j := 6) (dd := 7) X cf_Model op_4 (by decide) q92 rfl rfl d_AS_slot_76 ?_
              refine z_iload_n (pc := 79) (q := 3) X d_AS_slot_79 rfl ?_
              obtain ⟨v_5, hv⟩ := hv
              refine z_ialdj (pc := 80) (j := x2.toNat) X (gf_Model_6 op_4) (gl_Model_6 op_4) rx2 v_5 rfl d_AS_slot_80 ?_
              exact E.2.1 rfl _ _ _ _ d_AS_slot_81 ⟨_, rfl, (zh_3.1 _ _ (zO.ne (gf_Model_6 op_4) (by decide))), zh_3, hv⟩
            · replace hv := hv.2 hc
              refine z_aload (pc := 64) (q := 0) X d_AS_slot_64 rfl ?_
              refine z_getrN (pc := 66) (j := 5) (dd := 6) X cf_Model op_4 (by decide) q89 rfl rfl d_AS_slot_66 ?_
              refine z_iload_n (pc := 69) (q := 3) X d_AS_slot_69 rfl ?_
              obtain ⟨v_6, hv⟩ := hv
              refine z_ialdj (pc := 70) (j := x2.toNat) X (gf_Model_5 op_4) (gl_Model_5 op_4) rx2 v_6 rfl d_AS_slot_70 ?_
              refine z_goto (pc := 71) (tgt := 81) X d_AS_slot_71 (by decide) ?_
              exact E.2.1 rfl _ _ _ _ d_AS_slot_81 ⟨_, rfl, (zh_3.1 _ _ (zO.ne (gf_Model_5 op_4) (by decide))), zh_3, hv⟩
          · replace hv := hv.2 hc
            exact T _ _ _ 1 _ _ _ _ _ (by decide +kernel : (1, "java/lang/IllegalArgumentException", 83, 87) ∈ zExc) zst_168 ⟨d_AS_slot_40, d_AS_slot_43, Or.inl ⟨d_AS_slot_44, d_AS_slot_46, d_AS_slot_49⟩⟩ zh_1 hv
      · replace hv := hv.2 hc
        exact T _ _ _ 3 _ _ _ _ _ (by decide +kernel : (3, "java/lang/IndexOutOfBoundsException", 163, 167) ∈ zExc) zst_192 ⟨d_AS_slot_21, d_AS_slot_24, Or.inl ⟨d_AS_slot_25, d_AS_slot_27, d_AS_slot_30⟩⟩ zh_1 hv
theorem d_AS_item_0 : decode b_AS_item 0 = .ok (.aload_n 0, 1) := by decide +kernel
theorem d_AS_item_1 : decode b_AS_item 1 = .ok (.getfield 26, 3) := by decide +kernel
theorem d_AS_item_4 : decode b_AS_item 4 = .ok (.iload_n 1, 1) := by decide +kernel
theorem d_AS_item_5 : decode b_AS_item 5 = .ok (.invokevirtual 200, 3) := by decide +kernel
theorem d_AS_item_8 : decode b_AS_item 8 = .ok (.ifCond .ne 13, 3) := by decide +kernel
theorem d_AS_item_11 : decode b_AS_item 11 = .ok (.new 163, 3) := by decide +kernel
theorem d_AS_item_14 : decode b_AS_item 14 = .ok (.dup, 1) := by decide +kernel
theorem d_AS_item_15 : decode b_AS_item 15 = .ok (.ldc 203, 2) := by decide +kernel
theorem d_AS_item_17 : decode b_AS_item 17 = .ok (.invokespecial 167, 3) := by decide +kernel
theorem d_AS_item_20 : decode b_AS_item 20 = .ok (.athrow, 1) := by decide +kernel
theorem d_AS_item_21 : decode b_AS_item 21 = .ok (.aload_n 0, 1) := by decide +kernel
theorem d_AS_item_22 : decode b_AS_item 22 = .ok (.getfield 26, 3) := by decide +kernel
theorem d_AS_item_25 : decode b_AS_item 25 = .ok (.getfield 205, 3) := by decide +kernel
theorem d_AS_item_28 : decode b_AS_item 28 = .ok (.iload_n 1, 1) := by decide +kernel
theorem d_AS_item_29 : decode b_AS_item 29 = .ok (.iaload, 1) := by decide +kernel
theorem d_AS_item_30 : decode b_AS_item 30 = .ok (.ireturn, 1) := by decide +kernel
def rm_AS_item : Room := { frames := 6, cells := 1, slots := 6, locals := 90 }
theorem mf_AS_item : zMV y_AS_item b_AS_item 2 (some .int) 1 := ⟨q675, q676, q1, q677, by decide +kernel⟩
def M_AS_item (p0 : Nat) (x1 : Int) (h : zH) (K : Int → zH → Prop) (XK : Nat → zH → Prop) : Prop :=
  M_State_hasItem (p0 + 37) x1 h (fun r_2 h_1 => (r_2 ≠ 0 → ((0 ≤ x1 ∧ x1 < 40) ∧ (K (h_1 ((p0 + 37) + 2) x1.toNat) h_1))) ∧ (r_2 = 0 → (XK 3 h_1)))
set_option maxRecDepth 100000 in
theorem c_AS_item {l : Launch} (hfl : l.flags = flags0) {g : zG} {n : Nat} {p0 : Nat} {x1 : Int} (op0 : zO n p0 10) (rx1 : zr x1) {h : zH} (hh : zh h) {K : Int → zH → Prop} {XK : Nat → zH → Prop} (hv : M_AS_item p0 x1 h K XK) : zMetX l y_AS_item b_AS_item 2 (some .int) rm_AS_item g n [.ref (g.2.2 p0), zi x1] h (zPi K) XK := by
  refine zMetX_of hfl (by decide) rfl (Nat.le_of_ble_eq_true rfl) ⟨rfl, rfl, by decide, by decide⟩ (fun Wf m H0 X E T => ?_)
  unfold M_AS_item at hv
  show zW Wf m 2 g n H0 0 [(0, .ref (g.2.2 p0)), (1, zi x1)] [] h
  refine z_aload_n (pc := 0) (q := 0) X d_AS_item_0 rfl ?_
  refine z_getr (pc := 1) (j := 2) (dd := 37) X cf_AS op0 (by decide) q368 rfl rfl d_AS_item_1 ?_
  refine z_iload_n (pc := 4) (q := 1) X d_AS_item_4 rfl ?_
  refine z_callVNi (pc := 5) (As := [zi x1]) (rest := []) X (fun l hl => c_State_hasItem hl (gf_AS_2 op0) rx1 hh hv) cf_State (gf_AS_2 op0) rfl mf_State_hasItem q678 ⟨⟨by decide, by decide⟩, rfl, rfl⟩ rfl d_AS_item_5 rfl (Nat.le_of_ble_eq_true rfl) (fun r_2 h_1 rr_2 zh_1 hv => ?_)
  refine z_if_ne (pc := 8) (tgt := 21) X rr_2 d_AS_item_8 (by decide) (fun hc => ?_) (fun hc => ?_)
  · replace hv := hv.1 hc
    refine z_aload_n (pc := 21) (q := 0) X d_AS_item_21 rfl ?_
    refine z_getr (pc := 22) (j := 2) (dd := 37) X cf_AS op0 (by decide) q368 rfl rfl d_AS_item_22 ?_
    refine z_getrN (pc := 25) (j := 1) (dd := 2) X cf_State (gf_AS_2 op0) (by decide) q173 rfl rfl d_AS_item_25 ?_
    refine z_iload_n (pc := 28) (q := 1) X d_AS_item_28 rfl ?_
    obtain ⟨v_3, hv⟩ := hv
    refine z_ialdj (pc := 29) (j := x1.toNat) X (gf_State_1 (gf_AS_2 op0)) (gl_State_1 (gf_AS_2 op0)) rx1 v_3 rfl d_AS_item_29 ?_
    exact E.2.1 rfl _ _ _ _ d_AS_item_30 ⟨_, rfl, (zh_1.1 _ _ (zO.ne (gf_State_1 (gf_AS_2 op0)) (by decide))), zh_1, hv⟩
  · replace hv := hv.2 hc
    exact T _ _ _ 3 _ _ _ _ _ (by decide +kernel : (3, "java/lang/IndexOutOfBoundsException", 163, 167) ∈ zExc) zst_203 ⟨d_AS_item_11, d_AS_item_14, Or.inl ⟨d_AS_item_15, d_AS_item_17, d_AS_item_20⟩⟩ zh_1 hv
theorem d_AS_tape_0 : decode b_AS_tape 0 = .ok (.iload_n 1, 1) := by decide +kernel
theorem d_AS_tape_1 : decode b_AS_tape 1 = .ok (.ifCond .lt 8, 3) := by decide +kernel
theorem d_AS_tape_4 : decode b_AS_tape 4 = .ok (.iload_n 1, 1) := by decide +kernel
theorem d_AS_tape_5 : decode b_AS_tape 5 = .ok (.iconst 2, 1) := by decide +kernel
theorem d_AS_tape_6 : decode b_AS_tape 6 = .ok (.if_icmp .le 13, 3) := by decide +kernel
theorem d_AS_tape_9 : decode b_AS_tape 9 = .ok (.new 83, 3) := by decide +kernel
theorem d_AS_tape_12 : decode b_AS_tape 12 = .ok (.dup, 1) := by decide +kernel
theorem d_AS_tape_13 : decode b_AS_tape 13 = .ok (.ldc 208, 2) := by decide +kernel
theorem d_AS_tape_15 : decode b_AS_tape 15 = .ok (.invokespecial 87, 3) := by decide +kernel
theorem d_AS_tape_18 : decode b_AS_tape 18 = .ok (.athrow, 1) := by decide +kernel
theorem d_AS_tape_19 : decode b_AS_tape 19 = .ok (.aload_n 0, 1) := by decide +kernel
theorem d_AS_tape_20 : decode b_AS_tape 20 = .ok (.getfield 26, 3) := by decide +kernel
theorem d_AS_tape_23 : decode b_AS_tape 23 = .ok (.getfield 137, 3) := by decide +kernel
theorem d_AS_tape_26 : decode b_AS_tape 26 = .ok (.astore_n 3, 1) := by decide +kernel
theorem d_AS_tape_27 : decode b_AS_tape 27 = .ok (.iload_n 1, 1) := by decide +kernel
theorem d_AS_tape_28 : decode b_AS_tape 28 = .ok (.ifCond .ne 18, 3) := by decide +kernel
theorem d_AS_tape_31 : decode b_AS_tape 31 = .ok (.aload_n 3, 1) := by decide +kernel
theorem d_AS_tape_32 : decode b_AS_tape 32 = .ok (.iload_n 2, 1) := by decide +kernel
theorem d_AS_tape_33 : decode b_AS_tape 33 = .ok (.invokevirtual 210, 3) := by decide +kernel
theorem d_AS_tape_36 : decode b_AS_tape 36 = .ok (.ifCond .eq 10, 3) := by decide +kernel
theorem d_AS_tape_39 : decode b_AS_tape 39 = .ok (.aload_n 3, 1) := by decide +kernel
theorem d_AS_tape_40 : decode b_AS_tape 40 = .ok (.getfield 213, 3) := by decide +kernel
theorem d_AS_tape_43 : decode b_AS_tape 43 = .ok (.iload_n 2, 1) := by decide +kernel
theorem d_AS_tape_44 : decode b_AS_tape 44 = .ok (.iaload, 1) := by decide +kernel
theorem d_AS_tape_45 : decode b_AS_tape 45 = .ok (.ireturn, 1) := by decide +kernel
theorem d_AS_tape_46 : decode b_AS_tape 46 = .ok (.iload_n 1, 1) := by decide +kernel
theorem d_AS_tape_47 : decode b_AS_tape 47 = .ok (.iconst 1, 1) := by decide +kernel
theorem d_AS_tape_48 : decode b_AS_tape 48 = .ok (.if_icmp .ne 18, 3) := by decide +kernel
theorem d_AS_tape_51 : decode b_AS_tape 51 = .ok (.aload_n 3, 1) := by decide +kernel
theorem d_AS_tape_52 : decode b_AS_tape 52 = .ok (.iload_n 2, 1) := by decide +kernel
theorem d_AS_tape_53 : decode b_AS_tape 53 = .ok (.invokevirtual 216, 3) := by decide +kernel
theorem d_AS_tape_56 : decode b_AS_tape 56 = .ok (.ifCond .eq 10, 3) := by decide +kernel
theorem d_AS_tape_59 : decode b_AS_tape 59 = .ok (.aload_n 3, 1) := by decide +kernel
theorem d_AS_tape_60 : decode b_AS_tape 60 = .ok (.getfield 219, 3) := by decide +kernel
theorem d_AS_tape_63 : decode b_AS_tape 63 = .ok (.iload_n 2, 1) := by decide +kernel
theorem d_AS_tape_64 : decode b_AS_tape 64 = .ok (.iaload, 1) := by decide +kernel
theorem d_AS_tape_65 : decode b_AS_tape 65 = .ok (.ireturn, 1) := by decide +kernel
theorem d_AS_tape_66 : decode b_AS_tape 66 = .ok (.iload_n 1, 1) := by decide +kernel
theorem d_AS_tape_67 : decode b_AS_tape 67 = .ok (.iconst 2, 1) := by decide +kernel
theorem d_AS_tape_68 : decode b_AS_tape 68 = .ok (.if_icmp .ne 17, 3) := by decide +kernel
theorem d_AS_tape_71 : decode b_AS_tape 71 = .ok (.iload_n 2, 1) := by decide +kernel
theorem d_AS_tape_72 : decode b_AS_tape 72 = .ok (.invokestatic 222, 3) := by decide +kernel
theorem d_AS_tape_75 : decode b_AS_tape 75 = .ok (.ifCond .eq 10, 3) := by decide +kernel
theorem d_AS_tape_78 : decode b_AS_tape 78 = .ok (.aload_n 3, 1) := by decide +kernel
theorem d_AS_tape_79 : decode b_AS_tape 79 = .ok (.getfield 225, 3) := by decide +kernel
theorem d_AS_tape_82 : decode b_AS_tape 82 = .ok (.iload_n 2, 1) := by decide +kernel
theorem d_AS_tape_83 : decode b_AS_tape 83 = .ok (.iaload, 1) := by decide +kernel
theorem d_AS_tape_84 : decode b_AS_tape 84 = .ok (.ireturn, 1) := by decide +kernel
theorem d_AS_tape_85 : decode b_AS_tape 85 = .ok (.new 163, 3) := by decide +kernel
theorem d_AS_tape_88 : decode b_AS_tape 88 = .ok (.dup, 1) := by decide +kernel
theorem d_AS_tape_89 : decode b_AS_tape 89 = .ok (.ldc 228, 2) := by decide +kernel
theorem d_AS_tape_91 : decode b_AS_tape 91 = .ok (.invokespecial 167, 3) := by decide +kernel
theorem d_AS_tape_94 : decode b_AS_tape 94 = .ok (.athrow, 1) := by decide +kernel
def rm_AS_tape : Room := { frames := 6, cells := 1, slots := 6, locals := 90 }
theorem mf_AS_tape : zMV y_AS_tape b_AS_tape 4 (some .int) 2 := ⟨q687, q688, q1, q689, by decide +kernel⟩
def B_AS_tape_66 (K : Int → zH → Prop) (XK : Nat → zH → Prop)  (x1 : Int) (x2 : Int) (p3 : Nat)  (h : zH) : Prop :=
  (x1 ≠ 2 → (XK 3 h)) ∧ (x1 = 2 → (M_AS_isHead x2 h (fun r_2 h_1 => (r_2 = 0 → (XK 3 h_1)) ∧ (r_2 ≠ 0 → ((0 ≤ x2 ∧ x2 < 2) ∧ (K (h_1 (p3 + 3) x2.toNat) h_1))))))
set_option maxRecDepth 100000 in
theorem s_AS_tape_66 {Wf : Heap → List Loc → JFrame → Prop} {m : MethodId} {g : zG} {n : Nat} {H0 : Heap} (X : zX Wf m rm_AS_tape b_AS_tape "AliasStreams" 4 g n H0) {K : Int → zH → Prop} (E : zEx Wf m b_AS_tape (some .int) 4 g n H0 (zPi K)) {XK : Nat → zH → Prop} (T : zTh Wf m b_AS_tape 4 g n H0 XK)  {x1 : Int} {x2 : Int} {p3 : Nat}  (rx1 : zr x1) (rx2 : zr x2) (op3 : zO n p3 8)   {h : zH} (hh : zh h) (hv : B_AS_tape_66 K XK  x1 x2 p3  h) : zW Wf m 4 g n H0 66 [(1, zi x1), (2, zi x2), (3, .ref (g.2.2 p3))] [] h := by
  unfold B_AS_tape_66 at hv
  refine z_iload_n (pc := 66) (q := 0) X d_AS_tape_66 rfl ?_
  refine z_iconst (pc := 67) X d_AS_tape_67 ?_
  refine z_icmp_ne (pc := 68) (tgt := 85) X rx1 (show zr 2 from by decide) d_AS_tape_68 (by decide) (fun hc => ?_) (fun hc => ?_)
  · replace hv := hv.1 hc
    exact T _ _ _ 3 _ _ _ _ _ (by decide +kernel : (3, "java/lang/IndexOutOfBoundsException", 163, 167) ∈ zExc) zst_228 ⟨d_AS_tape_85, d_AS_tape_88, Or.inl ⟨d_AS_tape_89, d_AS_tape_91, d_AS_tape_94⟩⟩ hh hv
  · replace hv := hv.2 hc
    refine z_iload_n (pc := 71) (q := 1) X d_AS_tape_71 rfl ?_
    refine z_callSi (pc := 72) (As := [zi x2]) (rest := []) X (fun l hl => c_AS_isHead hl rx2 hh hv) mf_AS_isHead q696 ⟨⟨by decide, by decide⟩, rfl, rfl⟩ rfl d_AS_tape_72 rfl (Nat.le_of_ble_eq_true rfl) (fun r_2 h_1 rr_2 zh_1 hv => ?_)
    refine z_if_eq (pc := 75) (tgt := 85) X rr_2 d_AS_tape_75 (by decide) (fun hc => ?_) (fun hc => ?_)
    · replace hv := hv.1 hc
      exact T _ _ _ 3 _ _ _ _ _ (by decide +kernel : (3, "java/lang/IndexOutOfBoundsException", 163, 167) ∈ zExc) zst_228 ⟨d_AS_tape_85, d_AS_tape_88, Or.inl ⟨d_AS_tape_89, d_AS_tape_91, d_AS_tape_94⟩⟩ zh_1 hv
    · replace hv := hv.2 hc
      refine z_aload_n (pc := 78) (q := 2) X d_AS_tape_78 rfl ?_
      refine z_getrN (pc := 79) (j := 2) (dd := 3) X cf_Tape op3 (by decide) q149 rfl rfl d_AS_tape_79 ?_
      refine z_iload_n (pc := 82) (q := 1) X d_AS_tape_82 rfl ?_
      obtain ⟨v_3, hv⟩ := hv
      refine z_ialdj (pc := 83) (j := x2.toNat) X (gf_Tape_2 op3) (gl_Tape_2 op3) rx2 v_3 rfl d_AS_tape_83 ?_
      exact E.2.1 rfl _ _ _ _ d_AS_tape_84 ⟨_, rfl, (zh_1.1 _ _ (zO.ne (gf_Tape_2 op3) (by decide))), zh_1, hv⟩
def B_AS_tape_46 (K : Int → zH → Prop) (XK : Nat → zH → Prop)  (x1 : Int) (x2 : Int) (p3 : Nat)  (h : zH) : Prop :=
  (x1 ≠ 1 → (B_AS_tape_66 K XK  x1 x2 p3  h)) ∧ (x1 = 1 → (M_Tape_hasPlanned p3 x2 h (fun r_2 h_1 => (r_2 = 0 → (B_AS_tape_66 K XK  x1 x2 p3  h_1)) ∧ (r_2 ≠ 0 → ((0 ≤ x2 ∧ x2 < 40) ∧ (K (h_1 (p3 + 1) x2.toNat) h_1))))))
set_option maxRecDepth 100000 in
theorem s_AS_tape_46 {Wf : Heap → List Loc → JFrame → Prop} {m : MethodId} {g : zG} {n : Nat} {H0 : Heap} (X : zX Wf m rm_AS_tape b_AS_tape "AliasStreams" 4 g n H0) {K : Int → zH → Prop} (E : zEx Wf m b_AS_tape (some .int) 4 g n H0 (zPi K)) {XK : Nat → zH → Prop} (T : zTh Wf m b_AS_tape 4 g n H0 XK)  {x1 : Int} {x2 : Int} {p3 : Nat}  (rx1 : zr x1) (rx2 : zr x2) (op3 : zO n p3 8)   {h : zH} (hh : zh h) (hv : B_AS_tape_46 K XK  x1 x2 p3  h) : zW Wf m 4 g n H0 46 [(1, zi x1), (2, zi x2), (3, .ref (g.2.2 p3))] [] h := by
  unfold B_AS_tape_46 at hv
  refine z_iload_n (pc := 46) (q := 0) X d_AS_tape_46 rfl ?_
  refine z_iconst (pc := 47) X d_AS_tape_47 ?_
  refine z_icmp_ne (pc := 48) (tgt := 66) X rx1 (show zr 1 from by decide) d_AS_tape_48 (by decide) (fun hc => ?_) (fun hc => ?_)
  · replace hv := hv.1 hc
    exact s_AS_tape_66 X E T  rx1 rx2 op3  hh hv
  · replace hv := hv.2 hc
    refine z_aload_n (pc := 51) (q := 2) X d_AS_tape_51 rfl ?_
    refine z_iload_n (pc := 52) (q := 1) X d_AS_tape_52 rfl ?_
    refine z_callVNi (pc := 53) (As := [zi x2]) (rest := []) X (fun l hl => c_Tape_hasPlanned hl op3 rx2 hh hv) cf_Tape op3 rfl mf_Tape_hasPlanned q692 ⟨⟨by decide, by decide⟩, rfl, rfl⟩ rfl d_AS_tape_53 rfl (Nat.le_of_ble_eq_true rfl) (fun r_2 h_1 rr_2 zh_1 hv => ?_)
    refine z_if_eq (pc := 56) (tgt := 66) X rr_2 d_AS_tape_56 (by decide) (fun hc => ?_) (fun hc => ?_)
    · replace hv := hv.1 hc
      exact s_AS_tape_66 X E T  rx1 rx2 op3  zh_1 hv
    · replace hv := hv.2 hc
      refine z_aload_n (pc := 59) (q := 2) X d_AS_tape_59 rfl ?_
      refine z_getrN (pc := 60) (j := 0) (dd := 1) X cf_Tape op3 (by decide) q142 rfl rfl d_AS_tape_60 ?_
      refine z_iload_n (pc := 63) (q := 1) X d_AS_tape_63 rfl ?_
      obtain ⟨v_3, hv⟩ := hv
      refine z_ialdj (pc := 64) (j := x2.toNat) X (gf_Tape_0 op3) (gl_Tape_0 op3) rx2 v_3 rfl d_AS_tape_64 ?_
      exact E.2.1 rfl _ _ _ _ d_AS_tape_65 ⟨_, rfl, (zh_1.1 _ _ (zO.ne (gf_Tape_0 op3) (by decide))), zh_1, hv⟩
def M_AS_tape (p0 : Nat) (x1 : Int) (x2 : Int) (h : zH) (K : Int → zH → Prop) (XK : Nat → zH → Prop) : Prop :=
  (x1 < 0 → (XK 1 h)) ∧ (0 ≤ x1 → ((x1 ≤ 2 → ((x1 ≠ 0 → (B_AS_tape_46 K XK  x1 x2 ((p0 + 37) + 3)  h)) ∧ (x1 = 0 → (M_Tape_hasDigit ((p0 + 37) + 3) x2 h (fun r_2 h_1 => (r_2 = 0 → (B_AS_tape_46 K XK  x1 x2 ((p0 + 37) + 3)  h_1)) ∧ (r_2 ≠ 0 → ((0 ≤ x2 ∧ x2 < 80) ∧ (K (h_1 (((p0 + 37) + 3) + 2) x2.toNat) h_1)))))))) ∧ (2 < x1 → (XK 1 h))))
set_option maxRecDepth 100000 in
theorem c_AS_tape {l : Launch} (hfl : l.flags = flags0) {g : zG} {n : Nat} {p0 : Nat} {x1 : Int} {x2 : Int} (op0 : zO n p0 10) (rx1 : zr x1) (rx2 : zr x2) {h : zH} (hh : zh h) {K : Int → zH → Prop} {XK : Nat → zH → Prop} (hv : M_AS_tape p0 x1 x2 h K XK) : zMetX l y_AS_tape b_AS_tape 4 (some .int) rm_AS_tape g n [.ref (g.2.2 p0), zi x1, zi x2] h (zPi K) XK := by
  refine zMetX_of hfl (by decide) rfl (Nat.le_of_ble_eq_true rfl) ⟨rfl, rfl, by decide, by decide⟩ (fun Wf m H0 X E T => ?_)
  unfold M_AS_tape at hv
  show zW Wf m 4 g n H0 0 [(0, .ref (g.2.2 p0)), (1, zi x1), (2, zi x2)] [] h
  refine z_iload_n (pc := 0) (q := 1) X d_AS_tape_0 rfl ?_
  refine z_if_lt (pc := 1) (tgt := 9) X rx1 d_AS_tape_1 (by decide) (fun hc => ?_) (fun hc => ?_)
  · replace hv := hv.1 hc
    exact T _ _ _ 1 _ _ _ _ _ (by decide +kernel : (1, "java/lang/IllegalArgumentException", 83, 87) ∈ zExc) zst_208 ⟨d_AS_tape_9, d_AS_tape_12, Or.inl ⟨d_AS_tape_13, d_AS_tape_15, d_AS_tape_18⟩⟩ hh hv
  · replace hv := hv.2 hc
    refine z_iload_n (pc := 4) (q := 1) X d_AS_tape_4 rfl ?_
    refine z_iconst (pc := 5) X d_AS_tape_5 ?_
    refine z_icmp_le (pc := 6) (tgt := 19) X rx1 (show zr 2 from by decide) d_AS_tape_6 (by decide) (fun hc => ?_) (fun hc => ?_)
    · replace hv := hv.1 hc
      refine z_aload_n (pc := 19) (q := 0) X d_AS_tape_19 rfl ?_
      refine z_getr (pc := 20) (j := 2) (dd := 37) X cf_AS op0 (by decide) q368 rfl rfl d_AS_tape_20 ?_
      refine z_getrN (pc := 23) (j := 2) (dd := 3) X cf_State (gf_AS_2 op0) (by decide) q176 rfl rfl d_AS_tape_23 ?_
      refine z_astore_n (pc := 26) (lv' := [(3, .ref (g.2.2 ((p0 + 37) + 3))), (0, .ref (g.2.2 p0)), (1, zi x1), (2, zi x2)]) X d_AS_tape_26 (by decide) rfl ?_
      refine z_iload_n (pc := 27) (q := 2) X d_AS_tape_27 rfl ?_
      refine z_if_ne (pc := 28) (tgt := 46) X rx1 d_AS_tape_28 (by decide) (fun hc => ?_) (fun hc => ?_)
      · replace hv := hv.1 hc
        refine z_perm [2, 3, 0] rfl ?_
        exact s_AS_tape_46 X E T  rx1 rx2 (gf_State_2 (gf_AS_2 op0))  hh hv
      · replace hv := hv.2 hc
        refine z_aload_n (pc := 31) (q := 0) X d_AS_tape_31 rfl ?_
        refine z_iload_n (pc := 32) (q := 3) X d_AS_tape_32 rfl ?_
        refine z_callVNi (pc := 33) (As := [zi x2]) (rest := []) X (fun l hl => c_Tape_hasDigit hl (gf_State_2 (gf_AS_2 op0)) rx2 hh hv) cf_Tape (gf_State_2 (gf_AS_2 op0)) rfl mf_Tape_hasDigit q691 ⟨⟨by decide, by decide⟩, rfl, rfl⟩ rfl d_AS_tape_33 rfl (Nat.le_of_ble_eq_true rfl) (fun r_2 h_1 rr_2 zh_1 hv => ?_)
        refine z_if_eq (pc := 36) (tgt := 46) X rr_2 d_AS_tape_36 (by decide) (fun hc => ?_) (fun hc => ?_)
        · replace hv := hv.1 hc
          refine z_perm [2, 3, 0] rfl ?_
          exact s_AS_tape_46 X E T  rx1 rx2 (gf_State_2 (gf_AS_2 op0))  zh_1 hv
        · replace hv := hv.2 hc
          refine z_aload_n (pc := 39) (q := 0) X d_AS_tape_39 rfl ?_
          refine z_getrN (pc := 40) (j := 1) (dd := 2) X cf_Tape (gf_State_2 (gf_AS_2 op0)) (by decide) q146 rfl rfl d_AS_tape_40 ?_
          refine z_iload_n (pc := 43) (q := 3) X d_AS_tape_43 rfl ?_
          obtain ⟨v_3, hv⟩ := hv
          refine z_ialdj (pc := 44) (j := x2.toNat) X (gf_Tape_1 (gf_State_2 (gf_AS_2 op0))) (gl_Tape_1 (gf_State_2 (gf_AS_2 op0))) rx2 v_3 rfl d_AS_tape_44 ?_
          exact E.2.1 rfl _ _ _ _ d_AS_tape_45 ⟨_, rfl, (zh_1.1 _ _ (zO.ne (gf_Tape_1 (gf_State_2 (gf_AS_2 op0))) (by decide))), zh_1, hv⟩
    · replace hv := hv.2 hc
      exact T _ _ _ 1 _ _ _ _ _ (by decide +kernel : (1, "java/lang/IllegalArgumentException", 83, 87) ∈ zExc) zst_208 ⟨d_AS_tape_9, d_AS_tape_12, Or.inl ⟨d_AS_tape_13, d_AS_tape_15, d_AS_tape_18⟩⟩ hh hv
theorem d_AS_setCount_0 : decode b_AS_setCount 0 = .ok (.aload_n 0, 1) := by decide +kernel
theorem d_AS_setCount_1 : decode b_AS_setCount 1 = .ok (.getfield 19, 3) := by decide +kernel
theorem d_AS_setCount_4 : decode b_AS_setCount 4 = .ok (.iload_n 1, 1) := by decide +kernel
theorem d_AS_setCount_5 : decode b_AS_setCount 5 = .ok (.invokevirtual 156, 3) := by decide +kernel
theorem d_AS_setCount_8 : decode b_AS_setCount 8 = .ok (.ifCond .eq 14, 3) := by decide +kernel
theorem d_AS_setCount_11 : decode b_AS_setCount 11 = .ok (.aload_n 0, 1) := by decide +kernel
theorem d_AS_setCount_12 : decode b_AS_setCount 12 = .ok (.getfield 19, 3) := by decide +kernel
theorem d_AS_setCount_15 : decode b_AS_setCount 15 = .ok (.iload_n 2, 1) := by decide +kernel
theorem d_AS_setCount_16 : decode b_AS_setCount 16 = .ok (.invokevirtual 160, 3) := by decide +kernel
theorem d_AS_setCount_19 : decode b_AS_setCount 19 = .ok (.ifCond .ne 13, 3) := by decide +kernel
theorem d_AS_setCount_22 : decode b_AS_setCount 22 = .ok (.new 163, 3) := by decide +kernel
theorem d_AS_setCount_25 : decode b_AS_setCount 25 = .ok (.dup, 1) := by decide +kernel
theorem d_AS_setCount_26 : decode b_AS_setCount 26 = .ok (.ldc 165, 2) := by decide +kernel
theorem d_AS_setCount_28 : decode b_AS_setCount 28 = .ok (.invokespecial 167, 3) := by decide +kernel
theorem d_AS_setCount_31 : decode b_AS_setCount 31 = .ok (.athrow, 1) := by decide +kernel
theorem d_AS_setCount_32 : decode b_AS_setCount 32 = .ok (.iload_n 3, 1) := by decide +kernel
theorem d_AS_setCount_33 : decode b_AS_setCount 33 = .ok (.ifCond .lt 9, 3) := by decide +kernel
theorem d_AS_setCount_36 : decode b_AS_setCount 36 = .ok (.iload_n 3, 1) := by decide +kernel
theorem d_AS_setCount_37 : decode b_AS_setCount 37 = .ok (.bipush 99, 2) := by decide +kernel
theorem d_AS_setCount_39 : decode b_AS_setCount 39 = .ok (.if_icmp .le 13, 3) := by decide +kernel
theorem d_AS_setCount_42 : decode b_AS_setCount 42 = .ok (.new 83, 3) := by decide +kernel
theorem d_AS_setCount_45 : decode b_AS_setCount 45 = .ok (.dup, 1) := by decide +kernel
theorem d_AS_setCount_46 : decode b_AS_setCount 46 = .ok (.ldc 230, 2) := by decide +kernel
theorem d_AS_setCount_48 : decode b_AS_setCount 48 = .ok (.invokespecial 87, 3) := by decide +kernel
theorem d_AS_setCount_51 : decode b_AS_setCount 51 = .ok (.athrow, 1) := by decide +kernel
theorem d_AS_setCount_52 : decode b_AS_setCount 52 = .ok (.aload_n 0, 1) := by decide +kernel
theorem d_AS_setCount_53 : decode b_AS_setCount 53 = .ok (.getfield 26, 3) := by decide +kernel
theorem d_AS_setCount_56 : decode b_AS_setCount 56 = .ok (.iload_n 1, 1) := by decide +kernel
theorem d_AS_setCount_57 : decode b_AS_setCount 57 = .ok (.iload_n 2, 1) := by decide +kernel
theorem d_AS_setCount_58 : decode b_AS_setCount 58 = .ok (.invokevirtual 170, 3) := by decide +kernel
theorem d_AS_setCount_61 : decode b_AS_setCount 61 = .ok (.istore 4, 2) := by decide +kernel
theorem d_AS_setCount_63 : decode b_AS_setCount 63 = .ok (.aload_n 0, 1) := by decide +kernel
theorem d_AS_setCount_64 : decode b_AS_setCount 64 = .ok (.getfield 26, 3) := by decide +kernel
theorem d_AS_setCount_67 : decode b_AS_setCount 67 = .ok (.iload_n 1, 1) := by decide +kernel
theorem d_AS_setCount_68 : decode b_AS_setCount 68 = .ok (.invokevirtual 232, 3) := by decide +kernel
theorem d_AS_setCount_71 : decode b_AS_setCount 71 = .ok (.iload 4, 2) := by decide +kernel
theorem d_AS_setCount_73 : decode b_AS_setCount 73 = .ok (.isub, 1) := by decide +kernel
theorem d_AS_setCount_74 : decode b_AS_setCount 74 = .ok (.iload_n 3, 1) := by decide +kernel
theorem d_AS_setCount_75 : decode b_AS_setCount 75 = .ok (.iadd, 1) := by decide +kernel
theorem d_AS_setCount_76 : decode b_AS_setCount 76 = .ok (.ifCond .ne 13, 3) := by decide +kernel
theorem d_AS_setCount_79 : decode b_AS_setCount 79 = .ok (.new 94, 3) := by decide +kernel
theorem d_AS_setCount_82 : decode b_AS_setCount 82 = .ok (.dup, 1) := by decide +kernel
theorem d_AS_setCount_83 : decode b_AS_setCount 83 = .ok (.ldc 235, 2) := by decide +kernel
theorem d_AS_setCount_85 : decode b_AS_setCount 85 = .ok (.invokespecial 98, 3) := by decide +kernel
theorem d_AS_setCount_88 : decode b_AS_setCount 88 = .ok (.athrow, 1) := by decide +kernel
theorem d_AS_setCount_89 : decode b_AS_setCount 89 = .ok (.aload_n 0, 1) := by decide +kernel
theorem d_AS_setCount_90 : decode b_AS_setCount 90 = .ok (.getfield 33, 3) := by decide +kernel
theorem d_AS_setCount_93 : decode b_AS_setCount 93 = .ok (.aload_n 0, 1) := by decide +kernel
theorem d_AS_setCount_94 : decode b_AS_setCount 94 = .ok (.getfield 26, 3) := by decide +kernel
theorem d_AS_setCount_97 : decode b_AS_setCount 97 = .ok (.invokevirtual 237, 3) := by decide +kernel
theorem d_AS_setCount_100 : decode b_AS_setCount 100 = .ok (.aload_n 0, 1) := by decide +kernel
theorem d_AS_setCount_101 : decode b_AS_setCount 101 = .ok (.getfield 26, 3) := by decide +kernel
theorem d_AS_setCount_104 : decode b_AS_setCount 104 = .ok (.iload_n 1, 1) := by decide +kernel
theorem d_AS_setCount_105 : decode b_AS_setCount 105 = .ok (.iload_n 2, 1) := by decide +kernel
theorem d_AS_setCount_106 : decode b_AS_setCount 106 = .ok (.iload_n 3, 1) := by decide +kernel
theorem d_AS_setCount_107 : decode b_AS_setCount 107 = .ok (.invokevirtual 240, 3) := by decide +kernel
theorem d_AS_setCount_110 : decode b_AS_setCount 110 = .ok (.aload_n 0, 1) := by decide +kernel
theorem d_AS_setCount_111 : decode b_AS_setCount 111 = .ok (.getfield 19, 3) := by decide +kernel
theorem d_AS_setCount_114 : decode b_AS_setCount 114 = .ok (.aload_n 0, 1) := by decide +kernel
theorem d_AS_setCount_115 : decode b_AS_setCount 115 = .ok (.getfield 26, 3) := by decide +kernel
theorem d_AS_setCount_118 : decode b_AS_setCount 118 = .ok (.getfield 75, 3) := by decide +kernel
theorem d_AS_setCount_121 : decode b_AS_setCount 121 = .ok (.invokevirtual 79, 3) := by decide +kernel
theorem d_AS_setCount_124 : decode b_AS_setCount 124 = .ok (.iload 4, 2) := by decide +kernel
theorem d_AS_setCount_126 : decode b_AS_setCount 126 = .ok (.ireturn, 1) := by decide +kernel
def rm_AS_setCount : Room := { frames := 6, cells := 1, slots := 6, locals := 123 }
theorem mf_AS_setCount : zMV y_AS_setCount b_AS_setCount 5 (some .int) 3 := ⟨q704, q705, q1, q706, by decide +kernel⟩
def M_AS_setCount (p0 : Nat) (x1 : Int) (x2 : Int) (x3 : Int) (h : zH) (K : Int → zH → Prop) (XK : Nat → zH → Prop) : Prop :=
  M_Models_hasModel (p0 + 5) x1 h (fun r_2 h_1 => (r_2 = 0 → (XK 3 h_1)) ∧ (r_2 ≠ 0 → (M_Models_hasSymbol (p0 + 5) x2 h_1 (fun r_4 h_3 => (r_4 ≠ 0 → ((x3 < 0 → (XK 1 h_3)) ∧ (0 ≤ x3 → ((x3 ≤ 99 → (M_State_countOf (p0 + 37) x1 x2 h_3 (fun r_6 h_5 => M_State_sumOfCounts (p0 + 37) x1 h_5 (fun r_8 h_7 => zr (r_8 - r_6) ∧ (zr ((r_8 - r_6) + x3) ∧ (((r_8 - r_6) + x3 ≠ 0 → (M_History_remember (p0 + 44) (p0 + 37) h_7 (fun h_11 => M_State_changeCount (p0 + 37) x1 x2 x3 h_11 (fun h_13 => M_Models_makeAll (p0 + 5) ((p0 + 37) + 1) h_13 (fun h_15 => K r_6 h_15))))) ∧ ((r_8 - r_6) + x3 = 0 → (XK 2 h_7)))))))) ∧ (99 < x3 → (XK 1 h_3)))))) ∧ (r_4 = 0 → (XK 3 h_3))))))
set_option maxRecDepth 100000 in
theorem c_AS_setCount {l : Launch} (hfl : l.flags = flags0) {g : zG} {n : Nat} {p0 : Nat} {x1 : Int} {x2 : Int} {x3 : Int} (op0 : zO n p0 10) (rx1 : zr x1) (rx2 : zr x2) (rx3 : zr x3) {h : zH} (hh : zh h) {K : Int → zH → Prop} {XK : Nat → zH → Prop} (hv : M_AS_setCount p0 x1 x2 x3 h K XK) : zMetX l y_AS_setCount b_AS_setCount 5 (some .int) rm_AS_setCount g n [.ref (g.2.2 p0), zi x1, zi x2, zi x3] h (zPi K) XK := by
  refine zMetX_of hfl (by decide) rfl (Nat.le_of_ble_eq_true rfl) ⟨rfl, rfl, by decide, by decide⟩ (fun Wf m H0 X E T => ?_)
  unfold M_AS_setCount at hv
  show zW Wf m 5 g n H0 0 [(0, .ref (g.2.2 p0)), (1, zi x1), (2, zi x2), (3, zi x3)] [] h
  refine z_aload_n (pc := 0) (q := 0) X d_AS_setCount_0 rfl ?_
  refine z_getr (pc := 1) (j := 1) (dd := 5) X cf_AS op0 (by decide) q367 rfl rfl d_AS_setCount_1 ?_
  refine z_iload_n (pc := 4) (q := 1) X d_AS_setCount_4 rfl ?_
  refine z_callVNi (pc := 5) (As := [zi x1]) (rest := []) X (fun l hl => c_Models_hasModel hl (gf_AS_1 op0) rx1 hh hv) cf_Models (gf_AS_1 op0) rfl mf_Models_hasModel q623 ⟨⟨by decide, by decide⟩, rfl, rfl⟩ rfl d_AS_setCount_5 rfl (Nat.le_of_ble_eq_true rfl) (fun r_2 h_1 rr_2 zh_1 hv => ?_)
  refine z_if_eq (pc := 8) (tgt := 22) X rr_2 d_AS_setCount_8 (by decide) (fun hc => ?_) (fun hc => ?_)
  · replace hv := hv.1 hc
    exact T _ _ _ 3 _ _ _ _ _ (by decide +kernel : (3, "java/lang/IndexOutOfBoundsException", 163, 167) ∈ zExc) zst_165 ⟨d_AS_setCount_22, d_AS_setCount_25, Or.inl ⟨d_AS_setCount_26, d_AS_setCount_28, d_AS_setCount_31⟩⟩ zh_1 hv
  · replace hv := hv.2 hc
    refine z_aload_n (pc := 11) (q := 0) X d_AS_setCount_11 rfl ?_
    refine z_getr (pc := 12) (j := 1) (dd := 5) X cf_AS op0 (by decide) q367 rfl rfl d_AS_setCount_12 ?_
    refine z_iload_n (pc := 15) (q := 2) X d_AS_setCount_15 rfl ?_
    refine z_callVNi (pc := 16) (As := [zi x2]) (rest := []) X (fun l hl => c_Models_hasSymbol hl (gf_AS_1 op0) rx2 zh_1 hv) cf_Models (gf_AS_1 op0) rfl mf_Models_hasSymbol q627 ⟨⟨by decide, by decide⟩, rfl, rfl⟩ rfl d_AS_setCount_16 rfl (Nat.le_of_ble_eq_true rfl) (fun r_4 h_3 rr_4 zh_3 hv => ?_)
    refine z_if_ne (pc := 19) (tgt := 32) X rr_4 d_AS_setCount_19 (by decide) (fun hc => ?_) (fun hc => ?_)
    · replace hv := hv.1 hc
      refine z_iload_n (pc := 32) (q := 3) X d_AS_setCount_32 rfl ?_
      refine z_if_lt (pc := 33) (tgt := 42) X rx3 d_AS_setCount_33 (by decide) (fun hc => ?_) (fun hc => ?_)
      · replace hv := hv.1 hc
        exact T _ _ _ 1 _ _ _ _ _ (by decide +kernel : (1, "java/lang/IllegalArgumentException", 83, 87) ∈ zExc) zst_230 ⟨d_AS_setCount_42, d_AS_setCount_45, Or.inl ⟨d_AS_setCount_46, d_AS_setCount_48, d_AS_setCount_51⟩⟩ zh_3 hv
      · replace hv := hv.2 hc
        refine z_iload_n (pc := 36) (q := 3) X d_AS_setCount_36 rfl ?_
        refine z_bipush (pc := 37) X d_AS_setCount_37 (by decide) ?_
        refine z_icmp_le (pc := 39) (tgt := 52) X rx3 (show zr 99 from by decide) d_AS_setCount_39 (by decide) (fun hc => ?_) (fun hc => ?_)
        · replace hv := hv.1 hc
          refine z_aload_n (pc := 52) (q := 0) X d_AS_setCount_52 rfl ?_
          refine z_getr (pc := 53) (j := 2) (dd := 37) X cf_AS op0 (by decide) q368 rfl rfl d_AS_setCount_53 ?_
          refine z_iload_n (pc := 56) (q := 1) X d_AS_setCount_56 rfl ?_
          refine z_iload_n (pc := 57) (q := 2) X d_AS_setCount_57 rfl ?_
          refine z_callVNi (pc := 58) (As := [zi x1, zi x2]) (rest := []) X (fun l hl => c_State_countOf hl (gf_AS_2 op0) rx1 rx2 zh_3 hv) cf_State (gf_AS_2 op0) rfl mf_State_countOf q648 ⟨⟨by decide, by decide⟩, rfl, rfl⟩ rfl d_AS_setCount_58 rfl (Nat.le_of_ble_eq_true rfl) (fun r_6 h_5 rr_6 zh_5 hv => ?_)
          refine z_istore (pc := 61) (lv' := [(4, zi r_6), (0, .ref (g.2.2 p0)), (1, zi x1), (2, zi x2), (3, zi x3)]) X d_AS_setCount_61 (by decide) rfl ?_
          refine z_aload_n (pc := 63) (q := 1) X d_AS_setCount_63 rfl ?_
          refine z_getr (pc := 64) (j := 2) (dd := 37) X cf_AS op0 (by decide) q368 rfl rfl d_AS_setCount_64 ?_
          refine z_iload_n (pc := 67) (q := 2) X d_AS_setCount_67 rfl ?_
          refine z_callVNi (pc := 68) (As := [zi x1]) (rest := []) X (fun l hl => c_State_sumOfCounts hl (gf_AS_2 op0) rx1 zh_5 hv) cf_State (gf_AS_2 op0) rfl mf_State_sumOfCounts q708 ⟨⟨by decide, by decide⟩, rfl, rfl⟩ rfl d_AS_setCount_68 rfl (Nat.le_of_ble_eq_true rfl) (fun r_8 h_7 rr_8 zh_7 hv => ?_)
          refine z_iload (pc := 71) (q := 0) X d_AS_setCount_71 rfl ?_
          obtain ⟨v_9, hv⟩ := hv
          refine z_isub (pc := 73) X d_AS_setCount_73 ?_
          refine z_iload_n (pc := 74) (q := 4) X d_AS_setCount_74 rfl ?_
          obtain ⟨v_10, hv⟩ := hv
          refine z_iadd (pc := 75) X d_AS_setCount_75 ?_
          refine z_if_ne (pc := 76) (tgt := 89) X v_10 d_AS_setCount_76 (by decide) (fun hc => ?_) (fun hc => ?_)
          · replace hv := hv.1 hc
            refine z_aload_n (pc := 89) (q := 1) X d_AS_setCount_89 rfl ?_
            refine z_getr (pc := 90) (j := 3) (dd := 44) X cf_AS op0 (by decide) q369 rfl rfl d_AS_setCount_90 ?_
            refine z_aload_n (pc := 93) (q := 1) X d_AS_setCount_93 rfl ?_
            refine z_getr (pc := 94) (j := 2) (dd := 37) X cf_AS op0 (by decide) q368 rfl rfl d_AS_setCount_94 ?_
            refine z_callVNv (pc := 97) (As := [.ref (g.2.2 (p0 + 37))]) (rest := []) X (fun l hl => c_History_remember hl (gf_AS_3 op0) (gf_AS_2 op0) zh_7 hv) cf_History (gf_AS_3 op0) rfl mf_History_remember q713 ⟨⟨by decide, by decide⟩, rfl, rfl⟩ rfl d_AS_setCount_97 rfl (Nat.le_of_ble_eq_true rfl) (fun h_11 zh_11 hv => ?_)
            refine z_aload_n (pc := 100) (q := 1) X d_AS_setCount_100 rfl ?_
            refine z_getr (pc := 101) (j := 2) (dd := 37) X cf_AS op0 (by decide) q368 rfl rfl d_AS_setCount_101 ?_
            refine z_iload_n (pc := 104) (q := 2) X d_AS_setCount_104 rfl ?_
            refine z_iload_n (pc := 105) (q := 3) X d_AS_setCount_105 rfl ?_
            refine z_iload_n (pc := 106) (q := 4) X d_AS_setCount_106 rfl ?_
            refine z_callVNv (pc := 107) (As := [zi x1, zi x2, zi x3]) (rest := []) X (fun l hl => c_State_changeCount hl (gf_AS_2 op0) rx1 rx2 rx3 zh_11 hv) cf_State (gf_AS_2 op0) rfl mf_State_changeCount q735 ⟨⟨by decide, by decide⟩, rfl, rfl⟩ rfl d_AS_setCount_107 rfl (Nat.le_of_ble_eq_true rfl) (fun h_13 zh_13 hv => ?_)
            refine z_aload_n (pc := 110) (q := 1) X d_AS_setCount_110 rfl ?_
            refine z_getr (pc := 111) (j := 1) (dd := 5) X cf_AS op0 (by decide) q367 rfl rfl d_AS_setCount_111 ?_
            refine z_aload_n (pc := 114) (q := 1) X d_AS_setCount_114 rfl ?_
            refine z_getr (pc := 115) (j := 2) (dd := 37) X cf_AS op0 (by decide) q368 rfl rfl d_AS_setCount_115 ?_
            refine z_getrN (pc := 118) (j := 0) (dd := 1) X cf_State (gf_AS_2 op0) (by decide) q170 rfl rfl d_AS_setCount_118 ?_
            refine z_callVNv (pc := 121) (As := [.ref (g.2.2 ((p0 + 37) + 1))]) (rest := []) X (fun l hl => c_Models_makeAll hl (gf_AS_1 op0) (gf_State_0 (gf_AS_2 op0)) zh_13 hv) cf_Models (gf_AS_1 op0) rfl mf_Models_makeAll q313 ⟨⟨by decide, by decide⟩, rfl, rfl⟩ rfl d_AS_setCount_121 rfl (Nat.le_of_ble_eq_true rfl) (fun h_15 zh_15 hv => ?_)
            refine z_iload (pc := 124) (q := 0) X d_AS_setCount_124 rfl ?_
            exact E.2.1 rfl _ _ _ _ d_AS_setCount_126 ⟨_, rfl, rr_6, zh_15, hv⟩
          · replace hv := hv.2 hc
            exact T _ _ _ 2 _ _ _ _ _ (by decide +kernel : (2, "java/lang/IllegalStateException", 94, 98) ∈ zExc) zst_235 ⟨d_AS_setCount_79, d_AS_setCount_82, Or.inl ⟨d_AS_setCount_83, d_AS_setCount_85, d_AS_setCount_88⟩⟩ zh_7 hv
        · replace hv := hv.2 hc
          exact T _ _ _ 1 _ _ _ _ _ (by decide +kernel : (1, "java/lang/IllegalArgumentException", 83, 87) ∈ zExc) zst_230 ⟨d_AS_setCount_42, d_AS_setCount_45, Or.inl ⟨d_AS_setCount_46, d_AS_setCount_48, d_AS_setCount_51⟩⟩ zh_3 hv
    · replace hv := hv.2 hc
      exact T _ _ _ 3 _ _ _ _ _ (by decide +kernel : (3, "java/lang/IndexOutOfBoundsException", 163, 167) ∈ zExc) zst_165 ⟨d_AS_setCount_22, d_AS_setCount_25, Or.inl ⟨d_AS_setCount_26, d_AS_setCount_28, d_AS_setCount_31⟩⟩ zh_3 hv
theorem d_AS_insert_0 : decode b_AS_insert 0 = .ok (.iload_n 1, 1) := by decide +kernel
theorem d_AS_insert_1 : decode b_AS_insert 1 = .ok (.ifCond .lt 14, 3) := by decide +kernel
theorem d_AS_insert_4 : decode b_AS_insert 4 = .ok (.iload_n 1, 1) := by decide +kernel
theorem d_AS_insert_5 : decode b_AS_insert 5 = .ok (.aload_n 0, 1) := by decide +kernel
theorem d_AS_insert_6 : decode b_AS_insert 6 = .ok (.getfield 26, 3) := by decide +kernel
theorem d_AS_insert_9 : decode b_AS_insert 9 = .ok (.getfield 127, 3) := by decide +kernel
theorem d_AS_insert_12 : decode b_AS_insert 12 = .ok (.if_icmp .le 13, 3) := by decide +kernel
theorem d_AS_insert_15 : decode b_AS_insert 15 = .ok (.new 163, 3) := by decide +kernel
theorem d_AS_insert_18 : decode b_AS_insert 18 = .ok (.dup, 1) := by decide +kernel
theorem d_AS_insert_19 : decode b_AS_insert 19 = .ok (.ldc 244, 2) := by decide +kernel
theorem d_AS_insert_21 : decode b_AS_insert 21 = .ok (.invokespecial 167, 3) := by decide +kernel
theorem d_AS_insert_24 : decode b_AS_insert 24 = .ok (.athrow, 1) := by decide +kernel
theorem d_AS_insert_25 : decode b_AS_insert 25 = .ok (.aload_n 0, 1) := by decide +kernel
theorem d_AS_insert_26 : decode b_AS_insert 26 = .ok (.getfield 19, 3) := by decide +kernel
theorem d_AS_insert_29 : decode b_AS_insert 29 = .ok (.iload_n 2, 1) := by decide +kernel
theorem d_AS_insert_30 : decode b_AS_insert 30 = .ok (.invokevirtual 246, 3) := by decide +kernel
theorem d_AS_insert_33 : decode b_AS_insert 33 = .ok (.ifCond .ne 13, 3) := by decide +kernel
theorem d_AS_insert_36 : decode b_AS_insert 36 = .ok (.new 83, 3) := by decide +kernel
theorem d_AS_insert_39 : decode b_AS_insert 39 = .ok (.dup, 1) := by decide +kernel
theorem d_AS_insert_40 : decode b_AS_insert 40 = .ok (.ldc 249, 2) := by decide +kernel
theorem d_AS_insert_42 : decode b_AS_insert 42 = .ok (.invokespecial 87, 3) := by decide +kernel
theorem d_AS_insert_45 : decode b_AS_insert 45 = .ok (.athrow, 1) := by decide +kernel
theorem d_AS_insert_46 : decode b_AS_insert 46 = .ok (.aload_n 0, 1) := by decide +kernel
theorem d_AS_insert_47 : decode b_AS_insert 47 = .ok (.getfield 26, 3) := by decide +kernel
theorem d_AS_insert_50 : decode b_AS_insert 50 = .ok (.getfield 127, 3) := by decide +kernel
theorem d_AS_insert_53 : decode b_AS_insert 53 = .ok (.bipush 40, 2) := by decide +kernel
theorem d_AS_insert_55 : decode b_AS_insert 55 = .ok (.if_icmp .lt 13, 3) := by decide +kernel
theorem d_AS_insert_58 : decode b_AS_insert 58 = .ok (.new 94, 3) := by decide +kernel
theorem d_AS_insert_61 : decode b_AS_insert 61 = .ok (.dup, 1) := by decide +kernel
theorem d_AS_insert_62 : decode b_AS_insert 62 = .ok (.ldc 251, 2) := by decide +kernel
theorem d_AS_insert_64 : decode b_AS_insert 64 = .ok (.invokespecial 98, 3) := by decide +kernel
theorem d_AS_insert_67 : decode b_AS_insert 67 = .ok (.athrow, 1) := by decide +kernel
theorem d_AS_insert_68 : decode b_AS_insert 68 = .ok (.aload_n 0, 1) := by decide +kernel
theorem d_AS_insert_69 : decode b_AS_insert 69 = .ok (.getfield 33, 3) := by decide +kernel
theorem d_AS_insert_72 : decode b_AS_insert 72 = .ok (.aload_n 0, 1) := by decide +kernel
theorem d_AS_insert_73 : decode b_AS_insert 73 = .ok (.getfield 26, 3) := by decide +kernel
theorem d_AS_insert_76 : decode b_AS_insert 76 = .ok (.invokevirtual 237, 3) := by decide +kernel
theorem d_AS_insert_79 : decode b_AS_insert 79 = .ok (.aload_n 0, 1) := by decide +kernel
theorem d_AS_insert_80 : decode b_AS_insert 80 = .ok (.getfield 26, 3) := by decide +kernel
theorem d_AS_insert_83 : decode b_AS_insert 83 = .ok (.iload_n 1, 1) := by decide +kernel
theorem d_AS_insert_84 : decode b_AS_insert 84 = .ok (.iload_n 2, 1) := by decide +kernel
theorem d_AS_insert_85 : decode b_AS_insert 85 = .ok (.invokevirtual 253, 3) := by decide +kernel
theorem d_AS_insert_88 : decode b_AS_insert 88 = .ok (.aload_n 0, 1) := by decide +kernel
theorem d_AS_insert_89 : decode b_AS_insert 89 = .ok (.getfield 26, 3) := by decide +kernel
theorem d_AS_insert_92 : decode b_AS_insert 92 = .ok (.getfield 127, 3) := by decide +kernel
theorem d_AS_insert_95 : decode b_AS_insert 95 = .ok (.ireturn, 1) := by decide +kernel
def rm_AS_insert : Room := { frames := 6, cells := 1, slots := 6, locals := 123 }
theorem mf_AS_insert : zMV y_AS_insert b_AS_insert 3 (some .int) 2 := ⟨q744, q745, q1, q746, by decide +kernel⟩
def M_AS_insert (p0 : Nat) (x1 : Int) (x2 : Int) (h : zH) (K : Int → zH → Prop) (XK : Nat → zH → Prop) : Prop :=
  (x1 < 0 → (XK 3 h)) ∧ (0 ≤ x1 → ((x1 ≤ h (p0 + 37) 3 → (M_Models_allowItem (p0 + 5) x2 h (fun r_2 h_1 => (r_2 ≠ 0 → ((h_1 (p0 + 37) 3 < 40 → (M_History_remember (p0 + 44) (p0 + 37) h_1 (fun h_3 => M_State_addItem (p0 + 37) x1 x2 h_3 (fun h_5 => K (h_5 (p0 + 37) 3) h_5)))) ∧ (40 ≤ h_1 (p0 + 37) 3 → (XK 2 h_1)))) ∧ (r_2 = 0 → (XK 1 h_1))))) ∧ (h (p0 + 37) 3 < x1 → (XK 3 h))))
set_option maxRecDepth 100000 in
theorem c_AS_insert {l : Launch} (hfl : l.flags = flags0) {g : zG} {n : Nat} {p0 : Nat} {x1 : Int} {x2 : Int} (op0 : zO n p0 10) (rx1 : zr x1) (rx2 : zr x2) {h : zH} (hh : zh h) {K : Int → zH → Prop} {XK : Nat → zH → Prop} (hv : M_AS_insert p0 x1 x2 h K XK) : zMetX l y_AS_insert b_AS_insert 3 (some .int) rm_AS_insert g n [.ref (g.2.2 p0), zi x1, zi x2] h (zPi K) XK := by
  refine zMetX_of hfl (by decide) rfl (Nat.le_of_ble_eq_true rfl) ⟨rfl, rfl, by decide, by decide⟩ (fun Wf m H0 X E T => ?_)
  unfold M_AS_insert at hv
  show zW Wf m 3 g n H0 0 [(0, .ref (g.2.2 p0)), (1, zi x1), (2, zi x2)] [] h
  refine z_iload_n (pc := 0) (q := 1) X d_AS_insert_0 rfl ?_
  refine z_if_lt (pc := 1) (tgt := 15) X rx1 d_AS_insert_1 (by decide) (fun hc => ?_) (fun hc => ?_)
  · replace hv := hv.1 hc
    exact T _ _ _ 3 _ _ _ _ _ (by decide +kernel : (3, "java/lang/IndexOutOfBoundsException", 163, 167) ∈ zExc) zst_244 ⟨d_AS_insert_15, d_AS_insert_18, Or.inl ⟨d_AS_insert_19, d_AS_insert_21, d_AS_insert_24⟩⟩ hh hv
  · replace hv := hv.2 hc
    refine z_iload_n (pc := 4) (q := 1) X d_AS_insert_4 rfl ?_
    refine z_aload_n (pc := 5) (q := 0) X d_AS_insert_5 rfl ?_
    refine z_getr (pc := 6) (j := 2) (dd := 37) X cf_AS op0 (by decide) q368 rfl rfl d_AS_insert_6 ?_
    refine z_getiN (pc := 9) (j := 3) X cf_State (gf_AS_2 op0) (by decide) q180 rfl rfl d_AS_insert_9 ?_
    refine z_icmp_le (pc := 12) (tgt := 25) X rx1 (hh.1 _ _ (zO.ne (gf_AS_2 op0) (by decide))) d_AS_insert_12 (by decide) (fun hc => ?_) (fun hc => ?_)
    · replace hv := hv.1 hc
      refine z_aload_n (pc := 25) (q := 0) X d_AS_insert_25 rfl ?_
      refine z_getr (pc := 26) (j := 1) (dd := 5) X cf_AS op0 (by decide) q367 rfl rfl d_AS_insert_26 ?_
      refine z_iload_n (pc := 29) (q := 2) X d_AS_insert_29 rfl ?_
      refine z_callVNi (pc := 30) (As := [zi x2]) (rest := []) X (fun l hl => c_Models_allowItem hl (gf_AS_1 op0) rx2 hh hv) cf_Models (gf_AS_1 op0) rfl mf_Models_allowItem q748 ⟨⟨by decide, by decide⟩, rfl, rfl⟩ rfl d_AS_insert_30 rfl (Nat.le_of_ble_eq_true rfl) (fun r_2 h_1 rr_2 zh_1 hv => ?_)
      refine z_if_ne (pc := 33) (tgt := 46) X rr_2 d_AS_insert_33 (by decide) (fun hc => ?_) (fun hc => ?_)
      · replace hv := hv.1 hc
        refine z_aload_n (pc := 46) (q := 0) X d_AS_insert_46 rfl ?_
        refine z_getr (pc := 47) (j := 2) (dd := 37) X cf_AS op0 (by decide) q368 rfl rfl d_AS_insert_47 ?_
        refine z_getiN (pc := 50) (j := 3) X cf_State (gf_AS_2 op0) (by decide) q180 rfl rfl d_AS_insert_50 ?_
        refine z_bipush (pc := 53) X d_AS_insert_53 (by decide) ?_
        refine z_icmp_lt (pc := 55) (tgt := 68) X (zh_1.1 _ _ (zO.ne (gf_AS_2 op0) (by decide))) (show zr 40 from by decide) d_AS_insert_55 (by decide) (fun hc => ?_) (fun hc => ?_)
        · replace hv := hv.1 hc
          refine z_aload_n (pc := 68) (q := 0) X d_AS_insert_68 rfl ?_
          refine z_getr (pc := 69) (j := 3) (dd := 44) X cf_AS op0 (by decide) q369 rfl rfl d_AS_insert_69 ?_
          refine z_aload_n (pc := 72) (q := 0) X d_AS_insert_72 rfl ?_
          refine z_getr (pc := 73) (j := 2) (dd := 37) X cf_AS op0 (by decide) q368 rfl rfl d_AS_insert_73 ?_
          refine z_callVNv (pc := 76) (As := [.ref (g.2.2 (p0 + 37))]) (rest := []) X (fun l hl => c_History_remember hl (gf_AS_3 op0) (gf_AS_2 op0) zh_1 hv) cf_History (gf_AS_3 op0) rfl mf_History_remember q713 ⟨⟨by decide, by decide⟩, rfl, rfl⟩ rfl d_AS_insert_76 rfl (Nat.le_of_ble_eq_true rfl) (fun h_3 zh_3 hv => ?_)
          refine z_aload_n (pc := 79) (q := 0) X d_AS_insert_79 rfl ?_
          refine z_getr (pc := 80) (j := 2) (dd := 37) X cf_AS op0 (by decide) q368 rfl rfl d_AS_insert_80 ?_
          refine z_iload_n (pc := 83) (q := 1) X d_AS_insert_83 rfl ?_
          refine z_iload_n (pc := 84) (q := 2) X d_AS_insert_84 rfl ?_
          refine z_callVNv (pc := 85) (As := [zi x1, zi x2]) (rest := []) X (fun l hl => c_State_addItem hl (gf_AS_2 op0) rx1 rx2 zh_3 hv) cf_State (gf_AS_2 op0) rfl mf_State_addItem q756 ⟨⟨by decide, by decide⟩, rfl, rfl⟩ rfl d_AS_insert_85 rfl (Nat.le_of_ble_eq_true rfl) (fun h_5 zh_5 hv => ?_)
          refine z_aload_n (pc := 88) (q := 0) X d_AS_insert_88 rfl ?_
          refine z_getr (pc := 89) (j := 2) (dd := 37) X cf_AS op0 (by decide) q368 rfl rfl d_AS_insert_89 ?_
          refine z_getiN (pc := 92) (j := 3) X cf_State (gf_AS_2 op0) (by decide) q180 rfl rfl d_AS_insert_92 ?_
          exact E.2.1 rfl _ _ _ _ d_AS_insert_95 ⟨_, rfl, (zh_5.1 _ _ (zO.ne (gf_AS_2 op0) (by decide))), zh_5, hv⟩
        · replace hv := hv.2 hc
          exact T _ _ _ 2 _ _ _ _ _ (by decide +kernel : (2, "java/lang/IllegalStateException", 94, 98) ∈ zExc) zst_251 ⟨d_AS_insert_58, d_AS_insert_61, Or.inl ⟨d_AS_insert_62, d_AS_insert_64, d_AS_insert_67⟩⟩ zh_1 hv
      · replace hv := hv.2 hc
        exact T _ _ _ 1 _ _ _ _ _ (by decide +kernel : (1, "java/lang/IllegalArgumentException", 83, 87) ∈ zExc) zst_249 ⟨d_AS_insert_36, d_AS_insert_39, Or.inl ⟨d_AS_insert_40, d_AS_insert_42, d_AS_insert_45⟩⟩ zh_1 hv
    · replace hv := hv.2 hc
      exact T _ _ _ 3 _ _ _ _ _ (by decide +kernel : (3, "java/lang/IndexOutOfBoundsException", 163, 167) ∈ zExc) zst_244 ⟨d_AS_insert_15, d_AS_insert_18, Or.inl ⟨d_AS_insert_19, d_AS_insert_21, d_AS_insert_24⟩⟩ hh hv
theorem d_AS_remove_0 : decode b_AS_remove 0 = .ok (.aload_n 0, 1) := by decide +kernel
theorem d_AS_remove_1 : decode b_AS_remove 1 = .ok (.getfield 26, 3) := by decide +kernel
theorem d_AS_remove_4 : decode b_AS_remove 4 = .ok (.iload_n 1, 1) := by decide +kernel
theorem d_AS_remove_5 : decode b_AS_remove 5 = .ok (.invokevirtual 200, 3) := by decide +kernel
theorem d_AS_remove_8 : decode b_AS_remove 8 = .ok (.ifCond .ne 13, 3) := by decide +kernel
theorem d_AS_remove_11 : decode b_AS_remove 11 = .ok (.new 163, 3) := by decide +kernel
theorem d_AS_remove_14 : decode b_AS_remove 14 = .ok (.dup, 1) := by decide +kernel
theorem d_AS_remove_15 : decode b_AS_remove 15 = .ok (.ldc 203, 2) := by decide +kernel
theorem d_AS_remove_17 : decode b_AS_remove 17 = .ok (.invokespecial 167, 3) := by decide +kernel
theorem d_AS_remove_20 : decode b_AS_remove 20 = .ok (.athrow, 1) := by decide +kernel
theorem d_AS_remove_21 : decode b_AS_remove 21 = .ok (.aload_n 0, 1) := by decide +kernel
theorem d_AS_remove_22 : decode b_AS_remove 22 = .ok (.getfield 26, 3) := by decide +kernel
theorem d_AS_remove_25 : decode b_AS_remove 25 = .ok (.getfield 205, 3) := by decide +kernel
theorem d_AS_remove_28 : decode b_AS_remove 28 = .ok (.iload_n 1, 1) := by decide +kernel
theorem d_AS_remove_29 : decode b_AS_remove 29 = .ok (.iaload, 1) := by decide +kernel
theorem d_AS_remove_30 : decode b_AS_remove 30 = .ok (.istore_n 2, 1) := by decide +kernel
theorem d_AS_remove_31 : decode b_AS_remove 31 = .ok (.aload_n 0, 1) := by decide +kernel
theorem d_AS_remove_32 : decode b_AS_remove 32 = .ok (.getfield 33, 3) := by decide +kernel
theorem d_AS_remove_35 : decode b_AS_remove 35 = .ok (.aload_n 0, 1) := by decide +kernel
theorem d_AS_remove_36 : decode b_AS_remove 36 = .ok (.getfield 26, 3) := by decide +kernel
theorem d_AS_remove_39 : decode b_AS_remove 39 = .ok (.invokevirtual 237, 3) := by decide +kernel
theorem d_AS_remove_42 : decode b_AS_remove 42 = .ok (.aload_n 0, 1) := by decide +kernel
theorem d_AS_remove_43 : decode b_AS_remove 43 = .ok (.getfield 26, 3) := by decide +kernel
theorem d_AS_remove_46 : decode b_AS_remove 46 = .ok (.iload_n 1, 1) := by decide +kernel
theorem d_AS_remove_47 : decode b_AS_remove 47 = .ok (.invokevirtual 257, 3) := by decide +kernel
theorem d_AS_remove_50 : decode b_AS_remove 50 = .ok (.iload_n 2, 1) := by decide +kernel
theorem d_AS_remove_51 : decode b_AS_remove 51 = .ok (.ireturn, 1) := by decide +kernel
def rm_AS_remove : Room := { frames := 6, cells := 1, slots := 6, locals := 123 }
theorem mf_AS_remove : zMV y_AS_remove b_AS_remove 3 (some .int) 1 := ⟨q764, q765, q1, q766, by decide +kernel⟩
def M_AS_remove (p0 : Nat) (x1 : Int) (h : zH) (K : Int → zH → Prop) (XK : Nat → zH → Prop) : Prop :=
  M_State_hasItem (p0 + 37) x1 h (fun r_2 h_1 => (r_2 ≠ 0 → ((0 ≤ x1 ∧ x1 < 40) ∧ ((∀ x2_4 : Int, x2_4 = h_1 ((p0 + 37) + 2) x1.toNat → (M_History_remember (p0 + 44) (p0 + 37) h_1 (fun h_5 => M_State_dropItem (p0 + 37) x1 h_5 (fun h_7 => K x2_4 h_7))))))) ∧ (r_2 = 0 → (XK 3 h_1)))
set_option maxRecDepth 100000 in
theorem c_AS_remove {l : Launch} (hfl : l.flags = flags0) {g : zG} {n : Nat} {p0 : Nat} {x1 : Int} (op0 : zO n p0 10) (rx1 : zr x1) {h : zH} (hh : zh h) {K : Int → zH → Prop} {XK : Nat → zH → Prop} (hv : M_AS_remove p0 x1 h K XK) : zMetX l y_AS_remove b_AS_remove 3 (some .int) rm_AS_remove g n [.ref (g.2.2 p0), zi x1] h (zPi K) XK := by
  refine zMetX_of hfl (by decide) rfl (Nat.le_of_ble_eq_true rfl) ⟨rfl, rfl, by decide, by decide⟩ (fun Wf m H0 X E T => ?_)
  unfold M_AS_remove at hv
  show zW Wf m 3 g n H0 0 [(0, .ref (g.2.2 p0)), (1, zi x1)] [] h
  refine z_aload_n (pc := 0) (q := 0) X d_AS_remove_0 rfl ?_
  refine z_getr (pc := 1) (j := 2) (dd := 37) X cf_AS op0 (by decide) q368 rfl rfl d_AS_remove_1 ?_
  refine z_iload_n (pc := 4) (q := 1) X d_AS_remove_4 rfl ?_
  refine z_callVNi (pc := 5) (As := [zi x1]) (rest := []) X (fun l hl => c_State_hasItem hl (gf_AS_2 op0) rx1 hh hv) cf_State (gf_AS_2 op0) rfl mf_State_hasItem q678 ⟨⟨by decide, by decide⟩, rfl, rfl⟩ rfl d_AS_remove_5 rfl (Nat.le_of_ble_eq_true rfl) (fun r_2 h_1 rr_2 zh_1 hv => ?_)
  refine z_if_ne (pc := 8) (tgt := 21) X rr_2 d_AS_remove_8 (by decide) (fun hc => ?_) (fun hc => ?_)
  · replace hv := hv.1 hc
    refine z_aload_n (pc := 21) (q := 0) X d_AS_remove_21 rfl ?_
    refine z_getr (pc := 22) (j := 2) (dd := 37) X cf_AS op0 (by decide) q368 rfl rfl d_AS_remove_22 ?_
    refine z_getrN (pc := 25) (j := 1) (dd := 2) X cf_State (gf_AS_2 op0) (by decide) q173 rfl rfl d_AS_remove_25 ?_
    refine z_iload_n (pc := 28) (q := 1) X d_AS_remove_28 rfl ?_
    obtain ⟨v_3, hv⟩ := hv
    refine z_ialdj (pc := 29) (j := x1.toNat) X (gf_State_1 (gf_AS_2 op0)) (gl_State_1 (gf_AS_2 op0)) rx1 v_3 rfl d_AS_remove_29 ?_
    refine z_topi (fun x2_4 ex2_4 => ?_)
    have rx2_4 : zr x2_4 := by rw [ex2_4]; exact (zh_1.1 _ _ (zO.ne (gf_State_1 (gf_AS_2 op0)) (by decide)))
    replace hv := hv x2_4 ex2_4
    refine z_istore_n (pc := 30) (lv' := [(2, zi x2_4), (0, .ref (g.2.2 p0)), (1, zi x1)]) X d_AS_remove_30 (by decide) rfl ?_
    refine z_aload_n (pc := 31) (q := 1) X d_AS_remove_31 rfl ?_
    refine z_getr (pc := 32) (j := 3) (dd := 44) X cf_AS op0 (by decide) q369 rfl rfl d_AS_remove_32 ?_
    refine z_aload_n (pc := 35) (q := 1) X d_AS_remove_35 rfl ?_
    refine z_getr (pc := 36) (j := 2) (dd := 37) X cf_AS op0 (by decide) q368 rfl rfl d_AS_remove_36 ?_
    refine z_callVNv (pc := 39) (As := [.ref (g.2.2 (p0 + 37))]) (rest := []) X (fun l hl => c_History_remember hl (gf_AS_3 op0) (gf_AS_2 op0) zh_1 hv) cf_History (gf_AS_3 op0) rfl mf_History_remember q713 ⟨⟨by decide, by decide⟩, rfl, rfl⟩ rfl d_AS_remove_39 rfl (Nat.le_of_ble_eq_true rfl) (fun h_5 zh_5 hv => ?_)
    refine z_aload_n (pc := 42) (q := 1) X d_AS_remove_42 rfl ?_
    refine z_getr (pc := 43) (j := 2) (dd := 37) X cf_AS op0 (by decide) q368 rfl rfl d_AS_remove_43 ?_
    refine z_iload_n (pc := 46) (q := 2) X d_AS_remove_46 rfl ?_
    refine z_callVNv (pc := 47) (As := [zi x1]) (rest := []) X (fun l hl => c_State_dropItem hl (gf_AS_2 op0) rx1 zh_5 hv) cf_State (gf_AS_2 op0) rfl mf_State_dropItem q767 ⟨⟨by decide, by decide⟩, rfl, rfl⟩ rfl d_AS_remove_47 rfl (Nat.le_of_ble_eq_true rfl) (fun h_7 zh_7 hv => ?_)
    refine z_iload_n (pc := 50) (q := 0) X d_AS_remove_50 rfl ?_
    exact E.2.1 rfl _ _ _ _ d_AS_remove_51 ⟨_, rfl, rx2_4, zh_7, hv⟩
  · replace hv := hv.2 hc
    exact T _ _ _ 3 _ _ _ _ _ (by decide +kernel : (3, "java/lang/IndexOutOfBoundsException", 163, 167) ∈ zExc) zst_203 ⟨d_AS_remove_11, d_AS_remove_14, Or.inl ⟨d_AS_remove_15, d_AS_remove_17, d_AS_remove_20⟩⟩ zh_1 hv

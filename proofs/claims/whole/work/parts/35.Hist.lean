/-! 35.Hist (printed by wip/whole/methgen.py) -/
theorem d_History_placeInRing_0 : decode b_History_placeInRing 0 = .ok (.iload_n 0, 1) := by decide +kernel
theorem d_History_placeInRing_1 : decode b_History_placeInRing 1 = .ok (.bipush 14, 2) := by decide +kernel
theorem d_History_placeInRing_3 : decode b_History_placeInRing 3 = .ok (.invokestatic 39, 3) := by decide +kernel
theorem d_History_placeInRing_6 : decode b_History_placeInRing 6 = .ok (.ireturn, 1) := by decide +kernel
def rm_History_placeInRing : Room := { frames := 1, cells := 0, slots := 0, locals := 22 }
theorem mf_History_placeInRing : zMS y_History_placeInRing b_History_placeInRing 1 (some .int) 1 := ⟨q718, q7, q719, by decide +kernel⟩
def M_History_placeInRing (x0 : Int) (h : zH) (K : Int → zH → Prop) : Prop :=
  M_Math_floorMod x0 14 h (fun r_2 h_1 => K r_2 h_1)
set_option maxRecDepth 100000 in
theorem c_History_placeInRing {l : Launch} (hfl : l.flags = flags0) {g : zG} {n : Nat} {x0 : Int} (rx0 : zr x0) {h : zH} (hh : zh h) {K : Int → zH → Prop} (hv : M_History_placeInRing x0 h K) : zMet l y_History_placeInRing b_History_placeInRing 1 (some .int) rm_History_placeInRing g n [zi x0] h (zPi K) := by
  refine zMet_of (own := "AliasStreams$History") hfl (by decide) rfl (Nat.le_of_ble_eq_true rfl) (fun Wf m H0 X E => ?_)
  unfold M_History_placeInRing at hv
  show zW Wf m 1 g n H0 0 [(0, zi x0)] [] h
  refine z_iload_n (pc := 0) (q := 0) X d_History_placeInRing_0 rfl ?_
  refine z_bipush (pc := 1) X d_History_placeInRing_1 (by decide) ?_
  refine z_callSi (pc := 3) (As := [zi x0, zi 14]) (rest := []) X (fun l hl => c_Math_floorMod hl rx0 (show zr 14 from by decide) hh hv) mf_Math_floorMod q720 ⟨⟨by decide, by decide⟩, rfl, rfl⟩ rfl d_History_placeInRing_3 rfl (Nat.le_of_ble_eq_true rfl) (fun r_2 h_1 rr_2 zh_1 hv => ?_)
  exact E.2.1 rfl _ _ _ _ d_History_placeInRing_6 ⟨_, rfl, rr_2, zh_1, hv⟩
theorem d_History_remember_0 : decode b_History_remember 0 = .ok (.aload_n 0, 1) := by decide +kernel
theorem d_History_remember_1 : decode b_History_remember 1 = .ok (.getfield 11, 3) := by decide +kernel
theorem d_History_remember_4 : decode b_History_remember 4 = .ok (.aload_n 0, 1) := by decide +kernel
theorem d_History_remember_5 : decode b_History_remember 5 = .ok (.getfield 22, 3) := by decide +kernel
theorem d_History_remember_8 : decode b_History_remember 8 = .ok (.invokestatic 25, 3) := by decide +kernel
theorem d_History_remember_11 : decode b_History_remember 11 = .ok (.aaload, 1) := by decide +kernel
theorem d_History_remember_12 : decode b_History_remember 12 = .ok (.aload_n 1, 1) := by decide +kernel
theorem d_History_remember_13 : decode b_History_remember 13 = .ok (.invokevirtual 29, 3) := by decide +kernel
theorem d_History_remember_16 : decode b_History_remember 16 = .ok (.aload_n 0, 1) := by decide +kernel
theorem d_History_remember_17 : decode b_History_remember 17 = .ok (.aload_n 0, 1) := by decide +kernel
theorem d_History_remember_18 : decode b_History_remember 18 = .ok (.getfield 22, 3) := by decide +kernel
theorem d_History_remember_21 : decode b_History_remember 21 = .ok (.iconst 1, 1) := by decide +kernel
theorem d_History_remember_22 : decode b_History_remember 22 = .ok (.iadd, 1) := by decide +kernel
theorem d_History_remember_23 : decode b_History_remember 23 = .ok (.invokestatic 25, 3) := by decide +kernel
theorem d_History_remember_26 : decode b_History_remember 26 = .ok (.putfield 22, 3) := by decide +kernel
theorem d_History_remember_29 : decode b_History_remember 29 = .ok (.aload_n 0, 1) := by decide +kernel
theorem d_History_remember_30 : decode b_History_remember 30 = .ok (.aload_n 0, 1) := by decide +kernel
theorem d_History_remember_31 : decode b_History_remember 31 = .ok (.getfield 18, 3) := by decide +kernel
theorem d_History_remember_34 : decode b_History_remember 34 = .ok (.iconst 1, 1) := by decide +kernel
theorem d_History_remember_35 : decode b_History_remember 35 = .ok (.iadd, 1) := by decide +kernel
theorem d_History_remember_36 : decode b_History_remember 36 = .ok (.bipush 14, 2) := by decide +kernel
theorem d_History_remember_38 : decode b_History_remember 38 = .ok (.invokestatic 33, 3) := by decide +kernel
theorem d_History_remember_41 : decode b_History_remember 41 = .ok (.putfield 18, 3) := by decide +kernel
theorem d_History_remember_44 : decode b_History_remember 44 = .ok (.return_, 1) := by decide +kernel
def rm_History_remember : Room := { frames := 3, cells := 0, slots := 0, locals := 102 }
theorem mf_History_remember : zMV y_History_remember b_History_remember 2 none 1 := ⟨q715, qs39, q7, q716, by decide +kernel⟩
def M_History_remember (p0 : Nat) (p1 : Nat) (h : zH) (K : zH → Prop) : Prop :=
  M_History_placeInRing (h p0 1) h (fun r_2 h_1 => (0 ≤ r_2 ∧ r_2 < 14) ∧ (M_State_copyFrom ((p0 + 1) + 1 + 7 * r_2.toNat) p1 h_1 (fun h_4 => zr ((h_4 p0 1) + 1) ∧ (M_History_placeInRing ((h_4 p0 1) + 1) h_4 (fun r_8 h_7 => (∀ h_9 : zH, h_9 = zs h_7 p0 1 r_8 → (zr ((h_9 p0 2) + 1) ∧ ((∀ h_11 : zH, h_11 = zs h_9 p0 2 (if 14 < (h_9 p0 2) + 1 then 14 else (h_9 p0 2) + 1) → (K h_11))))))))))
set_option maxRecDepth 100000 in
theorem c_History_remember {l : Launch} (hfl : l.flags = flags0) {g : zG} {n : Nat} {p0 : Nat} {p1 : Nat} (op0 : zO n p0 0) (op1 : zO n p1 5) {h : zH} (hh : zh h) {K : zH → Prop} (hv : M_History_remember p0 p1 h K) : zMet l y_History_remember b_History_remember 2 none rm_History_remember g n [.ref (g.2.2 p0), .ref (g.2.2 p1)] h (zPv K) := by
  refine zMet_of (own := "AliasStreams$History") hfl (by decide) rfl (Nat.le_of_ble_eq_true rfl) (fun Wf m H0 X E => ?_)
  unfold M_History_remember at hv
  show zW Wf m 2 g n H0 0 [(0, .ref (g.2.2 p0)), (1, .ref (g.2.2 p1))] [] h
  refine z_aload_n (pc := 0) (q := 0) X d_History_remember_0 rfl ?_
  refine z_getr (pc := 1) (j := 0) (dd := 1) X cf_History op0 (by decide) q199 rfl rfl d_History_remember_1 ?_
  refine z_aload_n (pc := 4) (q := 0) X d_History_remember_4 rfl ?_
  refine z_geti (pc := 5) (j := 1) X cf_History op0 (by decide) q200 rfl rfl d_History_remember_5 ?_
  refine z_callSi (pc := 8) (As := [zi (h p0 1)]) (rest := [.ref (g.2.2 (p0 + 1))]) X (fun l hl => c_History_placeInRing hl (hh.1 _ _ (zO.ne op0 (by decide))) hh hv) mf_History_placeInRing q717 ⟨⟨by decide, by decide⟩, rfl, rfl⟩ rfl d_History_remember_8 rfl (Nat.le_of_ble_eq_true rfl) (fun r_2 h_1 rr_2 zh_1 hv => ?_)
  obtain ⟨v_3, hv⟩ := hv
  refine z_aaldSj (pc := 11) X (gf_History_0 op0) (gl_History_0 op0) rr_2 v_3 d_History_remember_11 ?_
  refine z_aload_n (pc := 12) (q := 1) X d_History_remember_12 rfl ?_
  refine z_callVNv (pc := 13) (As := [.ref (g.2.2 p1)]) (rest := []) X (fun l hl => c_State_copyFrom hl (gS (gf_History_0 op0) (gi (gl_History_0 op0) v_3.1 v_3.2)) op1 zh_1 hv) cf_State (gS (gf_History_0 op0) (gi (gl_History_0 op0) v_3.1 v_3.2)) rfl mf_State_copyFrom q723 ⟨⟨by decide, by decide⟩, rfl, rfl⟩ rfl d_History_remember_13 rfl (Nat.le_of_ble_eq_true rfl) (fun h_4 zh_4 hv => ?_)
  refine z_aload_n (pc := 16) (q := 0) X d_History_remember_16 rfl ?_
  refine z_aload_n (pc := 17) (q := 0) X d_History_remember_17 rfl ?_
  refine z_geti (pc := 18) (j := 1) X cf_History op0 (by decide) q200 rfl rfl d_History_remember_18 ?_
  refine z_iconst (pc := 21) X d_History_remember_21 ?_
  obtain ⟨v_6, hv⟩ := hv
  refine z_iadd (pc := 22) X d_History_remember_22 ?_
  refine z_callSi (pc := 23) (As := [zi ((h_4 p0 1) + 1)]) (rest := [.ref (g.2.2 p0)]) X (fun l hl => c_History_placeInRing hl v_6 zh_4 hv) mf_History_placeInRing q717 ⟨⟨by decide, by decide⟩, rfl, rfl⟩ rfl d_History_remember_23 rfl (Nat.le_of_ble_eq_true rfl) (fun r_8 h_7 rr_8 zh_7 hv => ?_)
  refine z_put (pc := 26) (j := 1) X cf_History op0 (by decide) q200 rfl rfl rfl rfl d_History_remember_26 ?_
  refine z_toph (fun h_9 eh_9 => ?_)
  have zh_9 : zh h_9 := by rw [eh_9]; exact zh_set zh_7 (zO.ne op0 (by decide)) rr_8
  replace hv := hv h_9 eh_9
  refine z_aload_n (pc := 29) (q := 0) X d_History_remember_29 rfl ?_
  refine z_aload_n (pc := 30) (q := 0) X d_History_remember_30 rfl ?_
  refine z_geti (pc := 31) (j := 2) X cf_History op0 (by decide) q201 rfl rfl d_History_remember_31 ?_
  refine z_iconst (pc := 34) X d_History_remember_34 ?_
  obtain ⟨v_10, hv⟩ := hv
  refine z_iadd (pc := 35) X d_History_remember_35 ?_
  refine z_bipush (pc := 36) X d_History_remember_36 (by decide) ?_
  refine z_mmin (pc := 38) X v_10 (show zr 14 from by decide) q732 q733 q12 q734 ⟨by decide, Nat.le_of_ble_eq_true rfl⟩ d_History_remember_38 ?_
  refine z_put (pc := 41) (j := 2) X cf_History op0 (by decide) q201 rfl rfl rfl rfl d_History_remember_41 ?_
  refine z_toph (fun h_11 eh_11 => ?_)
  have zh_11 : zh h_11 := by rw [eh_11]; exact zh_set zh_9 (zO.ne op0 (by decide)) (zr_ite (show zr 14 from by decide) v_10)
  replace hv := hv h_11 eh_11
  exact E.1 rfl _ _ _ d_History_remember_44 ⟨rfl, zh_11, hv⟩
theorem d_History_giveBack_0 : decode b_History_giveBack 0 = .ok (.aload_n 0, 1) := by decide +kernel
theorem d_History_giveBack_1 : decode b_History_giveBack 1 = .ok (.aload_n 0, 1) := by decide +kernel
theorem d_History_giveBack_2 : decode b_History_giveBack 2 = .ok (.getfield 22, 3) := by decide +kernel
theorem d_History_giveBack_5 : decode b_History_giveBack 5 = .ok (.iconst 1, 1) := by decide +kernel
theorem d_History_giveBack_6 : decode b_History_giveBack 6 = .ok (.isub, 1) := by decide +kernel
theorem d_History_giveBack_7 : decode b_History_giveBack 7 = .ok (.invokestatic 25, 3) := by decide +kernel
theorem d_History_giveBack_10 : decode b_History_giveBack 10 = .ok (.putfield 22, 3) := by decide +kernel
theorem d_History_giveBack_13 : decode b_History_giveBack 13 = .ok (.aload_n 1, 1) := by decide +kernel
theorem d_History_giveBack_14 : decode b_History_giveBack 14 = .ok (.aload_n 0, 1) := by decide +kernel
theorem d_History_giveBack_15 : decode b_History_giveBack 15 = .ok (.getfield 11, 3) := by decide +kernel
theorem d_History_giveBack_18 : decode b_History_giveBack 18 = .ok (.aload_n 0, 1) := by decide +kernel
theorem d_History_giveBack_19 : decode b_History_giveBack 19 = .ok (.getfield 22, 3) := by decide +kernel
theorem d_History_giveBack_22 : decode b_History_giveBack 22 = .ok (.aaload, 1) := by decide +kernel
theorem d_History_giveBack_23 : decode b_History_giveBack 23 = .ok (.invokevirtual 29, 3) := by decide +kernel
theorem d_History_giveBack_26 : decode b_History_giveBack 26 = .ok (.aload_n 0, 1) := by decide +kernel
theorem d_History_giveBack_27 : decode b_History_giveBack 27 = .ok (.dup, 1) := by decide +kernel
theorem d_History_giveBack_28 : decode b_History_giveBack 28 = .ok (.getfield 18, 3) := by decide +kernel
theorem d_History_giveBack_31 : decode b_History_giveBack 31 = .ok (.iconst 1, 1) := by decide +kernel
theorem d_History_giveBack_32 : decode b_History_giveBack 32 = .ok (.isub, 1) := by decide +kernel
theorem d_History_giveBack_33 : decode b_History_giveBack 33 = .ok (.putfield 18, 3) := by decide +kernel
theorem d_History_giveBack_36 : decode b_History_giveBack 36 = .ok (.return_, 1) := by decide +kernel
def rm_History_giveBack : Room := { frames := 3, cells := 0, slots := 0, locals := 102 }
theorem mf_History_giveBack : zMV y_History_giveBack b_History_giveBack 2 none 1 := ⟨q857, qs52, q7, q858, by decide +kernel⟩
def M_History_giveBack (p0 : Nat) (p1 : Nat) (h : zH) (K : zH → Prop) : Prop :=
  zr ((h p0 1) - 1) ∧ (M_History_placeInRing ((h p0 1) - 1) h (fun r_3 h_2 => (∀ h_4 : zH, h_4 = zs h_2 p0 1 r_3 → ((0 ≤ h_4 p0 1 ∧ h_4 p0 1 < 14) ∧ (M_State_copyFrom p1 ((p0 + 1) + 1 + 7 * (h_4 p0 1).toNat) h_4 (fun h_6 => zr ((h_6 p0 2) - 1) ∧ ((∀ h_9 : zH, h_9 = zs h_6 p0 2 ((h_6 p0 2) - 1) → (K h_9)))))))))
set_option maxRecDepth 100000 in
theorem c_History_giveBack {l : Launch} (hfl : l.flags = flags0) {g : zG} {n : Nat} {p0 : Nat} {p1 : Nat} (op0 : zO n p0 0) (op1 : zO n p1 5) {h : zH} (hh : zh h) {K : zH → Prop} (hv : M_History_giveBack p0 p1 h K) : zMet l y_History_giveBack b_History_giveBack 2 none rm_History_giveBack g n [.ref (g.2.2 p0), .ref (g.2.2 p1)] h (zPv K) := by
  refine zMet_of (own := "AliasStreams$History") hfl (by decide) rfl (Nat.le_of_ble_eq_true rfl) (fun Wf m H0 X E => ?_)
  unfold M_History_giveBack at hv
  show zW Wf m 2 g n H0 0 [(0, .ref (g.2.2 p0)), (1, .ref (g.2.2 p1))] [] h
  refine z_aload_n (pc := 0) (q := 0) X d_History_giveBack_0 rfl ?_
  refine z_aload_n (pc := 1) (q := 0) X d_History_giveBack_1 rfl ?_
  refine z_geti (pc := 2) (j := 1) X cf_History op0 (by decide) q200 rfl rfl d_History_giveBack_2 ?_
  refine z_iconst (pc := 5) X d_History_giveBack_5 ?_
  obtain ⟨v_1, hv⟩ := hv
  refine z_isub (pc := 6) X d_History_giveBack_6 ?_
  refine z_callSi (pc := 7) (As := [zi ((h p0 1) - 1)]) (rest := [.ref (g.2.2 p0)]) X (fun l hl => c_History_placeInRing hl v_1 hh hv) mf_History_placeInRing q717 ⟨⟨by decide, by decide⟩, rfl, rfl⟩ rfl d_History_giveBack_7 rfl (Nat.le_of_ble_eq_true rfl) (fun r_3 h_2 rr_3 zh_2 hv => ?_)
  refine z_put (pc := 10) (j := 1) X cf_History op0 (by decide) q200 rfl rfl rfl rfl d_History_giveBack_10 ?_
  refine z_toph (fun h_4 eh_4 => ?_)
  have zh_4 : zh h_4 := by rw [eh_4]; exact zh_set zh_2 (zO.ne op0 (by decide)) rr_3
  replace hv := hv h_4 eh_4
  refine z_aload_n (pc := 13) (q := 1) X d_History_giveBack_13 rfl ?_
  refine z_aload_n (pc := 14) (q := 0) X d_History_giveBack_14 rfl ?_
  refine z_getr (pc := 15) (j := 0) (dd := 1) X cf_History op0 (by decide) q199 rfl rfl d_History_giveBack_15 ?_
  refine z_aload_n (pc := 18) (q := 0) X d_History_giveBack_18 rfl ?_
  refine z_geti (pc := 19) (j := 1) X cf_History op0 (by decide) q200 rfl rfl d_History_giveBack_19 ?_
  obtain ⟨v_5, hv⟩ := hv
  refine z_aaldSj (pc := 22) X (gf_History_0 op0) (gl_History_0 op0) (zh_4.1 _ _ (zO.ne op0 (by decide))) v_5 d_History_giveBack_22 ?_
  refine z_callVNv (pc := 23) (As := [.ref (g.2.2 ((p0 + 1) + 1 + 7 * (h_4 p0 1).toNat))]) (rest := []) X (fun l hl => c_State_copyFrom hl op1 (gS (gf_History_0 op0) (gi (gl_History_0 op0) v_5.1 v_5.2)) zh_4 hv) cf_State op1 rfl mf_State_copyFrom q723 ⟨⟨by decide, by decide⟩, rfl, rfl⟩ rfl d_History_giveBack_23 rfl (Nat.le_of_ble_eq_true rfl) (fun h_6 zh_6 hv => ?_)
  refine z_aload_n (pc := 26) (q := 0) X d_History_giveBack_26 rfl ?_
  refine z_dup (pc := 27) X d_History_giveBack_27 rfl ?_
  refine z_geti (pc := 28) (j := 2) X cf_History op0 (by decide) q201 rfl rfl d_History_giveBack_28 ?_
  refine z_iconst (pc := 31) X d_History_giveBack_31 ?_
  obtain ⟨v_8, hv⟩ := hv
  refine z_isub (pc := 32) X d_History_giveBack_32 ?_
  refine z_put (pc := 33) (j := 2) X cf_History op0 (by decide) q201 rfl rfl rfl rfl d_History_giveBack_33 ?_
  refine z_toph (fun h_9 eh_9 => ?_)
  have zh_9 : zh h_9 := by rw [eh_9]; exact zh_set zh_6 (zO.ne op0 (by decide)) v_8
  replace hv := hv h_9 eh_9
  exact E.1 rfl _ _ _ d_History_giveBack_36 ⟨rfl, zh_9, hv⟩
theorem d_Script_groupOf_0 : decode b_Script_groupOf 0 = .ok (.iload_n 2, 1) := by decide +kernel
theorem d_Script_groupOf_1 : decode b_Script_groupOf 1 = .ok (.ifCond .lt 8, 3) := by decide +kernel
theorem d_Script_groupOf_4 : decode b_Script_groupOf 4 = .ok (.iload_n 2, 1) := by decide +kernel
theorem d_Script_groupOf_5 : decode b_Script_groupOf 5 = .ok (.iconst 4, 1) := by decide +kernel
theorem d_Script_groupOf_6 : decode b_Script_groupOf 6 = .ok (.if_icmp .lt 5, 3) := by decide +kernel
theorem d_Script_groupOf_9 : decode b_Script_groupOf 9 = .ok (.iconst 0, 1) := by decide +kernel
theorem d_Script_groupOf_10 : decode b_Script_groupOf 10 = .ok (.ireturn, 1) := by decide +kernel
theorem d_Script_groupOf_11 : decode b_Script_groupOf 11 = .ok (.getstatic 44, 3) := by decide +kernel
theorem d_Script_groupOf_14 : decode b_Script_groupOf 14 = .ok (.iload_n 2, 1) := by decide +kernel
theorem d_Script_groupOf_15 : decode b_Script_groupOf 15 = .ok (.laload, 1) := by decide +kernel
theorem d_Script_groupOf_16 : decode b_Script_groupOf 16 = .ok (.lstore_n 3, 1) := by decide +kernel
theorem d_Script_groupOf_17 : decode b_Script_groupOf 17 = .ok (.lload_n 3, 1) := by decide +kernel
theorem d_Script_groupOf_18 : decode b_Script_groupOf 18 = .ok (.lconst 0, 1) := by decide +kernel
theorem d_Script_groupOf_19 : decode b_Script_groupOf 19 = .ok (.lcmp, 1) := by decide +kernel
theorem d_Script_groupOf_20 : decode b_Script_groupOf 20 = .ok (.ifCond .le 14, 3) := by decide +kernel
theorem d_Script_groupOf_23 : decode b_Script_groupOf 23 = .ok (.lload_n 0, 1) := by decide +kernel
theorem d_Script_groupOf_24 : decode b_Script_groupOf 24 = .ok (.lload_n 3, 1) := by decide +kernel
theorem d_Script_groupOf_25 : decode b_Script_groupOf 25 = .ok (.ldiv, 1) := by decide +kernel
theorem d_Script_groupOf_26 : decode b_Script_groupOf 26 = .ok (.ldc2_w 48, 3) := by decide +kernel
theorem d_Script_groupOf_29 : decode b_Script_groupOf 29 = .ok (.lrem, 1) := by decide +kernel
theorem d_Script_groupOf_30 : decode b_Script_groupOf 30 = .ok (.l2i, 1) := by decide +kernel
theorem d_Script_groupOf_31 : decode b_Script_groupOf 31 = .ok (.goto 4, 3) := by decide +kernel
theorem d_Script_groupOf_34 : decode b_Script_groupOf 34 = .ok (.iconst 0, 1) := by decide +kernel
theorem d_Script_groupOf_35 : decode b_Script_groupOf 35 = .ok (.ireturn, 1) := by decide +kernel
def rm_Script_groupOf : Room := { frames := 0, cells := 0, slots := 0, locals := 0 }
theorem mf_Script_groupOf : zMS y_Script_groupOf b_Script_groupOf 5 (some .int) 2 := ⟨q932, q11, q933, by decide +kernel⟩
def M_Script_groupOf (x0 : Int) (x2 : Int) (h : zH) (K : Int → zH → Prop) : Prop :=
  (x2 < 0 → (K 0 h)) ∧ (0 ≤ x2 → ((x2 < 4 → ((0 ≤ x2 ∧ x2 < 5) ∧ ((∀ x3_2 : Int, x3_2 = zgv x2 → ((x3_2 ≤ 0 → (K 0 h)) ∧ (0 < x3_2 → ((0 ≤ x0 ∧ 0 < x3_2) ∧ (0 ≤ x0 / x3_2 ∧ (K (zw ((x0 / x3_2) % 10000)) h))))))))) ∧ (4 ≤ x2 → (K 0 h))))
set_option maxRecDepth 100000 in
theorem c_Script_groupOf {l : Launch} (hfl : l.flags = flags0) {g : zG} {n : Nat} {x0 : Int} {x2 : Int} (rx0 : zrl x0) (rx2 : zr x2) {h : zH} (hh : zh h) {K : Int → zH → Prop} (hv : M_Script_groupOf x0 x2 h K) : zMet l y_Script_groupOf b_Script_groupOf 5 (some .int) rm_Script_groupOf g n [zj x0, zi x2] h (zPi K) := by
  refine zMet_of (own := "AliasStreams$Script") hfl (by decide) rfl (Nat.le_of_ble_eq_true rfl) (fun Wf m H0 X E => ?_)
  unfold M_Script_groupOf at hv
  show zW Wf m 5 g n H0 0 [(0, zj x0), (2, zi x2)] [] h
  refine z_iload_n (pc := 0) (q := 1) X d_Script_groupOf_0 rfl ?_
  refine z_if_lt (pc := 1) (tgt := 9) X rx2 d_Script_groupOf_1 (by decide) (fun hc => ?_) (fun hc => ?_)
  · replace hv := hv.1 hc
    refine z_iconst (pc := 9) X d_Script_groupOf_9 ?_
    exact E.2.1 rfl _ _ _ _ d_Script_groupOf_10 ⟨_, rfl, (show zr 0 from by decide), hh, hv⟩
  · replace hv := hv.2 hc
    refine z_iload_n (pc := 4) (q := 1) X d_Script_groupOf_4 rfl ?_
    refine z_iconst (pc := 5) X d_Script_groupOf_5 ?_
    refine z_icmp_lt (pc := 6) (tgt := 11) X rx2 (show zr 4 from by decide) d_Script_groupOf_6 (by decide) (fun hc => ?_) (fun hc => ?_)
    · replace hv := hv.1 hc
      obtain ⟨v_1, hv⟩ := hv
      refine z_gv (pc := 11) (q := 1) X q934 rfl rx2 v_1 d_Script_groupOf_11 d_Script_groupOf_14 d_Script_groupOf_15 ?_
      refine z_topj (fun x3_2 ex3_2 => ?_)
      have rx3_2 : zrl x3_2 := by rw [ex3_2]; exact (zrl_gv _)
      replace hv := hv x3_2 ex3_2
      refine z_lstore_n (pc := 16) (lv' := [(3, zj x3_2), (0, zj x0), (2, zi x2)]) X d_Script_groupOf_16 (by decide) rfl ?_
      refine z_lload_n (pc := 17) (q := 0) X d_Script_groupOf_17 rfl ?_
      refine z_lconst (pc := 18) (x := 0) X d_Script_groupOf_18 (by decide) ?_
      refine z_lif_le (pc := 19) (tgt := 34) X rx3_2 (show zrl 0 from by decide) d_Script_groupOf_19 d_Script_groupOf_20 (by decide) (fun hc => ?_) (fun hc => ?_)
      · replace hv := hv.1 hc
        refine z_iconst (pc := 34) X d_Script_groupOf_34 ?_
        exact E.2.1 rfl _ _ _ _ d_Script_groupOf_35 ⟨_, rfl, (show zr 0 from by decide), hh, hv⟩
      · replace hv := hv.2 hc
        refine z_lload_n (pc := 23) (q := 1) X d_Script_groupOf_23 rfl ?_
        refine z_lload_n (pc := 24) (q := 0) X d_Script_groupOf_24 rfl ?_
        obtain ⟨v_3, hv⟩ := hv
        refine z_ldiv (pc := 25) X rx0 rx3_2 v_3.1 v_3.2 d_Script_groupOf_25 ?_
        refine z_ldc2 (pc := 26) (x := 10000) X d_Script_groupOf_26 q935 (by decide) ?_
        obtain ⟨v_4, hv⟩ := hv
        refine z_lrem (pc := 29) X (zrl_div rx0 v_3.1 v_3.2) (show zrl 10000 from by decide) v_4 (by decide) d_Script_groupOf_29 ?_
        refine z_l2i (pc := 30) X (zrl_rem (show zrl 10000 from by decide) (by decide)) d_Script_groupOf_30 ?_
        refine z_goto (pc := 31) (tgt := 35) X d_Script_groupOf_31 (by decide) ?_
        exact E.2.1 rfl _ _ _ _ d_Script_groupOf_35 ⟨_, rfl, (zr_w _), hh, hv⟩
    · replace hv := hv.2 hc
      refine z_iconst (pc := 9) X d_Script_groupOf_9 ?_
      exact E.2.1 rfl _ _ _ _ d_Script_groupOf_10 ⟨_, rfl, (show zr 0 from by decide), hh, hv⟩
theorem d_Script_run_0 : decode b_Script_run 0 = .ok (.aload_n 0, 1) := by decide +kernel
theorem d_Script_run_1 : decode b_Script_run 1 = .ok (.getfield 12, 3) := by decide +kernel
theorem d_Script_run_4 : decode b_Script_run 4 = .ok (.aload_n 1, 1) := by decide +kernel
theorem d_Script_run_5 : decode b_Script_run 5 = .ok (.invokevirtual 32, 3) := by decide +kernel
theorem d_Script_run_8 : decode b_Script_run 8 = .ok (.iconst 0, 1) := by decide +kernel
theorem d_Script_run_9 : decode b_Script_run 9 = .ok (.istore 6, 2) := by decide +kernel
theorem d_Script_run_11 : decode b_Script_run 11 = .ok (.iload 6, 2) := by decide +kernel
theorem d_Script_run_13 : decode b_Script_run 13 = .ok (.iload_n 3, 1) := by decide +kernel
theorem d_Script_run_14 : decode b_Script_run 14 = .ok (.if_icmp .ge 41, 3) := by decide +kernel
theorem d_Script_run_17 : decode b_Script_run 17 = .ok (.iload 6, 2) := by decide +kernel
theorem d_Script_run_19 : decode b_Script_run 19 = .ok (.iconst 4, 1) := by decide +kernel
theorem d_Script_run_20 : decode b_Script_run 20 = .ok (.if_icmp .ge 35, 3) := by decide +kernel
theorem d_Script_run_23 : decode b_Script_run 23 = .ok (.lload 4, 2) := by decide +kernel
theorem d_Script_run_25 : decode b_Script_run 25 = .ok (.iload_n 3, 1) := by decide +kernel
theorem d_Script_run_26 : decode b_Script_run 26 = .ok (.iconst 1, 1) := by decide +kernel
theorem d_Script_run_27 : decode b_Script_run 27 = .ok (.isub, 1) := by decide +kernel
theorem d_Script_run_28 : decode b_Script_run 28 = .ok (.iload 6, 2) := by decide +kernel
theorem d_Script_run_30 : decode b_Script_run 30 = .ok (.isub, 1) := by decide +kernel
theorem d_Script_run_31 : decode b_Script_run 31 = .ok (.invokestatic 36, 3) := by decide +kernel
theorem d_Script_run_34 : decode b_Script_run 34 = .ok (.istore 7, 2) := by decide +kernel
theorem d_Script_run_36 : decode b_Script_run 36 = .ok (.aload_n 0, 1) := by decide +kernel
theorem d_Script_run_37 : decode b_Script_run 37 = .ok (.iload 7, 2) := by decide +kernel
theorem d_Script_run_39 : decode b_Script_run 39 = .ok (.aload_n 2, 1) := by decide +kernel
theorem d_Script_run_40 : decode b_Script_run 40 = .ok (.invokevirtual 40, 3) := by decide +kernel
theorem d_Script_run_43 : decode b_Script_run 43 = .ok (.ifCond .ne 6, 3) := by decide +kernel
theorem d_Script_run_46 : decode b_Script_run 46 = .ok (.iload 6, 2) := by decide +kernel
theorem d_Script_run_48 : decode b_Script_run 48 = .ok (.ireturn, 1) := by decide +kernel
theorem d_Script_run_49 : decode b_Script_run 49 = .ok (.iinc 6 1, 3) := by decide +kernel
theorem d_Script_run_52 : decode b_Script_run 52 = .ok (.goto (-41), 3) := by decide +kernel
theorem d_Script_run_55 : decode b_Script_run 55 = .ok (.bipush (-9), 2) := by decide +kernel
theorem d_Script_run_57 : decode b_Script_run 57 = .ok (.ireturn, 1) := by decide +kernel
def rm_Script_run : Room := { frames := 5, cells := 0, slots := 0, locals := 118 }
theorem mf_Script_run : zMV y_Script_run b_Script_run 8 (some .int) 4 := ⟨q928, qs56, q11, q929, by decide +kernel⟩
def F_Script_run_11 (K : Int → zH → Prop)  (L11 : Int × zH → Prop) (p0 : Nat) (p2 : Nat) (x3 : Int) (x4 : Int) (x6 : Int) (h : zH) : Prop :=
  (x3 ≤ x6 → (K (-9) h)) ∧ (x6 < x3 → ((4 ≤ x6 → (K (-9) h)) ∧ (x6 < 4 → (zr (x3 - 1) ∧ (zr ((x3 - 1) - x6) ∧ (M_Script_groupOf x4 ((x3 - 1) - x6) h (fun r_4 h_3 => M_Script_execute p0 r_4 p2 h_3 (fun r_6 h_5 => (r_6 ≠ 0 → (zr (x6 + 1) ∧ (L11 (x6 + 1, h_5)))) ∧ (r_6 = 0 → (K x6 h_5))))))))))
set_option maxRecDepth 100000 in
theorem s_Script_run_11 {Wf : Heap → List Loc → JFrame → Prop} {m : MethodId} {g : zG} {n : Nat} {H0 : Heap} (X : zX Wf m rm_Script_run b_Script_run "AliasStreams$Script" 8 g n H0) {K : Int → zH → Prop} (E : zEx Wf m b_Script_run (some .int) 8 g n H0 (zPi K))  {p0 : Nat} {p2 : Nat} {x3 : Int} {x4 : Int}  (op0 : zO n p0 4) (op2 : zO n p2 2) (rx3 : zr x3) (rx4 : zrl x4) {q0 : Int × zH} (hv0 : zLoop (fun L q => F_Script_run_11 K   L p0 p2 x3 x4 q.1 q.2) q0) : zr q0.1 → zh (q0.2) → zW Wf m 8 g n H0 11 [(0, .ref (g.2.2 p0)), (2, .ref (g.2.2 p2)), (3, zi x3), (4, zj x4), (6, zi q0.1)] [] (q0.2) := by
  refine zLoop_use (G := fun q => zr q.1 → zh (q.2) → zW Wf m 8 g n H0 11 [(0, .ref (g.2.2 p0)), (2, .ref (g.2.2 p2)), (3, zi x3), (4, zj x4), (6, zi q.1)] [] (q.2)) ?_ hv0
  rintro L11 ⟨x6, h⟩ hL11 hv rx6 hh
  have hv : F_Script_run_11 K   L11 p0 p2 x3 x4 x6 h := hv
  unfold F_Script_run_11 at hv
  show zW Wf m 8 g n H0 11 [(0, .ref (g.2.2 p0)), (2, .ref (g.2.2 p2)), (3, zi x3), (4, zj x4), (6, zi x6)] [] h
  refine z_iload (pc := 11) (q := 4) X d_Script_run_11 rfl ?_
  refine z_iload_n (pc := 13) (q := 2) X d_Script_run_13 rfl ?_
  refine z_icmp_ge (pc := 14) (tgt := 55) X rx6 rx3 d_Script_run_14 (by decide) (fun hc => ?_) (fun hc => ?_)
  · replace hv := hv.1 hc
    refine z_bipush (pc := 55) X d_Script_run_55 (by decide) ?_
    exact E.2.1 rfl _ _ _ _ d_Script_run_57 ⟨_, rfl, (show zr (-9) from by decide), hh, hv⟩
  · replace hv := hv.2 hc
    refine z_iload (pc := 17) (q := 4) X d_Script_run_17 rfl ?_
    refine z_iconst (pc := 19) X d_Script_run_19 ?_
    refine z_icmp_ge (pc := 20) (tgt := 55) X rx6 (show zr 4 from by decide) d_Script_run_20 (by decide) (fun hc => ?_) (fun hc => ?_)
    · replace hv := hv.1 hc
      refine z_bipush (pc := 55) X d_Script_run_55 (by decide) ?_
      exact E.2.1 rfl _ _ _ _ d_Script_run_57 ⟨_, rfl, (show zr (-9) from by decide), hh, hv⟩
    · replace hv := hv.2 hc
      refine z_lload (pc := 23) (q := 3) X d_Script_run_23 rfl ?_
      refine z_iload_n (pc := 25) (q := 2) X d_Script_run_25 rfl ?_
      refine z_iconst (pc := 26) X d_Script_run_26 ?_
      obtain ⟨v_1, hv⟩ := hv
      refine z_isub (pc := 27) X d_Script_run_27 ?_
      refine z_iload (pc := 28) (q := 4) X d_Script_run_28 rfl ?_
      obtain ⟨v_2, hv⟩ := hv
      refine z_isub (pc := 30) X d_Script_run_30 ?_
      refine z_callSi (pc := 31) (As := [zj x4, zi ((x3 - 1) - x6)]) (rest := []) X (fun l hl => c_Script_groupOf hl rx4 v_2 hh hv) mf_Script_groupOf q931 ⟨⟨by decide, by decide⟩, rfl, rfl⟩ rfl d_Script_run_31 rfl (Nat.le_of_ble_eq_true rfl) (fun r_4 h_3 rr_4 zh_3 hv => ?_)
      refine z_istore (pc := 34) (lv' := [(7, zi r_4), (0, .ref (g.2.2 p0)), (2, .ref (g.2.2 p2)), (3, zi x3), (4, zj x4), (6, zi x6)]) X d_Script_run_34 (by decide) rfl ?_
      refine z_aload_n (pc := 36) (q := 1) X d_Script_run_36 rfl ?_
      refine z_iload (pc := 37) (q := 0) X d_Script_run_37 rfl ?_
      refine z_aload_n (pc := 39) (q := 2) X d_Script_run_39 rfl ?_
      refine z_callVi (pc := 40) (As := [zi r_4, .ref (g.2.2 p2)]) (rest := []) X (fun l hl => c_Script_execute hl op0 rr_4 op2 zh_3 hv) cf_Script op0 rfl mf_Script_execute q936 ⟨⟨by decide, by decide⟩, rfl, rfl⟩ rfl d_Script_run_40 rfl (Nat.le_of_ble_eq_true rfl) (fun r_6 h_5 rr_6 zh_5 hv => ?_)
      refine z_if_ne (pc := 43) (tgt := 49) X rr_6 d_Script_run_43 (by decide) (fun hc => ?_) (fun hc => ?_)
      · replace hv := hv.1 hc
        obtain ⟨v_7, hv⟩ := hv
        refine z_iinc (pc := 49) (q := 5) (lv' := [(6, zi (x6 + 1)), (7, zi r_4), (0, .ref (g.2.2 p0)), (2, .ref (g.2.2 p2)), (3, zi x3), (4, zj x4)]) X d_Script_run_49 rfl (by decide) rfl ?_
        refine z_goto (pc := 52) (tgt := 11) X d_Script_run_52 (by decide) ?_
        refine z_perm [2, 3, 4, 5, 0] rfl ?_
        exact hL11 _ hv v_7 zh_5
      · replace hv := hv.2 hc
        refine z_iload (pc := 46) (q := 5) X d_Script_run_46 rfl ?_
        exact E.2.1 rfl _ _ _ _ d_Script_run_48 ⟨_, rfl, rx6, zh_5, hv⟩
def M_Script_run (p0 : Nat) (p1 : Nat) (p2 : Nat) (x3 : Int) (x4 : Int) (h : zH) (K : Int → zH → Prop) : Prop :=
  M_State_copyFrom (p0 + 1) p1 h (fun h_1 => zLoop (fun L q => F_Script_run_11 K   L p0 p2 x3 x4 q.1 q.2) (0, h_1))
set_option maxRecDepth 100000 in
theorem c_Script_run {l : Launch} (hfl : l.flags = flags0) {g : zG} {n : Nat} {p0 : Nat} {p1 : Nat} {p2 : Nat} {x3 : Int} {x4 : Int} (op0 : zO n p0 4) (op1 : zO n p1 5) (op2 : zO n p2 2) (rx3 : zr x3) (rx4 : zrl x4) {h : zH} (hh : zh h) {K : Int → zH → Prop} (hv : M_Script_run p0 p1 p2 x3 x4 h K) : zMet l y_Script_run b_Script_run 8 (some .int) rm_Script_run g n [.ref (g.2.2 p0), .ref (g.2.2 p1), .ref (g.2.2 p2), zi x3, zj x4] h (zPi K) := by
  refine zMet_of (own := "AliasStreams$Script") hfl (by decide) rfl (Nat.le_of_ble_eq_true rfl) (fun Wf m H0 X E => ?_)
  unfold M_Script_run at hv
  show zW Wf m 8 g n H0 0 [(0, .ref (g.2.2 p0)), (1, .ref (g.2.2 p1)), (2, .ref (g.2.2 p2)), (3, zi x3), (4, zj x4)] [] h
  refine z_aload_n (pc := 0) (q := 0) X d_Script_run_0 rfl ?_
  refine z_getr (pc := 1) (j := 0) (dd := 1) X cf_Script op0 (by decide) q303 rfl rfl d_Script_run_1 ?_
  refine z_aload_n (pc := 4) (q := 1) X d_Script_run_4 rfl ?_
  refine z_callVNv (pc := 5) (As := [.ref (g.2.2 p1)]) (rest := []) X (fun l hl => c_State_copyFrom hl (gf_Script_0 op0) op1 hh hv) cf_State (gf_Script_0 op0) rfl mf_State_copyFrom q930 ⟨⟨by decide, by decide⟩, rfl, rfl⟩ rfl d_Script_run_5 rfl (Nat.le_of_ble_eq_true rfl) (fun h_1 zh_1 hv => ?_)
  refine z_iconst (pc := 8) X d_Script_run_8 ?_
  refine z_istore (pc := 9) (lv' := [(6, zi 0), (0, .ref (g.2.2 p0)), (1, .ref (g.2.2 p1)), (2, .ref (g.2.2 p2)), (3, zi x3), (4, zj x4)]) X d_Script_run_9 (by decide) rfl ?_
  refine z_perm [1, 3, 4, 5, 0] rfl ?_
  exact s_Script_run_11 X E  op0 op2 rx3 rx4 hv (show zr 0 from by decide) zh_1

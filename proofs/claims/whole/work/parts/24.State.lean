/-! 24.State (printed by wip/whole/methgen.py) -/
theorem d_State_copyFrom_0 : decode b_State_copyFrom 0 = .ok (.aload_n 1, 1) := by decide +kernel
theorem d_State_copyFrom_1 : decode b_State_copyFrom 1 = .ok (.getfield 9, 3) := by decide +kernel
theorem d_State_copyFrom_4 : decode b_State_copyFrom 4 = .ok (.iconst 0, 1) := by decide +kernel
theorem d_State_copyFrom_5 : decode b_State_copyFrom 5 = .ok (.aload_n 0, 1) := by decide +kernel
theorem d_State_copyFrom_6 : decode b_State_copyFrom 6 = .ok (.getfield 9, 3) := by decide +kernel
theorem d_State_copyFrom_9 : decode b_State_copyFrom 9 = .ok (.iconst 0, 1) := by decide +kernel
theorem d_State_copyFrom_10 : decode b_State_copyFrom 10 = .ok (.bipush 24, 2) := by decide +kernel
theorem d_State_copyFrom_12 : decode b_State_copyFrom 12 = .ok (.invokestatic 25, 3) := by decide +kernel
theorem d_State_copyFrom_15 : decode b_State_copyFrom 15 = .ok (.aload_n 1, 1) := by decide +kernel
theorem d_State_copyFrom_16 : decode b_State_copyFrom 16 = .ok (.getfield 15, 3) := by decide +kernel
theorem d_State_copyFrom_19 : decode b_State_copyFrom 19 = .ok (.iconst 0, 1) := by decide +kernel
theorem d_State_copyFrom_20 : decode b_State_copyFrom 20 = .ok (.aload_n 0, 1) := by decide +kernel
theorem d_State_copyFrom_21 : decode b_State_copyFrom 21 = .ok (.getfield 15, 3) := by decide +kernel
theorem d_State_copyFrom_24 : decode b_State_copyFrom 24 = .ok (.iconst 0, 1) := by decide +kernel
theorem d_State_copyFrom_25 : decode b_State_copyFrom 25 = .ok (.bipush 40, 2) := by decide +kernel
theorem d_State_copyFrom_27 : decode b_State_copyFrom 27 = .ok (.invokestatic 25, 3) := by decide +kernel
theorem d_State_copyFrom_30 : decode b_State_copyFrom 30 = .ok (.aload_n 0, 1) := by decide +kernel
theorem d_State_copyFrom_31 : decode b_State_copyFrom 31 = .ok (.aload_n 1, 1) := by decide +kernel
theorem d_State_copyFrom_32 : decode b_State_copyFrom 32 = .ok (.getfield 31, 3) := by decide +kernel
theorem d_State_copyFrom_35 : decode b_State_copyFrom 35 = .ok (.putfield 31, 3) := by decide +kernel
theorem d_State_copyFrom_38 : decode b_State_copyFrom 38 = .ok (.aload_n 0, 1) := by decide +kernel
theorem d_State_copyFrom_39 : decode b_State_copyFrom 39 = .ok (.getfield 21, 3) := by decide +kernel
theorem d_State_copyFrom_42 : decode b_State_copyFrom 42 = .ok (.aload_n 1, 1) := by decide +kernel
theorem d_State_copyFrom_43 : decode b_State_copyFrom 43 = .ok (.getfield 21, 3) := by decide +kernel
theorem d_State_copyFrom_46 : decode b_State_copyFrom 46 = .ok (.invokevirtual 35, 3) := by decide +kernel
theorem d_State_copyFrom_49 : decode b_State_copyFrom 49 = .ok (.return_, 1) := by decide +kernel
def rm_State_copyFrom : Room := { frames := 2, cells := 0, slots := 0, locals := 81 }
theorem mf_State_copyFrom : zMV y_State_copyFrom b_State_copyFrom 2 none 1 := ⟨q725, qs40, q5, q726, by decide +kernel⟩
def M_State_copyFrom (p0 : Nat) (p1 : Nat) (h : zH) (K : zH → Prop) : Prop :=
  (∀ h_1 : zH, h_1 = zcp h (p1 + 1) 0 (p0 + 1) 0 24 → ((∀ h_2 : zH, h_2 = zcp h_1 (p1 + 2) 0 (p0 + 2) 0 40 → ((∀ h_3 : zH, h_3 = zs h_2 p0 3 (h_2 p1 3) → (M_Tape_copyFrom (p0 + 3) (p1 + 3) h_3 (fun h_4 => K h_4)))))))
set_option maxRecDepth 100000 in
theorem c_State_copyFrom {l : Launch} (hfl : l.flags = flags0) {g : zG} {n : Nat} {p0 : Nat} {p1 : Nat} (op0 : zO n p0 5) (op1 : zO n p1 5) {h : zH} (hh : zh h) {K : zH → Prop} (hv : M_State_copyFrom p0 p1 h K) : zMet l y_State_copyFrom b_State_copyFrom 2 none rm_State_copyFrom g n [.ref (g.2.2 p0), .ref (g.2.2 p1)] h (zPv K) := by
  refine zMet_of (own := "AliasStreams$State") hfl (by decide) rfl (Nat.le_of_ble_eq_true rfl) (fun Wf m H0 X E => ?_)
  unfold M_State_copyFrom at hv
  show zW Wf m 2 g n H0 0 [(0, .ref (g.2.2 p0)), (1, .ref (g.2.2 p1))] [] h
  refine z_aload_n (pc := 0) (q := 1) X d_State_copyFrom_0 rfl ?_
  refine z_getr (pc := 1) (j := 0) (dd := 1) X cf_State op1 (by decide) q169 rfl rfl d_State_copyFrom_1 ?_
  refine z_iconst (pc := 4) X d_State_copyFrom_4 ?_
  refine z_aload_n (pc := 5) (q := 0) X d_State_copyFrom_5 rfl ?_
  refine z_getr (pc := 6) (j := 0) (dd := 1) X cf_State op0 (by decide) q169 rfl rfl d_State_copyFrom_6 ?_
  refine z_iconst (pc := 9) X d_State_copyFrom_9 ?_
  refine z_bipush (pc := 10) X d_State_copyFrom_10 (by decide) ?_
  refine z_copy (pc := 12) (sp := 0) (dp := 0) (len := 24) X (gf_State_0 op1) (gf_State_0 op0) (gl_State_0 op1) (gl_State_0 op0) rfl rfl rfl (by decide) (by decide) (by decide) (by decide) (by decide) q592 q594 q593 q19 ⟨by decide, Nat.le_of_ble_eq_true rfl⟩ d_State_copyFrom_12 ?_
  refine z_toph (fun h_1 eh_1 => ?_)
  have zh_1 : zh h_1 := by rw [eh_1]; exact zh_cp hh (zO.ne (gf_State_0 op1) (by decide)) (zO.ne (gf_State_0 op0) (by decide))
  replace hv := hv h_1 eh_1
  refine z_aload_n (pc := 15) (q := 1) X d_State_copyFrom_15 rfl ?_
  refine z_getr (pc := 16) (j := 1) (dd := 2) X cf_State op1 (by decide) q171 rfl rfl d_State_copyFrom_16 ?_
  refine z_iconst (pc := 19) X d_State_copyFrom_19 ?_
  refine z_aload_n (pc := 20) (q := 0) X d_State_copyFrom_20 rfl ?_
  refine z_getr (pc := 21) (j := 1) (dd := 2) X cf_State op0 (by decide) q171 rfl rfl d_State_copyFrom_21 ?_
  refine z_iconst (pc := 24) X d_State_copyFrom_24 ?_
  refine z_bipush (pc := 25) X d_State_copyFrom_25 (by decide) ?_
  refine z_copy (pc := 27) (sp := 0) (dp := 0) (len := 40) X (gf_State_1 op1) (gf_State_1 op0) (gl_State_1 op1) (gl_State_1 op0) rfl rfl rfl (by decide) (by decide) (by decide) (by decide) (by decide) q592 q594 q593 q19 ⟨by decide, Nat.le_of_ble_eq_true rfl⟩ d_State_copyFrom_27 ?_
  refine z_toph (fun h_2 eh_2 => ?_)
  have zh_2 : zh h_2 := by rw [eh_2]; exact zh_cp zh_1 (zO.ne (gf_State_1 op1) (by decide)) (zO.ne (gf_State_1 op0) (by decide))
  replace hv := hv h_2 eh_2
  refine z_aload_n (pc := 30) (q := 0) X d_State_copyFrom_30 rfl ?_
  refine z_aload_n (pc := 31) (q := 1) X d_State_copyFrom_31 rfl ?_
  refine z_geti (pc := 32) (j := 3) X cf_State op1 (by decide) q178 rfl rfl d_State_copyFrom_32 ?_
  refine z_put (pc := 35) (j := 3) X cf_State op0 (by decide) q178 rfl rfl rfl rfl d_State_copyFrom_35 ?_
  refine z_toph (fun h_3 eh_3 => ?_)
  have zh_3 : zh h_3 := by rw [eh_3]; exact zh_set zh_2 (zO.ne op0 (by decide)) (zh_2.1 _ _ (zO.ne op1 (by decide)))
  replace hv := hv h_3 eh_3
  refine z_aload_n (pc := 38) (q := 0) X d_State_copyFrom_38 rfl ?_
  refine z_getr (pc := 39) (j := 2) (dd := 3) X cf_State op0 (by decide) q174 rfl rfl d_State_copyFrom_39 ?_
  refine z_aload_n (pc := 42) (q := 1) X d_State_copyFrom_42 rfl ?_
  refine z_getr (pc := 43) (j := 2) (dd := 3) X cf_State op1 (by decide) q174 rfl rfl d_State_copyFrom_43 ?_
  refine z_callVNv (pc := 46) (As := [.ref (g.2.2 (p1 + 3))]) (rest := []) X (fun l hl => c_Tape_copyFrom hl (gf_State_2 op0) (gf_State_2 op1) zh_3 hv) cf_Tape (gf_State_2 op0) rfl mf_Tape_copyFrom q727 ⟨⟨by decide, by decide⟩, rfl, rfl⟩ rfl d_State_copyFrom_46 rfl (Nat.le_of_ble_eq_true rfl) (fun h_4 zh_4 hv => ?_)
  exact E.1 rfl _ _ _ d_State_copyFrom_49 ⟨rfl, zh_4, hv⟩
theorem d_State_begin_0 : decode b_State_begin 0 = .ok (.aload_n 1, 1) := by decide +kernel
theorem d_State_begin_1 : decode b_State_begin 1 = .ok (.getfield 39, 3) := by decide +kernel
theorem d_State_begin_4 : decode b_State_begin 4 = .ok (.iconst 0, 1) := by decide +kernel
theorem d_State_begin_5 : decode b_State_begin 5 = .ok (.aload_n 0, 1) := by decide +kernel
theorem d_State_begin_6 : decode b_State_begin 6 = .ok (.getfield 9, 3) := by decide +kernel
theorem d_State_begin_9 : decode b_State_begin 9 = .ok (.iconst 0, 1) := by decide +kernel
theorem d_State_begin_10 : decode b_State_begin 10 = .ok (.bipush 24, 2) := by decide +kernel
theorem d_State_begin_12 : decode b_State_begin 12 = .ok (.invokestatic 25, 3) := by decide +kernel
theorem d_State_begin_15 : decode b_State_begin 15 = .ok (.aload_n 1, 1) := by decide +kernel
theorem d_State_begin_16 : decode b_State_begin 16 = .ok (.getfield 42, 3) := by decide +kernel
theorem d_State_begin_19 : decode b_State_begin 19 = .ok (.iconst 0, 1) := by decide +kernel
theorem d_State_begin_20 : decode b_State_begin 20 = .ok (.aload_n 0, 1) := by decide +kernel
theorem d_State_begin_21 : decode b_State_begin 21 = .ok (.getfield 15, 3) := by decide +kernel
theorem d_State_begin_24 : decode b_State_begin 24 = .ok (.iconst 0, 1) := by decide +kernel
theorem d_State_begin_25 : decode b_State_begin 25 = .ok (.bipush 40, 2) := by decide +kernel
theorem d_State_begin_27 : decode b_State_begin 27 = .ok (.invokestatic 25, 3) := by decide +kernel
theorem d_State_begin_30 : decode b_State_begin 30 = .ok (.aload_n 0, 1) := by decide +kernel
theorem d_State_begin_31 : decode b_State_begin 31 = .ok (.aload_n 1, 1) := by decide +kernel
theorem d_State_begin_32 : decode b_State_begin 32 = .ok (.getfield 43, 3) := by decide +kernel
theorem d_State_begin_35 : decode b_State_begin 35 = .ok (.putfield 31, 3) := by decide +kernel
theorem d_State_begin_38 : decode b_State_begin 38 = .ok (.aload_n 0, 1) := by decide +kernel
theorem d_State_begin_39 : decode b_State_begin 39 = .ok (.getfield 21, 3) := by decide +kernel
theorem d_State_begin_42 : decode b_State_begin 42 = .ok (.invokevirtual 44, 3) := by decide +kernel
theorem d_State_begin_45 : decode b_State_begin 45 = .ok (.return_, 1) := by decide +kernel
def rm_State_begin : Room := { frames := 1, cells := 0, slots := 0, locals := 60 }
theorem mf_State_begin : zMV y_State_begin b_State_begin 2 none 1 := ⟨q590, qs29, q5, q591, by decide +kernel⟩
def M_State_begin (p0 : Nat) (p1 : Nat) (h : zH) (K : zH → Prop) : Prop :=
  (∀ h_1 : zH, h_1 = zcp h (p1 + 2) 0 (p0 + 1) 0 24 → ((∀ h_2 : zH, h_2 = zcp h_1 (p1 + 3) 0 (p0 + 2) 0 40 → ((∀ h_3 : zH, h_3 = zs h_2 p0 3 (h_2 p1 6) → (M_Tape_becomeEmpty (p0 + 3) h_3 (fun h_4 => K h_4)))))))
set_option maxRecDepth 100000 in
theorem c_State_begin {l : Launch} (hfl : l.flags = flags0) {g : zG} {n : Nat} {p0 : Nat} {p1 : Nat} (op0 : zO n p0 5) (op1 : zO n p1 9) {h : zH} (hh : zh h) {K : zH → Prop} (hv : M_State_begin p0 p1 h K) : zMet l y_State_begin b_State_begin 2 none rm_State_begin g n [.ref (g.2.2 p0), .ref (g.2.2 p1)] h (zPv K) := by
  refine zMet_of (own := "AliasStreams$State") hfl (by decide) rfl (Nat.le_of_ble_eq_true rfl) (fun Wf m H0 X E => ?_)
  unfold M_State_begin at hv
  show zW Wf m 2 g n H0 0 [(0, .ref (g.2.2 p0)), (1, .ref (g.2.2 p1))] [] h
  refine z_aload_n (pc := 0) (q := 1) X d_State_begin_0 rfl ?_
  refine z_getrN (pc := 1) (j := 1) (dd := 2) X cf_Text op1 (by decide) q37 rfl rfl d_State_begin_1 ?_
  refine z_iconst (pc := 4) X d_State_begin_4 ?_
  refine z_aload_n (pc := 5) (q := 0) X d_State_begin_5 rfl ?_
  refine z_getr (pc := 6) (j := 0) (dd := 1) X cf_State op0 (by decide) q169 rfl rfl d_State_begin_6 ?_
  refine z_iconst (pc := 9) X d_State_begin_9 ?_
  refine z_bipush (pc := 10) X d_State_begin_10 (by decide) ?_
  refine z_copy (pc := 12) (sp := 0) (dp := 0) (len := 24) X (gf_Text_1 op1) (gf_State_0 op0) (gl_Text_1 op1) (gl_State_0 op0) rfl rfl rfl (by decide) (by decide) (by decide) (by decide) (by decide) q592 q594 q593 q19 ⟨by decide, Nat.le_of_ble_eq_true rfl⟩ d_State_begin_12 ?_
  refine z_toph (fun h_1 eh_1 => ?_)
  have zh_1 : zh h_1 := by rw [eh_1]; exact zh_cp hh (zO.ne (gf_Text_1 op1) (by decide)) (zO.ne (gf_State_0 op0) (by decide))
  replace hv := hv h_1 eh_1
  refine z_aload_n (pc := 15) (q := 1) X d_State_begin_15 rfl ?_
  refine z_getrN (pc := 16) (j := 2) (dd := 3) X cf_Text op1 (by decide) q39 rfl rfl d_State_begin_16 ?_
  refine z_iconst (pc := 19) X d_State_begin_19 ?_
  refine z_aload_n (pc := 20) (q := 0) X d_State_begin_20 rfl ?_
  refine z_getr (pc := 21) (j := 1) (dd := 2) X cf_State op0 (by decide) q171 rfl rfl d_State_begin_21 ?_
  refine z_iconst (pc := 24) X d_State_begin_24 ?_
  refine z_bipush (pc := 25) X d_State_begin_25 (by decide) ?_
  refine z_copy (pc := 27) (sp := 0) (dp := 0) (len := 40) X (gf_Text_2 op1) (gf_State_1 op0) (gl_Text_2 op1) (gl_State_1 op0) rfl rfl rfl (by decide) (by decide) (by decide) (by decide) (by decide) q592 q594 q593 q19 ⟨by decide, Nat.le_of_ble_eq_true rfl⟩ d_State_begin_27 ?_
  refine z_toph (fun h_2 eh_2 => ?_)
  have zh_2 : zh h_2 := by rw [eh_2]; exact zh_cp zh_1 (zO.ne (gf_Text_2 op1) (by decide)) (zO.ne (gf_State_1 op0) (by decide))
  replace hv := hv h_2 eh_2
  refine z_aload_n (pc := 30) (q := 0) X d_State_begin_30 rfl ?_
  refine z_aload_n (pc := 31) (q := 1) X d_State_begin_31 rfl ?_
  refine z_getiN (pc := 32) (j := 6) X cf_Text op1 (by decide) q47 rfl rfl d_State_begin_32 ?_
  refine z_put (pc := 35) (j := 3) X cf_State op0 (by decide) q178 rfl rfl rfl rfl d_State_begin_35 ?_
  refine z_toph (fun h_3 eh_3 => ?_)
  have zh_3 : zh h_3 := by rw [eh_3]; exact zh_set zh_2 (zO.ne op0 (by decide)) (zh_2.1 _ _ (zO.ne op1 (by decide)))
  replace hv := hv h_3 eh_3
  refine z_aload_n (pc := 38) (q := 0) X d_State_begin_38 rfl ?_
  refine z_getr (pc := 39) (j := 2) (dd := 3) X cf_State op0 (by decide) q174 rfl rfl d_State_begin_39 ?_
  refine z_callVNv (pc := 42) (As := []) (rest := []) X (fun l hl => c_Tape_becomeEmpty hl (gf_State_2 op0) zh_3 hv) cf_Tape (gf_State_2 op0) rfl mf_Tape_becomeEmpty q595 ⟨⟨by decide, by decide⟩, rfl, rfl⟩ rfl d_State_begin_42 rfl (Nat.le_of_ble_eq_true rfl) (fun h_4 zh_4 hv => ?_)
  exact E.1 rfl _ _ _ d_State_begin_45 ⟨rfl, zh_4, hv⟩
theorem d_State_countOf_0 : decode b_State_countOf 0 = .ok (.aload_n 0, 1) := by decide +kernel
theorem d_State_countOf_1 : decode b_State_countOf 1 = .ok (.getfield 9, 3) := by decide +kernel
theorem d_State_countOf_4 : decode b_State_countOf 4 = .ok (.iload_n 1, 1) := by decide +kernel
theorem d_State_countOf_5 : decode b_State_countOf 5 = .ok (.iload_n 2, 1) := by decide +kernel
theorem d_State_countOf_6 : decode b_State_countOf 6 = .ok (.invokestatic 47, 3) := by decide +kernel
theorem d_State_countOf_9 : decode b_State_countOf 9 = .ok (.ireturn, 1) := by decide +kernel
def rm_State_countOf : Room := { frames := 2, cells := 0, slots := 0, locals := 44 }
theorem mf_State_countOf : zMV y_State_countOf b_State_countOf 3 (some .int) 2 := ⟨q650, qs35, q5, q651, by decide +kernel⟩
def M_State_countOf (p0 : Nat) (x1 : Int) (x2 : Int) (h : zH) (K : Int → zH → Prop) : Prop :=
  M_AS_countIn (p0 + 1) x1 x2 h (fun r_2 h_1 => K r_2 h_1)
set_option maxRecDepth 100000 in
theorem c_State_countOf {l : Launch} (hfl : l.flags = flags0) {g : zG} {n : Nat} {p0 : Nat} {x1 : Int} {x2 : Int} (op0 : zO n p0 5) (rx1 : zr x1) (rx2 : zr x2) {h : zH} (hh : zh h) {K : Int → zH → Prop} (hv : M_State_countOf p0 x1 x2 h K) : zMet l y_State_countOf b_State_countOf 3 (some .int) rm_State_countOf g n [.ref (g.2.2 p0), zi x1, zi x2] h (zPi K) := by
  refine zMet_of (own := "AliasStreams$State") hfl (by decide) rfl (Nat.le_of_ble_eq_true rfl) (fun Wf m H0 X E => ?_)
  unfold M_State_countOf at hv
  show zW Wf m 3 g n H0 0 [(0, .ref (g.2.2 p0)), (1, zi x1), (2, zi x2)] [] h
  refine z_aload_n (pc := 0) (q := 0) X d_State_countOf_0 rfl ?_
  refine z_getr (pc := 1) (j := 0) (dd := 1) X cf_State op0 (by decide) q169 rfl rfl d_State_countOf_1 ?_
  refine z_iload_n (pc := 4) (q := 1) X d_State_countOf_4 rfl ?_
  refine z_iload_n (pc := 5) (q := 2) X d_State_countOf_5 rfl ?_
  refine z_callSNi (pc := 6) (As := [.ref (g.2.2 (p0 + 1)), zi x1, zi x2]) (rest := []) X (fun l hl => c_AS_countIn hl (gf_State_0 op0) rx1 rx2 hh hv) mf_AS_countIn q652 ⟨⟨by decide, by decide⟩, rfl, rfl⟩ rfl d_State_countOf_6 rfl (Nat.le_of_ble_eq_true rfl) (fun r_2 h_1 rr_2 zh_1 hv => ?_)
  exact E.2.1 rfl _ _ _ _ d_State_countOf_9 ⟨_, rfl, rr_2, zh_1, hv⟩
theorem d_State_sumOfCounts_0 : decode b_State_sumOfCounts 0 = .ok (.iconst 0, 1) := by decide +kernel
theorem d_State_sumOfCounts_1 : decode b_State_sumOfCounts 1 = .ok (.istore_n 2, 1) := by decide +kernel
theorem d_State_sumOfCounts_2 : decode b_State_sumOfCounts 2 = .ok (.iconst 0, 1) := by decide +kernel
theorem d_State_sumOfCounts_3 : decode b_State_sumOfCounts 3 = .ok (.istore_n 3, 1) := by decide +kernel
theorem d_State_sumOfCounts_4 : decode b_State_sumOfCounts 4 = .ok (.iload_n 3, 1) := by decide +kernel
theorem d_State_sumOfCounts_5 : decode b_State_sumOfCounts 5 = .ok (.bipush 8, 2) := by decide +kernel
theorem d_State_sumOfCounts_7 : decode b_State_sumOfCounts 7 = .ok (.if_icmp .ge 21, 3) := by decide +kernel
theorem d_State_sumOfCounts_10 : decode b_State_sumOfCounts 10 = .ok (.iload_n 2, 1) := by decide +kernel
theorem d_State_sumOfCounts_11 : decode b_State_sumOfCounts 11 = .ok (.aload_n 0, 1) := by decide +kernel
theorem d_State_sumOfCounts_12 : decode b_State_sumOfCounts 12 = .ok (.getfield 9, 3) := by decide +kernel
theorem d_State_sumOfCounts_15 : decode b_State_sumOfCounts 15 = .ok (.iload_n 1, 1) := by decide +kernel
theorem d_State_sumOfCounts_16 : decode b_State_sumOfCounts 16 = .ok (.iload_n 3, 1) := by decide +kernel
theorem d_State_sumOfCounts_17 : decode b_State_sumOfCounts 17 = .ok (.invokestatic 47, 3) := by decide +kernel
theorem d_State_sumOfCounts_20 : decode b_State_sumOfCounts 20 = .ok (.iadd, 1) := by decide +kernel
theorem d_State_sumOfCounts_21 : decode b_State_sumOfCounts 21 = .ok (.istore_n 2, 1) := by decide +kernel
theorem d_State_sumOfCounts_22 : decode b_State_sumOfCounts 22 = .ok (.iinc 3 1, 3) := by decide +kernel
theorem d_State_sumOfCounts_25 : decode b_State_sumOfCounts 25 = .ok (.goto (-21), 3) := by decide +kernel
theorem d_State_sumOfCounts_28 : decode b_State_sumOfCounts 28 = .ok (.iload_n 2, 1) := by decide +kernel
theorem d_State_sumOfCounts_29 : decode b_State_sumOfCounts 29 = .ok (.ireturn, 1) := by decide +kernel
def rm_State_sumOfCounts : Room := { frames := 2, cells := 0, slots := 0, locals := 44 }
theorem mf_State_sumOfCounts : zMV y_State_sumOfCounts b_State_sumOfCounts 4 (some .int) 1 := ⟨q710, qs38, q5, q711, by decide +kernel⟩
def F_State_sumOfCounts_4 (K : Int → zH → Prop)  (L4 : Int × Int × zH → Prop) (p0 : Nat) (x1 : Int) (x2 : Int) (x3 : Int) (h : zH) : Prop :=
  (8 ≤ x3 → (K x2 h)) ∧ (x3 < 8 → (M_AS_countIn (p0 + 1) x1 x3 h (fun r_2 h_1 => zr (x2 + r_2) ∧ ((∀ x2_4 : Int, x2_4 = x2 + r_2 → (zr (x3 + 1) ∧ (L4 (x2_4, x3 + 1, h_1))))))))
set_option maxRecDepth 100000 in
theorem s_State_sumOfCounts_4 {Wf : Heap → List Loc → JFrame → Prop} {m : MethodId} {g : zG} {n : Nat} {H0 : Heap} (X : zX Wf m rm_State_sumOfCounts b_State_sumOfCounts "AliasStreams$State" 4 g n H0) {K : Int → zH → Prop} (E : zEx Wf m b_State_sumOfCounts (some .int) 4 g n H0 (zPi K))  {p0 : Nat} {x1 : Int}  (op0 : zO n p0 5) (rx1 : zr x1) {q0 : Int × Int × zH} (hv0 : zLoop (fun L q => F_State_sumOfCounts_4 K  L p0 x1 q.1 q.2.1 q.2.2) q0) : zr q0.1 → zr q0.2.1 → zh (q0.2.2) → zW Wf m 4 g n H0 4 [(0, .ref (g.2.2 p0)), (1, zi x1), (2, zi q0.1), (3, zi q0.2.1)] [] (q0.2.2) := by
  refine zLoop_use (G := fun q => zr q.1 → zr q.2.1 → zh (q.2.2) → zW Wf m 4 g n H0 4 [(0, .ref (g.2.2 p0)), (1, zi x1), (2, zi q.1), (3, zi q.2.1)] [] (q.2.2)) ?_ hv0
  rintro L4 ⟨x2, x3, h⟩ hL4 hv rx2 rx3 hh
  have hv : F_State_sumOfCounts_4 K  L4 p0 x1 x2 x3 h := hv
  unfold F_State_sumOfCounts_4 at hv
  show zW Wf m 4 g n H0 4 [(0, .ref (g.2.2 p0)), (1, zi x1), (2, zi x2), (3, zi x3)] [] h
  refine z_iload_n (pc := 4) (q := 3) X d_State_sumOfCounts_4 rfl ?_
  refine z_bipush (pc := 5) X d_State_sumOfCounts_5 (by decide) ?_
  refine z_icmp_ge (pc := 7) (tgt := 28) X rx3 (show zr 8 from by decide) d_State_sumOfCounts_7 (by decide) (fun hc => ?_) (fun hc => ?_)
  · replace hv := hv.1 hc
    refine z_iload_n (pc := 28) (q := 2) X d_State_sumOfCounts_28 rfl ?_
    exact E.2.1 rfl _ _ _ _ d_State_sumOfCounts_29 ⟨_, rfl, rx2, hh, hv⟩
  · replace hv := hv.2 hc
    refine z_iload_n (pc := 10) (q := 2) X d_State_sumOfCounts_10 rfl ?_
    refine z_aload_n (pc := 11) (q := 0) X d_State_sumOfCounts_11 rfl ?_
    refine z_getr (pc := 12) (j := 0) (dd := 1) X cf_State op0 (by decide) q169 rfl rfl d_State_sumOfCounts_12 ?_
    refine z_iload_n (pc := 15) (q := 1) X d_State_sumOfCounts_15 rfl ?_
    refine z_iload_n (pc := 16) (q := 3) X d_State_sumOfCounts_16 rfl ?_
    refine z_callSNi (pc := 17) (As := [.ref (g.2.2 (p0 + 1)), zi x1, zi x3]) (rest := [zi x2]) X (fun l hl => c_AS_countIn hl (gf_State_0 op0) rx1 rx3 hh hv) mf_AS_countIn q652 ⟨⟨by decide, by decide⟩, rfl, rfl⟩ rfl d_State_sumOfCounts_17 rfl (Nat.le_of_ble_eq_true rfl) (fun r_2 h_1 rr_2 zh_1 hv => ?_)
    obtain ⟨v_3, hv⟩ := hv
    refine z_iadd (pc := 20) X d_State_sumOfCounts_20 ?_
    refine z_topi (fun x2_4 ex2_4 => ?_)
    have rx2_4 : zr x2_4 := by rw [ex2_4]; exact v_3
    replace hv := hv x2_4 ex2_4
    refine z_istore_n (pc := 21) (lv' := [(2, zi x2_4), (0, .ref (g.2.2 p0)), (1, zi x1), (3, zi x3)]) X d_State_sumOfCounts_21 (by decide) rfl ?_
    obtain ⟨v_5, hv⟩ := hv
    refine z_iinc (pc := 22) (q := 3) (lv' := [(3, zi (x3 + 1)), (2, zi x2_4), (0, .ref (g.2.2 p0)), (1, zi x1)]) X d_State_sumOfCounts_22 rfl (by decide) rfl ?_
    refine z_goto (pc := 25) (tgt := 4) X d_State_sumOfCounts_25 (by decide) ?_
    refine z_perm [2, 3, 1, 0] rfl ?_
    exact hL4 _ hv rx2_4 v_5 zh_1
def M_State_sumOfCounts (p0 : Nat) (x1 : Int) (h : zH) (K : Int → zH → Prop) : Prop :=
  zLoop (fun L q => F_State_sumOfCounts_4 K  L p0 x1 q.1 q.2.1 q.2.2) (0, 0, h)
set_option maxRecDepth 100000 in
theorem c_State_sumOfCounts {l : Launch} (hfl : l.flags = flags0) {g : zG} {n : Nat} {p0 : Nat} {x1 : Int} (op0 : zO n p0 5) (rx1 : zr x1) {h : zH} (hh : zh h) {K : Int → zH → Prop} (hv : M_State_sumOfCounts p0 x1 h K) : zMet l y_State_sumOfCounts b_State_sumOfCounts 4 (some .int) rm_State_sumOfCounts g n [.ref (g.2.2 p0), zi x1] h (zPi K) := by
  refine zMet_of (own := "AliasStreams$State") hfl (by decide) rfl (Nat.le_of_ble_eq_true rfl) (fun Wf m H0 X E => ?_)
  unfold M_State_sumOfCounts at hv
  show zW Wf m 4 g n H0 0 [(0, .ref (g.2.2 p0)), (1, zi x1)] [] h
  refine z_iconst (pc := 0) X d_State_sumOfCounts_0 ?_
  refine z_istore_n (pc := 1) (lv' := [(2, zi 0), (0, .ref (g.2.2 p0)), (1, zi x1)]) X d_State_sumOfCounts_1 (by decide) rfl ?_
  refine z_iconst (pc := 2) X d_State_sumOfCounts_2 ?_
  refine z_istore_n (pc := 3) (lv' := [(3, zi 0), (2, zi 0), (0, .ref (g.2.2 p0)), (1, zi x1)]) X d_State_sumOfCounts_3 (by decide) rfl ?_
  refine z_perm [2, 3, 1, 0] rfl ?_
  exact s_State_sumOfCounts_4 X E  op0 rx1 hv (show zr 0 from by decide) (show zr 0 from by decide) hh
theorem d_State_changeCount_0 : decode b_State_changeCount 0 = .ok (.iload_n 1, 1) := by decide +kernel
theorem d_State_changeCount_1 : decode b_State_changeCount 1 = .ok (.iload_n 2, 1) := by decide +kernel
theorem d_State_changeCount_2 : decode b_State_changeCount 2 = .ok (.invokestatic 51, 3) := by decide +kernel
theorem d_State_changeCount_5 : decode b_State_changeCount 5 = .ok (.ifCond .eq 15, 3) := by decide +kernel
theorem d_State_changeCount_8 : decode b_State_changeCount 8 = .ok (.aload_n 0, 1) := by decide +kernel
theorem d_State_changeCount_9 : decode b_State_changeCount 9 = .ok (.getfield 9, 3) := by decide +kernel
theorem d_State_changeCount_12 : decode b_State_changeCount 12 = .ok (.iload_n 1, 1) := by decide +kernel
theorem d_State_changeCount_13 : decode b_State_changeCount 13 = .ok (.bipush 8, 2) := by decide +kernel
theorem d_State_changeCount_15 : decode b_State_changeCount 15 = .ok (.imul, 1) := by decide +kernel
theorem d_State_changeCount_16 : decode b_State_changeCount 16 = .ok (.iload_n 2, 1) := by decide +kernel
theorem d_State_changeCount_17 : decode b_State_changeCount 17 = .ok (.iadd, 1) := by decide +kernel
theorem d_State_changeCount_18 : decode b_State_changeCount 18 = .ok (.iload_n 3, 1) := by decide +kernel
theorem d_State_changeCount_19 : decode b_State_changeCount 19 = .ok (.iastore, 1) := by decide +kernel
theorem d_State_changeCount_20 : decode b_State_changeCount 20 = .ok (.return_, 1) := by decide +kernel
def rm_State_changeCount : Room := { frames := 1, cells := 0, slots := 0, locals := 21 }
theorem mf_State_changeCount : zMV y_State_changeCount b_State_changeCount 4 none 3 := ⟨q737, qs42, q5, q738, by decide +kernel⟩
def M_State_changeCount (p0 : Nat) (x1 : Int) (x2 : Int) (x3 : Int) (h : zH) (K : zH → Prop) : Prop :=
  M_AS_isCountPlace x1 x2 h (fun r_2 h_1 => (r_2 = 0 → (K h_1)) ∧ (r_2 ≠ 0 → (zr (x1 * 8) ∧ (zr ((x1 * 8) + x2) ∧ ((0 ≤ (x1 * 8) + x2 ∧ (x1 * 8) + x2 < 24) ∧ (∀ h_6 : zH, h_6 = zs h_1 (p0 + 1) (((x1 * 8) + x2).toNat) x3 → (K h_6)))))))
set_option maxRecDepth 100000 in
theorem c_State_changeCount {l : Launch} (hfl : l.flags = flags0) {g : zG} {n : Nat} {p0 : Nat} {x1 : Int} {x2 : Int} {x3 : Int} (op0 : zO n p0 5) (rx1 : zr x1) (rx2 : zr x2) (rx3 : zr x3) {h : zH} (hh : zh h) {K : zH → Prop} (hv : M_State_changeCount p0 x1 x2 x3 h K) : zMet l y_State_changeCount b_State_changeCount 4 none rm_State_changeCount g n [.ref (g.2.2 p0), zi x1, zi x2, zi x3] h (zPv K) := by
  refine zMet_of (own := "AliasStreams$State") hfl (by decide) rfl (Nat.le_of_ble_eq_true rfl) (fun Wf m H0 X E => ?_)
  unfold M_State_changeCount at hv
  show zW Wf m 4 g n H0 0 [(0, .ref (g.2.2 p0)), (1, zi x1), (2, zi x2), (3, zi x3)] [] h
  refine z_iload_n (pc := 0) (q := 1) X d_State_changeCount_0 rfl ?_
  refine z_iload_n (pc := 1) (q := 2) X d_State_changeCount_1 rfl ?_
  refine z_callSNi (pc := 2) (As := [zi x1, zi x2]) (rest := []) X (fun l hl => c_AS_isCountPlace hl rx1 rx2 hh hv) mf_AS_isCountPlace q739 ⟨⟨by decide, by decide⟩, rfl, rfl⟩ rfl d_State_changeCount_2 rfl (Nat.le_of_ble_eq_true rfl) (fun r_2 h_1 rr_2 zh_1 hv => ?_)
  refine z_if_eq (pc := 5) (tgt := 20) X rr_2 d_State_changeCount_5 (by decide) (fun hc => ?_) (fun hc => ?_)
  · replace hv := hv.1 hc
    exact E.1 rfl _ _ _ d_State_changeCount_20 ⟨rfl, zh_1, hv⟩
  · replace hv := hv.2 hc
    refine z_aload_n (pc := 8) (q := 0) X d_State_changeCount_8 rfl ?_
    refine z_getr (pc := 9) (j := 0) (dd := 1) X cf_State op0 (by decide) q169 rfl rfl d_State_changeCount_9 ?_
    refine z_iload_n (pc := 12) (q := 1) X d_State_changeCount_12 rfl ?_
    refine z_bipush (pc := 13) X d_State_changeCount_13 (by decide) ?_
    obtain ⟨v_3, hv⟩ := hv
    refine z_imul (pc := 15) X d_State_changeCount_15 ?_
    refine z_iload_n (pc := 16) (q := 2) X d_State_changeCount_16 rfl ?_
    obtain ⟨v_4, hv⟩ := hv
    refine z_iadd (pc := 17) X d_State_changeCount_17 ?_
    refine z_iload_n (pc := 18) (q := 3) X d_State_changeCount_18 rfl ?_
    obtain ⟨v_5, hv⟩ := hv
    refine z_iastj (pc := 19) (j := ((x1 * 8) + x2).toNat) X (gf_State_0 op0) (gl_State_0 op0) v_4 v_5 rfl d_State_changeCount_19 ?_
    refine z_toph (fun h_6 eh_6 => ?_)
    have zh_6 : zh h_6 := by rw [eh_6]; exact zh_set zh_1 (zO.ne (gf_State_0 op0) (by decide)) rx3
    replace hv := hv h_6 eh_6
    exact E.1 rfl _ _ _ d_State_changeCount_20 ⟨rfl, zh_6, hv⟩
theorem d_State_hasItem_0 : decode b_State_hasItem 0 = .ok (.iload_n 1, 1) := by decide +kernel
theorem d_State_hasItem_1 : decode b_State_hasItem 1 = .ok (.ifCond .lt 21, 3) := by decide +kernel
theorem d_State_hasItem_4 : decode b_State_hasItem 4 = .ok (.iload_n 1, 1) := by decide +kernel
theorem d_State_hasItem_5 : decode b_State_hasItem 5 = .ok (.aload_n 0, 1) := by decide +kernel
theorem d_State_hasItem_6 : decode b_State_hasItem 6 = .ok (.getfield 31, 3) := by decide +kernel
theorem d_State_hasItem_9 : decode b_State_hasItem 9 = .ok (.if_icmp .ge 13, 3) := by decide +kernel
theorem d_State_hasItem_12 : decode b_State_hasItem 12 = .ok (.iload_n 1, 1) := by decide +kernel
theorem d_State_hasItem_13 : decode b_State_hasItem 13 = .ok (.bipush 40, 2) := by decide +kernel
theorem d_State_hasItem_15 : decode b_State_hasItem 15 = .ok (.if_icmp .ge 7, 3) := by decide +kernel
theorem d_State_hasItem_18 : decode b_State_hasItem 18 = .ok (.iconst 1, 1) := by decide +kernel
theorem d_State_hasItem_19 : decode b_State_hasItem 19 = .ok (.goto 4, 3) := by decide +kernel
theorem d_State_hasItem_22 : decode b_State_hasItem 22 = .ok (.iconst 0, 1) := by decide +kernel
theorem d_State_hasItem_23 : decode b_State_hasItem 23 = .ok (.ireturn, 1) := by decide +kernel
def rm_State_hasItem : Room := { frames := 0, cells := 0, slots := 0, locals := 0 }
theorem mf_State_hasItem : zMV y_State_hasItem b_State_hasItem 2 (some .boolean) 1 := ⟨q680, qs36, q5, q681, by decide +kernel⟩
def M_State_hasItem (p0 : Nat) (x1 : Int) (h : zH) (K : Int → zH → Prop) : Prop :=
  (x1 < 0 → (K 0 h)) ∧ (0 ≤ x1 → ((h p0 3 ≤ x1 → (K 0 h)) ∧ (x1 < h p0 3 → ((40 ≤ x1 → (K 0 h)) ∧ (x1 < 40 → (K 1 h))))))
set_option maxRecDepth 100000 in
theorem c_State_hasItem {l : Launch} (hfl : l.flags = flags0) {g : zG} {n : Nat} {p0 : Nat} {x1 : Int} (op0 : zO n p0 5) (rx1 : zr x1) {h : zH} (hh : zh h) {K : Int → zH → Prop} (hv : M_State_hasItem p0 x1 h K) : zMet l y_State_hasItem b_State_hasItem 2 (some .boolean) rm_State_hasItem g n [.ref (g.2.2 p0), zi x1] h (zPi K) := by
  refine zMet_of (own := "AliasStreams$State") hfl (by decide) rfl (Nat.le_of_ble_eq_true rfl) (fun Wf m H0 X E => ?_)
  unfold M_State_hasItem at hv
  show zW Wf m 2 g n H0 0 [(0, .ref (g.2.2 p0)), (1, zi x1)] [] h
  refine z_iload_n (pc := 0) (q := 1) X d_State_hasItem_0 rfl ?_
  refine z_if_lt (pc := 1) (tgt := 22) X rx1 d_State_hasItem_1 (by decide) (fun hc => ?_) (fun hc => ?_)
  · replace hv := hv.1 hc
    refine z_iconst (pc := 22) X d_State_hasItem_22 ?_
    exact E.2.2.1 rfl _ _ _ _ (by decide) d_State_hasItem_23 ⟨_, rfl, (show zr 0 from by decide), hh, hv⟩
  · replace hv := hv.2 hc
    refine z_iload_n (pc := 4) (q := 1) X d_State_hasItem_4 rfl ?_
    refine z_aload_n (pc := 5) (q := 0) X d_State_hasItem_5 rfl ?_
    refine z_geti (pc := 6) (j := 3) X cf_State op0 (by decide) q178 rfl rfl d_State_hasItem_6 ?_
    refine z_icmp_ge (pc := 9) (tgt := 22) X rx1 (hh.1 _ _ (zO.ne op0 (by decide))) d_State_hasItem_9 (by decide) (fun hc => ?_) (fun hc => ?_)
    · replace hv := hv.1 hc
      refine z_iconst (pc := 22) X d_State_hasItem_22 ?_
      exact E.2.2.1 rfl _ _ _ _ (by decide) d_State_hasItem_23 ⟨_, rfl, (show zr 0 from by decide), hh, hv⟩
    · replace hv := hv.2 hc
      refine z_iload_n (pc := 12) (q := 1) X d_State_hasItem_12 rfl ?_
      refine z_bipush (pc := 13) X d_State_hasItem_13 (by decide) ?_
      refine z_icmp_ge (pc := 15) (tgt := 22) X rx1 (show zr 40 from by decide) d_State_hasItem_15 (by decide) (fun hc => ?_) (fun hc => ?_)
      · replace hv := hv.1 hc
        refine z_iconst (pc := 22) X d_State_hasItem_22 ?_
        exact E.2.2.1 rfl _ _ _ _ (by decide) d_State_hasItem_23 ⟨_, rfl, (show zr 0 from by decide), hh, hv⟩
      · replace hv := hv.2 hc
        refine z_iconst (pc := 18) X d_State_hasItem_18 ?_
        refine z_goto (pc := 19) (tgt := 23) X d_State_hasItem_19 (by decide) ?_
        exact E.2.2.1 rfl _ _ _ _ (by decide) d_State_hasItem_23 ⟨_, rfl, (show zr 1 from by decide), hh, hv⟩
theorem d_State_addItem_0 : decode b_State_addItem 0 = .ok (.iload_n 1, 1) := by decide +kernel
theorem d_State_addItem_1 : decode b_State_addItem 1 = .ok (.ifCond .lt 20, 3) := by decide +kernel
theorem d_State_addItem_4 : decode b_State_addItem 4 = .ok (.iload_n 1, 1) := by decide +kernel
theorem d_State_addItem_5 : decode b_State_addItem 5 = .ok (.aload_n 0, 1) := by decide +kernel
theorem d_State_addItem_6 : decode b_State_addItem 6 = .ok (.getfield 31, 3) := by decide +kernel
theorem d_State_addItem_9 : decode b_State_addItem 9 = .ok (.if_icmp .gt 12, 3) := by decide +kernel
theorem d_State_addItem_12 : decode b_State_addItem 12 = .ok (.aload_n 0, 1) := by decide +kernel
theorem d_State_addItem_13 : decode b_State_addItem 13 = .ok (.getfield 31, 3) := by decide +kernel
theorem d_State_addItem_16 : decode b_State_addItem 16 = .ok (.bipush 40, 2) := by decide +kernel
theorem d_State_addItem_18 : decode b_State_addItem 18 = .ok (.if_icmp .lt 4, 3) := by decide +kernel
theorem d_State_addItem_21 : decode b_State_addItem 21 = .ok (.return_, 1) := by decide +kernel
theorem d_State_addItem_22 : decode b_State_addItem 22 = .ok (.aload_n 0, 1) := by decide +kernel
theorem d_State_addItem_23 : decode b_State_addItem 23 = .ok (.getfield 31, 3) := by decide +kernel
theorem d_State_addItem_26 : decode b_State_addItem 26 = .ok (.istore_n 3, 1) := by decide +kernel
theorem d_State_addItem_27 : decode b_State_addItem 27 = .ok (.iload_n 3, 1) := by decide +kernel
theorem d_State_addItem_28 : decode b_State_addItem 28 = .ok (.iload_n 1, 1) := by decide +kernel
theorem d_State_addItem_29 : decode b_State_addItem 29 = .ok (.if_icmp .le 23, 3) := by decide +kernel
theorem d_State_addItem_32 : decode b_State_addItem 32 = .ok (.aload_n 0, 1) := by decide +kernel
theorem d_State_addItem_33 : decode b_State_addItem 33 = .ok (.getfield 15, 3) := by decide +kernel
theorem d_State_addItem_36 : decode b_State_addItem 36 = .ok (.iload_n 3, 1) := by decide +kernel
theorem d_State_addItem_37 : decode b_State_addItem 37 = .ok (.aload_n 0, 1) := by decide +kernel
theorem d_State_addItem_38 : decode b_State_addItem 38 = .ok (.getfield 15, 3) := by decide +kernel
theorem d_State_addItem_41 : decode b_State_addItem 41 = .ok (.iload_n 3, 1) := by decide +kernel
theorem d_State_addItem_42 : decode b_State_addItem 42 = .ok (.iconst 1, 1) := by decide +kernel
theorem d_State_addItem_43 : decode b_State_addItem 43 = .ok (.isub, 1) := by decide +kernel
theorem d_State_addItem_44 : decode b_State_addItem 44 = .ok (.iaload, 1) := by decide +kernel
theorem d_State_addItem_45 : decode b_State_addItem 45 = .ok (.iastore, 1) := by decide +kernel
theorem d_State_addItem_46 : decode b_State_addItem 46 = .ok (.iinc 3 (-1), 3) := by decide +kernel
theorem d_State_addItem_49 : decode b_State_addItem 49 = .ok (.goto (-22), 3) := by decide +kernel
theorem d_State_addItem_52 : decode b_State_addItem 52 = .ok (.aload_n 0, 1) := by decide +kernel
theorem d_State_addItem_53 : decode b_State_addItem 53 = .ok (.getfield 15, 3) := by decide +kernel
theorem d_State_addItem_56 : decode b_State_addItem 56 = .ok (.iload_n 1, 1) := by decide +kernel
theorem d_State_addItem_57 : decode b_State_addItem 57 = .ok (.iload_n 2, 1) := by decide +kernel
theorem d_State_addItem_58 : decode b_State_addItem 58 = .ok (.iastore, 1) := by decide +kernel
theorem d_State_addItem_59 : decode b_State_addItem 59 = .ok (.aload_n 0, 1) := by decide +kernel
theorem d_State_addItem_60 : decode b_State_addItem 60 = .ok (.dup, 1) := by decide +kernel
theorem d_State_addItem_61 : decode b_State_addItem 61 = .ok (.getfield 31, 3) := by decide +kernel
theorem d_State_addItem_64 : decode b_State_addItem 64 = .ok (.iconst 1, 1) := by decide +kernel
theorem d_State_addItem_65 : decode b_State_addItem 65 = .ok (.iadd, 1) := by decide +kernel
theorem d_State_addItem_66 : decode b_State_addItem 66 = .ok (.putfield 31, 3) := by decide +kernel
theorem d_State_addItem_69 : decode b_State_addItem 69 = .ok (.return_, 1) := by decide +kernel
def rm_State_addItem : Room := { frames := 0, cells := 0, slots := 0, locals := 0 }
theorem mf_State_addItem : zMV y_State_addItem b_State_addItem 4 none 2 := ⟨q758, qs44, q5, q759, by decide +kernel⟩
def F_State_addItem_27 (K : zH → Prop)  (L27 : Int × zH → Prop) (p0 : Nat) (x1 : Int) (x2 : Int) (x3 : Int) (h : zH) : Prop :=
  (x3 ≤ x1 → ((0 ≤ x1 ∧ x1 < 40) ∧ (∀ h_2 : zH, h_2 = zs h (p0 + 2) x1.toNat x2 → (zr ((h_2 p0 3) + 1) ∧ ((∀ h_4 : zH, h_4 = zs h_2 p0 3 ((h_2 p0 3) + 1) → (K h_4))))))) ∧ (x1 < x3 → (zr (x3 - 1) ∧ ((0 ≤ x3 - 1 ∧ x3 - 1 < 40) ∧ ((0 ≤ x3 ∧ x3 < 40) ∧ (∀ h_8 : zH, h_8 = zs h (p0 + 2) x3.toNat (h (p0 + 2) ((x3 - 1).toNat)) → (zr (x3 + (-1)) ∧ (L27 (x3 + (-1), h_8))))))))
set_option maxRecDepth 100000 in
theorem s_State_addItem_27 {Wf : Heap → List Loc → JFrame → Prop} {m : MethodId} {g : zG} {n : Nat} {H0 : Heap} (X : zX Wf m rm_State_addItem b_State_addItem "AliasStreams$State" 4 g n H0) {K : zH → Prop} (E : zEx Wf m b_State_addItem none 4 g n H0 (zPv K))  {p0 : Nat} {x1 : Int} {x2 : Int}  (op0 : zO n p0 5) (rx1 : zr x1) (rx2 : zr x2) {q0 : Int × zH} (hv0 : zLoop (fun L q => F_State_addItem_27 K  L p0 x1 x2 q.1 q.2) q0) : zr q0.1 → zh (q0.2) → zW Wf m 4 g n H0 27 [(0, .ref (g.2.2 p0)), (1, zi x1), (2, zi x2), (3, zi q0.1)] [] (q0.2) := by
  refine zLoop_use (G := fun q => zr q.1 → zh (q.2) → zW Wf m 4 g n H0 27 [(0, .ref (g.2.2 p0)), (1, zi x1), (2, zi x2), (3, zi q.1)] [] (q.2)) ?_ hv0
  rintro L27 ⟨x3, h⟩ hL27 hv rx3 hh
  have hv : F_State_addItem_27 K  L27 p0 x1 x2 x3 h := hv
  unfold F_State_addItem_27 at hv
  show zW Wf m 4 g n H0 27 [(0, .ref (g.2.2 p0)), (1, zi x1), (2, zi x2), (3, zi x3)] [] h
  refine z_iload_n (pc := 27) (q := 3) X d_State_addItem_27 rfl ?_
  refine z_iload_n (pc := 28) (q := 1) X d_State_addItem_28 rfl ?_
  refine z_icmp_le (pc := 29) (tgt := 52) X rx3 rx1 d_State_addItem_29 (by decide) (fun hc => ?_) (fun hc => ?_)
  · replace hv := hv.1 hc
    refine z_aload_n (pc := 52) (q := 0) X d_State_addItem_52 rfl ?_
    refine z_getr (pc := 53) (j := 1) (dd := 2) X cf_State op0 (by decide) q171 rfl rfl d_State_addItem_53 ?_
    refine z_iload_n (pc := 56) (q := 1) X d_State_addItem_56 rfl ?_
    refine z_iload_n (pc := 57) (q := 2) X d_State_addItem_57 rfl ?_
    obtain ⟨v_1, hv⟩ := hv
    refine z_iastj (pc := 58) (j := x1.toNat) X (gf_State_1 op0) (gl_State_1 op0) rx1 v_1 rfl d_State_addItem_58 ?_
    refine z_toph (fun h_2 eh_2 => ?_)
    have zh_2 : zh h_2 := by rw [eh_2]; exact zh_set hh (zO.ne (gf_State_1 op0) (by decide)) rx2
    replace hv := hv h_2 eh_2
    refine z_aload_n (pc := 59) (q := 0) X d_State_addItem_59 rfl ?_
    refine z_dup (pc := 60) X d_State_addItem_60 rfl ?_
    refine z_geti (pc := 61) (j := 3) X cf_State op0 (by decide) q178 rfl rfl d_State_addItem_61 ?_
    refine z_iconst (pc := 64) X d_State_addItem_64 ?_
    obtain ⟨v_3, hv⟩ := hv
    refine z_iadd (pc := 65) X d_State_addItem_65 ?_
    refine z_put (pc := 66) (j := 3) X cf_State op0 (by decide) q178 rfl rfl rfl rfl d_State_addItem_66 ?_
    refine z_toph (fun h_4 eh_4 => ?_)
    have zh_4 : zh h_4 := by rw [eh_4]; exact zh_set zh_2 (zO.ne op0 (by decide)) v_3
    replace hv := hv h_4 eh_4
    exact E.1 rfl _ _ _ d_State_addItem_69 ⟨rfl, zh_4, hv⟩
  · replace hv := hv.2 hc
    refine z_aload_n (pc := 32) (q := 0) X d_State_addItem_32 rfl ?_
    refine z_getr (pc := 33) (j := 1) (dd := 2) X cf_State op0 (by decide) q171 rfl rfl d_State_addItem_33 ?_
    refine z_iload_n (pc := 36) (q := 3) X d_State_addItem_36 rfl ?_
    refine z_aload_n (pc := 37) (q := 0) X d_State_addItem_37 rfl ?_
    refine z_getr (pc := 38) (j := 1) (dd := 2) X cf_State op0 (by decide) q171 rfl rfl d_State_addItem_38 ?_
    refine z_iload_n (pc := 41) (q := 3) X d_State_addItem_41 rfl ?_
    refine z_iconst (pc := 42) X d_State_addItem_42 ?_
    obtain ⟨v_5, hv⟩ := hv
    refine z_isub (pc := 43) X d_State_addItem_43 ?_
    obtain ⟨v_6, hv⟩ := hv
    refine z_ialdj (pc := 44) (j := (x3 - 1).toNat) X (gf_State_1 op0) (gl_State_1 op0) v_5 v_6 rfl d_State_addItem_44 ?_
    obtain ⟨v_7, hv⟩ := hv
    refine z_iastj (pc := 45) (j := x3.toNat) X (gf_State_1 op0) (gl_State_1 op0) rx3 v_7 rfl d_State_addItem_45 ?_
    refine z_toph (fun h_8 eh_8 => ?_)
    have zh_8 : zh h_8 := by rw [eh_8]; exact zh_set hh (zO.ne (gf_State_1 op0) (by decide)) (hh.1 _ _ (zO.ne (gf_State_1 op0) (by decide)))
    replace hv := hv h_8 eh_8
    obtain ⟨v_9, hv⟩ := hv
    refine z_iinc (pc := 46) (q := 3) (lv' := [(3, zi (x3 + (-1))), (0, .ref (g.2.2 p0)), (1, zi x1), (2, zi x2)]) X d_State_addItem_46 rfl (by decide) rfl ?_
    refine z_goto (pc := 49) (tgt := 27) X d_State_addItem_49 (by decide) ?_
    refine z_perm [1, 2, 3, 0] rfl ?_
    exact hL27 _ hv v_9 zh_8
def M_State_addItem (p0 : Nat) (x1 : Int) (x2 : Int) (h : zH) (K : zH → Prop) : Prop :=
  (x1 < 0 → (K h)) ∧ (0 ≤ x1 → ((h p0 3 < x1 → (K h)) ∧ (x1 ≤ h p0 3 → ((h p0 3 < 40 → ((∀ x3_1 : Int, x3_1 = h p0 3 → (zLoop (fun L q => F_State_addItem_27 K  L p0 x1 x2 q.1 q.2) (x3_1, h))))) ∧ (40 ≤ h p0 3 → (K h))))))
set_option maxRecDepth 100000 in
theorem c_State_addItem {l : Launch} (hfl : l.flags = flags0) {g : zG} {n : Nat} {p0 : Nat} {x1 : Int} {x2 : Int} (op0 : zO n p0 5) (rx1 : zr x1) (rx2 : zr x2) {h : zH} (hh : zh h) {K : zH → Prop} (hv : M_State_addItem p0 x1 x2 h K) : zMet l y_State_addItem b_State_addItem 4 none rm_State_addItem g n [.ref (g.2.2 p0), zi x1, zi x2] h (zPv K) := by
  refine zMet_of (own := "AliasStreams$State") hfl (by decide) rfl (Nat.le_of_ble_eq_true rfl) (fun Wf m H0 X E => ?_)
  unfold M_State_addItem at hv
  show zW Wf m 4 g n H0 0 [(0, .ref (g.2.2 p0)), (1, zi x1), (2, zi x2)] [] h
  refine z_iload_n (pc := 0) (q := 1) X d_State_addItem_0 rfl ?_
  refine z_if_lt (pc := 1) (tgt := 21) X rx1 d_State_addItem_1 (by decide) (fun hc => ?_) (fun hc => ?_)
  · replace hv := hv.1 hc
    exact E.1 rfl _ _ _ d_State_addItem_21 ⟨rfl, hh, hv⟩
  · replace hv := hv.2 hc
    refine z_iload_n (pc := 4) (q := 1) X d_State_addItem_4 rfl ?_
    refine z_aload_n (pc := 5) (q := 0) X d_State_addItem_5 rfl ?_
    refine z_geti (pc := 6) (j := 3) X cf_State op0 (by decide) q178 rfl rfl d_State_addItem_6 ?_
    refine z_icmp_gt (pc := 9) (tgt := 21) X rx1 (hh.1 _ _ (zO.ne op0 (by decide))) d_State_addItem_9 (by decide) (fun hc => ?_) (fun hc => ?_)
    · replace hv := hv.1 hc
      exact E.1 rfl _ _ _ d_State_addItem_21 ⟨rfl, hh, hv⟩
    · replace hv := hv.2 hc
      refine z_aload_n (pc := 12) (q := 0) X d_State_addItem_12 rfl ?_
      refine z_geti (pc := 13) (j := 3) X cf_State op0 (by decide) q178 rfl rfl d_State_addItem_13 ?_
      refine z_bipush (pc := 16) X d_State_addItem_16 (by decide) ?_
      refine z_icmp_lt (pc := 18) (tgt := 22) X (hh.1 _ _ (zO.ne op0 (by decide))) (show zr 40 from by decide) d_State_addItem_18 (by decide) (fun hc => ?_) (fun hc => ?_)
      · replace hv := hv.1 hc
        refine z_aload_n (pc := 22) (q := 0) X d_State_addItem_22 rfl ?_
        refine z_geti (pc := 23) (j := 3) X cf_State op0 (by decide) q178 rfl rfl d_State_addItem_23 ?_
        refine z_topi (fun x3_1 ex3_1 => ?_)
        have rx3_1 : zr x3_1 := by rw [ex3_1]; exact (hh.1 _ _ (zO.ne op0 (by decide)))
        replace hv := hv x3_1 ex3_1
        refine z_istore_n (pc := 26) (lv' := [(3, zi x3_1), (0, .ref (g.2.2 p0)), (1, zi x1), (2, zi x2)]) X d_State_addItem_26 (by decide) rfl ?_
        refine z_perm [1, 2, 3, 0] rfl ?_
        exact s_State_addItem_27 X E  op0 rx1 rx2 hv rx3_1 hh
      · replace hv := hv.2 hc
        exact E.1 rfl _ _ _ d_State_addItem_21 ⟨rfl, hh, hv⟩
theorem d_State_dropItem_0 : decode b_State_dropItem 0 = .ok (.aload_n 0, 1) := by decide +kernel
theorem d_State_dropItem_1 : decode b_State_dropItem 1 = .ok (.iload_n 1, 1) := by decide +kernel
theorem d_State_dropItem_2 : decode b_State_dropItem 2 = .ok (.invokevirtual 55, 3) := by decide +kernel
theorem d_State_dropItem_5 : decode b_State_dropItem 5 = .ok (.ifCond .ne 4, 3) := by decide +kernel
theorem d_State_dropItem_8 : decode b_State_dropItem 8 = .ok (.return_, 1) := by decide +kernel
theorem d_State_dropItem_9 : decode b_State_dropItem 9 = .ok (.iload_n 1, 1) := by decide +kernel
theorem d_State_dropItem_10 : decode b_State_dropItem 10 = .ok (.istore_n 2, 1) := by decide +kernel
theorem d_State_dropItem_11 : decode b_State_dropItem 11 = .ok (.iload_n 2, 1) := by decide +kernel
theorem d_State_dropItem_12 : decode b_State_dropItem 12 = .ok (.aload_n 0, 1) := by decide +kernel
theorem d_State_dropItem_13 : decode b_State_dropItem 13 = .ok (.getfield 31, 3) := by decide +kernel
theorem d_State_dropItem_16 : decode b_State_dropItem 16 = .ok (.iconst 1, 1) := by decide +kernel
theorem d_State_dropItem_17 : decode b_State_dropItem 17 = .ok (.isub, 1) := by decide +kernel
theorem d_State_dropItem_18 : decode b_State_dropItem 18 = .ok (.if_icmp .ge 29, 3) := by decide +kernel
theorem d_State_dropItem_21 : decode b_State_dropItem 21 = .ok (.iload_n 2, 1) := by decide +kernel
theorem d_State_dropItem_22 : decode b_State_dropItem 22 = .ok (.bipush 39, 2) := by decide +kernel
theorem d_State_dropItem_24 : decode b_State_dropItem 24 = .ok (.if_icmp .ge 23, 3) := by decide +kernel
theorem d_State_dropItem_27 : decode b_State_dropItem 27 = .ok (.aload_n 0, 1) := by decide +kernel
theorem d_State_dropItem_28 : decode b_State_dropItem 28 = .ok (.getfield 15, 3) := by decide +kernel
theorem d_State_dropItem_31 : decode b_State_dropItem 31 = .ok (.iload_n 2, 1) := by decide +kernel
theorem d_State_dropItem_32 : decode b_State_dropItem 32 = .ok (.aload_n 0, 1) := by decide +kernel
theorem d_State_dropItem_33 : decode b_State_dropItem 33 = .ok (.getfield 15, 3) := by decide +kernel
theorem d_State_dropItem_36 : decode b_State_dropItem 36 = .ok (.iload_n 2, 1) := by decide +kernel
theorem d_State_dropItem_37 : decode b_State_dropItem 37 = .ok (.iconst 1, 1) := by decide +kernel
theorem d_State_dropItem_38 : decode b_State_dropItem 38 = .ok (.iadd, 1) := by decide +kernel
theorem d_State_dropItem_39 : decode b_State_dropItem 39 = .ok (.iaload, 1) := by decide +kernel
theorem d_State_dropItem_40 : decode b_State_dropItem 40 = .ok (.iastore, 1) := by decide +kernel
theorem d_State_dropItem_41 : decode b_State_dropItem 41 = .ok (.iinc 2 1, 3) := by decide +kernel
theorem d_State_dropItem_44 : decode b_State_dropItem 44 = .ok (.goto (-33), 3) := by decide +kernel
theorem d_State_dropItem_47 : decode b_State_dropItem 47 = .ok (.aload_n 0, 1) := by decide +kernel
theorem d_State_dropItem_48 : decode b_State_dropItem 48 = .ok (.dup, 1) := by decide +kernel
theorem d_State_dropItem_49 : decode b_State_dropItem 49 = .ok (.getfield 31, 3) := by decide +kernel
theorem d_State_dropItem_52 : decode b_State_dropItem 52 = .ok (.iconst 1, 1) := by decide +kernel
theorem d_State_dropItem_53 : decode b_State_dropItem 53 = .ok (.isub, 1) := by decide +kernel
theorem d_State_dropItem_54 : decode b_State_dropItem 54 = .ok (.putfield 31, 3) := by decide +kernel
theorem d_State_dropItem_57 : decode b_State_dropItem 57 = .ok (.return_, 1) := by decide +kernel
def rm_State_dropItem : Room := { frames := 1, cells := 0, slots := 0, locals := 21 }
theorem mf_State_dropItem : zMV y_State_dropItem b_State_dropItem 3 none 1 := ⟨q769, qs45, q5, q770, by decide +kernel⟩
def F_State_dropItem_11 (K : zH → Prop)  (L11 : Int × zH → Prop) (p0 : Nat) (x2 : Int) (h : zH) : Prop :=
  zr ((h p0 3) - 1) ∧ (((h p0 3) - 1 ≤ x2 → (zr ((h p0 3) - 1) ∧ ((∀ h_3 : zH, h_3 = zs h p0 3 ((h p0 3) - 1) → (K h_3))))) ∧ (x2 < (h p0 3) - 1 → ((39 ≤ x2 → (zr ((h p0 3) - 1) ∧ ((∀ h_5 : zH, h_5 = zs h p0 3 ((h p0 3) - 1) → (K h_5))))) ∧ (x2 < 39 → (zr (x2 + 1) ∧ ((0 ≤ x2 + 1 ∧ x2 + 1 < 40) ∧ ((0 ≤ x2 ∧ x2 < 40) ∧ (∀ h_9 : zH, h_9 = zs h (p0 + 2) x2.toNat (h (p0 + 2) ((x2 + 1).toNat)) → (zr (x2 + 1) ∧ (L11 (x2 + 1, h_9)))))))))))
set_option maxRecDepth 100000 in
theorem s_State_dropItem_11 {Wf : Heap → List Loc → JFrame → Prop} {m : MethodId} {g : zG} {n : Nat} {H0 : Heap} (X : zX Wf m rm_State_dropItem b_State_dropItem "AliasStreams$State" 3 g n H0) {K : zH → Prop} (E : zEx Wf m b_State_dropItem none 3 g n H0 (zPv K))  {p0 : Nat}  (op0 : zO n p0 5) {q0 : Int × zH} (hv0 : zLoop (fun L q => F_State_dropItem_11 K  L p0 q.1 q.2) q0) : zr q0.1 → zh (q0.2) → zW Wf m 3 g n H0 11 [(0, .ref (g.2.2 p0)), (2, zi q0.1)] [] (q0.2) := by
  refine zLoop_use (G := fun q => zr q.1 → zh (q.2) → zW Wf m 3 g n H0 11 [(0, .ref (g.2.2 p0)), (2, zi q.1)] [] (q.2)) ?_ hv0
  rintro L11 ⟨x2, h⟩ hL11 hv rx2 hh
  have hv : F_State_dropItem_11 K  L11 p0 x2 h := hv
  unfold F_State_dropItem_11 at hv
  show zW Wf m 3 g n H0 11 [(0, .ref (g.2.2 p0)), (2, zi x2)] [] h
  refine z_iload_n (pc := 11) (q := 1) X d_State_dropItem_11 rfl ?_
  refine z_aload_n (pc := 12) (q := 0) X d_State_dropItem_12 rfl ?_
  refine z_geti (pc := 13) (j := 3) X cf_State op0 (by decide) q178 rfl rfl d_State_dropItem_13 ?_
  refine z_iconst (pc := 16) X d_State_dropItem_16 ?_
  obtain ⟨v_1, hv⟩ := hv
  refine z_isub (pc := 17) X d_State_dropItem_17 ?_
  refine z_icmp_ge (pc := 18) (tgt := 47) X rx2 v_1 d_State_dropItem_18 (by decide) (fun hc => ?_) (fun hc => ?_)
  · replace hv := hv.1 hc
    refine z_aload_n (pc := 47) (q := 0) X d_State_dropItem_47 rfl ?_
    refine z_dup (pc := 48) X d_State_dropItem_48 rfl ?_
    refine z_geti (pc := 49) (j := 3) X cf_State op0 (by decide) q178 rfl rfl d_State_dropItem_49 ?_
    refine z_iconst (pc := 52) X d_State_dropItem_52 ?_
    obtain ⟨v_2, hv⟩ := hv
    refine z_isub (pc := 53) X d_State_dropItem_53 ?_
    refine z_put (pc := 54) (j := 3) X cf_State op0 (by decide) q178 rfl rfl rfl rfl d_State_dropItem_54 ?_
    refine z_toph (fun h_3 eh_3 => ?_)
    have zh_3 : zh h_3 := by rw [eh_3]; exact zh_set hh (zO.ne op0 (by decide)) v_2
    replace hv := hv h_3 eh_3
    exact E.1 rfl _ _ _ d_State_dropItem_57 ⟨rfl, zh_3, hv⟩
  · replace hv := hv.2 hc
    refine z_iload_n (pc := 21) (q := 1) X d_State_dropItem_21 rfl ?_
    refine z_bipush (pc := 22) X d_State_dropItem_22 (by decide) ?_
    refine z_icmp_ge (pc := 24) (tgt := 47) X rx2 (show zr 39 from by decide) d_State_dropItem_24 (by decide) (fun hc => ?_) (fun hc => ?_)
    · replace hv := hv.1 hc
      refine z_aload_n (pc := 47) (q := 0) X d_State_dropItem_47 rfl ?_
      refine z_dup (pc := 48) X d_State_dropItem_48 rfl ?_
      refine z_geti (pc := 49) (j := 3) X cf_State op0 (by decide) q178 rfl rfl d_State_dropItem_49 ?_
      refine z_iconst (pc := 52) X d_State_dropItem_52 ?_
      obtain ⟨v_4, hv⟩ := hv
      refine z_isub (pc := 53) X d_State_dropItem_53 ?_
      refine z_put (pc := 54) (j := 3) X cf_State op0 (by decide) q178 rfl rfl rfl rfl d_State_dropItem_54 ?_
      refine z_toph (fun h_5 eh_5 => ?_)
      have zh_5 : zh h_5 := by rw [eh_5]; exact zh_set hh (zO.ne op0 (by decide)) v_4
      replace hv := hv h_5 eh_5
      exact E.1 rfl _ _ _ d_State_dropItem_57 ⟨rfl, zh_5, hv⟩
    · replace hv := hv.2 hc
      refine z_aload_n (pc := 27) (q := 0) X d_State_dropItem_27 rfl ?_
      refine z_getr (pc := 28) (j := 1) (dd := 2) X cf_State op0 (by decide) q171 rfl rfl d_State_dropItem_28 ?_
      refine z_iload_n (pc := 31) (q := 1) X d_State_dropItem_31 rfl ?_
      refine z_aload_n (pc := 32) (q := 0) X d_State_dropItem_32 rfl ?_
      refine z_getr (pc := 33) (j := 1) (dd := 2) X cf_State op0 (by decide) q171 rfl rfl d_State_dropItem_33 ?_
      refine z_iload_n (pc := 36) (q := 1) X d_State_dropItem_36 rfl ?_
      refine z_iconst (pc := 37) X d_State_dropItem_37 ?_
      obtain ⟨v_6, hv⟩ := hv
      refine z_iadd (pc := 38) X d_State_dropItem_38 ?_
      obtain ⟨v_7, hv⟩ := hv
      refine z_ialdj (pc := 39) (j := (x2 + 1).toNat) X (gf_State_1 op0) (gl_State_1 op0) v_6 v_7 rfl d_State_dropItem_39 ?_
      obtain ⟨v_8, hv⟩ := hv
      refine z_iastj (pc := 40) (j := x2.toNat) X (gf_State_1 op0) (gl_State_1 op0) rx2 v_8 rfl d_State_dropItem_40 ?_
      refine z_toph (fun h_9 eh_9 => ?_)
      have zh_9 : zh h_9 := by rw [eh_9]; exact zh_set hh (zO.ne (gf_State_1 op0) (by decide)) (hh.1 _ _ (zO.ne (gf_State_1 op0) (by decide)))
      replace hv := hv h_9 eh_9
      obtain ⟨v_10, hv⟩ := hv
      refine z_iinc (pc := 41) (q := 1) (lv' := [(2, zi (x2 + 1)), (0, .ref (g.2.2 p0))]) X d_State_dropItem_41 rfl (by decide) rfl ?_
      refine z_goto (pc := 44) (tgt := 11) X d_State_dropItem_44 (by decide) ?_
      refine z_perm [1, 0] rfl ?_
      exact hL11 _ hv v_10 zh_9
def M_State_dropItem (p0 : Nat) (x1 : Int) (h : zH) (K : zH → Prop) : Prop :=
  M_State_hasItem p0 x1 h (fun r_2 h_1 => (r_2 ≠ 0 → (zLoop (fun L q => F_State_dropItem_11 K  L p0 q.1 q.2) (x1, h_1))) ∧ (r_2 = 0 → (K h_1)))
set_option maxRecDepth 100000 in
theorem c_State_dropItem {l : Launch} (hfl : l.flags = flags0) {g : zG} {n : Nat} {p0 : Nat} {x1 : Int} (op0 : zO n p0 5) (rx1 : zr x1) {h : zH} (hh : zh h) {K : zH → Prop} (hv : M_State_dropItem p0 x1 h K) : zMet l y_State_dropItem b_State_dropItem 3 none rm_State_dropItem g n [.ref (g.2.2 p0), zi x1] h (zPv K) := by
  refine zMet_of (own := "AliasStreams$State") hfl (by decide) rfl (Nat.le_of_ble_eq_true rfl) (fun Wf m H0 X E => ?_)
  unfold M_State_dropItem at hv
  show zW Wf m 3 g n H0 0 [(0, .ref (g.2.2 p0)), (1, zi x1)] [] h
  refine z_aload_n (pc := 0) (q := 0) X d_State_dropItem_0 rfl ?_
  refine z_iload_n (pc := 1) (q := 1) X d_State_dropItem_1 rfl ?_
  refine z_callVi (pc := 2) (As := [zi x1]) (rest := []) X (fun l hl => c_State_hasItem hl op0 rx1 hh hv) cf_State op0 rfl mf_State_hasItem q771 ⟨⟨by decide, by decide⟩, rfl, rfl⟩ rfl d_State_dropItem_2 rfl (Nat.le_of_ble_eq_true rfl) (fun r_2 h_1 rr_2 zh_1 hv => ?_)
  refine z_if_ne (pc := 5) (tgt := 9) X rr_2 d_State_dropItem_5 (by decide) (fun hc => ?_) (fun hc => ?_)
  · replace hv := hv.1 hc
    refine z_iload_n (pc := 9) (q := 1) X d_State_dropItem_9 rfl ?_
    refine z_istore_n (pc := 10) (lv' := [(2, zi x1), (0, .ref (g.2.2 p0)), (1, zi x1)]) X d_State_dropItem_10 (by decide) rfl ?_
    refine z_perm [1, 0] rfl ?_
    exact s_State_dropItem_11 X E  op0 hv rx1 zh_1
  · replace hv := hv.2 hc
    exact E.1 rfl _ _ _ d_State_dropItem_8 ⟨rfl, zh_1, hv⟩
theorem d_State_takeMessage_0 : decode b_State_takeMessage 0 = .ok (.aload_n 0, 1) := by decide +kernel
theorem d_State_takeMessage_1 : decode b_State_takeMessage 1 = .ok (.iconst 0, 1) := by decide +kernel
theorem d_State_takeMessage_2 : decode b_State_takeMessage 2 = .ok (.putfield 31, 3) := by decide +kernel
theorem d_State_takeMessage_5 : decode b_State_takeMessage 5 = .ok (.iconst 0, 1) := by decide +kernel
theorem d_State_takeMessage_6 : decode b_State_takeMessage 6 = .ok (.istore_n 2, 1) := by decide +kernel
theorem d_State_takeMessage_7 : decode b_State_takeMessage 7 = .ok (.iconst 0, 1) := by decide +kernel
theorem d_State_takeMessage_8 : decode b_State_takeMessage 8 = .ok (.istore_n 3, 1) := by decide +kernel
theorem d_State_takeMessage_9 : decode b_State_takeMessage 9 = .ok (.iload_n 3, 1) := by decide +kernel
theorem d_State_takeMessage_10 : decode b_State_takeMessage 10 = .ok (.aload_n 0, 1) := by decide +kernel
theorem d_State_takeMessage_11 : decode b_State_takeMessage 11 = .ok (.getfield 21, 3) := by decide +kernel
theorem d_State_takeMessage_14 : decode b_State_takeMessage 14 = .ok (.getfield 59, 3) := by decide +kernel
theorem d_State_takeMessage_17 : decode b_State_takeMessage 17 = .ok (.if_icmp .ge 64, 3) := by decide +kernel
theorem d_State_takeMessage_20 : decode b_State_takeMessage 20 = .ok (.iload_n 3, 1) := by decide +kernel
theorem d_State_takeMessage_21 : decode b_State_takeMessage 21 = .ok (.bipush 40, 2) := by decide +kernel
theorem d_State_takeMessage_23 : decode b_State_takeMessage 23 = .ok (.if_icmp .ge 58, 3) := by decide +kernel
theorem d_State_takeMessage_26 : decode b_State_takeMessage 26 = .ok (.aload_n 0, 1) := by decide +kernel
theorem d_State_takeMessage_27 : decode b_State_takeMessage 27 = .ok (.getfield 21, 3) := by decide +kernel
theorem d_State_takeMessage_30 : decode b_State_takeMessage 30 = .ok (.getfield 62, 3) := by decide +kernel
theorem d_State_takeMessage_33 : decode b_State_takeMessage 33 = .ok (.iload_n 3, 1) := by decide +kernel
theorem d_State_takeMessage_34 : decode b_State_takeMessage 34 = .ok (.iaload, 1) := by decide +kernel
theorem d_State_takeMessage_35 : decode b_State_takeMessage 35 = .ok (.iload_n 2, 1) := by decide +kernel
theorem d_State_takeMessage_36 : decode b_State_takeMessage 36 = .ok (.if_icmp .eq 25, 3) := by decide +kernel
theorem d_State_takeMessage_39 : decode b_State_takeMessage 39 = .ok (.aload_n 0, 1) := by decide +kernel
theorem d_State_takeMessage_40 : decode b_State_takeMessage 40 = .ok (.getfield 21, 3) := by decide +kernel
theorem d_State_takeMessage_43 : decode b_State_takeMessage 43 = .ok (.getfield 62, 3) := by decide +kernel
theorem d_State_takeMessage_46 : decode b_State_takeMessage 46 = .ok (.iload_n 3, 1) := by decide +kernel
theorem d_State_takeMessage_47 : decode b_State_takeMessage 47 = .ok (.iaload, 1) := by decide +kernel
theorem d_State_takeMessage_48 : decode b_State_takeMessage 48 = .ok (.istore_n 2, 1) := by decide +kernel
theorem d_State_takeMessage_49 : decode b_State_takeMessage 49 = .ok (.aload_n 0, 1) := by decide +kernel
theorem d_State_takeMessage_50 : decode b_State_takeMessage 50 = .ok (.aload_n 0, 1) := by decide +kernel
theorem d_State_takeMessage_51 : decode b_State_takeMessage 51 = .ok (.getfield 31, 3) := by decide +kernel
theorem d_State_takeMessage_54 : decode b_State_takeMessage 54 = .ok (.bipush 10, 2) := by decide +kernel
theorem d_State_takeMessage_56 : decode b_State_takeMessage 56 = .ok (.iload_n 2, 1) := by decide +kernel
theorem d_State_takeMessage_57 : decode b_State_takeMessage 57 = .ok (.iadd, 1) := by decide +kernel
theorem d_State_takeMessage_58 : decode b_State_takeMessage 58 = .ok (.invokevirtual 65, 3) := by decide +kernel
theorem d_State_takeMessage_61 : decode b_State_takeMessage 61 = .ok (.aload_n 0, 1) := by decide +kernel
theorem d_State_takeMessage_62 : decode b_State_takeMessage 62 = .ok (.aload_n 0, 1) := by decide +kernel
theorem d_State_takeMessage_63 : decode b_State_takeMessage 63 = .ok (.getfield 31, 3) := by decide +kernel
theorem d_State_takeMessage_66 : decode b_State_takeMessage 66 = .ok (.aload_n 1, 1) := by decide +kernel
theorem d_State_takeMessage_67 : decode b_State_takeMessage 67 = .ok (.getfield 69, 3) := by decide +kernel
theorem d_State_takeMessage_70 : decode b_State_takeMessage 70 = .ok (.iload_n 3, 1) := by decide +kernel
theorem d_State_takeMessage_71 : decode b_State_takeMessage 71 = .ok (.iaload, 1) := by decide +kernel
theorem d_State_takeMessage_72 : decode b_State_takeMessage 72 = .ok (.invokevirtual 65, 3) := by decide +kernel
theorem d_State_takeMessage_75 : decode b_State_takeMessage 75 = .ok (.iinc 3 1, 3) := by decide +kernel
theorem d_State_takeMessage_78 : decode b_State_takeMessage 78 = .ok (.goto (-69), 3) := by decide +kernel
theorem d_State_takeMessage_81 : decode b_State_takeMessage 81 = .ok (.return_, 1) := by decide +kernel
def rm_State_takeMessage : Room := { frames := 1, cells := 0, slots := 0, locals := 23 }
theorem mf_State_takeMessage : zMV y_State_takeMessage b_State_takeMessage 4 none 1 := ⟨q815, qs51, q5, q816, by decide +kernel⟩
def B_State_takeMessage_61 (K : zH → Prop) (L9 : Int × Int × zH → Prop) (p0 : Nat) (p1 : Nat) (x2 : Int) (x3 : Int)  (h : zH) : Prop :=
  (0 ≤ x3 ∧ x3 < 40) ∧ (M_State_addItem p0 (h p0 3) (h (p1 + 1) x3.toNat) h (fun h_2 => zr (x3 + 1) ∧ (L9 (x2, x3 + 1, h_2))))
set_option maxRecDepth 100000 in
theorem s_State_takeMessage_61 {Wf : Heap → List Loc → JFrame → Prop} {m : MethodId} {g : zG} {n : Nat} {H0 : Heap} (X : zX Wf m rm_State_takeMessage b_State_takeMessage "AliasStreams$State" 4 g n H0) {K : zH → Prop} (E : zEx Wf m b_State_takeMessage none 4 g n H0 (zPv K)) {L9 : Int × Int × zH → Prop} {p0 : Nat} {p1 : Nat} {x2 : Int} {x3 : Int} (hL9 : ∀ q : Int × Int × zH, L9 q → zr q.1 → zr q.2.1 → zh (q.2.2) → zW Wf m 4 g n H0 9 [(0, .ref (g.2.2 p0)), (1, .ref (g.2.2 p1)), (2, zi q.1), (3, zi q.2.1)] [] (q.2.2)) (op0 : zO n p0 5) (op1 : zO n p1 7) (rx2 : zr x2) (rx3 : zr x3)   {h : zH} (hh : zh h) (hv : B_State_takeMessage_61 K L9 p0 p1 x2 x3  h) : zW Wf m 4 g n H0 61 [(0, .ref (g.2.2 p0)), (1, .ref (g.2.2 p1)), (2, zi x2), (3, zi x3)] [] h := by
  unfold B_State_takeMessage_61 at hv
  refine z_aload_n (pc := 61) (q := 0) X d_State_takeMessage_61 rfl ?_
  refine z_aload_n (pc := 62) (q := 0) X d_State_takeMessage_62 rfl ?_
  refine z_geti (pc := 63) (j := 3) X cf_State op0 (by decide) q178 rfl rfl d_State_takeMessage_63 ?_
  refine z_aload_n (pc := 66) (q := 1) X d_State_takeMessage_66 rfl ?_
  refine z_getrN (pc := 67) (j := 0) (dd := 1) X cf_Taking op1 (by decide) q255 rfl rfl d_State_takeMessage_67 ?_
  refine z_iload_n (pc := 70) (q := 3) X d_State_takeMessage_70 rfl ?_
  obtain ⟨v_1, hv⟩ := hv
  refine z_ialdj (pc := 71) (j := x3.toNat) X (gf_Taking_0 op1) (gl_Taking_0 op1) rx3 v_1 rfl d_State_takeMessage_71 ?_
  refine z_callVv (pc := 72) (As := [zi (h p0 3), zi (h (p1 + 1) x3.toNat)]) (rest := []) X (fun l hl => c_State_addItem hl op0 (hh.1 _ _ (zO.ne op0 (by decide))) (hh.1 _ _ (zO.ne (gf_Taking_0 op1) (by decide))) hh hv) cf_State op0 rfl mf_State_addItem q817 ⟨⟨by decide, by decide⟩, rfl, rfl⟩ rfl d_State_takeMessage_72 rfl (Nat.le_of_ble_eq_true rfl) (fun h_2 zh_2 hv => ?_)
  obtain ⟨v_4, hv⟩ := hv
  refine z_iinc (pc := 75) (q := 3) (lv' := [(3, zi (x3 + 1)), (0, .ref (g.2.2 p0)), (1, .ref (g.2.2 p1)), (2, zi x2)]) X d_State_takeMessage_75 rfl (by decide) rfl ?_
  refine z_goto (pc := 78) (tgt := 9) X d_State_takeMessage_78 (by decide) ?_
  refine z_perm [1, 2, 3, 0] rfl ?_
  exact hL9 _ hv rx2 v_4 zh_2
def F_State_takeMessage_9 (K : zH → Prop)  (L9 : Int × Int × zH → Prop) (p0 : Nat) (p1 : Nat) (x2 : Int) (x3 : Int) (h : zH) : Prop :=
  (h (p0 + 3) 3 ≤ x3 → (K h)) ∧ (x3 < h (p0 + 3) 3 → ((40 ≤ x3 → (K h)) ∧ (x3 < 40 → ((0 ≤ x3 ∧ x3 < 40) ∧ ((h ((p0 + 3) + 1) x3.toNat = x2 → (B_State_takeMessage_61 K L9 p0 p1 x2 x3  h)) ∧ (h ((p0 + 3) + 1) x3.toNat ≠ x2 → ((0 ≤ x3 ∧ x3 < 40) ∧ ((∀ x2_3 : Int, x2_3 = h ((p0 + 3) + 1) x3.toNat → (zr (10 + x2_3) ∧ (M_State_addItem p0 (h p0 3) (10 + x2_3) h (fun h_5 => B_State_takeMessage_61 K L9 p0 p1 x2_3 x3  h_5))))))))))))
set_option maxRecDepth 100000 in
theorem s_State_takeMessage_9 {Wf : Heap → List Loc → JFrame → Prop} {m : MethodId} {g : zG} {n : Nat} {H0 : Heap} (X : zX Wf m rm_State_takeMessage b_State_takeMessage "AliasStreams$State" 4 g n H0) {K : zH → Prop} (E : zEx Wf m b_State_takeMessage none 4 g n H0 (zPv K))  {p0 : Nat} {p1 : Nat}  (op0 : zO n p0 5) (op1 : zO n p1 7) {q0 : Int × Int × zH} (hv0 : zLoop (fun L q => F_State_takeMessage_9 K  L p0 p1 q.1 q.2.1 q.2.2) q0) : zr q0.1 → zr q0.2.1 → zh (q0.2.2) → zW Wf m 4 g n H0 9 [(0, .ref (g.2.2 p0)), (1, .ref (g.2.2 p1)), (2, zi q0.1), (3, zi q0.2.1)] [] (q0.2.2) := by
  refine zLoop_use (G := fun q => zr q.1 → zr q.2.1 → zh (q.2.2) → zW Wf m 4 g n H0 9 [(0, .ref (g.2.2 p0)), (1, .ref (g.2.2 p1)), (2, zi q.1), (3, zi q.2.1)] [] (q.2.2)) ?_ hv0
  rintro L9 ⟨x2, x3, h⟩ hL9 hv rx2 rx3 hh
  have hv : F_State_takeMessage_9 K  L9 p0 p1 x2 x3 h := hv
  unfold F_State_takeMessage_9 at hv
  show zW Wf m 4 g n H0 9 [(0, .ref (g.2.2 p0)), (1, .ref (g.2.2 p1)), (2, zi x2), (3, zi x3)] [] h
  refine z_iload_n (pc := 9) (q := 3) X d_State_takeMessage_9 rfl ?_
  refine z_aload_n (pc := 10) (q := 0) X d_State_takeMessage_10 rfl ?_
  refine z_getr (pc := 11) (j := 2) (dd := 3) X cf_State op0 (by decide) q174 rfl rfl d_State_takeMessage_11 ?_
  refine z_getiN (pc := 14) (j := 3) X cf_Tape (gf_State_2 op0) (by decide) q153 rfl rfl d_State_takeMessage_14 ?_
  refine z_icmp_ge (pc := 17) (tgt := 81) X rx3 (hh.1 _ _ (zO.ne (gf_State_2 op0) (by decide))) d_State_takeMessage_17 (by decide) (fun hc => ?_) (fun hc => ?_)
  · replace hv := hv.1 hc
    exact E.1 rfl _ _ _ d_State_takeMessage_81 ⟨rfl, hh, hv⟩
  · replace hv := hv.2 hc
    refine z_iload_n (pc := 20) (q := 3) X d_State_takeMessage_20 rfl ?_
    refine z_bipush (pc := 21) X d_State_takeMessage_21 (by decide) ?_
    refine z_icmp_ge (pc := 23) (tgt := 81) X rx3 (show zr 40 from by decide) d_State_takeMessage_23 (by decide) (fun hc => ?_) (fun hc => ?_)
    · replace hv := hv.1 hc
      exact E.1 rfl _ _ _ d_State_takeMessage_81 ⟨rfl, hh, hv⟩
    · replace hv := hv.2 hc
      refine z_aload_n (pc := 26) (q := 0) X d_State_takeMessage_26 rfl ?_
      refine z_getr (pc := 27) (j := 2) (dd := 3) X cf_State op0 (by decide) q174 rfl rfl d_State_takeMessage_27 ?_
      refine z_getrN (pc := 30) (j := 0) (dd := 1) X cf_Tape (gf_State_2 op0) (by decide) q141 rfl rfl d_State_takeMessage_30 ?_
      refine z_iload_n (pc := 33) (q := 3) X d_State_takeMessage_33 rfl ?_
      obtain ⟨v_1, hv⟩ := hv
      refine z_ialdj (pc := 34) (j := x3.toNat) X (gf_Tape_0 (gf_State_2 op0)) (gl_Tape_0 (gf_State_2 op0)) rx3 v_1 rfl d_State_takeMessage_34 ?_
      refine z_iload_n (pc := 35) (q := 2) X d_State_takeMessage_35 rfl ?_
      refine z_icmp_eq (pc := 36) (tgt := 61) X (hh.1 _ _ (zO.ne (gf_Tape_0 (gf_State_2 op0)) (by decide))) rx2 d_State_takeMessage_36 (by decide) (fun hc => ?_) (fun hc => ?_)
      · replace hv := hv.1 hc
        exact s_State_takeMessage_61 X E hL9 op0 op1 rx2 rx3  hh hv
      · replace hv := hv.2 hc
        refine z_aload_n (pc := 39) (q := 0) X d_State_takeMessage_39 rfl ?_
        refine z_getr (pc := 40) (j := 2) (dd := 3) X cf_State op0 (by decide) q174 rfl rfl d_State_takeMessage_40 ?_
        refine z_getrN (pc := 43) (j := 0) (dd := 1) X cf_Tape (gf_State_2 op0) (by decide) q141 rfl rfl d_State_takeMessage_43 ?_
        refine z_iload_n (pc := 46) (q := 3) X d_State_takeMessage_46 rfl ?_
        obtain ⟨v_2, hv⟩ := hv
        refine z_ialdj (pc := 47) (j := x3.toNat) X (gf_Tape_0 (gf_State_2 op0)) (gl_Tape_0 (gf_State_2 op0)) rx3 v_2 rfl d_State_takeMessage_47 ?_
        refine z_topi (fun x2_3 ex2_3 => ?_)
        have rx2_3 : zr x2_3 := by rw [ex2_3]; exact (hh.1 _ _ (zO.ne (gf_Tape_0 (gf_State_2 op0)) (by decide)))
        replace hv := hv x2_3 ex2_3
        refine z_istore_n (pc := 48) (lv' := [(2, zi x2_3), (0, .ref (g.2.2 p0)), (1, .ref (g.2.2 p1)), (3, zi x3)]) X d_State_takeMessage_48 (by decide) rfl ?_
        refine z_aload_n (pc := 49) (q := 1) X d_State_takeMessage_49 rfl ?_
        refine z_aload_n (pc := 50) (q := 1) X d_State_takeMessage_50 rfl ?_
        refine z_geti (pc := 51) (j := 3) X cf_State op0 (by decide) q178 rfl rfl d_State_takeMessage_51 ?_
        refine z_bipush (pc := 54) X d_State_takeMessage_54 (by decide) ?_
        refine z_iload_n (pc := 56) (q := 0) X d_State_takeMessage_56 rfl ?_
        obtain ⟨v_4, hv⟩ := hv
        refine z_iadd (pc := 57) X d_State_takeMessage_57 ?_
        refine z_callVv (pc := 58) (As := [zi (h p0 3), zi (10 + x2_3)]) (rest := []) X (fun l hl => c_State_addItem hl op0 (hh.1 _ _ (zO.ne op0 (by decide))) v_4 hh hv) cf_State op0 rfl mf_State_addItem q817 ⟨⟨by decide, by decide⟩, rfl, rfl⟩ rfl d_State_takeMessage_58 rfl (Nat.le_of_ble_eq_true rfl) (fun h_5 zh_5 hv => ?_)
        refine z_perm [1, 2, 0, 3] rfl ?_
        exact s_State_takeMessage_61 X E hL9 op0 op1 rx2_3 rx3  zh_5 hv
def M_State_takeMessage (p0 : Nat) (p1 : Nat) (h : zH) (K : zH → Prop) : Prop :=
  (∀ h_1 : zH, h_1 = zs h p0 3 0 → (zLoop (fun L q => F_State_takeMessage_9 K  L p0 p1 q.1 q.2.1 q.2.2) (0, 0, h_1)))
set_option maxRecDepth 100000 in
theorem c_State_takeMessage {l : Launch} (hfl : l.flags = flags0) {g : zG} {n : Nat} {p0 : Nat} {p1 : Nat} (op0 : zO n p0 5) (op1 : zO n p1 7) {h : zH} (hh : zh h) {K : zH → Prop} (hv : M_State_takeMessage p0 p1 h K) : zMet l y_State_takeMessage b_State_takeMessage 4 none rm_State_takeMessage g n [.ref (g.2.2 p0), .ref (g.2.2 p1)] h (zPv K) := by
  refine zMet_of (own := "AliasStreams$State") hfl (by decide) rfl (Nat.le_of_ble_eq_true rfl) (fun Wf m H0 X E => ?_)
  unfold M_State_takeMessage at hv
  show zW Wf m 4 g n H0 0 [(0, .ref (g.2.2 p0)), (1, .ref (g.2.2 p1))] [] h
  refine z_aload_n (pc := 0) (q := 0) X d_State_takeMessage_0 rfl ?_
  refine z_iconst (pc := 1) X d_State_takeMessage_1 ?_
  refine z_put (pc := 2) (j := 3) X cf_State op0 (by decide) q178 rfl rfl rfl rfl d_State_takeMessage_2 ?_
  refine z_toph (fun h_1 eh_1 => ?_)
  have zh_1 : zh h_1 := by rw [eh_1]; exact zh_set hh (zO.ne op0 (by decide)) (show zr 0 from by decide)
  replace hv := hv h_1 eh_1
  refine z_iconst (pc := 5) X d_State_takeMessage_5 ?_
  refine z_istore_n (pc := 6) (lv' := [(2, zi 0), (0, .ref (g.2.2 p0)), (1, .ref (g.2.2 p1))]) X d_State_takeMessage_6 (by decide) rfl ?_
  refine z_iconst (pc := 7) X d_State_takeMessage_7 ?_
  refine z_istore_n (pc := 8) (lv' := [(3, zi 0), (2, zi 0), (0, .ref (g.2.2 p0)), (1, .ref (g.2.2 p1))]) X d_State_takeMessage_8 (by decide) rfl ?_
  refine z_perm [2, 3, 1, 0] rfl ?_
  exact s_State_takeMessage_9 X E  op0 op1 hv (show zr 0 from by decide) (show zr 0 from by decide) zh_1
theorem d_Symbols_list_0 : decode b_Symbols_list 0 = .ok (.aload_n 0, 1) := by decide +kernel
theorem d_Symbols_list_1 : decode b_Symbols_list 1 = .ok (.iconst 0, 1) := by decide +kernel
theorem d_Symbols_list_2 : decode b_Symbols_list 2 = .ok (.putfield 18, 3) := by decide +kernel
theorem d_Symbols_list_5 : decode b_Symbols_list 5 = .ok (.iconst 0, 1) := by decide +kernel
theorem d_Symbols_list_6 : decode b_Symbols_list 6 = .ok (.istore_n 2, 1) := by decide +kernel
theorem d_Symbols_list_7 : decode b_Symbols_list 7 = .ok (.iconst 0, 1) := by decide +kernel
theorem d_Symbols_list_8 : decode b_Symbols_list 8 = .ok (.istore_n 3, 1) := by decide +kernel
theorem d_Symbols_list_9 : decode b_Symbols_list 9 = .ok (.iconst 0, 1) := by decide +kernel
theorem d_Symbols_list_10 : decode b_Symbols_list 10 = .ok (.istore 4, 2) := by decide +kernel
theorem d_Symbols_list_12 : decode b_Symbols_list 12 = .ok (.iload 4, 2) := by decide +kernel
theorem d_Symbols_list_14 : decode b_Symbols_list 14 = .ok (.aload_n 1, 1) := by decide +kernel
theorem d_Symbols_list_15 : decode b_Symbols_list 15 = .ok (.getfield 22, 3) := by decide +kernel
theorem d_Symbols_list_18 : decode b_Symbols_list 18 = .ok (.if_icmp .ge 65, 3) := by decide +kernel
theorem d_Symbols_list_21 : decode b_Symbols_list 21 = .ok (.iload 4, 2) := by decide +kernel
theorem d_Symbols_list_23 : decode b_Symbols_list 23 = .ok (.bipush 40, 2) := by decide +kernel
theorem d_Symbols_list_25 : decode b_Symbols_list 25 = .ok (.if_icmp .ge 58, 3) := by decide +kernel
theorem d_Symbols_list_28 : decode b_Symbols_list 28 = .ok (.aload_n 1, 1) := by decide +kernel
theorem d_Symbols_list_29 : decode b_Symbols_list 29 = .ok (.getfield 27, 3) := by decide +kernel
theorem d_Symbols_list_32 : decode b_Symbols_list 32 = .ok (.iload 4, 2) := by decide +kernel
theorem d_Symbols_list_34 : decode b_Symbols_list 34 = .ok (.iaload, 1) := by decide +kernel
theorem d_Symbols_list_35 : decode b_Symbols_list 35 = .ok (.istore 5, 2) := by decide +kernel
theorem d_Symbols_list_37 : decode b_Symbols_list 37 = .ok (.iload 5, 2) := by decide +kernel
theorem d_Symbols_list_39 : decode b_Symbols_list 39 = .ok (.bipush 10, 2) := by decide +kernel
theorem d_Symbols_list_41 : decode b_Symbols_list 41 = .ok (.if_icmp .lt 12, 3) := by decide +kernel
theorem d_Symbols_list_44 : decode b_Symbols_list 44 = .ok (.iload 5, 2) := by decide +kernel
theorem d_Symbols_list_46 : decode b_Symbols_list 46 = .ok (.bipush 10, 2) := by decide +kernel
theorem d_Symbols_list_48 : decode b_Symbols_list 48 = .ok (.isub, 1) := by decide +kernel
theorem d_Symbols_list_49 : decode b_Symbols_list 49 = .ok (.istore_n 3, 1) := by decide +kernel
theorem d_Symbols_list_50 : decode b_Symbols_list 50 = .ok (.goto 27, 3) := by decide +kernel
theorem d_Symbols_list_53 : decode b_Symbols_list 53 = .ok (.iload_n 2, 1) := by decide +kernel
theorem d_Symbols_list_54 : decode b_Symbols_list 54 = .ok (.bipush 40, 2) := by decide +kernel
theorem d_Symbols_list_56 : decode b_Symbols_list 56 = .ok (.if_icmp .ge 21, 3) := by decide +kernel
theorem d_Symbols_list_59 : decode b_Symbols_list 59 = .ok (.aload_n 0, 1) := by decide +kernel
theorem d_Symbols_list_60 : decode b_Symbols_list 60 = .ok (.getfield 9, 3) := by decide +kernel
theorem d_Symbols_list_63 : decode b_Symbols_list 63 = .ok (.iload_n 2, 1) := by decide +kernel
theorem d_Symbols_list_64 : decode b_Symbols_list 64 = .ok (.iload 5, 2) := by decide +kernel
theorem d_Symbols_list_66 : decode b_Symbols_list 66 = .ok (.iastore, 1) := by decide +kernel
theorem d_Symbols_list_67 : decode b_Symbols_list 67 = .ok (.aload_n 0, 1) := by decide +kernel
theorem d_Symbols_list_68 : decode b_Symbols_list 68 = .ok (.getfield 15, 3) := by decide +kernel
theorem d_Symbols_list_71 : decode b_Symbols_list 71 = .ok (.iload_n 2, 1) := by decide +kernel
theorem d_Symbols_list_72 : decode b_Symbols_list 72 = .ok (.iload_n 3, 1) := by decide +kernel
theorem d_Symbols_list_73 : decode b_Symbols_list 73 = .ok (.iastore, 1) := by decide +kernel
theorem d_Symbols_list_74 : decode b_Symbols_list 74 = .ok (.iinc 2 1, 3) := by decide +kernel
theorem d_Symbols_list_77 : decode b_Symbols_list 77 = .ok (.iinc 4 1, 3) := by decide +kernel
theorem d_Symbols_list_80 : decode b_Symbols_list 80 = .ok (.goto (-68), 3) := by decide +kernel
theorem d_Symbols_list_83 : decode b_Symbols_list 83 = .ok (.aload_n 0, 1) := by decide +kernel
theorem d_Symbols_list_84 : decode b_Symbols_list 84 = .ok (.iload_n 2, 1) := by decide +kernel
theorem d_Symbols_list_85 : decode b_Symbols_list 85 = .ok (.putfield 18, 3) := by decide +kernel
theorem d_Symbols_list_88 : decode b_Symbols_list 88 = .ok (.return_, 1) := by decide +kernel
def rm_Symbols_list : Room := { frames := 0, cells := 0, slots := 0, locals := 0 }
theorem mf_Symbols_list : zMV y_Symbols_list b_Symbols_list 6 none 1 := ⟨q467, qs24, q9, q468, by decide +kernel⟩
def F_Symbols_list_12 (K : zH → Prop)  (L12 : Int × Int × Int × zH → Prop) (p0 : Nat) (p1 : Nat) (x2 : Int) (x3 : Int) (x4 : Int) (h : zH) : Prop :=
  (h p1 3 ≤ x4 → ((∀ h_1 : zH, h_1 = zs h p0 2 x2 → (K h_1)))) ∧ (x4 < h p1 3 → ((40 ≤ x4 → ((∀ h_2 : zH, h_2 = zs h p0 2 x2 → (K h_2)))) ∧ (x4 < 40 → ((0 ≤ x4 ∧ x4 < 40) ∧ ((∀ x5_4 : Int, x5_4 = h (p1 + 2) x4.toNat → ((x5_4 < 10 → ((40 ≤ x2 → (zr (x4 + 1) ∧ (L12 (x2, x3, x4 + 1, h)))) ∧ (x2 < 40 → ((0 ≤ x2 ∧ x2 < 40) ∧ (∀ h_7 : zH, h_7 = zs h (p0 + 1) x2.toNat x5_4 → ((0 ≤ x2 ∧ x2 < 40) ∧ (∀ h_9 : zH, h_9 = zs h_7 (p0 + 2) x2.toNat x3 → (zr (x2 + 1) ∧ (zr (x4 + 1) ∧ (L12 (x2 + 1, x3, x4 + 1, h_9))))))))))) ∧ (10 ≤ x5_4 → (zr (x5_4 - 10) ∧ ((∀ x3_13 : Int, x3_13 = x5_4 - 10 → (zr (x4 + 1) ∧ (L12 (x2, x3_13, x4 + 1, h))))))))))))))
set_option maxRecDepth 100000 in
theorem s_Symbols_list_12 {Wf : Heap → List Loc → JFrame → Prop} {m : MethodId} {g : zG} {n : Nat} {H0 : Heap} (X : zX Wf m rm_Symbols_list b_Symbols_list "AliasStreams$Symbols" 6 g n H0) {K : zH → Prop} (E : zEx Wf m b_Symbols_list none 6 g n H0 (zPv K))  {p0 : Nat} {p1 : Nat}  (op0 : zO n p0 6) (op1 : zO n p1 5) {q0 : Int × Int × Int × zH} (hv0 : zLoop (fun L q => F_Symbols_list_12 K  L p0 p1 q.1 q.2.1 q.2.2.1 q.2.2.2) q0) : zr q0.1 → zr q0.2.1 → zr q0.2.2.1 → zh (q0.2.2.2) → zW Wf m 6 g n H0 12 [(0, .ref (g.2.2 p0)), (1, .ref (g.2.2 p1)), (2, zi q0.1), (3, zi q0.2.1), (4, zi q0.2.2.1)] [] (q0.2.2.2) := by
  refine zLoop_use (G := fun q => zr q.1 → zr q.2.1 → zr q.2.2.1 → zh (q.2.2.2) → zW Wf m 6 g n H0 12 [(0, .ref (g.2.2 p0)), (1, .ref (g.2.2 p1)), (2, zi q.1), (3, zi q.2.1), (4, zi q.2.2.1)] [] (q.2.2.2)) ?_ hv0
  rintro L12 ⟨x2, x3, x4, h⟩ hL12 hv rx2 rx3 rx4 hh
  have hv : F_Symbols_list_12 K  L12 p0 p1 x2 x3 x4 h := hv
  unfold F_Symbols_list_12 at hv
  show zW Wf m 6 g n H0 12 [(0, .ref (g.2.2 p0)), (1, .ref (g.2.2 p1)), (2, zi x2), (3, zi x3), (4, zi x4)] [] h
  refine z_iload (pc := 12) (q := 4) X d_Symbols_list_12 rfl ?_
  refine z_aload_n (pc := 14) (q := 1) X d_Symbols_list_14 rfl ?_
  refine z_getiN (pc := 15) (j := 3) X cf_State op1 (by decide) q177 rfl rfl d_Symbols_list_15 ?_
  refine z_icmp_ge (pc := 18) (tgt := 83) X rx4 (hh.1 _ _ (zO.ne op1 (by decide))) d_Symbols_list_18 (by decide) (fun hc => ?_) (fun hc => ?_)
  · replace hv := hv.1 hc
    refine z_aload_n (pc := 83) (q := 0) X d_Symbols_list_83 rfl ?_
    refine z_iload_n (pc := 84) (q := 2) X d_Symbols_list_84 rfl ?_
    refine z_put (pc := 85) (j := 2) X cf_Symbols op0 (by decide) q238 rfl rfl rfl rfl d_Symbols_list_85 ?_
    refine z_toph (fun h_1 eh_1 => ?_)
    have zh_1 : zh h_1 := by rw [eh_1]; exact zh_set hh (zO.ne op0 (by decide)) rx2
    replace hv := hv h_1 eh_1
    exact E.1 rfl _ _ _ d_Symbols_list_88 ⟨rfl, zh_1, hv⟩
  · replace hv := hv.2 hc
    refine z_iload (pc := 21) (q := 4) X d_Symbols_list_21 rfl ?_
    refine z_bipush (pc := 23) X d_Symbols_list_23 (by decide) ?_
    refine z_icmp_ge (pc := 25) (tgt := 83) X rx4 (show zr 40 from by decide) d_Symbols_list_25 (by decide) (fun hc => ?_) (fun hc => ?_)
    · replace hv := hv.1 hc
      refine z_aload_n (pc := 83) (q := 0) X d_Symbols_list_83 rfl ?_
      refine z_iload_n (pc := 84) (q := 2) X d_Symbols_list_84 rfl ?_
      refine z_put (pc := 85) (j := 2) X cf_Symbols op0 (by decide) q238 rfl rfl rfl rfl d_Symbols_list_85 ?_
      refine z_toph (fun h_2 eh_2 => ?_)
      have zh_2 : zh h_2 := by rw [eh_2]; exact zh_set hh (zO.ne op0 (by decide)) rx2
      replace hv := hv h_2 eh_2
      exact E.1 rfl _ _ _ d_Symbols_list_88 ⟨rfl, zh_2, hv⟩
    · replace hv := hv.2 hc
      refine z_aload_n (pc := 28) (q := 1) X d_Symbols_list_28 rfl ?_
      refine z_getrN (pc := 29) (j := 1) (dd := 2) X cf_State op1 (by decide) q172 rfl rfl d_Symbols_list_29 ?_
      refine z_iload (pc := 32) (q := 4) X d_Symbols_list_32 rfl ?_
      obtain ⟨v_3, hv⟩ := hv
      refine z_ialdj (pc := 34) (j := x4.toNat) X (gf_State_1 op1) (gl_State_1 op1) rx4 v_3 rfl d_Symbols_list_34 ?_
      refine z_topi (fun x5_4 ex5_4 => ?_)
      have rx5_4 : zr x5_4 := by rw [ex5_4]; exact (hh.1 _ _ (zO.ne (gf_State_1 op1) (by decide)))
      replace hv := hv x5_4 ex5_4
      refine z_istore (pc := 35) (lv' := [(5, zi x5_4), (0, .ref (g.2.2 p0)), (1, .ref (g.2.2 p1)), (2, zi x2), (3, zi x3), (4, zi x4)]) X d_Symbols_list_35 (by decide) rfl ?_
      refine z_iload (pc := 37) (q := 0) X d_Symbols_list_37 rfl ?_
      refine z_bipush (pc := 39) X d_Symbols_list_39 (by decide) ?_
      refine z_icmp_lt (pc := 41) (tgt := 53) X rx5_4 (show zr 10 from by decide) d_Symbols_list_41 (by decide) (fun hc => ?_) (fun hc => ?_)
      · replace hv := hv.1 hc
        refine z_iload_n (pc := 53) (q := 3) X d_Symbols_list_53 rfl ?_
        refine z_bipush (pc := 54) X d_Symbols_list_54 (by decide) ?_
        refine z_icmp_ge (pc := 56) (tgt := 77) X rx2 (show zr 40 from by decide) d_Symbols_list_56 (by decide) (fun hc => ?_) (fun hc => ?_)
        · replace hv := hv.1 hc
          obtain ⟨v_5, hv⟩ := hv
          refine z_iinc (pc := 77) (q := 5) (lv' := [(4, zi (x4 + 1)), (5, zi x5_4), (0, .ref (g.2.2 p0)), (1, .ref (g.2.2 p1)), (2, zi x2), (3, zi x3)]) X d_Symbols_list_77 rfl (by decide) rfl ?_
          refine z_goto (pc := 80) (tgt := 12) X d_Symbols_list_80 (by decide) ?_
          refine z_perm [2, 3, 4, 5, 0] rfl ?_
          exact hL12 _ hv rx2 rx3 v_5 hh
        · replace hv := hv.2 hc
          refine z_aload_n (pc := 59) (q := 1) X d_Symbols_list_59 rfl ?_
          refine z_getr (pc := 60) (j := 0) (dd := 1) X cf_Symbols op0 (by decide) q233 rfl rfl d_Symbols_list_60 ?_
          refine z_iload_n (pc := 63) (q := 3) X d_Symbols_list_63 rfl ?_
          refine z_iload (pc := 64) (q := 0) X d_Symbols_list_64 rfl ?_
          obtain ⟨v_6, hv⟩ := hv
          refine z_iastj (pc := 66) (j := x2.toNat) X (gf_Symbols_0 op0) (gl_Symbols_0 op0) rx2 v_6 rfl d_Symbols_list_66 ?_
          refine z_toph (fun h_7 eh_7 => ?_)
          have zh_7 : zh h_7 := by rw [eh_7]; exact zh_set hh (zO.ne (gf_Symbols_0 op0) (by decide)) rx5_4
          replace hv := hv h_7 eh_7
          refine z_aload_n (pc := 67) (q := 1) X d_Symbols_list_67 rfl ?_
          refine z_getr (pc := 68) (j := 1) (dd := 2) X cf_Symbols op0 (by decide) q236 rfl rfl d_Symbols_list_68 ?_
          refine z_iload_n (pc := 71) (q := 3) X d_Symbols_list_71 rfl ?_
          refine z_iload_n (pc := 72) (q := 4) X d_Symbols_list_72 rfl ?_
          obtain ⟨v_8, hv⟩ := hv
          refine z_iastj (pc := 73) (j := x2.toNat) X (gf_Symbols_1 op0) (gl_Symbols_1 op0) rx2 v_8 rfl d_Symbols_list_73 ?_
          refine z_toph (fun h_9 eh_9 => ?_)
          have zh_9 : zh h_9 := by rw [eh_9]; exact zh_set zh_7 (zO.ne (gf_Symbols_1 op0) (by decide)) rx3
          replace hv := hv h_9 eh_9
          obtain ⟨v_10, hv⟩ := hv
          refine z_iinc (pc := 74) (q := 3) (lv' := [(2, zi (x2 + 1)), (5, zi x5_4), (0, .ref (g.2.2 p0)), (1, .ref (g.2.2 p1)), (3, zi x3), (4, zi x4)]) X d_Symbols_list_74 rfl (by decide) rfl ?_
          obtain ⟨v_11, hv⟩ := hv
          refine z_iinc (pc := 77) (q := 5) (lv' := [(4, zi (x4 + 1)), (2, zi (x2 + 1)), (5, zi x5_4), (0, .ref (g.2.2 p0)), (1, .ref (g.2.2 p1)), (3, zi x3)]) X d_Symbols_list_77 rfl (by decide) rfl ?_
          refine z_goto (pc := 80) (tgt := 12) X d_Symbols_list_80 (by decide) ?_
          refine z_perm [3, 4, 1, 5, 0] rfl ?_
          exact hL12 _ hv v_10 rx3 v_11 zh_9
      · replace hv := hv.2 hc
        refine z_iload (pc := 44) (q := 0) X d_Symbols_list_44 rfl ?_
        refine z_bipush (pc := 46) X d_Symbols_list_46 (by decide) ?_
        obtain ⟨v_12, hv⟩ := hv
        refine z_isub (pc := 48) X d_Symbols_list_48 ?_
        refine z_topi (fun x3_13 ex3_13 => ?_)
        have rx3_13 : zr x3_13 := by rw [ex3_13]; exact v_12
        replace hv := hv x3_13 ex3_13
        refine z_istore_n (pc := 49) (lv' := [(3, zi x3_13), (5, zi x5_4), (0, .ref (g.2.2 p0)), (1, .ref (g.2.2 p1)), (2, zi x2), (4, zi x4)]) X d_Symbols_list_49 (by decide) rfl ?_
        refine z_goto (pc := 50) (tgt := 77) X d_Symbols_list_50 (by decide) ?_
        obtain ⟨v_14, hv⟩ := hv
        refine z_iinc (pc := 77) (q := 5) (lv' := [(4, zi (x4 + 1)), (3, zi x3_13), (5, zi x5_4), (0, .ref (g.2.2 p0)), (1, .ref (g.2.2 p1)), (2, zi x2)]) X d_Symbols_list_77 rfl (by decide) rfl ?_
        refine z_goto (pc := 80) (tgt := 12) X d_Symbols_list_80 (by decide) ?_
        refine z_perm [3, 4, 5, 1, 0] rfl ?_
        exact hL12 _ hv rx2 rx3_13 v_14 hh
def M_Symbols_list (p0 : Nat) (p1 : Nat) (h : zH) (K : zH → Prop) : Prop :=
  (∀ h_1 : zH, h_1 = zs h p0 2 0 → (zLoop (fun L q => F_Symbols_list_12 K  L p0 p1 q.1 q.2.1 q.2.2.1 q.2.2.2) (0, 0, 0, h_1)))
set_option maxRecDepth 100000 in
theorem c_Symbols_list {l : Launch} (hfl : l.flags = flags0) {g : zG} {n : Nat} {p0 : Nat} {p1 : Nat} (op0 : zO n p0 6) (op1 : zO n p1 5) {h : zH} (hh : zh h) {K : zH → Prop} (hv : M_Symbols_list p0 p1 h K) : zMet l y_Symbols_list b_Symbols_list 6 none rm_Symbols_list g n [.ref (g.2.2 p0), .ref (g.2.2 p1)] h (zPv K) := by
  refine zMet_of (own := "AliasStreams$Symbols") hfl (by decide) rfl (Nat.le_of_ble_eq_true rfl) (fun Wf m H0 X E => ?_)
  unfold M_Symbols_list at hv
  show zW Wf m 6 g n H0 0 [(0, .ref (g.2.2 p0)), (1, .ref (g.2.2 p1))] [] h
  refine z_aload_n (pc := 0) (q := 0) X d_Symbols_list_0 rfl ?_
  refine z_iconst (pc := 1) X d_Symbols_list_1 ?_
  refine z_put (pc := 2) (j := 2) X cf_Symbols op0 (by decide) q238 rfl rfl rfl rfl d_Symbols_list_2 ?_
  refine z_toph (fun h_1 eh_1 => ?_)
  have zh_1 : zh h_1 := by rw [eh_1]; exact zh_set hh (zO.ne op0 (by decide)) (show zr 0 from by decide)
  replace hv := hv h_1 eh_1
  refine z_iconst (pc := 5) X d_Symbols_list_5 ?_
  refine z_istore_n (pc := 6) (lv' := [(2, zi 0), (0, .ref (g.2.2 p0)), (1, .ref (g.2.2 p1))]) X d_Symbols_list_6 (by decide) rfl ?_
  refine z_iconst (pc := 7) X d_Symbols_list_7 ?_
  refine z_istore_n (pc := 8) (lv' := [(3, zi 0), (2, zi 0), (0, .ref (g.2.2 p0)), (1, .ref (g.2.2 p1))]) X d_Symbols_list_8 (by decide) rfl ?_
  refine z_iconst (pc := 9) X d_Symbols_list_9 ?_
  refine z_istore (pc := 10) (lv' := [(4, zi 0), (3, zi 0), (2, zi 0), (0, .ref (g.2.2 p0)), (1, .ref (g.2.2 p1))]) X d_Symbols_list_10 (by decide) rfl ?_
  refine z_perm [3, 4, 2, 1, 0] rfl ?_
  exact s_Symbols_list_12 X E  op0 op1 hv (show zr 0 from by decide) (show zr 0 from by decide) (show zr 0 from by decide) zh_1
theorem d_Symbols_has_0 : decode b_Symbols_has 0 = .ok (.iload_n 1, 1) := by decide +kernel
theorem d_Symbols_has_1 : decode b_Symbols_has 1 = .ok (.ifCond .lt 21, 3) := by decide +kernel
theorem d_Symbols_has_4 : decode b_Symbols_has 4 = .ok (.iload_n 1, 1) := by decide +kernel
theorem d_Symbols_has_5 : decode b_Symbols_has 5 = .ok (.aload_n 0, 1) := by decide +kernel
theorem d_Symbols_has_6 : decode b_Symbols_has 6 = .ok (.getfield 18, 3) := by decide +kernel
theorem d_Symbols_has_9 : decode b_Symbols_has 9 = .ok (.if_icmp .ge 13, 3) := by decide +kernel
theorem d_Symbols_has_12 : decode b_Symbols_has 12 = .ok (.iload_n 1, 1) := by decide +kernel
theorem d_Symbols_has_13 : decode b_Symbols_has 13 = .ok (.bipush 40, 2) := by decide +kernel
theorem d_Symbols_has_15 : decode b_Symbols_has 15 = .ok (.if_icmp .ge 7, 3) := by decide +kernel
theorem d_Symbols_has_18 : decode b_Symbols_has 18 = .ok (.iconst 1, 1) := by decide +kernel
theorem d_Symbols_has_19 : decode b_Symbols_has 19 = .ok (.goto 4, 3) := by decide +kernel
theorem d_Symbols_has_22 : decode b_Symbols_has 22 = .ok (.iconst 0, 1) := by decide +kernel
theorem d_Symbols_has_23 : decode b_Symbols_has 23 = .ok (.ireturn, 1) := by decide +kernel
def rm_Symbols_has : Room := { frames := 0, cells := 0, slots := 0, locals := 0 }
theorem mf_Symbols_has : zMV y_Symbols_has b_Symbols_has 2 (some .boolean) 1 := ⟨q481, qs26, q9, q482, by decide +kernel⟩
def M_Symbols_has (p0 : Nat) (x1 : Int) (h : zH) (K : Int → zH → Prop) : Prop :=
  (x1 < 0 → (K 0 h)) ∧ (0 ≤ x1 → ((h p0 2 ≤ x1 → (K 0 h)) ∧ (x1 < h p0 2 → ((40 ≤ x1 → (K 0 h)) ∧ (x1 < 40 → (K 1 h))))))
set_option maxRecDepth 100000 in
theorem c_Symbols_has {l : Launch} (hfl : l.flags = flags0) {g : zG} {n : Nat} {p0 : Nat} {x1 : Int} (op0 : zO n p0 6) (rx1 : zr x1) {h : zH} (hh : zh h) {K : Int → zH → Prop} (hv : M_Symbols_has p0 x1 h K) : zMet l y_Symbols_has b_Symbols_has 2 (some .boolean) rm_Symbols_has g n [.ref (g.2.2 p0), zi x1] h (zPi K) := by
  refine zMet_of (own := "AliasStreams$Symbols") hfl (by decide) rfl (Nat.le_of_ble_eq_true rfl) (fun Wf m H0 X E => ?_)
  unfold M_Symbols_has at hv
  show zW Wf m 2 g n H0 0 [(0, .ref (g.2.2 p0)), (1, zi x1)] [] h
  refine z_iload_n (pc := 0) (q := 1) X d_Symbols_has_0 rfl ?_
  refine z_if_lt (pc := 1) (tgt := 22) X rx1 d_Symbols_has_1 (by decide) (fun hc => ?_) (fun hc => ?_)
  · replace hv := hv.1 hc
    refine z_iconst (pc := 22) X d_Symbols_has_22 ?_
    exact E.2.2.1 rfl _ _ _ _ (by decide) d_Symbols_has_23 ⟨_, rfl, (show zr 0 from by decide), hh, hv⟩
  · replace hv := hv.2 hc
    refine z_iload_n (pc := 4) (q := 1) X d_Symbols_has_4 rfl ?_
    refine z_aload_n (pc := 5) (q := 0) X d_Symbols_has_5 rfl ?_
    refine z_geti (pc := 6) (j := 2) X cf_Symbols op0 (by decide) q238 rfl rfl d_Symbols_has_6 ?_
    refine z_icmp_ge (pc := 9) (tgt := 22) X rx1 (hh.1 _ _ (zO.ne op0 (by decide))) d_Symbols_has_9 (by decide) (fun hc => ?_) (fun hc => ?_)
    · replace hv := hv.1 hc
      refine z_iconst (pc := 22) X d_Symbols_has_22 ?_
      exact E.2.2.1 rfl _ _ _ _ (by decide) d_Symbols_has_23 ⟨_, rfl, (show zr 0 from by decide), hh, hv⟩
    · replace hv := hv.2 hc
      refine z_iload_n (pc := 12) (q := 1) X d_Symbols_has_12 rfl ?_
      refine z_bipush (pc := 13) X d_Symbols_has_13 (by decide) ?_
      refine z_icmp_ge (pc := 15) (tgt := 22) X rx1 (show zr 40 from by decide) d_Symbols_has_15 (by decide) (fun hc => ?_) (fun hc => ?_)
      · replace hv := hv.1 hc
        refine z_iconst (pc := 22) X d_Symbols_has_22 ?_
        exact E.2.2.1 rfl _ _ _ _ (by decide) d_Symbols_has_23 ⟨_, rfl, (show zr 0 from by decide), hh, hv⟩
      · replace hv := hv.2 hc
        refine z_iconst (pc := 18) X d_Symbols_has_18 ?_
        refine z_goto (pc := 19) (tgt := 23) X d_Symbols_has_19 (by decide) ?_
        exact E.2.2.1 rfl _ _ _ _ (by decide) d_Symbols_has_23 ⟨_, rfl, (show zr 1 from by decide), hh, hv⟩
theorem d_Symbols_useOneModel_0 : decode b_Symbols_useOneModel 0 = .ok (.iconst 0, 1) := by decide +kernel
theorem d_Symbols_useOneModel_1 : decode b_Symbols_useOneModel 1 = .ok (.istore_n 2, 1) := by decide +kernel
theorem d_Symbols_useOneModel_2 : decode b_Symbols_useOneModel 2 = .ok (.iload_n 2, 1) := by decide +kernel
theorem d_Symbols_useOneModel_3 : decode b_Symbols_useOneModel 3 = .ok (.bipush 40, 2) := by decide +kernel
theorem d_Symbols_useOneModel_5 : decode b_Symbols_useOneModel 5 = .ok (.if_icmp .ge 16, 3) := by decide +kernel
theorem d_Symbols_useOneModel_8 : decode b_Symbols_useOneModel 8 = .ok (.aload_n 0, 1) := by decide +kernel
theorem d_Symbols_useOneModel_9 : decode b_Symbols_useOneModel 9 = .ok (.getfield 15, 3) := by decide +kernel
theorem d_Symbols_useOneModel_12 : decode b_Symbols_useOneModel 12 = .ok (.iload_n 2, 1) := by decide +kernel
theorem d_Symbols_useOneModel_13 : decode b_Symbols_useOneModel 13 = .ok (.iload_n 1, 1) := by decide +kernel
theorem d_Symbols_useOneModel_14 : decode b_Symbols_useOneModel 14 = .ok (.iastore, 1) := by decide +kernel
theorem d_Symbols_useOneModel_15 : decode b_Symbols_useOneModel 15 = .ok (.iinc 2 1, 3) := by decide +kernel
theorem d_Symbols_useOneModel_18 : decode b_Symbols_useOneModel 18 = .ok (.goto (-16), 3) := by decide +kernel
theorem d_Symbols_useOneModel_21 : decode b_Symbols_useOneModel 21 = .ok (.return_, 1) := by decide +kernel
def rm_Symbols_useOneModel : Room := { frames := 0, cells := 0, slots := 0, locals := 0 }
theorem mf_Symbols_useOneModel : zMV y_Symbols_useOneModel b_Symbols_useOneModel 3 none 1 := ⟨q878, qs53, q9, q879, by decide +kernel⟩
def F_Symbols_useOneModel_2 (K : zH → Prop)  (L2 : Int × zH → Prop) (p0 : Nat) (x1 : Int) (x2 : Int) (h : zH) : Prop :=
  (40 ≤ x2 → (K h)) ∧ (x2 < 40 → ((0 ≤ x2 ∧ x2 < 40) ∧ (∀ h_2 : zH, h_2 = zs h (p0 + 2) x2.toNat x1 → (zr (x2 + 1) ∧ (L2 (x2 + 1, h_2))))))
set_option maxRecDepth 100000 in
theorem s_Symbols_useOneModel_2 {Wf : Heap → List Loc → JFrame → Prop} {m : MethodId} {g : zG} {n : Nat} {H0 : Heap} (X : zX Wf m rm_Symbols_useOneModel b_Symbols_useOneModel "AliasStreams$Symbols" 3 g n H0) {K : zH → Prop} (E : zEx Wf m b_Symbols_useOneModel none 3 g n H0 (zPv K))  {p0 : Nat} {x1 : Int}  (op0 : zO n p0 6) (rx1 : zr x1) {q0 : Int × zH} (hv0 : zLoop (fun L q => F_Symbols_useOneModel_2 K  L p0 x1 q.1 q.2) q0) : zr q0.1 → zh (q0.2) → zW Wf m 3 g n H0 2 [(0, .ref (g.2.2 p0)), (1, zi x1), (2, zi q0.1)] [] (q0.2) := by
  refine zLoop_use (G := fun q => zr q.1 → zh (q.2) → zW Wf m 3 g n H0 2 [(0, .ref (g.2.2 p0)), (1, zi x1), (2, zi q.1)] [] (q.2)) ?_ hv0
  rintro L2 ⟨x2, h⟩ hL2 hv rx2 hh
  have hv : F_Symbols_useOneModel_2 K  L2 p0 x1 x2 h := hv
  unfold F_Symbols_useOneModel_2 at hv
  show zW Wf m 3 g n H0 2 [(0, .ref (g.2.2 p0)), (1, zi x1), (2, zi x2)] [] h
  refine z_iload_n (pc := 2) (q := 2) X d_Symbols_useOneModel_2 rfl ?_
  refine z_bipush (pc := 3) X d_Symbols_useOneModel_3 (by decide) ?_
  refine z_icmp_ge (pc := 5) (tgt := 21) X rx2 (show zr 40 from by decide) d_Symbols_useOneModel_5 (by decide) (fun hc => ?_) (fun hc => ?_)
  · replace hv := hv.1 hc
    exact E.1 rfl _ _ _ d_Symbols_useOneModel_21 ⟨rfl, hh, hv⟩
  · replace hv := hv.2 hc
    refine z_aload_n (pc := 8) (q := 0) X d_Symbols_useOneModel_8 rfl ?_
    refine z_getr (pc := 9) (j := 1) (dd := 2) X cf_Symbols op0 (by decide) q236 rfl rfl d_Symbols_useOneModel_9 ?_
    refine z_iload_n (pc := 12) (q := 2) X d_Symbols_useOneModel_12 rfl ?_
    refine z_iload_n (pc := 13) (q := 1) X d_Symbols_useOneModel_13 rfl ?_
    obtain ⟨v_1, hv⟩ := hv
    refine z_iastj (pc := 14) (j := x2.toNat) X (gf_Symbols_1 op0) (gl_Symbols_1 op0) rx2 v_1 rfl d_Symbols_useOneModel_14 ?_
    refine z_toph (fun h_2 eh_2 => ?_)
    have zh_2 : zh h_2 := by rw [eh_2]; exact zh_set hh (zO.ne (gf_Symbols_1 op0) (by decide)) rx1
    replace hv := hv h_2 eh_2
    obtain ⟨v_3, hv⟩ := hv
    refine z_iinc (pc := 15) (q := 2) (lv' := [(2, zi (x2 + 1)), (0, .ref (g.2.2 p0)), (1, zi x1)]) X d_Symbols_useOneModel_15 rfl (by decide) rfl ?_
    refine z_goto (pc := 18) (tgt := 2) X d_Symbols_useOneModel_18 (by decide) ?_
    refine z_perm [1, 2, 0] rfl ?_
    exact hL2 _ hv v_3 zh_2
def M_Symbols_useOneModel (p0 : Nat) (x1 : Int) (h : zH) (K : zH → Prop) : Prop :=
  zLoop (fun L q => F_Symbols_useOneModel_2 K  L p0 x1 q.1 q.2) (0, h)
set_option maxRecDepth 100000 in
theorem c_Symbols_useOneModel {l : Launch} (hfl : l.flags = flags0) {g : zG} {n : Nat} {p0 : Nat} {x1 : Int} (op0 : zO n p0 6) (rx1 : zr x1) {h : zH} (hh : zh h) {K : zH → Prop} (hv : M_Symbols_useOneModel p0 x1 h K) : zMet l y_Symbols_useOneModel b_Symbols_useOneModel 3 none rm_Symbols_useOneModel g n [.ref (g.2.2 p0), zi x1] h (zPv K) := by
  refine zMet_of (own := "AliasStreams$Symbols") hfl (by decide) rfl (Nat.le_of_ble_eq_true rfl) (fun Wf m H0 X E => ?_)
  unfold M_Symbols_useOneModel at hv
  show zW Wf m 3 g n H0 0 [(0, .ref (g.2.2 p0)), (1, zi x1)] [] h
  refine z_iconst (pc := 0) X d_Symbols_useOneModel_0 ?_
  refine z_istore_n (pc := 1) (lv' := [(2, zi 0), (0, .ref (g.2.2 p0)), (1, zi x1)]) X d_Symbols_useOneModel_1 (by decide) rfl ?_
  refine z_perm [1, 2, 0] rfl ?_
  exact s_Symbols_useOneModel_2 X E  op0 rx1 hv (show zr 0 from by decide) hh
theorem d_Symbols_firstUnfit_0 : decode b_Symbols_firstUnfit 0 = .ok (.iconst 0, 1) := by decide +kernel
theorem d_Symbols_firstUnfit_1 : decode b_Symbols_firstUnfit 1 = .ok (.istore_n 2, 1) := by decide +kernel
theorem d_Symbols_firstUnfit_2 : decode b_Symbols_firstUnfit 2 = .ok (.iload_n 2, 1) := by decide +kernel
theorem d_Symbols_firstUnfit_3 : decode b_Symbols_firstUnfit 3 = .ok (.aload_n 0, 1) := by decide +kernel
theorem d_Symbols_firstUnfit_4 : decode b_Symbols_firstUnfit 4 = .ok (.getfield 18, 3) := by decide +kernel
theorem d_Symbols_firstUnfit_7 : decode b_Symbols_firstUnfit 7 = .ok (.if_icmp .ge 39, 3) := by decide +kernel
theorem d_Symbols_firstUnfit_10 : decode b_Symbols_firstUnfit 10 = .ok (.iload_n 2, 1) := by decide +kernel
theorem d_Symbols_firstUnfit_11 : decode b_Symbols_firstUnfit 11 = .ok (.bipush 40, 2) := by decide +kernel
theorem d_Symbols_firstUnfit_13 : decode b_Symbols_firstUnfit 13 = .ok (.if_icmp .ge 33, 3) := by decide +kernel
theorem d_Symbols_firstUnfit_16 : decode b_Symbols_firstUnfit 16 = .ok (.aload_n 1, 1) := by decide +kernel
theorem d_Symbols_firstUnfit_17 : decode b_Symbols_firstUnfit 17 = .ok (.aload_n 0, 1) := by decide +kernel
theorem d_Symbols_firstUnfit_18 : decode b_Symbols_firstUnfit 18 = .ok (.getfield 15, 3) := by decide +kernel
theorem d_Symbols_firstUnfit_21 : decode b_Symbols_firstUnfit 21 = .ok (.iload_n 2, 1) := by decide +kernel
theorem d_Symbols_firstUnfit_22 : decode b_Symbols_firstUnfit 22 = .ok (.iaload, 1) := by decide +kernel
theorem d_Symbols_firstUnfit_23 : decode b_Symbols_firstUnfit 23 = .ok (.invokevirtual 30, 3) := by decide +kernel
theorem d_Symbols_firstUnfit_26 : decode b_Symbols_firstUnfit 26 = .ok (.aload_n 0, 1) := by decide +kernel
theorem d_Symbols_firstUnfit_27 : decode b_Symbols_firstUnfit 27 = .ok (.getfield 9, 3) := by decide +kernel
theorem d_Symbols_firstUnfit_30 : decode b_Symbols_firstUnfit 30 = .ok (.iload_n 2, 1) := by decide +kernel
theorem d_Symbols_firstUnfit_31 : decode b_Symbols_firstUnfit 31 = .ok (.iaload, 1) := by decide +kernel
theorem d_Symbols_firstUnfit_32 : decode b_Symbols_firstUnfit 32 = .ok (.invokevirtual 36, 3) := by decide +kernel
theorem d_Symbols_firstUnfit_35 : decode b_Symbols_firstUnfit 35 = .ok (.ifCond .ne 5, 3) := by decide +kernel
theorem d_Symbols_firstUnfit_38 : decode b_Symbols_firstUnfit 38 = .ok (.iload_n 2, 1) := by decide +kernel
theorem d_Symbols_firstUnfit_39 : decode b_Symbols_firstUnfit 39 = .ok (.ireturn, 1) := by decide +kernel
theorem d_Symbols_firstUnfit_40 : decode b_Symbols_firstUnfit 40 = .ok (.iinc 2 1, 3) := by decide +kernel
theorem d_Symbols_firstUnfit_43 : decode b_Symbols_firstUnfit 43 = .ok (.goto (-41), 3) := by decide +kernel
theorem d_Symbols_firstUnfit_46 : decode b_Symbols_firstUnfit 46 = .ok (.bipush (-9), 2) := by decide +kernel
theorem d_Symbols_firstUnfit_48 : decode b_Symbols_firstUnfit 48 = .ok (.ireturn, 1) := by decide +kernel
def rm_Symbols_firstUnfit : Room := { frames := 1, cells := 0, slots := 0, locals := 21 }
theorem mf_Symbols_firstUnfit : zMV y_Symbols_firstUnfit b_Symbols_firstUnfit 3 (some .int) 1 := ⟨q471, qs25, q9, q472, by decide +kernel⟩
def F_Symbols_firstUnfit_2 (K : Int → zH → Prop)  (L2 : Int × zH → Prop) (p0 : Nat) (p1 : Nat) (x2 : Int) (h : zH) : Prop :=
  (h p0 2 ≤ x2 → (K (-9) h)) ∧ (x2 < h p0 2 → ((40 ≤ x2 → (K (-9) h)) ∧ (x2 < 40 → ((0 ≤ x2 ∧ x2 < 40) ∧ (M_Models_of p1 (h (p0 + 2) x2.toNat) h (fun p_3 h_2 => (0 ≤ x2 ∧ x2 < 40) ∧ (M_Model_frequencyOf p_3 (h_2 (p0 + 1) x2.toNat) h_2 (fun r_6 h_5 => (r_6 ≠ 0 → (zr (x2 + 1) ∧ (L2 (x2 + 1, h_5)))) ∧ (r_6 = 0 → (K x2 h_5))))))))))
set_option maxRecDepth 100000 in
theorem s_Symbols_firstUnfit_2 {Wf : Heap → List Loc → JFrame → Prop} {m : MethodId} {g : zG} {n : Nat} {H0 : Heap} (X : zX Wf m rm_Symbols_firstUnfit b_Symbols_firstUnfit "AliasStreams$Symbols" 3 g n H0) {K : Int → zH → Prop} (E : zEx Wf m b_Symbols_firstUnfit (some .int) 3 g n H0 (zPi K))  {p0 : Nat} {p1 : Nat}  (op0 : zO n p0 6) (op1 : zO n p1 2) {q0 : Int × zH} (hv0 : zLoop (fun L q => F_Symbols_firstUnfit_2 K  L p0 p1 q.1 q.2) q0) : zr q0.1 → zh (q0.2) → zW Wf m 3 g n H0 2 [(0, .ref (g.2.2 p0)), (1, .ref (g.2.2 p1)), (2, zi q0.1)] [] (q0.2) := by
  refine zLoop_use (G := fun q => zr q.1 → zh (q.2) → zW Wf m 3 g n H0 2 [(0, .ref (g.2.2 p0)), (1, .ref (g.2.2 p1)), (2, zi q.1)] [] (q.2)) ?_ hv0
  rintro L2 ⟨x2, h⟩ hL2 hv rx2 hh
  have hv : F_Symbols_firstUnfit_2 K  L2 p0 p1 x2 h := hv
  unfold F_Symbols_firstUnfit_2 at hv
  show zW Wf m 3 g n H0 2 [(0, .ref (g.2.2 p0)), (1, .ref (g.2.2 p1)), (2, zi x2)] [] h
  refine z_iload_n (pc := 2) (q := 2) X d_Symbols_firstUnfit_2 rfl ?_
  refine z_aload_n (pc := 3) (q := 0) X d_Symbols_firstUnfit_3 rfl ?_
  refine z_geti (pc := 4) (j := 2) X cf_Symbols op0 (by decide) q238 rfl rfl d_Symbols_firstUnfit_4 ?_
  refine z_icmp_ge (pc := 7) (tgt := 46) X rx2 (hh.1 _ _ (zO.ne op0 (by decide))) d_Symbols_firstUnfit_7 (by decide) (fun hc => ?_) (fun hc => ?_)
  · replace hv := hv.1 hc
    refine z_bipush (pc := 46) X d_Symbols_firstUnfit_46 (by decide) ?_
    exact E.2.1 rfl _ _ _ _ d_Symbols_firstUnfit_48 ⟨_, rfl, (show zr (-9) from by decide), hh, hv⟩
  · replace hv := hv.2 hc
    refine z_iload_n (pc := 10) (q := 2) X d_Symbols_firstUnfit_10 rfl ?_
    refine z_bipush (pc := 11) X d_Symbols_firstUnfit_11 (by decide) ?_
    refine z_icmp_ge (pc := 13) (tgt := 46) X rx2 (show zr 40 from by decide) d_Symbols_firstUnfit_13 (by decide) (fun hc => ?_) (fun hc => ?_)
    · replace hv := hv.1 hc
      refine z_bipush (pc := 46) X d_Symbols_firstUnfit_46 (by decide) ?_
      exact E.2.1 rfl _ _ _ _ d_Symbols_firstUnfit_48 ⟨_, rfl, (show zr (-9) from by decide), hh, hv⟩
    · replace hv := hv.2 hc
      refine z_aload_n (pc := 16) (q := 1) X d_Symbols_firstUnfit_16 rfl ?_
      refine z_aload_n (pc := 17) (q := 0) X d_Symbols_firstUnfit_17 rfl ?_
      refine z_getr (pc := 18) (j := 1) (dd := 2) X cf_Symbols op0 (by decide) q236 rfl rfl d_Symbols_firstUnfit_18 ?_
      refine z_iload_n (pc := 21) (q := 2) X d_Symbols_firstUnfit_21 rfl ?_
      obtain ⟨v_1, hv⟩ := hv
      refine z_ialdj (pc := 22) (j := x2.toNat) X (gf_Symbols_1 op0) (gl_Symbols_1 op0) rx2 v_1 rfl d_Symbols_firstUnfit_22 ?_
      refine z_callVNr (pc := 23) (As := [zi (h (p0 + 2) x2.toNat)]) (rest := []) X (fun l hl => c_Models_of hl op1 (hh.1 _ _ (zO.ne (gf_Symbols_1 op0) (by decide))) hh hv) cf_Models op1 rfl mf_Models_of q473 ⟨⟨by decide, by decide⟩, rfl, rfl⟩ rfl d_Symbols_firstUnfit_23 rfl (Nat.le_of_ble_eq_true rfl) (fun p_3 h_2 op_3 zh_2 hv => ?_)
      refine z_aload_n (pc := 26) (q := 0) X d_Symbols_firstUnfit_26 rfl ?_
      refine z_getr (pc := 27) (j := 0) (dd := 1) X cf_Symbols op0 (by decide) q233 rfl rfl d_Symbols_firstUnfit_27 ?_
      refine z_iload_n (pc := 30) (q := 2) X d_Symbols_firstUnfit_30 rfl ?_
      obtain ⟨v_4, hv⟩ := hv
      refine z_ialdj (pc := 31) (j := x2.toNat) X (gf_Symbols_0 op0) (gl_Symbols_0 op0) rx2 v_4 rfl d_Symbols_firstUnfit_31 ?_
      refine z_callVNi (pc := 32) (As := [zi (h_2 (p0 + 1) x2.toNat)]) (rest := []) X (fun l hl => c_Model_frequencyOf hl op_3 (zh_2.1 _ _ (zO.ne (gf_Symbols_0 op0) (by decide))) zh_2 hv) cf_Model op_3 rfl mf_Model_frequencyOf q474 ⟨⟨by decide, by decide⟩, rfl, rfl⟩ rfl d_Symbols_firstUnfit_32 rfl (Nat.le_of_ble_eq_true rfl) (fun r_6 h_5 rr_6 zh_5 hv => ?_)
      refine z_if_ne (pc := 35) (tgt := 40) X rr_6 d_Symbols_firstUnfit_35 (by decide) (fun hc => ?_) (fun hc => ?_)
      · replace hv := hv.1 hc
        obtain ⟨v_7, hv⟩ := hv
        refine z_iinc (pc := 40) (q := 2) (lv' := [(2, zi (x2 + 1)), (0, .ref (g.2.2 p0)), (1, .ref (g.2.2 p1))]) X d_Symbols_firstUnfit_40 rfl (by decide) rfl ?_
        refine z_goto (pc := 43) (tgt := 2) X d_Symbols_firstUnfit_43 (by decide) ?_
        refine z_perm [1, 2, 0] rfl ?_
        exact hL2 _ hv v_7 zh_5
      · replace hv := hv.2 hc
        refine z_iload_n (pc := 38) (q := 2) X d_Symbols_firstUnfit_38 rfl ?_
        exact E.2.1 rfl _ _ _ _ d_Symbols_firstUnfit_39 ⟨_, rfl, rx2, zh_5, hv⟩
def M_Symbols_firstUnfit (p0 : Nat) (p1 : Nat) (h : zH) (K : Int → zH → Prop) : Prop :=
  zLoop (fun L q => F_Symbols_firstUnfit_2 K  L p0 p1 q.1 q.2) (0, h)
set_option maxRecDepth 100000 in
theorem c_Symbols_firstUnfit {l : Launch} (hfl : l.flags = flags0) {g : zG} {n : Nat} {p0 : Nat} {p1 : Nat} (op0 : zO n p0 6) (op1 : zO n p1 2) {h : zH} (hh : zh h) {K : Int → zH → Prop} (hv : M_Symbols_firstUnfit p0 p1 h K) : zMet l y_Symbols_firstUnfit b_Symbols_firstUnfit 3 (some .int) rm_Symbols_firstUnfit g n [.ref (g.2.2 p0), .ref (g.2.2 p1)] h (zPi K) := by
  refine zMet_of (own := "AliasStreams$Symbols") hfl (by decide) rfl (Nat.le_of_ble_eq_true rfl) (fun Wf m H0 X E => ?_)
  unfold M_Symbols_firstUnfit at hv
  show zW Wf m 3 g n H0 0 [(0, .ref (g.2.2 p0)), (1, .ref (g.2.2 p1))] [] h
  refine z_iconst (pc := 0) X d_Symbols_firstUnfit_0 ?_
  refine z_istore_n (pc := 1) (lv' := [(2, zi 0), (0, .ref (g.2.2 p0)), (1, .ref (g.2.2 p1))]) X d_Symbols_firstUnfit_1 (by decide) rfl ?_
  refine z_perm [1, 2, 0] rfl ?_
  exact s_Symbols_firstUnfit_2 X E  op0 op1 hv (show zr 0 from by decide) hh
theorem d_Symbols_multiply_0 : decode b_Symbols_multiply 0 = .ok (.lconst 1, 1) := by decide +kernel
theorem d_Symbols_multiply_1 : decode b_Symbols_multiply 1 = .ok (.lstore 4, 2) := by decide +kernel
theorem d_Symbols_multiply_3 : decode b_Symbols_multiply 3 = .ok (.iconst 0, 1) := by decide +kernel
theorem d_Symbols_multiply_4 : decode b_Symbols_multiply 4 = .ok (.istore 6, 2) := by decide +kernel
theorem d_Symbols_multiply_6 : decode b_Symbols_multiply 6 = .ok (.iload 6, 2) := by decide +kernel
theorem d_Symbols_multiply_8 : decode b_Symbols_multiply 8 = .ok (.iload_n 3, 1) := by decide +kernel
theorem d_Symbols_multiply_9 : decode b_Symbols_multiply 9 = .ok (.if_icmp .ge 46, 3) := by decide +kernel
theorem d_Symbols_multiply_12 : decode b_Symbols_multiply 12 = .ok (.iload 6, 2) := by decide +kernel
theorem d_Symbols_multiply_14 : decode b_Symbols_multiply 14 = .ok (.bipush 12, 2) := by decide +kernel
theorem d_Symbols_multiply_16 : decode b_Symbols_multiply 16 = .ok (.if_icmp .ge 39, 3) := by decide +kernel
theorem d_Symbols_multiply_19 : decode b_Symbols_multiply 19 = .ok (.aload_n 0, 1) := by decide +kernel
theorem d_Symbols_multiply_20 : decode b_Symbols_multiply 20 = .ok (.iload_n 2, 1) := by decide +kernel
theorem d_Symbols_multiply_21 : decode b_Symbols_multiply 21 = .ok (.iload 6, 2) := by decide +kernel
theorem d_Symbols_multiply_23 : decode b_Symbols_multiply 23 = .ok (.iadd, 1) := by decide +kernel
theorem d_Symbols_multiply_24 : decode b_Symbols_multiply 24 = .ok (.invokevirtual 42, 3) := by decide +kernel
theorem d_Symbols_multiply_27 : decode b_Symbols_multiply 27 = .ok (.ifCond .eq 22, 3) := by decide +kernel
theorem d_Symbols_multiply_30 : decode b_Symbols_multiply 30 = .ok (.lload 4, 2) := by decide +kernel
theorem d_Symbols_multiply_32 : decode b_Symbols_multiply 32 = .ok (.aload_n 1, 1) := by decide +kernel
theorem d_Symbols_multiply_33 : decode b_Symbols_multiply 33 = .ok (.aload_n 0, 1) := by decide +kernel
theorem d_Symbols_multiply_34 : decode b_Symbols_multiply 34 = .ok (.getfield 9, 3) := by decide +kernel
theorem d_Symbols_multiply_37 : decode b_Symbols_multiply 37 = .ok (.iload_n 2, 1) := by decide +kernel
theorem d_Symbols_multiply_38 : decode b_Symbols_multiply 38 = .ok (.iload 6, 2) := by decide +kernel
theorem d_Symbols_multiply_40 : decode b_Symbols_multiply 40 = .ok (.iadd, 1) := by decide +kernel
theorem d_Symbols_multiply_41 : decode b_Symbols_multiply 41 = .ok (.iaload, 1) := by decide +kernel
theorem d_Symbols_multiply_42 : decode b_Symbols_multiply 42 = .ok (.invokevirtual 36, 3) := by decide +kernel
theorem d_Symbols_multiply_45 : decode b_Symbols_multiply 45 = .ok (.i2l, 1) := by decide +kernel
theorem d_Symbols_multiply_46 : decode b_Symbols_multiply 46 = .ok (.lmul, 1) := by decide +kernel
theorem d_Symbols_multiply_47 : decode b_Symbols_multiply 47 = .ok (.lstore 4, 2) := by decide +kernel
theorem d_Symbols_multiply_49 : decode b_Symbols_multiply 49 = .ok (.iinc 6 1, 3) := by decide +kernel
theorem d_Symbols_multiply_52 : decode b_Symbols_multiply 52 = .ok (.goto (-46), 3) := by decide +kernel
theorem d_Symbols_multiply_55 : decode b_Symbols_multiply 55 = .ok (.lload 4, 2) := by decide +kernel
theorem d_Symbols_multiply_57 : decode b_Symbols_multiply 57 = .ok (.lreturn, 1) := by decide +kernel
def rm_Symbols_multiply : Room := { frames := 1, cells := 0, slots := 0, locals := 21 }
theorem mf_Symbols_multiply : zMV y_Symbols_multiply b_Symbols_multiply 7 (some .long) 3 := ⟨q891, qs54, q9, q892, by decide +kernel⟩
def F_Symbols_multiply_6 (K : Int → zH → Prop)  (L6 : Int × Int × zH → Prop) (p0 : Nat) (p1 : Nat) (x2 : Int) (x3 : Int) (x4 : Int) (x6 : Int) (h : zH) : Prop :=
  (x3 ≤ x6 → (K x4 h)) ∧ (x6 < x3 → ((12 ≤ x6 → (K x4 h)) ∧ (x6 < 12 → (zr (x2 + x6) ∧ (M_Symbols_has p0 (x2 + x6) h (fun r_3 h_2 => (r_3 = 0 → (zr (x6 + 1) ∧ (L6 (x4, x6 + 1, h_2)))) ∧ (r_3 ≠ 0 → (zr (x2 + x6) ∧ ((0 ≤ x2 + x6 ∧ x2 + x6 < 40) ∧ (M_Model_frequencyOf p1 (h_2 (p0 + 1) ((x2 + x6).toNat)) h_2 (fun r_8 h_7 => zrl (x4 * r_8) ∧ ((∀ x4_10 : Int, x4_10 = x4 * r_8 → (zr (x6 + 1) ∧ (L6 (x4_10, x6 + 1, h_7))))))))))))))))
set_option maxRecDepth 100000 in
theorem s_Symbols_multiply_6 {Wf : Heap → List Loc → JFrame → Prop} {m : MethodId} {g : zG} {n : Nat} {H0 : Heap} (X : zX Wf m rm_Symbols_multiply b_Symbols_multiply "AliasStreams$Symbols" 7 g n H0) {K : Int → zH → Prop} (E : zEx Wf m b_Symbols_multiply (some .long) 7 g n H0 (zPj K))  {p0 : Nat} {p1 : Nat} {x2 : Int} {x3 : Int}  (op0 : zO n p0 6) (op1 : zO n p1 1) (rx2 : zr x2) (rx3 : zr x3) {q0 : Int × Int × zH} (hv0 : zLoop (fun L q => F_Symbols_multiply_6 K  L p0 p1 x2 x3 q.1 q.2.1 q.2.2) q0) : zrl q0.1 → zr q0.2.1 → zh (q0.2.2) → zW Wf m 7 g n H0 6 [(0, .ref (g.2.2 p0)), (1, .ref (g.2.2 p1)), (2, zi x2), (3, zi x3), (4, zj q0.1), (6, zi q0.2.1)] [] (q0.2.2) := by
  refine zLoop_use (G := fun q => zrl q.1 → zr q.2.1 → zh (q.2.2) → zW Wf m 7 g n H0 6 [(0, .ref (g.2.2 p0)), (1, .ref (g.2.2 p1)), (2, zi x2), (3, zi x3), (4, zj q.1), (6, zi q.2.1)] [] (q.2.2)) ?_ hv0
  rintro L6 ⟨x4, x6, h⟩ hL6 hv rx4 rx6 hh
  have hv : F_Symbols_multiply_6 K  L6 p0 p1 x2 x3 x4 x6 h := hv
  unfold F_Symbols_multiply_6 at hv
  show zW Wf m 7 g n H0 6 [(0, .ref (g.2.2 p0)), (1, .ref (g.2.2 p1)), (2, zi x2), (3, zi x3), (4, zj x4), (6, zi x6)] [] h
  refine z_iload (pc := 6) (q := 5) X d_Symbols_multiply_6 rfl ?_
  refine z_iload_n (pc := 8) (q := 3) X d_Symbols_multiply_8 rfl ?_
  refine z_icmp_ge (pc := 9) (tgt := 55) X rx6 rx3 d_Symbols_multiply_9 (by decide) (fun hc => ?_) (fun hc => ?_)
  · replace hv := hv.1 hc
    refine z_lload (pc := 55) (q := 4) X d_Symbols_multiply_55 rfl ?_
    exact E.2.2.2.1 rfl _ _ _ _ d_Symbols_multiply_57 ⟨_, rfl, rx4, hh, hv⟩
  · replace hv := hv.2 hc
    refine z_iload (pc := 12) (q := 5) X d_Symbols_multiply_12 rfl ?_
    refine z_bipush (pc := 14) X d_Symbols_multiply_14 (by decide) ?_
    refine z_icmp_ge (pc := 16) (tgt := 55) X rx6 (show zr 12 from by decide) d_Symbols_multiply_16 (by decide) (fun hc => ?_) (fun hc => ?_)
    · replace hv := hv.1 hc
      refine z_lload (pc := 55) (q := 4) X d_Symbols_multiply_55 rfl ?_
      exact E.2.2.2.1 rfl _ _ _ _ d_Symbols_multiply_57 ⟨_, rfl, rx4, hh, hv⟩
    · replace hv := hv.2 hc
      refine z_aload_n (pc := 19) (q := 0) X d_Symbols_multiply_19 rfl ?_
      refine z_iload_n (pc := 20) (q := 2) X d_Symbols_multiply_20 rfl ?_
      refine z_iload (pc := 21) (q := 5) X d_Symbols_multiply_21 rfl ?_
      obtain ⟨v_1, hv⟩ := hv
      refine z_iadd (pc := 23) X d_Symbols_multiply_23 ?_
      refine z_callVi (pc := 24) (As := [zi (x2 + x6)]) (rest := []) X (fun l hl => c_Symbols_has hl op0 v_1 hh hv) cf_Symbols op0 rfl mf_Symbols_has q893 ⟨⟨by decide, by decide⟩, rfl, rfl⟩ rfl d_Symbols_multiply_24 rfl (Nat.le_of_ble_eq_true rfl) (fun r_3 h_2 rr_3 zh_2 hv => ?_)
      refine z_if_eq (pc := 27) (tgt := 49) X rr_3 d_Symbols_multiply_27 (by decide) (fun hc => ?_) (fun hc => ?_)
      · replace hv := hv.1 hc
        obtain ⟨v_4, hv⟩ := hv
        refine z_iinc (pc := 49) (q := 5) (lv' := [(6, zi (x6 + 1)), (0, .ref (g.2.2 p0)), (1, .ref (g.2.2 p1)), (2, zi x2), (3, zi x3), (4, zj x4)]) X d_Symbols_multiply_49 rfl (by decide) rfl ?_
        refine z_goto (pc := 52) (tgt := 6) X d_Symbols_multiply_52 (by decide) ?_
        refine z_perm [1, 2, 3, 4, 5, 0] rfl ?_
        exact hL6 _ hv rx4 v_4 zh_2
      · replace hv := hv.2 hc
        refine z_lload (pc := 30) (q := 4) X d_Symbols_multiply_30 rfl ?_
        refine z_aload_n (pc := 32) (q := 1) X d_Symbols_multiply_32 rfl ?_
        refine z_aload_n (pc := 33) (q := 0) X d_Symbols_multiply_33 rfl ?_
        refine z_getr (pc := 34) (j := 0) (dd := 1) X cf_Symbols op0 (by decide) q233 rfl rfl d_Symbols_multiply_34 ?_
        refine z_iload_n (pc := 37) (q := 2) X d_Symbols_multiply_37 rfl ?_
        refine z_iload (pc := 38) (q := 5) X d_Symbols_multiply_38 rfl ?_
        obtain ⟨v_5, hv⟩ := hv
        refine z_iadd (pc := 40) X d_Symbols_multiply_40 ?_
        obtain ⟨v_6, hv⟩ := hv
        refine z_ialdj (pc := 41) (j := (x2 + x6).toNat) X (gf_Symbols_0 op0) (gl_Symbols_0 op0) v_5 v_6 rfl d_Symbols_multiply_41 ?_
        refine z_callVNi (pc := 42) (As := [zi (h_2 (p0 + 1) ((x2 + x6).toNat))]) (rest := [zj x4]) X (fun l hl => c_Model_frequencyOf hl op1 (zh_2.1 _ _ (zO.ne (gf_Symbols_0 op0) (by decide))) zh_2 hv) cf_Model op1 rfl mf_Model_frequencyOf q474 ⟨⟨by decide, by decide⟩, rfl, rfl⟩ rfl d_Symbols_multiply_42 rfl (Nat.le_of_ble_eq_true rfl) (fun r_8 h_7 rr_8 zh_7 hv => ?_)
        refine z_i2l (pc := 45) X rr_8 d_Symbols_multiply_45 ?_
        obtain ⟨v_9, hv⟩ := hv
        refine z_lmul (pc := 46) X d_Symbols_multiply_46 ?_
        refine z_topj (fun x4_10 ex4_10 => ?_)
        have rx4_10 : zrl x4_10 := by rw [ex4_10]; exact v_9
        replace hv := hv x4_10 ex4_10
        refine z_lstore (pc := 47) (lv' := [(4, zj x4_10), (0, .ref (g.2.2 p0)), (1, .ref (g.2.2 p1)), (2, zi x2), (3, zi x3), (6, zi x6)]) X d_Symbols_multiply_47 (by decide) rfl ?_
        obtain ⟨v_11, hv⟩ := hv
        refine z_iinc (pc := 49) (q := 5) (lv' := [(6, zi (x6 + 1)), (4, zj x4_10), (0, .ref (g.2.2 p0)), (1, .ref (g.2.2 p1)), (2, zi x2), (3, zi x3)]) X d_Symbols_multiply_49 rfl (by decide) rfl ?_
        refine z_goto (pc := 52) (tgt := 6) X d_Symbols_multiply_52 (by decide) ?_
        refine z_perm [2, 3, 4, 5, 1, 0] rfl ?_
        exact hL6 _ hv rx4_10 v_11 zh_7
def M_Symbols_multiply (p0 : Nat) (p1 : Nat) (x2 : Int) (x3 : Int) (h : zH) (K : Int → zH → Prop) : Prop :=
  zLoop (fun L q => F_Symbols_multiply_6 K  L p0 p1 x2 x3 q.1 q.2.1 q.2.2) (1, 0, h)
set_option maxRecDepth 100000 in
theorem c_Symbols_multiply {l : Launch} (hfl : l.flags = flags0) {g : zG} {n : Nat} {p0 : Nat} {p1 : Nat} {x2 : Int} {x3 : Int} (op0 : zO n p0 6) (op1 : zO n p1 1) (rx2 : zr x2) (rx3 : zr x3) {h : zH} (hh : zh h) {K : Int → zH → Prop} (hv : M_Symbols_multiply p0 p1 x2 x3 h K) : zMet l y_Symbols_multiply b_Symbols_multiply 7 (some .long) rm_Symbols_multiply g n [.ref (g.2.2 p0), .ref (g.2.2 p1), zi x2, zi x3] h (zPj K) := by
  refine zMet_of (own := "AliasStreams$Symbols") hfl (by decide) rfl (Nat.le_of_ble_eq_true rfl) (fun Wf m H0 X E => ?_)
  unfold M_Symbols_multiply at hv
  show zW Wf m 7 g n H0 0 [(0, .ref (g.2.2 p0)), (1, .ref (g.2.2 p1)), (2, zi x2), (3, zi x3)] [] h
  refine z_lconst (pc := 0) (x := 1) X d_Symbols_multiply_0 (by decide) ?_
  refine z_lstore (pc := 1) (lv' := [(4, zj 1), (0, .ref (g.2.2 p0)), (1, .ref (g.2.2 p1)), (2, zi x2), (3, zi x3)]) X d_Symbols_multiply_1 (by decide) rfl ?_
  refine z_iconst (pc := 3) X d_Symbols_multiply_3 ?_
  refine z_istore (pc := 4) (lv' := [(6, zi 0), (4, zj 1), (0, .ref (g.2.2 p0)), (1, .ref (g.2.2 p1)), (2, zi x2), (3, zi x3)]) X d_Symbols_multiply_4 (by decide) rfl ?_
  refine z_perm [2, 3, 4, 5, 1, 0] rfl ?_
  exact s_Symbols_multiply_6 X E  op0 op1 rx2 rx3 hv (show zrl 1 from by decide) (show zr 0 from by decide) hh
theorem d_Saves_empty_0 : decode b_Saves_empty 0 = .ok (.aload_n 0, 1) := by decide +kernel
theorem d_Saves_empty_1 : decode b_Saves_empty 1 = .ok (.getfield 18, 3) := by decide +kernel
theorem d_Saves_empty_4 : decode b_Saves_empty 4 = .ok (.iconst 0, 1) := by decide +kernel
theorem d_Saves_empty_5 : decode b_Saves_empty 5 = .ok (.iconst 0, 1) := by decide +kernel
theorem d_Saves_empty_6 : decode b_Saves_empty 6 = .ok (.bastore, 1) := by decide +kernel
theorem d_Saves_empty_7 : decode b_Saves_empty 7 = .ok (.aload_n 0, 1) := by decide +kernel
theorem d_Saves_empty_8 : decode b_Saves_empty 8 = .ok (.getfield 18, 3) := by decide +kernel
theorem d_Saves_empty_11 : decode b_Saves_empty 11 = .ok (.iconst 1, 1) := by decide +kernel
theorem d_Saves_empty_12 : decode b_Saves_empty 12 = .ok (.iconst 0, 1) := by decide +kernel
theorem d_Saves_empty_13 : decode b_Saves_empty 13 = .ok (.bastore, 1) := by decide +kernel
theorem d_Saves_empty_14 : decode b_Saves_empty 14 = .ok (.return_, 1) := by decide +kernel
def rm_Saves_empty : Room := { frames := 0, cells := 0, slots := 0, locals := 0 }
theorem mf_Saves_empty : zMV y_Saves_empty b_Saves_empty 1 none 0 := ⟨q605, qs32, q8, q606, by decide +kernel⟩
def M_Saves_empty (p0 : Nat) (h : zH) (K : zH → Prop) : Prop :=
  (∀ h_1 : zH, h_1 = zs h (p0 + 16) 0 0 → ((∀ h_2 : zH, h_2 = zs h_1 (p0 + 16) 1 0 → (K h_2))))
set_option maxRecDepth 100000 in
theorem c_Saves_empty {l : Launch} (hfl : l.flags = flags0) {g : zG} {n : Nat} {p0 : Nat} (op0 : zO n p0 3) {h : zH} (hh : zh h) {K : zH → Prop} (hv : M_Saves_empty p0 h K) : zMet l y_Saves_empty b_Saves_empty 1 none rm_Saves_empty g n [.ref (g.2.2 p0)] h (zPv K) := by
  refine zMet_of (own := "AliasStreams$Saves") hfl (by decide) rfl (Nat.le_of_ble_eq_true rfl) (fun Wf m H0 X E => ?_)
  unfold M_Saves_empty at hv
  show zW Wf m 1 g n H0 0 [(0, .ref (g.2.2 p0))] [] h
  refine z_aload_n (pc := 0) (q := 0) X d_Saves_empty_0 rfl ?_
  refine z_getr (pc := 1) (j := 1) (dd := 16) X cf_Saves op0 (by decide) q220 rfl rfl d_Saves_empty_1 ?_
  refine z_iconst (pc := 4) X d_Saves_empty_4 ?_
  refine z_iconst (pc := 5) X d_Saves_empty_5 ?_
  refine z_zastj (pc := 6) (j := 0) X (gf_Saves_1 op0) (gl_Saves_1 op0) (show zr 0 from by decide) ⟨by decide, by decide⟩ rfl (by decide) d_Saves_empty_6 ?_
  refine z_toph (fun h_1 eh_1 => ?_)
  have zh_1 : zh h_1 := by rw [eh_1]; exact zh_set hh (zO.ne (gf_Saves_1 op0) (by decide)) (show zr 0 from by decide)
  replace hv := hv h_1 eh_1
  refine z_aload_n (pc := 7) (q := 0) X d_Saves_empty_7 rfl ?_
  refine z_getr (pc := 8) (j := 1) (dd := 16) X cf_Saves op0 (by decide) q220 rfl rfl d_Saves_empty_8 ?_
  refine z_iconst (pc := 11) X d_Saves_empty_11 ?_
  refine z_iconst (pc := 12) X d_Saves_empty_12 ?_
  refine z_zastj (pc := 13) (j := 1) X (gf_Saves_1 op0) (gl_Saves_1 op0) (show zr 1 from by decide) ⟨by decide, by decide⟩ rfl (by decide) d_Saves_empty_13 ?_
  refine z_toph (fun h_2 eh_2 => ?_)
  have zh_2 : zh h_2 := by rw [eh_2]; exact zh_set zh_1 (zO.ne (gf_Saves_1 op0) (by decide)) (show zr 0 from by decide)
  replace hv := hv h_2 eh_2
  exact E.1 rfl _ _ _ d_Saves_empty_14 ⟨rfl, zh_2, hv⟩
theorem d_History_forget_0 : decode b_History_forget 0 = .ok (.aload_n 0, 1) := by decide +kernel
theorem d_History_forget_1 : decode b_History_forget 1 = .ok (.iconst 0, 1) := by decide +kernel
theorem d_History_forget_2 : decode b_History_forget 2 = .ok (.putfield 18, 3) := by decide +kernel
theorem d_History_forget_5 : decode b_History_forget 5 = .ok (.return_, 1) := by decide +kernel
def rm_History_forget : Room := { frames := 0, cells := 0, slots := 0, locals := 0 }
theorem mf_History_forget : zMV y_History_forget b_History_forget 1 none 0 := ⟨q601, qs31, q7, q602, by decide +kernel⟩
def M_History_forget (p0 : Nat) (h : zH) (K : zH → Prop) : Prop :=
  (∀ h_1 : zH, h_1 = zs h p0 2 0 → (K h_1))
set_option maxRecDepth 100000 in
theorem c_History_forget {l : Launch} (hfl : l.flags = flags0) {g : zG} {n : Nat} {p0 : Nat} (op0 : zO n p0 0) {h : zH} (hh : zh h) {K : zH → Prop} (hv : M_History_forget p0 h K) : zMet l y_History_forget b_History_forget 1 none rm_History_forget g n [.ref (g.2.2 p0)] h (zPv K) := by
  refine zMet_of (own := "AliasStreams$History") hfl (by decide) rfl (Nat.le_of_ble_eq_true rfl) (fun Wf m H0 X E => ?_)
  unfold M_History_forget at hv
  show zW Wf m 1 g n H0 0 [(0, .ref (g.2.2 p0))] [] h
  refine z_aload_n (pc := 0) (q := 0) X d_History_forget_0 rfl ?_
  refine z_iconst (pc := 1) X d_History_forget_1 ?_
  refine z_put (pc := 2) (j := 2) X cf_History op0 (by decide) q201 rfl rfl rfl rfl d_History_forget_2 ?_
  refine z_toph (fun h_1 eh_1 => ?_)
  have zh_1 : zh h_1 := by rw [eh_1]; exact zh_set hh (zO.ne op0 (by decide)) (show zr 0 from by decide)
  replace hv := hv h_1 eh_1
  exact E.1 rfl _ _ _ d_History_forget_5 ⟨rfl, zh_1, hv⟩

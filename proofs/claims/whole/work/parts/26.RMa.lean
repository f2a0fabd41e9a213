/-! 26.RMa (printed by wip/whole/methgen.py) -/
theorem d_RM_thrown_0 : decode b_RM_thrown 0 = .ok (.aload_n 0, 1) := by decide +kernel
theorem d_RM_thrown_1 : decode b_RM_thrown 1 = .ok (.getfield 84, 3) := by decide +kernel
theorem d_RM_thrown_4 : decode b_RM_thrown 4 = .ok (.ireturn, 1) := by decide +kernel
def rm_RM_thrown : Room := { frames := 0, cells := 0, slots := 0, locals := 0 }
theorem mf_RM_thrown : zMV y_RM_thrown b_RM_thrown 1 (some .int) 0 := ⟨q1119, q1120, q13, q1121, by decide +kernel⟩
def M_RM_thrown (p0 : Nat) (h : zH) (K : Int → zH → Prop) : Prop :=
  K (h p0 0) h
set_option maxRecDepth 100000 in
theorem c_RM_thrown {l : Launch} (hfl : l.flags = flags0) {g : zG} {n : Nat} {p0 : Nat} (op0 : zO n p0 11) {h : zH} (hh : zh h) {K : Int → zH → Prop} (hv : M_RM_thrown p0 h K) : zMet l y_RM_thrown b_RM_thrown 1 (some .int) rm_RM_thrown g n [.ref (g.2.2 p0)] h (zPi K) := by
  refine zMet_of (own := "AliasStreamsModel") hfl (by decide) rfl (Nat.le_of_ble_eq_true rfl) (fun Wf m H0 X E => ?_)
  unfold M_RM_thrown at hv
  show zW Wf m 1 g n H0 0 [(0, .ref (g.2.2 p0))] [] h
  refine z_aload_n (pc := 0) (q := 0) X d_RM_thrown_0 rfl ?_
  refine z_geti (pc := 1) (j := 0) X cf_RM op0 (by decide) q1021 rfl rfl d_RM_thrown_1 ?_
  exact E.2.1 rfl _ _ _ _ d_RM_thrown_4 ⟨_, rfl, (hh.1 _ _ (zO.ne op0 (by decide))), hh, hv⟩
theorem d_RM_refused_0 : decode b_RM_refused 0 = .ok (.aload_n 0, 1) := by decide +kernel
theorem d_RM_refused_1 : decode b_RM_refused 1 = .ok (.iload_n 1, 1) := by decide +kernel
theorem d_RM_refused_2 : decode b_RM_refused 2 = .ok (.putfield 84, 3) := by decide +kernel
theorem d_RM_refused_5 : decode b_RM_refused 5 = .ok (.iload_n 1, 1) := by decide +kernel
theorem d_RM_refused_6 : decode b_RM_refused 6 = .ok (.ifCond .le 7, 3) := by decide +kernel
theorem d_RM_refused_9 : decode b_RM_refused 9 = .ok (.iconst 1, 1) := by decide +kernel
theorem d_RM_refused_10 : decode b_RM_refused 10 = .ok (.goto 4, 3) := by decide +kernel
theorem d_RM_refused_13 : decode b_RM_refused 13 = .ok (.iconst 0, 1) := by decide +kernel
theorem d_RM_refused_14 : decode b_RM_refused 14 = .ok (.ireturn, 1) := by decide +kernel
def rm_RM_refused : Room := { frames := 0, cells := 0, slots := 0, locals := 0 }
theorem mf_RM_refused : zMV y_RM_refused b_RM_refused 2 (some .boolean) 1 := ⟨q1132, qs66, q13, q1133, by decide +kernel⟩
def M_RM_refused (p0 : Nat) (x1 : Int) (h : zH) (K : Int → zH → Prop) : Prop :=
  (∀ h_1 : zH, h_1 = zs h p0 0 x1 → ((x1 ≤ 0 → (K 0 h_1)) ∧ (0 < x1 → (K 1 h_1))))
set_option maxRecDepth 100000 in
theorem c_RM_refused {l : Launch} (hfl : l.flags = flags0) {g : zG} {n : Nat} {p0 : Nat} {x1 : Int} (op0 : zO n p0 11) (rx1 : zr x1) {h : zH} (hh : zh h) {K : Int → zH → Prop} (hv : M_RM_refused p0 x1 h K) : zMet l y_RM_refused b_RM_refused 2 (some .boolean) rm_RM_refused g n [.ref (g.2.2 p0), zi x1] h (zPi K) := by
  refine zMet_of (own := "AliasStreamsModel") hfl (by decide) rfl (Nat.le_of_ble_eq_true rfl) (fun Wf m H0 X E => ?_)
  unfold M_RM_refused at hv
  show zW Wf m 2 g n H0 0 [(0, .ref (g.2.2 p0)), (1, zi x1)] [] h
  refine z_aload_n (pc := 0) (q := 0) X d_RM_refused_0 rfl ?_
  refine z_iload_n (pc := 1) (q := 1) X d_RM_refused_1 rfl ?_
  refine z_put (pc := 2) (j := 0) X cf_RM op0 (by decide) q1021 rfl rfl rfl rfl d_RM_refused_2 ?_
  refine z_toph (fun h_1 eh_1 => ?_)
  have zh_1 : zh h_1 := by rw [eh_1]; exact zh_set hh (zO.ne op0 (by decide)) rx1
  replace hv := hv h_1 eh_1
  refine z_iload_n (pc := 5) (q := 1) X d_RM_refused_5 rfl ?_
  refine z_if_le (pc := 6) (tgt := 13) X rx1 d_RM_refused_6 (by decide) (fun hc => ?_) (fun hc => ?_)
  · replace hv := hv.1 hc
    refine z_iconst (pc := 13) X d_RM_refused_13 ?_
    exact E.2.2.1 rfl _ _ _ _ (by decide) d_RM_refused_14 ⟨_, rfl, (show zr 0 from by decide), zh_1, hv⟩
  · replace hv := hv.2 hc
    refine z_iconst (pc := 9) X d_RM_refused_9 ?_
    refine z_goto (pc := 10) (tgt := 14) X d_RM_refused_10 (by decide) ?_
    exact E.2.2.1 rfl _ _ _ _ (by decide) d_RM_refused_14 ⟨_, rfl, (show zr 1 from by decide), zh_1, hv⟩
theorem d_RM_in_0 : decode b_RM_in 0 = .ok (.lload_n 0, 1) := by decide +kernel
theorem d_RM_in_1 : decode b_RM_in 1 = .ok (.lload_n 2, 1) := by decide +kernel
theorem d_RM_in_2 : decode b_RM_in 2 = .ok (.lcmp, 1) := by decide +kernel
theorem d_RM_in_3 : decode b_RM_in 3 = .ok (.ifCond .lt 14, 3) := by decide +kernel
theorem d_RM_in_6 : decode b_RM_in 6 = .ok (.lload_n 0, 1) := by decide +kernel
theorem d_RM_in_7 : decode b_RM_in 7 = .ok (.lload 4, 2) := by decide +kernel
theorem d_RM_in_9 : decode b_RM_in 9 = .ok (.lcmp, 1) := by decide +kernel
theorem d_RM_in_10 : decode b_RM_in 10 = .ok (.ifCond .gt 7, 3) := by decide +kernel
theorem d_RM_in_13 : decode b_RM_in 13 = .ok (.iconst 1, 1) := by decide +kernel
theorem d_RM_in_14 : decode b_RM_in 14 = .ok (.goto 4, 3) := by decide +kernel
theorem d_RM_in_17 : decode b_RM_in 17 = .ok (.iconst 0, 1) := by decide +kernel
theorem d_RM_in_18 : decode b_RM_in 18 = .ok (.ireturn, 1) := by decide +kernel
def rm_RM_in : Room := { frames := 0, cells := 0, slots := 0, locals := 0 }
theorem mf_RM_in : zMS y_RM_in b_RM_in 6 (some .boolean) 3 := ⟨q1128, q13, q1129, by decide +kernel⟩
def M_RM_in (x0 : Int) (x2 : Int) (x4 : Int) (h : zH) (K : Int → zH → Prop) : Prop :=
  (x0 < x2 → (K 0 h)) ∧ (x2 ≤ x0 → ((x4 < x0 → (K 0 h)) ∧ (x0 ≤ x4 → (K 1 h))))
set_option maxRecDepth 100000 in
theorem c_RM_in {l : Launch} (hfl : l.flags = flags0) {g : zG} {n : Nat} {x0 : Int} {x2 : Int} {x4 : Int} (rx0 : zrl x0) (rx2 : zrl x2) (rx4 : zrl x4) {h : zH} (hh : zh h) {K : Int → zH → Prop} (hv : M_RM_in x0 x2 x4 h K) : zMet l y_RM_in b_RM_in 6 (some .boolean) rm_RM_in g n [zj x0, zj x2, zj x4] h (zPi K) := by
  refine zMet_of (own := "AliasStreamsModel") hfl (by decide) rfl (Nat.le_of_ble_eq_true rfl) (fun Wf m H0 X E => ?_)
  unfold M_RM_in at hv
  show zW Wf m 6 g n H0 0 [(0, zj x0), (2, zj x2), (4, zj x4)] [] h
  refine z_lload_n (pc := 0) (q := 0) X d_RM_in_0 rfl ?_
  refine z_lload_n (pc := 1) (q := 1) X d_RM_in_1 rfl ?_
  refine z_lif_lt (pc := 2) (tgt := 17) X rx0 rx2 d_RM_in_2 d_RM_in_3 (by decide) (fun hc => ?_) (fun hc => ?_)
  · replace hv := hv.1 hc
    refine z_iconst (pc := 17) X d_RM_in_17 ?_
    exact E.2.2.1 rfl _ _ _ _ (by decide) d_RM_in_18 ⟨_, rfl, (show zr 0 from by decide), hh, hv⟩
  · replace hv := hv.2 hc
    refine z_lload_n (pc := 6) (q := 0) X d_RM_in_6 rfl ?_
    refine z_lload (pc := 7) (q := 2) X d_RM_in_7 rfl ?_
    refine z_lif_gt (pc := 9) (tgt := 17) X rx0 rx4 d_RM_in_9 d_RM_in_10 (by decide) (fun hc => ?_) (fun hc => ?_)
    · replace hv := hv.1 hc
      refine z_iconst (pc := 17) X d_RM_in_17 ?_
      exact E.2.2.1 rfl _ _ _ _ (by decide) d_RM_in_18 ⟨_, rfl, (show zr 0 from by decide), hh, hv⟩
    · replace hv := hv.2 hc
      refine z_iconst (pc := 13) X d_RM_in_13 ?_
      refine z_goto (pc := 14) (tgt := 18) X d_RM_in_14 (by decide) ?_
      exact E.2.2.1 rfl _ _ _ _ (by decide) d_RM_in_18 ⟨_, rfl, (show zr 1 from by decide), hh, hv⟩
theorem d_RM_copyPage_0 : decode b_RM_copyPage 0 = .ok (.iconst 0, 1) := by decide +kernel
theorem d_RM_copyPage_1 : decode b_RM_copyPage 1 = .ok (.istore 4, 2) := by decide +kernel
theorem d_RM_copyPage_3 : decode b_RM_copyPage 3 = .ok (.iload 4, 2) := by decide +kernel
theorem d_RM_copyPage_5 : decode b_RM_copyPage 5 = .ok (.sipush 193, 3) := by decide +kernel
theorem d_RM_copyPage_8 : decode b_RM_copyPage 8 = .ok (.if_icmp .ge 21, 3) := by decide +kernel
theorem d_RM_copyPage_11 : decode b_RM_copyPage 11 = .ok (.aload_n 2, 1) := by decide +kernel
theorem d_RM_copyPage_12 : decode b_RM_copyPage 12 = .ok (.iload_n 3, 1) := by decide +kernel
theorem d_RM_copyPage_13 : decode b_RM_copyPage 13 = .ok (.iload 4, 2) := by decide +kernel
theorem d_RM_copyPage_15 : decode b_RM_copyPage 15 = .ok (.iadd, 1) := by decide +kernel
theorem d_RM_copyPage_16 : decode b_RM_copyPage 16 = .ok (.aload_n 0, 1) := by decide +kernel
theorem d_RM_copyPage_17 : decode b_RM_copyPage 17 = .ok (.iload_n 1, 1) := by decide +kernel
theorem d_RM_copyPage_18 : decode b_RM_copyPage 18 = .ok (.iload 4, 2) := by decide +kernel
theorem d_RM_copyPage_20 : decode b_RM_copyPage 20 = .ok (.iadd, 1) := by decide +kernel
theorem d_RM_copyPage_21 : decode b_RM_copyPage 21 = .ok (.iaload, 1) := by decide +kernel
theorem d_RM_copyPage_22 : decode b_RM_copyPage 22 = .ok (.iastore, 1) := by decide +kernel
theorem d_RM_copyPage_23 : decode b_RM_copyPage 23 = .ok (.iinc 4 1, 3) := by decide +kernel
theorem d_RM_copyPage_26 : decode b_RM_copyPage 26 = .ok (.goto (-23), 3) := by decide +kernel
theorem d_RM_copyPage_29 : decode b_RM_copyPage 29 = .ok (.return_, 1) := by decide +kernel
def rm_RM_copyPage : Room := { frames := 0, cells := 0, slots := 0, locals := 0 }
theorem mf_RM_copyPage : zMS y_RM_copyPage b_RM_copyPage 5 none 4 := ⟨q1170, q13, q1171, by decide +kernel⟩
def F_RM_copyPage_3 (K : zH → Prop)  (L3 : Int × zH → Prop) (p0 : Nat) (x1 : Int) (p2 : Nat) (x3 : Int) (x4 : Int) (h : zH) : Prop :=
  (193 ≤ x4 → (K h)) ∧ (x4 < 193 → (zr (x3 + x4) ∧ (zr (x1 + x4) ∧ ((0 ≤ x1 + x4 ∧ x1 + x4 < ((zln p0 : Nat) : Int)) ∧ ((0 ≤ x3 + x4 ∧ x3 + x4 < ((zln p2 : Nat) : Int)) ∧ (∀ h_5 : zH, h_5 = zs h p2 ((x3 + x4).toNat) (h p0 ((x1 + x4).toNat)) → (zr (x4 + 1) ∧ (L3 (x4 + 1, h_5)))))))))
set_option maxRecDepth 100000 in
theorem s_RM_copyPage_3 {Wf : Heap → List Loc → JFrame → Prop} {m : MethodId} {g : zG} {n : Nat} {H0 : Heap} (X : zX Wf m rm_RM_copyPage b_RM_copyPage "AliasStreamsModel" 5 g n H0) {K : zH → Prop} (E : zEx Wf m b_RM_copyPage none 5 g n H0 (zPv K))  {p0 : Nat} {x1 : Int} {p2 : Nat} {x3 : Int}  (op0 : zO n p0 12) (rx1 : zr x1) (op2 : zO n p2 12) (rx3 : zr x3) {q0 : Int × zH} (hv0 : zLoop (fun L q => F_RM_copyPage_3 K  L p0 x1 p2 x3 q.1 q.2) q0) : zr q0.1 → zh (q0.2) → zW Wf m 5 g n H0 3 [(0, .ref (g.2.2 p0)), (1, zi x1), (2, .ref (g.2.2 p2)), (3, zi x3), (4, zi q0.1)] [] (q0.2) := by
  refine zLoop_use (G := fun q => zr q.1 → zh (q.2) → zW Wf m 5 g n H0 3 [(0, .ref (g.2.2 p0)), (1, zi x1), (2, .ref (g.2.2 p2)), (3, zi x3), (4, zi q.1)] [] (q.2)) ?_ hv0
  rintro L3 ⟨x4, h⟩ hL3 hv rx4 hh
  have hv : F_RM_copyPage_3 K  L3 p0 x1 p2 x3 x4 h := hv
  unfold F_RM_copyPage_3 at hv
  show zW Wf m 5 g n H0 3 [(0, .ref (g.2.2 p0)), (1, zi x1), (2, .ref (g.2.2 p2)), (3, zi x3), (4, zi x4)] [] h
  refine z_iload (pc := 3) (q := 4) X d_RM_copyPage_3 rfl ?_
  refine z_sipush (pc := 5) X d_RM_copyPage_5 (by decide) ?_
  refine z_icmp_ge (pc := 8) (tgt := 29) X rx4 (show zr 193 from by decide) d_RM_copyPage_8 (by decide) (fun hc => ?_) (fun hc => ?_)
  · replace hv := hv.1 hc
    exact E.1 rfl _ _ _ d_RM_copyPage_29 ⟨rfl, hh, hv⟩
  · replace hv := hv.2 hc
    refine z_aload_n (pc := 11) (q := 2) X d_RM_copyPage_11 rfl ?_
    refine z_iload_n (pc := 12) (q := 3) X d_RM_copyPage_12 rfl ?_
    refine z_iload (pc := 13) (q := 4) X d_RM_copyPage_13 rfl ?_
    obtain ⟨v_1, hv⟩ := hv
    refine z_iadd (pc := 15) X d_RM_copyPage_15 ?_
    refine z_aload_n (pc := 16) (q := 0) X d_RM_copyPage_16 rfl ?_
    refine z_iload_n (pc := 17) (q := 1) X d_RM_copyPage_17 rfl ?_
    refine z_iload (pc := 18) (q := 4) X d_RM_copyPage_18 rfl ?_
    obtain ⟨v_2, hv⟩ := hv
    refine z_iadd (pc := 20) X d_RM_copyPage_20 ?_
    obtain ⟨v_3, hv⟩ := hv
    refine z_ialdj (pc := 21) (j := (x1 + x4).toNat) X op0 rfl v_2 v_3 rfl d_RM_copyPage_21 ?_
    obtain ⟨v_4, hv⟩ := hv
    refine z_iastj (pc := 22) (j := (x3 + x4).toNat) X op2 rfl v_1 v_4 rfl d_RM_copyPage_22 ?_
    refine z_toph (fun h_5 eh_5 => ?_)
    have zh_5 : zh h_5 := by rw [eh_5]; exact zh_set hh (zO.ne op2 (by decide)) (hh.1 _ _ (zO.ne op0 (by decide)))
    replace hv := hv h_5 eh_5
    obtain ⟨v_6, hv⟩ := hv
    refine z_iinc (pc := 23) (q := 4) (lv' := [(4, zi (x4 + 1)), (0, .ref (g.2.2 p0)), (1, zi x1), (2, .ref (g.2.2 p2)), (3, zi x3)]) X d_RM_copyPage_23 rfl (by decide) rfl ?_
    refine z_goto (pc := 26) (tgt := 3) X d_RM_copyPage_26 (by decide) ?_
    refine z_perm [1, 2, 3, 4, 0] rfl ?_
    exact hL3 _ hv v_6 zh_5
def M_RM_copyPage (p0 : Nat) (x1 : Int) (p2 : Nat) (x3 : Int) (h : zH) (K : zH → Prop) : Prop :=
  zLoop (fun L q => F_RM_copyPage_3 K  L p0 x1 p2 x3 q.1 q.2) (0, h)
set_option maxRecDepth 100000 in
theorem c_RM_copyPage {l : Launch} (hfl : l.flags = flags0) {g : zG} {n : Nat} {p0 : Nat} {x1 : Int} {p2 : Nat} {x3 : Int} (op0 : zO n p0 12) (rx1 : zr x1) (op2 : zO n p2 12) (rx3 : zr x3) {h : zH} (hh : zh h) {K : zH → Prop} (hv : M_RM_copyPage p0 x1 p2 x3 h K) : zMet l y_RM_copyPage b_RM_copyPage 5 none rm_RM_copyPage g n [.ref (g.2.2 p0), zi x1, .ref (g.2.2 p2), zi x3] h (zPv K) := by
  refine zMet_of (own := "AliasStreamsModel") hfl (by decide) rfl (Nat.le_of_ble_eq_true rfl) (fun Wf m H0 X E => ?_)
  unfold M_RM_copyPage at hv
  show zW Wf m 5 g n H0 0 [(0, .ref (g.2.2 p0)), (1, zi x1), (2, .ref (g.2.2 p2)), (3, zi x3)] [] h
  refine z_iconst (pc := 0) X d_RM_copyPage_0 ?_
  refine z_istore (pc := 1) (lv' := [(4, zi 0), (0, .ref (g.2.2 p0)), (1, zi x1), (2, .ref (g.2.2 p2)), (3, zi x3)]) X d_RM_copyPage_1 (by decide) rfl ?_
  refine z_perm [1, 2, 3, 4, 0] rfl ?_
  exact s_RM_copyPage_3 X E  op0 rx1 op2 rx3 hv (show zr 0 from by decide) hh
theorem d_RM_isModel_0 : decode b_RM_isModel 0 = .ok (.iload_n 1, 1) := by decide +kernel
theorem d_RM_isModel_1 : decode b_RM_isModel 1 = .ok (.i2l, 1) := by decide +kernel
theorem d_RM_isModel_2 : decode b_RM_isModel 2 = .ok (.lconst 0, 1) := by decide +kernel
theorem d_RM_isModel_3 : decode b_RM_isModel 3 = .ok (.aload_n 0, 1) := by decide +kernel
theorem d_RM_isModel_4 : decode b_RM_isModel 4 = .ok (.getfield 17, 3) := by decide +kernel
theorem d_RM_isModel_7 : decode b_RM_isModel 7 = .ok (.iconst 1, 1) := by decide +kernel
theorem d_RM_isModel_8 : decode b_RM_isModel 8 = .ok (.isub, 1) := by decide +kernel
theorem d_RM_isModel_9 : decode b_RM_isModel 9 = .ok (.i2l, 1) := by decide +kernel
theorem d_RM_isModel_10 : decode b_RM_isModel 10 = .ok (.invokestatic 87, 3) := by decide +kernel
theorem d_RM_isModel_13 : decode b_RM_isModel 13 = .ok (.ireturn, 1) := by decide +kernel
def rm_RM_isModel : Room := { frames := 1, cells := 0, slots := 0, locals := 25 }
theorem mf_RM_isModel : zMV y_RM_isModel b_RM_isModel 2 (some .boolean) 1 := ⟨q1203, qs77, q13, q1204, by decide +kernel⟩
def M_RM_isModel (p0 : Nat) (x1 : Int) (h : zH) (K : Int → zH → Prop) : Prop :=
  zr ((h p0 5) - 1) ∧ (M_RM_in x1 0 ((h p0 5) - 1) h (fun r_3 h_2 => (r_3 = 0 ∨ r_3 = 1) ∧ K r_3 h_2))
set_option maxRecDepth 100000 in
theorem c_RM_isModel {l : Launch} (hfl : l.flags = flags0) {g : zG} {n : Nat} {p0 : Nat} {x1 : Int} (op0 : zO n p0 11) (rx1 : zr x1) {h : zH} (hh : zh h) {K : Int → zH → Prop} (hv : M_RM_isModel p0 x1 h K) : zMet l y_RM_isModel b_RM_isModel 2 (some .boolean) rm_RM_isModel g n [.ref (g.2.2 p0), zi x1] h (zPi K) := by
  refine zMet_of (own := "AliasStreamsModel") hfl (by decide) rfl (Nat.le_of_ble_eq_true rfl) (fun Wf m H0 X E => ?_)
  unfold M_RM_isModel at hv
  show zW Wf m 2 g n H0 0 [(0, .ref (g.2.2 p0)), (1, zi x1)] [] h
  refine z_iload_n (pc := 0) (q := 1) X d_RM_isModel_0 rfl ?_
  refine z_i2l (pc := 1) X rx1 d_RM_isModel_1 ?_
  refine z_lconst (pc := 2) (x := 0) X d_RM_isModel_2 (by decide) ?_
  refine z_aload_n (pc := 3) (q := 0) X d_RM_isModel_3 rfl ?_
  refine z_geti (pc := 4) (j := 5) X cf_RM op0 (by decide) q1026 rfl rfl d_RM_isModel_4 ?_
  refine z_iconst (pc := 7) X d_RM_isModel_7 ?_
  obtain ⟨v_1, hv⟩ := hv
  refine z_isub (pc := 8) X d_RM_isModel_8 ?_
  refine z_i2l (pc := 9) X v_1 d_RM_isModel_9 ?_
  refine z_callSi (pc := 10) (As := [zj x1, zj 0, zj ((h p0 5) - 1)]) (rest := []) X (fun l hl => c_RM_in hl (zr_l rx1) (show zrl 0 from by decide) (zr_l v_1) hh hv) mf_RM_in q1127 ⟨⟨by decide, by decide⟩, rfl, rfl⟩ rfl d_RM_isModel_10 rfl (Nat.le_of_ble_eq_true rfl) (fun r_3 h_2 rr_3 zh_2 hv => ?_)
  obtain ⟨v_4, hv⟩ := hv
  exact E.2.2.1 rfl _ _ _ _ v_4 d_RM_isModel_13 ⟨_, rfl, rr_3, zh_2, hv⟩
theorem d_RM_isSymbol_0 : decode b_RM_isSymbol 0 = .ok (.iload_n 1, 1) := by decide +kernel
theorem d_RM_isSymbol_1 : decode b_RM_isSymbol 1 = .ok (.i2l, 1) := by decide +kernel
theorem d_RM_isSymbol_2 : decode b_RM_isSymbol 2 = .ok (.lconst 0, 1) := by decide +kernel
theorem d_RM_isSymbol_3 : decode b_RM_isSymbol 3 = .ok (.aload_n 0, 1) := by decide +kernel
theorem d_RM_isSymbol_4 : decode b_RM_isSymbol 4 = .ok (.getfield 13, 3) := by decide +kernel
theorem d_RM_isSymbol_7 : decode b_RM_isSymbol 7 = .ok (.iconst 1, 1) := by decide +kernel
theorem d_RM_isSymbol_8 : decode b_RM_isSymbol 8 = .ok (.isub, 1) := by decide +kernel
theorem d_RM_isSymbol_9 : decode b_RM_isSymbol 9 = .ok (.i2l, 1) := by decide +kernel
theorem d_RM_isSymbol_10 : decode b_RM_isSymbol 10 = .ok (.invokestatic 87, 3) := by decide +kernel
theorem d_RM_isSymbol_13 : decode b_RM_isSymbol 13 = .ok (.ireturn, 1) := by decide +kernel
def rm_RM_isSymbol : Room := { frames := 1, cells := 0, slots := 0, locals := 25 }
theorem mf_RM_isSymbol : zMV y_RM_isSymbol b_RM_isSymbol 2 (some .boolean) 1 := ⟨q1207, qs78, q13, q1208, by decide +kernel⟩
def M_RM_isSymbol (p0 : Nat) (x1 : Int) (h : zH) (K : Int → zH → Prop) : Prop :=
  zr ((h p0 4) - 1) ∧ (M_RM_in x1 0 ((h p0 4) - 1) h (fun r_3 h_2 => (r_3 = 0 ∨ r_3 = 1) ∧ K r_3 h_2))
set_option maxRecDepth 100000 in
theorem c_RM_isSymbol {l : Launch} (hfl : l.flags = flags0) {g : zG} {n : Nat} {p0 : Nat} {x1 : Int} (op0 : zO n p0 11) (rx1 : zr x1) {h : zH} (hh : zh h) {K : Int → zH → Prop} (hv : M_RM_isSymbol p0 x1 h K) : zMet l y_RM_isSymbol b_RM_isSymbol 2 (some .boolean) rm_RM_isSymbol g n [.ref (g.2.2 p0), zi x1] h (zPi K) := by
  refine zMet_of (own := "AliasStreamsModel") hfl (by decide) rfl (Nat.le_of_ble_eq_true rfl) (fun Wf m H0 X E => ?_)
  unfold M_RM_isSymbol at hv
  show zW Wf m 2 g n H0 0 [(0, .ref (g.2.2 p0)), (1, zi x1)] [] h
  refine z_iload_n (pc := 0) (q := 1) X d_RM_isSymbol_0 rfl ?_
  refine z_i2l (pc := 1) X rx1 d_RM_isSymbol_1 ?_
  refine z_lconst (pc := 2) (x := 0) X d_RM_isSymbol_2 (by decide) ?_
  refine z_aload_n (pc := 3) (q := 0) X d_RM_isSymbol_3 rfl ?_
  refine z_geti (pc := 4) (j := 4) X cf_RM op0 (by decide) q1025 rfl rfl d_RM_isSymbol_4 ?_
  refine z_iconst (pc := 7) X d_RM_isSymbol_7 ?_
  obtain ⟨v_1, hv⟩ := hv
  refine z_isub (pc := 8) X d_RM_isSymbol_8 ?_
  refine z_i2l (pc := 9) X v_1 d_RM_isSymbol_9 ?_
  refine z_callSi (pc := 10) (As := [zj x1, zj 0, zj ((h p0 4) - 1)]) (rest := []) X (fun l hl => c_RM_in hl (zr_l rx1) (show zrl 0 from by decide) (zr_l v_1) hh hv) mf_RM_in q1127 ⟨⟨by decide, by decide⟩, rfl, rfl⟩ rfl d_RM_isSymbol_10 rfl (Nat.le_of_ble_eq_true rfl) (fun r_3 h_2 rr_3 zh_2 hv => ?_)
  obtain ⟨v_4, hv⟩ := hv
  exact E.2.2.1 rfl _ _ _ _ v_4 d_RM_isSymbol_13 ⟨_, rfl, rr_3, zh_2, hv⟩
theorem d_RM_layFrequencies_0 : decode b_RM_layFrequencies 0 = .ok (.bipush 8, 2) := by decide +kernel
theorem d_RM_layFrequencies_2 : decode b_RM_layFrequencies 2 = .ok (.iload_n 2, 1) := by decide +kernel
theorem d_RM_layFrequencies_3 : decode b_RM_layFrequencies 3 = .ok (.imul, 1) := by decide +kernel
theorem d_RM_layFrequencies_4 : decode b_RM_layFrequencies 4 = .ok (.istore_n 3, 1) := by decide +kernel
theorem d_RM_layFrequencies_5 : decode b_RM_layFrequencies 5 = .ok (.iconst 0, 1) := by decide +kernel
theorem d_RM_layFrequencies_6 : decode b_RM_layFrequencies 6 = .ok (.istore 4, 2) := by decide +kernel
theorem d_RM_layFrequencies_8 : decode b_RM_layFrequencies 8 = .ok (.iconst 0, 1) := by decide +kernel
theorem d_RM_layFrequencies_9 : decode b_RM_layFrequencies 9 = .ok (.istore 5, 2) := by decide +kernel
theorem d_RM_layFrequencies_11 : decode b_RM_layFrequencies 11 = .ok (.iload 5, 2) := by decide +kernel
theorem d_RM_layFrequencies_13 : decode b_RM_layFrequencies 13 = .ok (.aload_n 0, 1) := by decide +kernel
theorem d_RM_layFrequencies_14 : decode b_RM_layFrequencies 14 = .ok (.getfield 13, 3) := by decide +kernel
theorem d_RM_layFrequencies_17 : decode b_RM_layFrequencies 17 = .ok (.if_icmp .ge 20, 3) := by decide +kernel
theorem d_RM_layFrequencies_20 : decode b_RM_layFrequencies 20 = .ok (.iload 4, 2) := by decide +kernel
theorem d_RM_layFrequencies_22 : decode b_RM_layFrequencies 22 = .ok (.aload_n 1, 1) := by decide +kernel
theorem d_RM_layFrequencies_23 : decode b_RM_layFrequencies 23 = .ok (.iload_n 3, 1) := by decide +kernel
theorem d_RM_layFrequencies_24 : decode b_RM_layFrequencies 24 = .ok (.iload 5, 2) := by decide +kernel
theorem d_RM_layFrequencies_26 : decode b_RM_layFrequencies 26 = .ok (.iadd, 1) := by decide +kernel
theorem d_RM_layFrequencies_27 : decode b_RM_layFrequencies 27 = .ok (.iaload, 1) := by decide +kernel
theorem d_RM_layFrequencies_28 : decode b_RM_layFrequencies 28 = .ok (.iadd, 1) := by decide +kernel
theorem d_RM_layFrequencies_29 : decode b_RM_layFrequencies 29 = .ok (.istore 4, 2) := by decide +kernel
theorem d_RM_layFrequencies_31 : decode b_RM_layFrequencies 31 = .ok (.iinc 5 1, 3) := by decide +kernel
theorem d_RM_layFrequencies_34 : decode b_RM_layFrequencies 34 = .ok (.goto (-23), 3) := by decide +kernel
theorem d_RM_layFrequencies_37 : decode b_RM_layFrequencies 37 = .ok (.iconst 0, 1) := by decide +kernel
theorem d_RM_layFrequencies_38 : decode b_RM_layFrequencies 38 = .ok (.istore 5, 2) := by decide +kernel
theorem d_RM_layFrequencies_40 : decode b_RM_layFrequencies 40 = .ok (.iconst 0, 1) := by decide +kernel
theorem d_RM_layFrequencies_41 : decode b_RM_layFrequencies 41 = .ok (.istore 6, 2) := by decide +kernel
theorem d_RM_layFrequencies_43 : decode b_RM_layFrequencies 43 = .ok (.iload 6, 2) := by decide +kernel
theorem d_RM_layFrequencies_45 : decode b_RM_layFrequencies 45 = .ok (.bipush 8, 2) := by decide +kernel
theorem d_RM_layFrequencies_47 : decode b_RM_layFrequencies 47 = .ok (.if_icmp .ge 104, 3) := by decide +kernel
theorem d_RM_layFrequencies_50 : decode b_RM_layFrequencies 50 = .ok (.iload 6, 2) := by decide +kernel
theorem d_RM_layFrequencies_52 : decode b_RM_layFrequencies 52 = .ok (.aload_n 0, 1) := by decide +kernel
theorem d_RM_layFrequencies_53 : decode b_RM_layFrequencies 53 = .ok (.getfield 13, 3) := by decide +kernel
theorem d_RM_layFrequencies_56 : decode b_RM_layFrequencies 56 = .ok (.if_icmp .ge 12, 3) := by decide +kernel
theorem d_RM_layFrequencies_59 : decode b_RM_layFrequencies 59 = .ok (.aload_n 1, 1) := by decide +kernel
theorem d_RM_layFrequencies_60 : decode b_RM_layFrequencies 60 = .ok (.iload_n 3, 1) := by decide +kernel
theorem d_RM_layFrequencies_61 : decode b_RM_layFrequencies 61 = .ok (.iload 6, 2) := by decide +kernel
theorem d_RM_layFrequencies_63 : decode b_RM_layFrequencies 63 = .ok (.iadd, 1) := by decide +kernel
theorem d_RM_layFrequencies_64 : decode b_RM_layFrequencies 64 = .ok (.iaload, 1) := by decide +kernel
theorem d_RM_layFrequencies_65 : decode b_RM_layFrequencies 65 = .ok (.goto 4, 3) := by decide +kernel
theorem d_RM_layFrequencies_68 : decode b_RM_layFrequencies 68 = .ok (.iconst 0, 1) := by decide +kernel
theorem d_RM_layFrequencies_69 : decode b_RM_layFrequencies 69 = .ok (.istore 7, 2) := by decide +kernel
theorem d_RM_layFrequencies_71 : decode b_RM_layFrequencies 71 = .ok (.bipush 32, 2) := by decide +kernel
theorem d_RM_layFrequencies_73 : decode b_RM_layFrequencies 73 = .ok (.iload 7, 2) := by decide +kernel
theorem d_RM_layFrequencies_75 : decode b_RM_layFrequencies 75 = .ok (.imul, 1) := by decide +kernel
theorem d_RM_layFrequencies_76 : decode b_RM_layFrequencies 76 = .ok (.iload 4, 2) := by decide +kernel
theorem d_RM_layFrequencies_78 : decode b_RM_layFrequencies 78 = .ok (.idiv, 1) := by decide +kernel
theorem d_RM_layFrequencies_79 : decode b_RM_layFrequencies 79 = .ok (.istore 8, 2) := by decide +kernel
theorem d_RM_layFrequencies_81 : decode b_RM_layFrequencies 81 = .ok (.aload_n 0, 1) := by decide +kernel
theorem d_RM_layFrequencies_82 : decode b_RM_layFrequencies 82 = .ok (.getfield 42, 3) := by decide +kernel
theorem d_RM_layFrequencies_85 : decode b_RM_layFrequencies 85 = .ok (.iload_n 3, 1) := by decide +kernel
theorem d_RM_layFrequencies_86 : decode b_RM_layFrequencies 86 = .ok (.iload 6, 2) := by decide +kernel
theorem d_RM_layFrequencies_88 : decode b_RM_layFrequencies 88 = .ok (.iadd, 1) := by decide +kernel
theorem d_RM_layFrequencies_89 : decode b_RM_layFrequencies 89 = .ok (.iload 7, 2) := by decide +kernel
theorem d_RM_layFrequencies_91 : decode b_RM_layFrequencies 91 = .ok (.ifCond .le 12, 3) := by decide +kernel
theorem d_RM_layFrequencies_94 : decode b_RM_layFrequencies 94 = .ok (.iload 8, 2) := by decide +kernel
theorem d_RM_layFrequencies_96 : decode b_RM_layFrequencies 96 = .ok (.ifCond .ne 7, 3) := by decide +kernel
theorem d_RM_layFrequencies_99 : decode b_RM_layFrequencies 99 = .ok (.iconst 1, 1) := by decide +kernel
theorem d_RM_layFrequencies_100 : decode b_RM_layFrequencies 100 = .ok (.goto 5, 3) := by decide +kernel
theorem d_RM_layFrequencies_103 : decode b_RM_layFrequencies 103 = .ok (.iload 8, 2) := by decide +kernel
theorem d_RM_layFrequencies_105 : decode b_RM_layFrequencies 105 = .ok (.iastore, 1) := by decide +kernel
theorem d_RM_layFrequencies_106 : decode b_RM_layFrequencies 106 = .ok (.iload 5, 2) := by decide +kernel
theorem d_RM_layFrequencies_108 : decode b_RM_layFrequencies 108 = .ok (.aload_n 0, 1) := by decide +kernel
theorem d_RM_layFrequencies_109 : decode b_RM_layFrequencies 109 = .ok (.getfield 42, 3) := by decide +kernel
theorem d_RM_layFrequencies_112 : decode b_RM_layFrequencies 112 = .ok (.iload_n 3, 1) := by decide +kernel
theorem d_RM_layFrequencies_113 : decode b_RM_layFrequencies 113 = .ok (.iload 6, 2) := by decide +kernel
theorem d_RM_layFrequencies_115 : decode b_RM_layFrequencies 115 = .ok (.iadd, 1) := by decide +kernel
theorem d_RM_layFrequencies_116 : decode b_RM_layFrequencies 116 = .ok (.iaload, 1) := by decide +kernel
theorem d_RM_layFrequencies_117 : decode b_RM_layFrequencies 117 = .ok (.iadd, 1) := by decide +kernel
theorem d_RM_layFrequencies_118 : decode b_RM_layFrequencies 118 = .ok (.istore 5, 2) := by decide +kernel
theorem d_RM_layFrequencies_120 : decode b_RM_layFrequencies 120 = .ok (.aload_n 0, 1) := by decide +kernel
theorem d_RM_layFrequencies_121 : decode b_RM_layFrequencies 121 = .ok (.getfield 60, 3) := by decide +kernel
theorem d_RM_layFrequencies_124 : decode b_RM_layFrequencies 124 = .ok (.iload 6, 2) := by decide +kernel
theorem d_RM_layFrequencies_126 : decode b_RM_layFrequencies 126 = .ok (.iload 7, 2) := by decide +kernel
theorem d_RM_layFrequencies_128 : decode b_RM_layFrequencies 128 = .ok (.ifCond .le 14, 3) := by decide +kernel
theorem d_RM_layFrequencies_131 : decode b_RM_layFrequencies 131 = .ok (.bipush 32, 2) := by decide +kernel
theorem d_RM_layFrequencies_133 : decode b_RM_layFrequencies 133 = .ok (.iload 7, 2) := by decide +kernel
theorem d_RM_layFrequencies_135 : decode b_RM_layFrequencies 135 = .ok (.imul, 1) := by decide +kernel
theorem d_RM_layFrequencies_136 : decode b_RM_layFrequencies 136 = .ok (.iload 4, 2) := by decide +kernel
theorem d_RM_layFrequencies_138 : decode b_RM_layFrequencies 138 = .ok (.irem, 1) := by decide +kernel
theorem d_RM_layFrequencies_139 : decode b_RM_layFrequencies 139 = .ok (.goto 5, 3) := by decide +kernel
theorem d_RM_layFrequencies_142 : decode b_RM_layFrequencies 142 = .ok (.bipush (-9), 2) := by decide +kernel
theorem d_RM_layFrequencies_144 : decode b_RM_layFrequencies 144 = .ok (.iastore, 1) := by decide +kernel
theorem d_RM_layFrequencies_145 : decode b_RM_layFrequencies 145 = .ok (.iinc 6 1, 3) := by decide +kernel
theorem d_RM_layFrequencies_148 : decode b_RM_layFrequencies 148 = .ok (.goto (-105), 3) := by decide +kernel
theorem d_RM_layFrequencies_151 : decode b_RM_layFrequencies 151 = .ok (.iload 5, 2) := by decide +kernel
theorem d_RM_layFrequencies_153 : decode b_RM_layFrequencies 153 = .ok (.bipush 32, 2) := by decide +kernel
theorem d_RM_layFrequencies_155 : decode b_RM_layFrequencies 155 = .ok (.if_icmp .ge 98, 3) := by decide +kernel
theorem d_RM_layFrequencies_158 : decode b_RM_layFrequencies 158 = .ok (.bipush (-9), 2) := by decide +kernel
theorem d_RM_layFrequencies_160 : decode b_RM_layFrequencies 160 = .ok (.istore 6, 2) := by decide +kernel
theorem d_RM_layFrequencies_162 : decode b_RM_layFrequencies 162 = .ok (.iconst 0, 1) := by decide +kernel
theorem d_RM_layFrequencies_163 : decode b_RM_layFrequencies 163 = .ok (.istore 7, 2) := by decide +kernel
theorem d_RM_layFrequencies_165 : decode b_RM_layFrequencies 165 = .ok (.iload 7, 2) := by decide +kernel
theorem d_RM_layFrequencies_167 : decode b_RM_layFrequencies 167 = .ok (.aload_n 0, 1) := by decide +kernel
theorem d_RM_layFrequencies_168 : decode b_RM_layFrequencies 168 = .ok (.getfield 13, 3) := by decide +kernel
theorem d_RM_layFrequencies_171 : decode b_RM_layFrequencies 171 = .ok (.if_icmp .ge 54, 3) := by decide +kernel
theorem d_RM_layFrequencies_174 : decode b_RM_layFrequencies 174 = .ok (.aload_n 0, 1) := by decide +kernel
theorem d_RM_layFrequencies_175 : decode b_RM_layFrequencies 175 = .ok (.getfield 60, 3) := by decide +kernel
theorem d_RM_layFrequencies_178 : decode b_RM_layFrequencies 178 = .ok (.iload 7, 2) := by decide +kernel
theorem d_RM_layFrequencies_180 : decode b_RM_layFrequencies 180 = .ok (.iaload, 1) := by decide +kernel
theorem d_RM_layFrequencies_181 : decode b_RM_layFrequencies 181 = .ok (.bipush (-9), 2) := by decide +kernel
theorem d_RM_layFrequencies_183 : decode b_RM_layFrequencies 183 = .ok (.if_icmp .eq 32, 3) := by decide +kernel
theorem d_RM_layFrequencies_186 : decode b_RM_layFrequencies 186 = .ok (.iload 6, 2) := by decide +kernel
theorem d_RM_layFrequencies_188 : decode b_RM_layFrequencies 188 = .ok (.bipush (-9), 2) := by decide +kernel
theorem d_RM_layFrequencies_190 : decode b_RM_layFrequencies 190 = .ok (.if_icmp .eq 20, 3) := by decide +kernel
theorem d_RM_layFrequencies_193 : decode b_RM_layFrequencies 193 = .ok (.aload_n 0, 1) := by decide +kernel
theorem d_RM_layFrequencies_194 : decode b_RM_layFrequencies 194 = .ok (.getfield 60, 3) := by decide +kernel
theorem d_RM_layFrequencies_197 : decode b_RM_layFrequencies 197 = .ok (.iload 7, 2) := by decide +kernel
theorem d_RM_layFrequencies_199 : decode b_RM_layFrequencies 199 = .ok (.iaload, 1) := by decide +kernel
theorem d_RM_layFrequencies_200 : decode b_RM_layFrequencies 200 = .ok (.aload_n 0, 1) := by decide +kernel
theorem d_RM_layFrequencies_201 : decode b_RM_layFrequencies 201 = .ok (.getfield 60, 3) := by decide +kernel
theorem d_RM_layFrequencies_204 : decode b_RM_layFrequencies 204 = .ok (.iload 6, 2) := by decide +kernel
theorem d_RM_layFrequencies_206 : decode b_RM_layFrequencies 206 = .ok (.iaload, 1) := by decide +kernel
theorem d_RM_layFrequencies_207 : decode b_RM_layFrequencies 207 = .ok (.if_icmp .le 8, 3) := by decide +kernel
theorem d_RM_layFrequencies_210 : decode b_RM_layFrequencies 210 = .ok (.iload 7, 2) := by decide +kernel
theorem d_RM_layFrequencies_212 : decode b_RM_layFrequencies 212 = .ok (.goto 5, 3) := by decide +kernel
theorem d_RM_layFrequencies_215 : decode b_RM_layFrequencies 215 = .ok (.iload 6, 2) := by decide +kernel
theorem d_RM_layFrequencies_217 : decode b_RM_layFrequencies 217 = .ok (.istore 6, 2) := by decide +kernel
theorem d_RM_layFrequencies_219 : decode b_RM_layFrequencies 219 = .ok (.iinc 7 1, 3) := by decide +kernel
theorem d_RM_layFrequencies_222 : decode b_RM_layFrequencies 222 = .ok (.goto (-57), 3) := by decide +kernel
theorem d_RM_layFrequencies_225 : decode b_RM_layFrequencies 225 = .ok (.aload_n 0, 1) := by decide +kernel
theorem d_RM_layFrequencies_226 : decode b_RM_layFrequencies 226 = .ok (.getfield 42, 3) := by decide +kernel
theorem d_RM_layFrequencies_229 : decode b_RM_layFrequencies 229 = .ok (.iload_n 3, 1) := by decide +kernel
theorem d_RM_layFrequencies_230 : decode b_RM_layFrequencies 230 = .ok (.iload 6, 2) := by decide +kernel
theorem d_RM_layFrequencies_232 : decode b_RM_layFrequencies 232 = .ok (.iadd, 1) := by decide +kernel
theorem d_RM_layFrequencies_233 : decode b_RM_layFrequencies 233 = .ok (.dup2, 1) := by decide +kernel
theorem d_RM_layFrequencies_234 : decode b_RM_layFrequencies 234 = .ok (.iaload, 1) := by decide +kernel
theorem d_RM_layFrequencies_235 : decode b_RM_layFrequencies 235 = .ok (.iconst 1, 1) := by decide +kernel
theorem d_RM_layFrequencies_236 : decode b_RM_layFrequencies 236 = .ok (.iadd, 1) := by decide +kernel
theorem d_RM_layFrequencies_237 : decode b_RM_layFrequencies 237 = .ok (.iastore, 1) := by decide +kernel
theorem d_RM_layFrequencies_238 : decode b_RM_layFrequencies 238 = .ok (.aload_n 0, 1) := by decide +kernel
theorem d_RM_layFrequencies_239 : decode b_RM_layFrequencies 239 = .ok (.getfield 60, 3) := by decide +kernel
theorem d_RM_layFrequencies_242 : decode b_RM_layFrequencies 242 = .ok (.iload 6, 2) := by decide +kernel
theorem d_RM_layFrequencies_244 : decode b_RM_layFrequencies 244 = .ok (.bipush (-9), 2) := by decide +kernel
theorem d_RM_layFrequencies_246 : decode b_RM_layFrequencies 246 = .ok (.iastore, 1) := by decide +kernel
theorem d_RM_layFrequencies_247 : decode b_RM_layFrequencies 247 = .ok (.iinc 5 1, 3) := by decide +kernel
theorem d_RM_layFrequencies_250 : decode b_RM_layFrequencies 250 = .ok (.goto (-99), 3) := by decide +kernel
theorem d_RM_layFrequencies_253 : decode b_RM_layFrequencies 253 = .ok (.iload 5, 2) := by decide +kernel
theorem d_RM_layFrequencies_255 : decode b_RM_layFrequencies 255 = .ok (.bipush 32, 2) := by decide +kernel
theorem d_RM_layFrequencies_257 : decode b_RM_layFrequencies 257 = .ok (.if_icmp .le 73, 3) := by decide +kernel
theorem d_RM_layFrequencies_260 : decode b_RM_layFrequencies 260 = .ok (.iconst 0, 1) := by decide +kernel
theorem d_RM_layFrequencies_261 : decode b_RM_layFrequencies 261 = .ok (.istore 6, 2) := by decide +kernel
theorem d_RM_layFrequencies_263 : decode b_RM_layFrequencies 263 = .ok (.iconst 1, 1) := by decide +kernel
theorem d_RM_layFrequencies_264 : decode b_RM_layFrequencies 264 = .ok (.istore 7, 2) := by decide +kernel
theorem d_RM_layFrequencies_266 : decode b_RM_layFrequencies 266 = .ok (.iload 7, 2) := by decide +kernel
theorem d_RM_layFrequencies_268 : decode b_RM_layFrequencies 268 = .ok (.aload_n 0, 1) := by decide +kernel
theorem d_RM_layFrequencies_269 : decode b_RM_layFrequencies 269 = .ok (.getfield 13, 3) := by decide +kernel
theorem d_RM_layFrequencies_272 : decode b_RM_layFrequencies 272 = .ok (.if_icmp .ge 39, 3) := by decide +kernel
theorem d_RM_layFrequencies_275 : decode b_RM_layFrequencies 275 = .ok (.aload_n 0, 1) := by decide +kernel
theorem d_RM_layFrequencies_276 : decode b_RM_layFrequencies 276 = .ok (.getfield 42, 3) := by decide +kernel
theorem d_RM_layFrequencies_279 : decode b_RM_layFrequencies 279 = .ok (.iload_n 3, 1) := by decide +kernel
theorem d_RM_layFrequencies_280 : decode b_RM_layFrequencies 280 = .ok (.iload 7, 2) := by decide +kernel
theorem d_RM_layFrequencies_282 : decode b_RM_layFrequencies 282 = .ok (.iadd, 1) := by decide +kernel
theorem d_RM_layFrequencies_283 : decode b_RM_layFrequencies 283 = .ok (.iaload, 1) := by decide +kernel
theorem d_RM_layFrequencies_284 : decode b_RM_layFrequencies 284 = .ok (.aload_n 0, 1) := by decide +kernel
theorem d_RM_layFrequencies_285 : decode b_RM_layFrequencies 285 = .ok (.getfield 42, 3) := by decide +kernel
theorem d_RM_layFrequencies_288 : decode b_RM_layFrequencies 288 = .ok (.iload_n 3, 1) := by decide +kernel
theorem d_RM_layFrequencies_289 : decode b_RM_layFrequencies 289 = .ok (.iload 6, 2) := by decide +kernel
theorem d_RM_layFrequencies_291 : decode b_RM_layFrequencies 291 = .ok (.iadd, 1) := by decide +kernel
theorem d_RM_layFrequencies_292 : decode b_RM_layFrequencies 292 = .ok (.iaload, 1) := by decide +kernel
theorem d_RM_layFrequencies_293 : decode b_RM_layFrequencies 293 = .ok (.if_icmp .lt 8, 3) := by decide +kernel
theorem d_RM_layFrequencies_296 : decode b_RM_layFrequencies 296 = .ok (.iload 7, 2) := by decide +kernel
theorem d_RM_layFrequencies_298 : decode b_RM_layFrequencies 298 = .ok (.goto 5, 3) := by decide +kernel
theorem d_RM_layFrequencies_301 : decode b_RM_layFrequencies 301 = .ok (.iload 6, 2) := by decide +kernel
theorem d_RM_layFrequencies_303 : decode b_RM_layFrequencies 303 = .ok (.istore 6, 2) := by decide +kernel
theorem d_RM_layFrequencies_305 : decode b_RM_layFrequencies 305 = .ok (.iinc 7 1, 3) := by decide +kernel
theorem d_RM_layFrequencies_308 : decode b_RM_layFrequencies 308 = .ok (.goto (-42), 3) := by decide +kernel
theorem d_RM_layFrequencies_311 : decode b_RM_layFrequencies 311 = .ok (.aload_n 0, 1) := by decide +kernel
theorem d_RM_layFrequencies_312 : decode b_RM_layFrequencies 312 = .ok (.getfield 42, 3) := by decide +kernel
theorem d_RM_layFrequencies_315 : decode b_RM_layFrequencies 315 = .ok (.iload_n 3, 1) := by decide +kernel
theorem d_RM_layFrequencies_316 : decode b_RM_layFrequencies 316 = .ok (.iload 6, 2) := by decide +kernel
theorem d_RM_layFrequencies_318 : decode b_RM_layFrequencies 318 = .ok (.iadd, 1) := by decide +kernel
theorem d_RM_layFrequencies_319 : decode b_RM_layFrequencies 319 = .ok (.dup2, 1) := by decide +kernel
theorem d_RM_layFrequencies_320 : decode b_RM_layFrequencies 320 = .ok (.iaload, 1) := by decide +kernel
theorem d_RM_layFrequencies_321 : decode b_RM_layFrequencies 321 = .ok (.iconst 1, 1) := by decide +kernel
theorem d_RM_layFrequencies_322 : decode b_RM_layFrequencies 322 = .ok (.isub, 1) := by decide +kernel
theorem d_RM_layFrequencies_323 : decode b_RM_layFrequencies 323 = .ok (.iastore, 1) := by decide +kernel
theorem d_RM_layFrequencies_324 : decode b_RM_layFrequencies 324 = .ok (.iinc 5 (-1), 3) := by decide +kernel
theorem d_RM_layFrequencies_327 : decode b_RM_layFrequencies 327 = .ok (.goto (-74), 3) := by decide +kernel
theorem d_RM_layFrequencies_330 : decode b_RM_layFrequencies 330 = .ok (.return_, 1) := by decide +kernel
def rm_RM_layFrequencies : Room := { frames := 0, cells := 0, slots := 0, locals := 0 }
theorem mf_RM_layFrequencies : zMV y_RM_layFrequencies b_RM_layFrequencies 9 none 2 := ⟨q1187, qs74, q13, q1188, by decide +kernel⟩
def F_RM_layFrequencies_266 (K : zH → Prop) (L253 : Int × zH → Prop) (L266 : Int × Int × zH → Prop) (p0 : Nat) (x3 : Int) (x5 : Int) (x6 : Int) (x7 : Int) (h : zH) : Prop :=
  (h p0 4 ≤ x7 → (zr (x3 + x6) ∧ ((0 ≤ x3 + x6 ∧ x3 + x6 < 24) ∧ (zr ((h (p0 + 9) ((x3 + x6).toNat)) - 1) ∧ ((0 ≤ x3 + x6 ∧ x3 + x6 < 24) ∧ (∀ h_5 : zH, h_5 = zs h (p0 + 9) ((x3 + x6).toNat) ((h (p0 + 9) ((x3 + x6).toNat)) - 1) → (zr (x5 + (-1)) ∧ (L253 (x5 + (-1), h_5))))))))) ∧ (x7 < h p0 4 → (zr (x3 + x7) ∧ ((0 ≤ x3 + x7 ∧ x3 + x7 < 24) ∧ (zr (x3 + x6) ∧ ((0 ≤ x3 + x6 ∧ x3 + x6 < 24) ∧ ((h (p0 + 9) ((x3 + x7).toNat) < h (p0 + 9) ((x3 + x6).toNat) → (zr (x7 + 1) ∧ (L266 (x6, x7 + 1, h)))) ∧ (h (p0 + 9) ((x3 + x6).toNat) ≤ h (p0 + 9) ((x3 + x7).toNat) → (zr (x7 + 1) ∧ (L266 (x7, x7 + 1, h))))))))))
set_option maxRecDepth 100000 in
theorem s_RM_layFrequencies_266 {Wf : Heap → List Loc → JFrame → Prop} {m : MethodId} {g : zG} {n : Nat} {H0 : Heap} (X : zX Wf m rm_RM_layFrequencies b_RM_layFrequencies "AliasStreamsModel" 9 g n H0) {K : zH → Prop} (E : zEx Wf m b_RM_layFrequencies none 9 g n H0 (zPv K)) {L253 : Int × zH → Prop} {p0 : Nat} {x3 : Int} {x5 : Int} (hL253 : ∀ q : Int × zH, L253 q → zr q.1 → zh (q.2) → zW Wf m 9 g n H0 253 [(0, .ref (g.2.2 p0)), (3, zi x3), (5, zi q.1)] [] (q.2)) (op0 : zO n p0 11) (rx3 : zr x3) (rx5 : zr x5) {q0 : Int × Int × zH} (hv0 : zLoop (fun L q => F_RM_layFrequencies_266 K L253 L p0 x3 x5 q.1 q.2.1 q.2.2) q0) : zr q0.1 → zr q0.2.1 → zh (q0.2.2) → zW Wf m 9 g n H0 266 [(0, .ref (g.2.2 p0)), (3, zi x3), (5, zi x5), (6, zi q0.1), (7, zi q0.2.1)] [] (q0.2.2) := by
  refine zLoop_use (G := fun q => zr q.1 → zr q.2.1 → zh (q.2.2) → zW Wf m 9 g n H0 266 [(0, .ref (g.2.2 p0)), (3, zi x3), (5, zi x5), (6, zi q.1), (7, zi q.2.1)] [] (q.2.2)) ?_ hv0
  rintro L266 ⟨x6, x7, h⟩ hL266 hv rx6 rx7 hh
  have hv : F_RM_layFrequencies_266 K L253 L266 p0 x3 x5 x6 x7 h := hv
  unfold F_RM_layFrequencies_266 at hv
  show zW Wf m 9 g n H0 266 [(0, .ref (g.2.2 p0)), (3, zi x3), (5, zi x5), (6, zi x6), (7, zi x7)] [] h
  refine z_iload (pc := 266) (q := 4) X d_RM_layFrequencies_266 rfl ?_
  refine z_aload_n (pc := 268) (q := 0) X d_RM_layFrequencies_268 rfl ?_
  refine z_geti (pc := 269) (j := 4) X cf_RM op0 (by decide) q1025 rfl rfl d_RM_layFrequencies_269 ?_
  refine z_icmp_ge (pc := 272) (tgt := 311) X rx7 (hh.1 _ _ (zO.ne op0 (by decide))) d_RM_layFrequencies_272 (by decide) (fun hc => ?_) (fun hc => ?_)
  · replace hv := hv.1 hc
    refine z_aload_n (pc := 311) (q := 0) X d_RM_layFrequencies_311 rfl ?_
    refine z_getr (pc := 312) (j := 16) (dd := 9) X cf_RM op0 (by decide) q1037 rfl rfl d_RM_layFrequencies_312 ?_
    refine z_iload_n (pc := 315) (q := 1) X d_RM_layFrequencies_315 rfl ?_
    refine z_iload (pc := 316) (q := 3) X d_RM_layFrequencies_316 rfl ?_
    obtain ⟨v_1, hv⟩ := hv
    refine z_iadd (pc := 318) X d_RM_layFrequencies_318 ?_
    refine z_dup2 (pc := 319) X d_RM_layFrequencies_319 rfl rfl ?_
    obtain ⟨v_2, hv⟩ := hv
    refine z_ialdj (pc := 320) (j := (x3 + x6).toNat) X (gf_RM_16 op0) (gl_RM_16 op0) v_1 v_2 rfl d_RM_layFrequencies_320 ?_
    refine z_iconst (pc := 321) X d_RM_layFrequencies_321 ?_
    obtain ⟨v_3, hv⟩ := hv
    refine z_isub (pc := 322) X d_RM_layFrequencies_322 ?_
    obtain ⟨v_4, hv⟩ := hv
    refine z_iastj (pc := 323) (j := (x3 + x6).toNat) X (gf_RM_16 op0) (gl_RM_16 op0) v_1 v_4 rfl d_RM_layFrequencies_323 ?_
    refine z_toph (fun h_5 eh_5 => ?_)
    have zh_5 : zh h_5 := by rw [eh_5]; exact zh_set hh (zO.ne (gf_RM_16 op0) (by decide)) v_3
    replace hv := hv h_5 eh_5
    obtain ⟨v_6, hv⟩ := hv
    refine z_iinc (pc := 324) (q := 2) (lv' := [(5, zi (x5 + (-1))), (0, .ref (g.2.2 p0)), (3, zi x3), (6, zi x6), (7, zi x7)]) X d_RM_layFrequencies_324 rfl (by decide) rfl ?_
    refine z_goto (pc := 327) (tgt := 253) X d_RM_layFrequencies_327 (by decide) ?_
    refine z_perm [1, 2, 0] rfl ?_
    exact hL253 _ hv v_6 zh_5
  · replace hv := hv.2 hc
    refine z_aload_n (pc := 275) (q := 0) X d_RM_layFrequencies_275 rfl ?_
    refine z_getr (pc := 276) (j := 16) (dd := 9) X cf_RM op0 (by decide) q1037 rfl rfl d_RM_layFrequencies_276 ?_
    refine z_iload_n (pc := 279) (q := 1) X d_RM_layFrequencies_279 rfl ?_
    refine z_iload (pc := 280) (q := 4) X d_RM_layFrequencies_280 rfl ?_
    obtain ⟨v_7, hv⟩ := hv
    refine z_iadd (pc := 282) X d_RM_layFrequencies_282 ?_
    obtain ⟨v_8, hv⟩ := hv
    refine z_ialdj (pc := 283) (j := (x3 + x7).toNat) X (gf_RM_16 op0) (gl_RM_16 op0) v_7 v_8 rfl d_RM_layFrequencies_283 ?_
    refine z_aload_n (pc := 284) (q := 0) X d_RM_layFrequencies_284 rfl ?_
    refine z_getr (pc := 285) (j := 16) (dd := 9) X cf_RM op0 (by decide) q1037 rfl rfl d_RM_layFrequencies_285 ?_
    refine z_iload_n (pc := 288) (q := 1) X d_RM_layFrequencies_288 rfl ?_
    refine z_iload (pc := 289) (q := 3) X d_RM_layFrequencies_289 rfl ?_
    obtain ⟨v_9, hv⟩ := hv
    refine z_iadd (pc := 291) X d_RM_layFrequencies_291 ?_
    obtain ⟨v_10, hv⟩ := hv
    refine z_ialdj (pc := 292) (j := (x3 + x6).toNat) X (gf_RM_16 op0) (gl_RM_16 op0) v_9 v_10 rfl d_RM_layFrequencies_292 ?_
    refine z_icmp_lt (pc := 293) (tgt := 301) X (hh.1 _ _ (zO.ne (gf_RM_16 op0) (by decide))) (hh.1 _ _ (zO.ne (gf_RM_16 op0) (by decide))) d_RM_layFrequencies_293 (by decide) (fun hc => ?_) (fun hc => ?_)
    · replace hv := hv.1 hc
      refine z_iload (pc := 301) (q := 3) X d_RM_layFrequencies_301 rfl ?_
      refine z_istore (pc := 303) (lv' := [(6, zi x6), (0, .ref (g.2.2 p0)), (3, zi x3), (5, zi x5), (7, zi x7)]) X d_RM_layFrequencies_303 (by decide) rfl ?_
      obtain ⟨v_11, hv⟩ := hv
      refine z_iinc (pc := 305) (q := 4) (lv' := [(7, zi (x7 + 1)), (6, zi x6), (0, .ref (g.2.2 p0)), (3, zi x3), (5, zi x5)]) X d_RM_layFrequencies_305 rfl (by decide) rfl ?_
      refine z_goto (pc := 308) (tgt := 266) X d_RM_layFrequencies_308 (by decide) ?_
      refine z_perm [2, 3, 4, 1, 0] rfl ?_
      exact hL266 _ hv rx6 v_11 hh
    · replace hv := hv.2 hc
      refine z_iload (pc := 296) (q := 4) X d_RM_layFrequencies_296 rfl ?_
      refine z_goto (pc := 298) (tgt := 303) X d_RM_layFrequencies_298 (by decide) ?_
      refine z_istore (pc := 303) (lv' := [(6, zi x7), (0, .ref (g.2.2 p0)), (3, zi x3), (5, zi x5), (7, zi x7)]) X d_RM_layFrequencies_303 (by decide) rfl ?_
      obtain ⟨v_12, hv⟩ := hv
      refine z_iinc (pc := 305) (q := 4) (lv' := [(7, zi (x7 + 1)), (6, zi x7), (0, .ref (g.2.2 p0)), (3, zi x3), (5, zi x5)]) X d_RM_layFrequencies_305 rfl (by decide) rfl ?_
      refine z_goto (pc := 308) (tgt := 266) X d_RM_layFrequencies_308 (by decide) ?_
      refine z_perm [2, 3, 4, 1, 0] rfl ?_
      exact hL266 _ hv rx7 v_12 hh
def F_RM_layFrequencies_253 (K : zH → Prop)  (L253 : Int × zH → Prop) (p0 : Nat) (x3 : Int) (x5 : Int) (h : zH) : Prop :=
  (x5 ≤ 32 → (K h)) ∧ (32 < x5 → (zLoop (fun L q => F_RM_layFrequencies_266 K L253 L p0 x3 x5 q.1 q.2.1 q.2.2) (0, 1, h)))
set_option maxRecDepth 100000 in
theorem s_RM_layFrequencies_253 {Wf : Heap → List Loc → JFrame → Prop} {m : MethodId} {g : zG} {n : Nat} {H0 : Heap} (X : zX Wf m rm_RM_layFrequencies b_RM_layFrequencies "AliasStreamsModel" 9 g n H0) {K : zH → Prop} (E : zEx Wf m b_RM_layFrequencies none 9 g n H0 (zPv K))  {p0 : Nat} {x3 : Int}  (op0 : zO n p0 11) (rx3 : zr x3) {q0 : Int × zH} (hv0 : zLoop (fun L q => F_RM_layFrequencies_253 K  L p0 x3 q.1 q.2) q0) : zr q0.1 → zh (q0.2) → zW Wf m 9 g n H0 253 [(0, .ref (g.2.2 p0)), (3, zi x3), (5, zi q0.1)] [] (q0.2) := by
  refine zLoop_use (G := fun q => zr q.1 → zh (q.2) → zW Wf m 9 g n H0 253 [(0, .ref (g.2.2 p0)), (3, zi x3), (5, zi q.1)] [] (q.2)) ?_ hv0
  rintro L253 ⟨x5, h⟩ hL253 hv rx5 hh
  have hv : F_RM_layFrequencies_253 K  L253 p0 x3 x5 h := hv
  unfold F_RM_layFrequencies_253 at hv
  show zW Wf m 9 g n H0 253 [(0, .ref (g.2.2 p0)), (3, zi x3), (5, zi x5)] [] h
  refine z_iload (pc := 253) (q := 2) X d_RM_layFrequencies_253 rfl ?_
  refine z_bipush (pc := 255) X d_RM_layFrequencies_255 (by decide) ?_
  refine z_icmp_le (pc := 257) (tgt := 330) X rx5 (show zr 32 from by decide) d_RM_layFrequencies_257 (by decide) (fun hc => ?_) (fun hc => ?_)
  · replace hv := hv.1 hc
    exact E.1 rfl _ _ _ d_RM_layFrequencies_330 ⟨rfl, hh, hv⟩
  · replace hv := hv.2 hc
    refine z_iconst (pc := 260) X d_RM_layFrequencies_260 ?_
    refine z_istore (pc := 261) (lv' := [(6, zi 0), (0, .ref (g.2.2 p0)), (3, zi x3), (5, zi x5)]) X d_RM_layFrequencies_261 (by decide) rfl ?_
    refine z_iconst (pc := 263) X d_RM_layFrequencies_263 ?_
    refine z_istore (pc := 264) (lv' := [(7, zi 1), (6, zi 0), (0, .ref (g.2.2 p0)), (3, zi x3), (5, zi x5)]) X d_RM_layFrequencies_264 (by decide) rfl ?_
    refine z_perm [2, 3, 4, 1, 0] rfl ?_
    exact s_RM_layFrequencies_266 X E hL253 op0 rx3 rx5 hv (show zr 0 from by decide) (show zr 1 from by decide) hh
def F_RM_layFrequencies_165 (K : zH → Prop) (L151 : Int × zH → Prop) (L165 : Int × Int × zH → Prop) (p0 : Nat) (x3 : Int) (x5 : Int) (x6 : Int) (x7 : Int) (h : zH) : Prop :=
  (h p0 4 ≤ x7 → (zr (x3 + x6) ∧ ((0 ≤ x3 + x6 ∧ x3 + x6 < 24) ∧ (zr ((h (p0 + 9) ((x3 + x6).toNat)) + 1) ∧ ((0 ≤ x3 + x6 ∧ x3 + x6 < 24) ∧ (∀ h_5 : zH, h_5 = zs h (p0 + 9) ((x3 + x6).toNat) ((h (p0 + 9) ((x3 + x6).toNat)) + 1) → ((0 ≤ x6 ∧ x6 < 8) ∧ (∀ h_7 : zH, h_7 = zs h_5 (p0 + 15) x6.toNat (-9) → (zr (x5 + 1) ∧ (L151 (x5 + 1, h_7))))))))))) ∧ (x7 < h p0 4 → ((0 ≤ x7 ∧ x7 < 8) ∧ ((h (p0 + 15) x7.toNat = (-9) → (zr (x7 + 1) ∧ (L165 (x6, x7 + 1, h)))) ∧ (h (p0 + 15) x7.toNat ≠ (-9) → ((x6 = (-9) → (zr (x7 + 1) ∧ (L165 (x7, x7 + 1, h)))) ∧ (x6 ≠ (-9) → ((0 ≤ x7 ∧ x7 < 8) ∧ ((0 ≤ x6 ∧ x6 < 8) ∧ ((h (p0 + 15) x7.toNat ≤ h (p0 + 15) x6.toNat → (zr (x7 + 1) ∧ (L165 (x6, x7 + 1, h)))) ∧ (h (p0 + 15) x6.toNat < h (p0 + 15) x7.toNat → (zr (x7 + 1) ∧ (L165 (x7, x7 + 1, h)))))))))))))
set_option maxRecDepth 100000 in
theorem s_RM_layFrequencies_165 {Wf : Heap → List Loc → JFrame → Prop} {m : MethodId} {g : zG} {n : Nat} {H0 : Heap} (X : zX Wf m rm_RM_layFrequencies b_RM_layFrequencies "AliasStreamsModel" 9 g n H0) {K : zH → Prop} (E : zEx Wf m b_RM_layFrequencies none 9 g n H0 (zPv K)) {L151 : Int × zH → Prop} {p0 : Nat} {x3 : Int} {x5 : Int} (hL151 : ∀ q : Int × zH, L151 q → zr q.1 → zh (q.2) → zW Wf m 9 g n H0 151 [(0, .ref (g.2.2 p0)), (3, zi x3), (5, zi q.1)] [] (q.2)) (op0 : zO n p0 11) (rx3 : zr x3) (rx5 : zr x5) {q0 : Int × Int × zH} (hv0 : zLoop (fun L q => F_RM_layFrequencies_165 K L151 L p0 x3 x5 q.1 q.2.1 q.2.2) q0) : zr q0.1 → zr q0.2.1 → zh (q0.2.2) → zW Wf m 9 g n H0 165 [(0, .ref (g.2.2 p0)), (3, zi x3), (5, zi x5), (6, zi q0.1), (7, zi q0.2.1)] [] (q0.2.2) := by
  refine zLoop_use (G := fun q => zr q.1 → zr q.2.1 → zh (q.2.2) → zW Wf m 9 g n H0 165 [(0, .ref (g.2.2 p0)), (3, zi x3), (5, zi x5), (6, zi q.1), (7, zi q.2.1)] [] (q.2.2)) ?_ hv0
  rintro L165 ⟨x6, x7, h⟩ hL165 hv rx6 rx7 hh
  have hv : F_RM_layFrequencies_165 K L151 L165 p0 x3 x5 x6 x7 h := hv
  unfold F_RM_layFrequencies_165 at hv
  show zW Wf m 9 g n H0 165 [(0, .ref (g.2.2 p0)), (3, zi x3), (5, zi x5), (6, zi x6), (7, zi x7)] [] h
  refine z_iload (pc := 165) (q := 4) X d_RM_layFrequencies_165 rfl ?_
  refine z_aload_n (pc := 167) (q := 0) X d_RM_layFrequencies_167 rfl ?_
  refine z_geti (pc := 168) (j := 4) X cf_RM op0 (by decide) q1025 rfl rfl d_RM_layFrequencies_168 ?_
  refine z_icmp_ge (pc := 171) (tgt := 225) X rx7 (hh.1 _ _ (zO.ne op0 (by decide))) d_RM_layFrequencies_171 (by decide) (fun hc => ?_) (fun hc => ?_)
  · replace hv := hv.1 hc
    refine z_aload_n (pc := 225) (q := 0) X d_RM_layFrequencies_225 rfl ?_
    refine z_getr (pc := 226) (j := 16) (dd := 9) X cf_RM op0 (by decide) q1037 rfl rfl d_RM_layFrequencies_226 ?_
    refine z_iload_n (pc := 229) (q := 1) X d_RM_layFrequencies_229 rfl ?_
    refine z_iload (pc := 230) (q := 3) X d_RM_layFrequencies_230 rfl ?_
    obtain ⟨v_1, hv⟩ := hv
    refine z_iadd (pc := 232) X d_RM_layFrequencies_232 ?_
    refine z_dup2 (pc := 233) X d_RM_layFrequencies_233 rfl rfl ?_
    obtain ⟨v_2, hv⟩ := hv
    refine z_ialdj (pc := 234) (j := (x3 + x6).toNat) X (gf_RM_16 op0) (gl_RM_16 op0) v_1 v_2 rfl d_RM_layFrequencies_234 ?_
    refine z_iconst (pc := 235) X d_RM_layFrequencies_235 ?_
    obtain ⟨v_3, hv⟩ := hv
    refine z_iadd (pc := 236) X d_RM_layFrequencies_236 ?_
    obtain ⟨v_4, hv⟩ := hv
    refine z_iastj (pc := 237) (j := (x3 + x6).toNat) X (gf_RM_16 op0) (gl_RM_16 op0) v_1 v_4 rfl d_RM_layFrequencies_237 ?_
    refine z_toph (fun h_5 eh_5 => ?_)
    have zh_5 : zh h_5 := by rw [eh_5]; exact zh_set hh (zO.ne (gf_RM_16 op0) (by decide)) v_3
    replace hv := hv h_5 eh_5
    refine z_aload_n (pc := 238) (q := 0) X d_RM_layFrequencies_238 rfl ?_
    refine z_getr (pc := 239) (j := 22) (dd := 15) X cf_RM op0 (by decide) q1043 rfl rfl d_RM_layFrequencies_239 ?_
    refine z_iload (pc := 242) (q := 3) X d_RM_layFrequencies_242 rfl ?_
    refine z_bipush (pc := 244) X d_RM_layFrequencies_244 (by decide) ?_
    obtain ⟨v_6, hv⟩ := hv
    refine z_iastj (pc := 246) (j := x6.toNat) X (gf_RM_22 op0) (gl_RM_22 op0) rx6 v_6 rfl d_RM_layFrequencies_246 ?_
    refine z_toph (fun h_7 eh_7 => ?_)
    have zh_7 : zh h_7 := by rw [eh_7]; exact zh_set zh_5 (zO.ne (gf_RM_22 op0) (by decide)) (show zr (-9) from by decide)
    replace hv := hv h_7 eh_7
    obtain ⟨v_8, hv⟩ := hv
    refine z_iinc (pc := 247) (q := 2) (lv' := [(5, zi (x5 + 1)), (0, .ref (g.2.2 p0)), (3, zi x3), (6, zi x6), (7, zi x7)]) X d_RM_layFrequencies_247 rfl (by decide) rfl ?_
    refine z_goto (pc := 250) (tgt := 151) X d_RM_layFrequencies_250 (by decide) ?_
    refine z_perm [1, 2, 0] rfl ?_
    exact hL151 _ hv v_8 zh_7
  · replace hv := hv.2 hc
    refine z_aload_n (pc := 174) (q := 0) X d_RM_layFrequencies_174 rfl ?_
    refine z_getr (pc := 175) (j := 22) (dd := 15) X cf_RM op0 (by decide) q1043 rfl rfl d_RM_layFrequencies_175 ?_
    refine z_iload (pc := 178) (q := 4) X d_RM_layFrequencies_178 rfl ?_
    obtain ⟨v_9, hv⟩ := hv
    refine z_ialdj (pc := 180) (j := x7.toNat) X (gf_RM_22 op0) (gl_RM_22 op0) rx7 v_9 rfl d_RM_layFrequencies_180 ?_
    refine z_bipush (pc := 181) X d_RM_layFrequencies_181 (by decide) ?_
    refine z_icmp_eq (pc := 183) (tgt := 215) X (hh.1 _ _ (zO.ne (gf_RM_22 op0) (by decide))) (show zr (-9) from by decide) d_RM_layFrequencies_183 (by decide) (fun hc => ?_) (fun hc => ?_)
    · replace hv := hv.1 hc
      refine z_iload (pc := 215) (q := 3) X d_RM_layFrequencies_215 rfl ?_
      refine z_istore (pc := 217) (lv' := [(6, zi x6), (0, .ref (g.2.2 p0)), (3, zi x3), (5, zi x5), (7, zi x7)]) X d_RM_layFrequencies_217 (by decide) rfl ?_
      obtain ⟨v_10, hv⟩ := hv
      refine z_iinc (pc := 219) (q := 4) (lv' := [(7, zi (x7 + 1)), (6, zi x6), (0, .ref (g.2.2 p0)), (3, zi x3), (5, zi x5)]) X d_RM_layFrequencies_219 rfl (by decide) rfl ?_
      refine z_goto (pc := 222) (tgt := 165) X d_RM_layFrequencies_222 (by decide) ?_
      refine z_perm [2, 3, 4, 1, 0] rfl ?_
      exact hL165 _ hv rx6 v_10 hh
    · replace hv := hv.2 hc
      refine z_iload (pc := 186) (q := 3) X d_RM_layFrequencies_186 rfl ?_
      refine z_bipush (pc := 188) X d_RM_layFrequencies_188 (by decide) ?_
      refine z_icmp_eq (pc := 190) (tgt := 210) X rx6 (show zr (-9) from by decide) d_RM_layFrequencies_190 (by decide) (fun hc => ?_) (fun hc => ?_)
      · replace hv := hv.1 hc
        refine z_iload (pc := 210) (q := 4) X d_RM_layFrequencies_210 rfl ?_
        refine z_goto (pc := 212) (tgt := 217) X d_RM_layFrequencies_212 (by decide) ?_
        refine z_istore (pc := 217) (lv' := [(6, zi x7), (0, .ref (g.2.2 p0)), (3, zi x3), (5, zi x5), (7, zi x7)]) X d_RM_layFrequencies_217 (by decide) rfl ?_
        obtain ⟨v_11, hv⟩ := hv
        refine z_iinc (pc := 219) (q := 4) (lv' := [(7, zi (x7 + 1)), (6, zi x7), (0, .ref (g.2.2 p0)), (3, zi x3), (5, zi x5)]) X d_RM_layFrequencies_219 rfl (by decide) rfl ?_
        refine z_goto (pc := 222) (tgt := 165) X d_RM_layFrequencies_222 (by decide) ?_
        refine z_perm [2, 3, 4, 1, 0] rfl ?_
        exact hL165 _ hv rx7 v_11 hh
      · replace hv := hv.2 hc
        refine z_aload_n (pc := 193) (q := 0) X d_RM_layFrequencies_193 rfl ?_
        refine z_getr (pc := 194) (j := 22) (dd := 15) X cf_RM op0 (by decide) q1043 rfl rfl d_RM_layFrequencies_194 ?_
        refine z_iload (pc := 197) (q := 4) X d_RM_layFrequencies_197 rfl ?_
        obtain ⟨v_12, hv⟩ := hv
        refine z_ialdj (pc := 199) (j := x7.toNat) X (gf_RM_22 op0) (gl_RM_22 op0) rx7 v_12 rfl d_RM_layFrequencies_199 ?_
        refine z_aload_n (pc := 200) (q := 0) X d_RM_layFrequencies_200 rfl ?_
        refine z_getr (pc := 201) (j := 22) (dd := 15) X cf_RM op0 (by decide) q1043 rfl rfl d_RM_layFrequencies_201 ?_
        refine z_iload (pc := 204) (q := 3) X d_RM_layFrequencies_204 rfl ?_
        obtain ⟨v_13, hv⟩ := hv
        refine z_ialdj (pc := 206) (j := x6.toNat) X (gf_RM_22 op0) (gl_RM_22 op0) rx6 v_13 rfl d_RM_layFrequencies_206 ?_
        refine z_icmp_le (pc := 207) (tgt := 215) X (hh.1 _ _ (zO.ne (gf_RM_22 op0) (by decide))) (hh.1 _ _ (zO.ne (gf_RM_22 op0) (by decide))) d_RM_layFrequencies_207 (by decide) (fun hc => ?_) (fun hc => ?_)
        · replace hv := hv.1 hc
          refine z_iload (pc := 215) (q := 3) X d_RM_layFrequencies_215 rfl ?_
          refine z_istore (pc := 217) (lv' := [(6, zi x6), (0, .ref (g.2.2 p0)), (3, zi x3), (5, zi x5), (7, zi x7)]) X d_RM_layFrequencies_217 (by decide) rfl ?_
          obtain ⟨v_14, hv⟩ := hv
          refine z_iinc (pc := 219) (q := 4) (lv' := [(7, zi (x7 + 1)), (6, zi x6), (0, .ref (g.2.2 p0)), (3, zi x3), (5, zi x5)]) X d_RM_layFrequencies_219 rfl (by decide) rfl ?_
          refine z_goto (pc := 222) (tgt := 165) X d_RM_layFrequencies_222 (by decide) ?_
          refine z_perm [2, 3, 4, 1, 0] rfl ?_
          exact hL165 _ hv rx6 v_14 hh
        · replace hv := hv.2 hc
          refine z_iload (pc := 210) (q := 4) X d_RM_layFrequencies_210 rfl ?_
          refine z_goto (pc := 212) (tgt := 217) X d_RM_layFrequencies_212 (by decide) ?_
          refine z_istore (pc := 217) (lv' := [(6, zi x7), (0, .ref (g.2.2 p0)), (3, zi x3), (5, zi x5), (7, zi x7)]) X d_RM_layFrequencies_217 (by decide) rfl ?_
          obtain ⟨v_15, hv⟩ := hv
          refine z_iinc (pc := 219) (q := 4) (lv' := [(7, zi (x7 + 1)), (6, zi x7), (0, .ref (g.2.2 p0)), (3, zi x3), (5, zi x5)]) X d_RM_layFrequencies_219 rfl (by decide) rfl ?_
          refine z_goto (pc := 222) (tgt := 165) X d_RM_layFrequencies_222 (by decide) ?_
          refine z_perm [2, 3, 4, 1, 0] rfl ?_
          exact hL165 _ hv rx7 v_15 hh
def F_RM_layFrequencies_151 (K : zH → Prop)  (L151 : Int × zH → Prop) (p0 : Nat) (x3 : Int) (x5 : Int) (h : zH) : Prop :=
  (32 ≤ x5 → (zLoop (fun L q => F_RM_layFrequencies_253 K  L p0 x3 q.1 q.2) (x5, h))) ∧ (x5 < 32 → (zLoop (fun L q => F_RM_layFrequencies_165 K L151 L p0 x3 x5 q.1 q.2.1 q.2.2) ((-9), 0, h)))
set_option maxRecDepth 100000 in
theorem s_RM_layFrequencies_151 {Wf : Heap → List Loc → JFrame → Prop} {m : MethodId} {g : zG} {n : Nat} {H0 : Heap} (X : zX Wf m rm_RM_layFrequencies b_RM_layFrequencies "AliasStreamsModel" 9 g n H0) {K : zH → Prop} (E : zEx Wf m b_RM_layFrequencies none 9 g n H0 (zPv K))  {p0 : Nat} {x3 : Int}  (op0 : zO n p0 11) (rx3 : zr x3) {q0 : Int × zH} (hv0 : zLoop (fun L q => F_RM_layFrequencies_151 K  L p0 x3 q.1 q.2) q0) : zr q0.1 → zh (q0.2) → zW Wf m 9 g n H0 151 [(0, .ref (g.2.2 p0)), (3, zi x3), (5, zi q0.1)] [] (q0.2) := by
  refine zLoop_use (G := fun q => zr q.1 → zh (q.2) → zW Wf m 9 g n H0 151 [(0, .ref (g.2.2 p0)), (3, zi x3), (5, zi q.1)] [] (q.2)) ?_ hv0
  rintro L151 ⟨x5, h⟩ hL151 hv rx5 hh
  have hv : F_RM_layFrequencies_151 K  L151 p0 x3 x5 h := hv
  unfold F_RM_layFrequencies_151 at hv
  show zW Wf m 9 g n H0 151 [(0, .ref (g.2.2 p0)), (3, zi x3), (5, zi x5)] [] h
  refine z_iload (pc := 151) (q := 2) X d_RM_layFrequencies_151 rfl ?_
  refine z_bipush (pc := 153) X d_RM_layFrequencies_153 (by decide) ?_
  refine z_icmp_ge (pc := 155) (tgt := 253) X rx5 (show zr 32 from by decide) d_RM_layFrequencies_155 (by decide) (fun hc => ?_) (fun hc => ?_)
  · replace hv := hv.1 hc
    exact s_RM_layFrequencies_253 X E  op0 rx3 hv rx5 hh
  · replace hv := hv.2 hc
    refine z_bipush (pc := 158) X d_RM_layFrequencies_158 (by decide) ?_
    refine z_istore (pc := 160) (lv' := [(6, zi (-9)), (0, .ref (g.2.2 p0)), (3, zi x3), (5, zi x5)]) X d_RM_layFrequencies_160 (by decide) rfl ?_
    refine z_iconst (pc := 162) X d_RM_layFrequencies_162 ?_
    refine z_istore (pc := 163) (lv' := [(7, zi 0), (6, zi (-9)), (0, .ref (g.2.2 p0)), (3, zi x3), (5, zi x5)]) X d_RM_layFrequencies_163 (by decide) rfl ?_
    refine z_perm [2, 3, 4, 1, 0] rfl ?_
    exact s_RM_layFrequencies_165 X E hL151 op0 rx3 rx5 hv (show zr (-9) from by decide) (show zr 0 from by decide) hh
def B_RM_layFrequencies_105 (K : zH → Prop) (L43 : Int × Int × zH → Prop) (p0 : Nat) (p1 : Nat) (x3 : Int) (x4 : Int) (x5 : Int) (x6 : Int) (x7 : Int) (w0 : Nat) (u1 : Int) (u2 : Int) (h : zH) : Prop :=
  (0 ≤ u1 ∧ u1 < ((zln w0 : Nat) : Int)) ∧ (∀ h_2 : zH, h_2 = zs h w0 u1.toNat u2 → (zr (x3 + x6) ∧ ((0 ≤ x3 + x6 ∧ x3 + x6 < 24) ∧ (zr (x5 + (h_2 (p0 + 9) ((x3 + x6).toNat))) ∧ ((∀ x5_6 : Int, x5_6 = x5 + (h_2 (p0 + 9) ((x3 + x6).toNat)) → ((x7 ≤ 0 → ((0 ≤ x6 ∧ x6 < 8) ∧ (∀ h_8 : zH, h_8 = zs h_2 (p0 + 15) x6.toNat (-9) → (zr (x6 + 1) ∧ (L43 (x5_6, x6 + 1, h_8)))))) ∧ (0 < x7 → (zr (32 * x7) ∧ ((0 ≤ 32 * x7 ∧ 0 < x4) ∧ ((0 ≤ x6 ∧ x6 < 8) ∧ (∀ h_13 : zH, h_13 = zs h_2 (p0 + 15) x6.toNat ((32 * x7) % x4) → (zr (x6 + 1) ∧ (L43 (x5_6, x6 + 1, h_13)))))))))))))))
set_option maxRecDepth 100000 in
theorem s_RM_layFrequencies_105 {Wf : Heap → List Loc → JFrame → Prop} {m : MethodId} {g : zG} {n : Nat} {H0 : Heap} (X : zX Wf m rm_RM_layFrequencies b_RM_layFrequencies "AliasStreamsModel" 9 g n H0) {K : zH → Prop} (E : zEx Wf m b_RM_layFrequencies none 9 g n H0 (zPv K)) {L43 : Int × Int × zH → Prop} {p0 : Nat} {p1 : Nat} {x3 : Int} {x4 : Int} {x5 : Int} {x6 : Int} {x7 : Int} (hL43 : ∀ q : Int × Int × zH, L43 q → zr q.1 → zr q.2.1 → zh (q.2.2) → zW Wf m 9 g n H0 43 [(0, .ref (g.2.2 p0)), (1, .ref (g.2.2 p1)), (3, zi x3), (4, zi x4), (5, zi q.1), (6, zi q.2.1)] [] (q.2.2)) (op0 : zO n p0 11) (op1 : zO n p1 12) (rx3 : zr x3) (rx4 : zr x4) (rx5 : zr x5) (rx6 : zr x6) (rx7 : zr x7) {w0 : Nat} {u1 : Int} {u2 : Int} (ow0 : zO n w0 12) (ru1 : zr u1) (ru2 : zr u2) {h : zH} (hh : zh h) (hv : B_RM_layFrequencies_105 K L43 p0 p1 x3 x4 x5 x6 x7 w0 u1 u2 h) : zW Wf m 9 g n H0 105 [(0, .ref (g.2.2 p0)), (1, .ref (g.2.2 p1)), (3, zi x3), (4, zi x4), (5, zi x5), (6, zi x6), (7, zi x7)] [zi u2, zi u1, .ref (g.2.2 w0)] h := by
  unfold B_RM_layFrequencies_105 at hv
  obtain ⟨v_1, hv⟩ := hv
  refine z_iastj (pc := 105) (j := u1.toNat) X ow0 rfl ru1 v_1 rfl d_RM_layFrequencies_105 ?_
  refine z_toph (fun h_2 eh_2 => ?_)
  have zh_2 : zh h_2 := by rw [eh_2]; exact zh_set hh (zO.ne ow0 (by decide)) ru2
  replace hv := hv h_2 eh_2
  refine z_iload (pc := 106) (q := 4) X d_RM_layFrequencies_106 rfl ?_
  refine z_aload_n (pc := 108) (q := 0) X d_RM_layFrequencies_108 rfl ?_
  refine z_getr (pc := 109) (j := 16) (dd := 9) X cf_RM op0 (by decide) q1037 rfl rfl d_RM_layFrequencies_109 ?_
  refine z_iload_n (pc := 112) (q := 2) X d_RM_layFrequencies_112 rfl ?_
  refine z_iload (pc := 113) (q := 5) X d_RM_layFrequencies_113 rfl ?_
  obtain ⟨v_3, hv⟩ := hv
  refine z_iadd (pc := 115) X d_RM_layFrequencies_115 ?_
  obtain ⟨v_4, hv⟩ := hv
  refine z_ialdj (pc := 116) (j := (x3 + x6).toNat) X (gf_RM_16 op0) (gl_RM_16 op0) v_3 v_4 rfl d_RM_layFrequencies_116 ?_
  obtain ⟨v_5, hv⟩ := hv
  refine z_iadd (pc := 117) X d_RM_layFrequencies_117 ?_
  refine z_topi (fun x5_6 ex5_6 => ?_)
  have rx5_6 : zr x5_6 := by rw [ex5_6]; exact v_5
  replace hv := hv x5_6 ex5_6
  refine z_istore (pc := 118) (lv' := [(5, zi x5_6), (0, .ref (g.2.2 p0)), (1, .ref (g.2.2 p1)), (3, zi x3), (4, zi x4), (6, zi x6), (7, zi x7)]) X d_RM_layFrequencies_118 (by decide) rfl ?_
  refine z_aload_n (pc := 120) (q := 1) X d_RM_layFrequencies_120 rfl ?_
  refine z_getr (pc := 121) (j := 22) (dd := 15) X cf_RM op0 (by decide) q1043 rfl rfl d_RM_layFrequencies_121 ?_
  refine z_iload (pc := 124) (q := 5) X d_RM_layFrequencies_124 rfl ?_
  refine z_iload (pc := 126) (q := 6) X d_RM_layFrequencies_126 rfl ?_
  refine z_if_le (pc := 128) (tgt := 142) X rx7 d_RM_layFrequencies_128 (by decide) (fun hc => ?_) (fun hc => ?_)
  · replace hv := hv.1 hc
    refine z_bipush (pc := 142) X d_RM_layFrequencies_142 (by decide) ?_
    obtain ⟨v_7, hv⟩ := hv
    refine z_iastj (pc := 144) (j := x6.toNat) X (gf_RM_22 op0) (gl_RM_22 op0) rx6 v_7 rfl d_RM_layFrequencies_144 ?_
    refine z_toph (fun h_8 eh_8 => ?_)
    have zh_8 : zh h_8 := by rw [eh_8]; exact zh_set zh_2 (zO.ne (gf_RM_22 op0) (by decide)) (show zr (-9) from by decide)
    replace hv := hv h_8 eh_8
    obtain ⟨v_9, hv⟩ := hv
    refine z_iinc (pc := 145) (q := 5) (lv' := [(6, zi (x6 + 1)), (5, zi x5_6), (0, .ref (g.2.2 p0)), (1, .ref (g.2.2 p1)), (3, zi x3), (4, zi x4), (7, zi x7)]) X d_RM_layFrequencies_145 rfl (by decide) rfl ?_
    refine z_goto (pc := 148) (tgt := 43) X d_RM_layFrequencies_148 (by decide) ?_
    refine z_perm [2, 3, 4, 5, 1, 0] rfl ?_
    exact hL43 _ hv rx5_6 v_9 zh_8
  · replace hv := hv.2 hc
    refine z_bipush (pc := 131) X d_RM_layFrequencies_131 (by decide) ?_
    refine z_iload (pc := 133) (q := 6) X d_RM_layFrequencies_133 rfl ?_
    obtain ⟨v_10, hv⟩ := hv
    refine z_imul (pc := 135) X d_RM_layFrequencies_135 ?_
    refine z_iload (pc := 136) (q := 4) X d_RM_layFrequencies_136 rfl ?_
    obtain ⟨v_11, hv⟩ := hv
    refine z_irem (pc := 138) X v_10 rx4 v_11.1 v_11.2 d_RM_layFrequencies_138 ?_
    refine z_goto (pc := 139) (tgt := 144) X d_RM_layFrequencies_139 (by decide) ?_
    obtain ⟨v_12, hv⟩ := hv
    refine z_iastj (pc := 144) (j := x6.toNat) X (gf_RM_22 op0) (gl_RM_22 op0) rx6 v_12 rfl d_RM_layFrequencies_144 ?_
    refine z_toph (fun h_13 eh_13 => ?_)
    have zh_13 : zh h_13 := by rw [eh_13]; exact zh_set zh_2 (zO.ne (gf_RM_22 op0) (by decide)) (zr_rem rx4 v_11.2)
    replace hv := hv h_13 eh_13
    obtain ⟨v_14, hv⟩ := hv
    refine z_iinc (pc := 145) (q := 5) (lv' := [(6, zi (x6 + 1)), (5, zi x5_6), (0, .ref (g.2.2 p0)), (1, .ref (g.2.2 p1)), (3, zi x3), (4, zi x4), (7, zi x7)]) X d_RM_layFrequencies_145 rfl (by decide) rfl ?_
    refine z_goto (pc := 148) (tgt := 43) X d_RM_layFrequencies_148 (by decide) ?_
    refine z_perm [2, 3, 4, 5, 1, 0] rfl ?_
    exact hL43 _ hv rx5_6 v_14 zh_13
def B_RM_layFrequencies_103 (K : zH → Prop) (L43 : Int × Int × zH → Prop) (p0 : Nat) (p1 : Nat) (x3 : Int) (x4 : Int) (x5 : Int) (x6 : Int) (x7 : Int) (x8 : Int) (w0 : Nat) (u1 : Int) (h : zH) : Prop :=
  B_RM_layFrequencies_105 K L43 p0 p1 x3 x4 x5 x6 x7 w0 u1 x8 h
set_option maxRecDepth 100000 in
theorem s_RM_layFrequencies_103 {Wf : Heap → List Loc → JFrame → Prop} {m : MethodId} {g : zG} {n : Nat} {H0 : Heap} (X : zX Wf m rm_RM_layFrequencies b_RM_layFrequencies "AliasStreamsModel" 9 g n H0) {K : zH → Prop} (E : zEx Wf m b_RM_layFrequencies none 9 g n H0 (zPv K)) {L43 : Int × Int × zH → Prop} {p0 : Nat} {p1 : Nat} {x3 : Int} {x4 : Int} {x5 : Int} {x6 : Int} {x7 : Int} {x8 : Int} (hL43 : ∀ q : Int × Int × zH, L43 q → zr q.1 → zr q.2.1 → zh (q.2.2) → zW Wf m 9 g n H0 43 [(0, .ref (g.2.2 p0)), (1, .ref (g.2.2 p1)), (3, zi x3), (4, zi x4), (5, zi q.1), (6, zi q.2.1)] [] (q.2.2)) (op0 : zO n p0 11) (op1 : zO n p1 12) (rx3 : zr x3) (rx4 : zr x4) (rx5 : zr x5) (rx6 : zr x6) (rx7 : zr x7) (rx8 : zr x8) {w0 : Nat} {u1 : Int} (ow0 : zO n w0 12) (ru1 : zr u1) {h : zH} (hh : zh h) (hv : B_RM_layFrequencies_103 K L43 p0 p1 x3 x4 x5 x6 x7 x8 w0 u1 h) : zW Wf m 9 g n H0 103 [(0, .ref (g.2.2 p0)), (1, .ref (g.2.2 p1)), (3, zi x3), (4, zi x4), (5, zi x5), (6, zi x6), (7, zi x7), (8, zi x8)] [zi u1, .ref (g.2.2 w0)] h := by
  unfold B_RM_layFrequencies_103 at hv
  refine z_iload (pc := 103) (q := 7) X d_RM_layFrequencies_103 rfl ?_
  refine z_perm [0, 1, 2, 3, 4, 5, 6] rfl ?_
  exact s_RM_layFrequencies_105 X E hL43 op0 op1 rx3 rx4 rx5 rx6 rx7 ow0 ru1 rx8 hh hv
def B_RM_layFrequencies_69 (K : zH → Prop) (L43 : Int × Int × zH → Prop) (p0 : Nat) (p1 : Nat) (x3 : Int) (x4 : Int) (x5 : Int) (x6 : Int) (u0 : Int) (h : zH) : Prop :=
  zr (32 * u0) ∧ ((0 ≤ 32 * u0 ∧ 0 < x4) ∧ ((∀ x8_3 : Int, x8_3 = (32 * u0) / x4 → (zr (x3 + x6) ∧ ((u0 ≤ 0 → (B_RM_layFrequencies_103 K L43 p0 p1 x3 x4 x5 x6 u0 x8_3 (p0 + 9) (x3 + x6) h)) ∧ (0 < u0 → ((x8_3 ≠ 0 → (B_RM_layFrequencies_103 K L43 p0 p1 x3 x4 x5 x6 u0 x8_3 (p0 + 9) (x3 + x6) h)) ∧ (x8_3 = 0 → (B_RM_layFrequencies_105 K L43 p0 p1 x3 x4 x5 x6 u0 (p0 + 9) (x3 + x6) 1 h)))))))))
set_option maxRecDepth 100000 in
theorem s_RM_layFrequencies_69 {Wf : Heap → List Loc → JFrame → Prop} {m : MethodId} {g : zG} {n : Nat} {H0 : Heap} (X : zX Wf m rm_RM_layFrequencies b_RM_layFrequencies "AliasStreamsModel" 9 g n H0) {K : zH → Prop} (E : zEx Wf m b_RM_layFrequencies none 9 g n H0 (zPv K)) {L43 : Int × Int × zH → Prop} {p0 : Nat} {p1 : Nat} {x3 : Int} {x4 : Int} {x5 : Int} {x6 : Int} (hL43 : ∀ q : Int × Int × zH, L43 q → zr q.1 → zr q.2.1 → zh (q.2.2) → zW Wf m 9 g n H0 43 [(0, .ref (g.2.2 p0)), (1, .ref (g.2.2 p1)), (3, zi x3), (4, zi x4), (5, zi q.1), (6, zi q.2.1)] [] (q.2.2)) (op0 : zO n p0 11) (op1 : zO n p1 12) (rx3 : zr x3) (rx4 : zr x4) (rx5 : zr x5) (rx6 : zr x6) {u0 : Int} (ru0 : zr u0) {h : zH} (hh : zh h) (hv : B_RM_layFrequencies_69 K L43 p0 p1 x3 x4 x5 x6 u0 h) : zW Wf m 9 g n H0 69 [(0, .ref (g.2.2 p0)), (1, .ref (g.2.2 p1)), (3, zi x3), (4, zi x4), (5, zi x5), (6, zi x6)] [zi u0] h := by
  unfold B_RM_layFrequencies_69 at hv
  refine z_istore (pc := 69) (lv' := [(7, zi u0), (0, .ref (g.2.2 p0)), (1, .ref (g.2.2 p1)), (3, zi x3), (4, zi x4), (5, zi x5), (6, zi x6)]) X d_RM_layFrequencies_69 (by decide) rfl ?_
  refine z_bipush (pc := 71) X d_RM_layFrequencies_71 (by decide) ?_
  refine z_iload (pc := 73) (q := 0) X d_RM_layFrequencies_73 rfl ?_
  obtain ⟨v_1, hv⟩ := hv
  refine z_imul (pc := 75) X d_RM_layFrequencies_75 ?_
  refine z_iload (pc := 76) (q := 4) X d_RM_layFrequencies_76 rfl ?_
  obtain ⟨v_2, hv⟩ := hv
  refine z_idiv (pc := 78) X v_1 rx4 v_2.1 v_2.2 d_RM_layFrequencies_78 ?_
  refine z_topi (fun x8_3 ex8_3 => ?_)
  have rx8_3 : zr x8_3 := by rw [ex8_3]; exact (zr_div v_1 v_2.1 v_2.2)
  replace hv := hv x8_3 ex8_3
  refine z_istore (pc := 79) (lv' := [(8, zi x8_3), (7, zi u0), (0, .ref (g.2.2 p0)), (1, .ref (g.2.2 p1)), (3, zi x3), (4, zi x4), (5, zi x5), (6, zi x6)]) X d_RM_layFrequencies_79 (by decide) rfl ?_
  refine z_aload_n (pc := 81) (q := 2) X d_RM_layFrequencies_81 rfl ?_
  refine z_getr (pc := 82) (j := 16) (dd := 9) X cf_RM op0 (by decide) q1037 rfl rfl d_RM_layFrequencies_82 ?_
  refine z_iload_n (pc := 85) (q := 4) X d_RM_layFrequencies_85 rfl ?_
  refine z_iload (pc := 86) (q := 7) X d_RM_layFrequencies_86 rfl ?_
  obtain ⟨v_4, hv⟩ := hv
  refine z_iadd (pc := 88) X d_RM_layFrequencies_88 ?_
  refine z_iload (pc := 89) (q := 1) X d_RM_layFrequencies_89 rfl ?_
  refine z_if_le (pc := 91) (tgt := 103) X ru0 d_RM_layFrequencies_91 (by decide) (fun hc => ?_) (fun hc => ?_)
  · replace hv := hv.1 hc
    refine z_perm [2, 3, 4, 5, 6, 7, 1, 0] rfl ?_
    exact s_RM_layFrequencies_103 X E hL43 op0 op1 rx3 rx4 rx5 rx6 ru0 rx8_3 (gf_RM_16 op0) v_4 hh hv
  · replace hv := hv.2 hc
    refine z_iload (pc := 94) (q := 0) X d_RM_layFrequencies_94 rfl ?_
    refine z_if_ne (pc := 96) (tgt := 103) X rx8_3 d_RM_layFrequencies_96 (by decide) (fun hc => ?_) (fun hc => ?_)
    · replace hv := hv.1 hc
      refine z_perm [2, 3, 4, 5, 6, 7, 1, 0] rfl ?_
      exact s_RM_layFrequencies_103 X E hL43 op0 op1 rx3 rx4 rx5 rx6 ru0 rx8_3 (gf_RM_16 op0) v_4 hh hv
    · replace hv := hv.2 hc
      refine z_iconst (pc := 99) X d_RM_layFrequencies_99 ?_
      refine z_goto (pc := 100) (tgt := 105) X d_RM_layFrequencies_100 (by decide) ?_
      refine z_perm [2, 3, 4, 5, 6, 7, 1] rfl ?_
      exact s_RM_layFrequencies_105 X E hL43 op0 op1 rx3 rx4 rx5 rx6 ru0 (gf_RM_16 op0) v_4 (show zr 1 from by decide) hh hv
def F_RM_layFrequencies_43 (K : zH → Prop)  (L43 : Int × Int × zH → Prop) (p0 : Nat) (p1 : Nat) (x3 : Int) (x4 : Int) (x5 : Int) (x6 : Int) (h : zH) : Prop :=
  (8 ≤ x6 → (zLoop (fun L q => F_RM_layFrequencies_151 K  L p0 x3 q.1 q.2) (x5, h))) ∧ (x6 < 8 → ((h p0 4 ≤ x6 → (B_RM_layFrequencies_69 K L43 p0 p1 x3 x4 x5 x6 0 h)) ∧ (x6 < h p0 4 → (zr (x3 + x6) ∧ ((0 ≤ x3 + x6 ∧ x3 + x6 < ((zln p1 : Nat) : Int)) ∧ (B_RM_layFrequencies_69 K L43 p0 p1 x3 x4 x5 x6 (h p1 ((x3 + x6).toNat)) h))))))
set_option maxRecDepth 100000 in
theorem s_RM_layFrequencies_43 {Wf : Heap → List Loc → JFrame → Prop} {m : MethodId} {g : zG} {n : Nat} {H0 : Heap} (X : zX Wf m rm_RM_layFrequencies b_RM_layFrequencies "AliasStreamsModel" 9 g n H0) {K : zH → Prop} (E : zEx Wf m b_RM_layFrequencies none 9 g n H0 (zPv K))  {p0 : Nat} {p1 : Nat} {x3 : Int} {x4 : Int}  (op0 : zO n p0 11) (op1 : zO n p1 12) (rx3 : zr x3) (rx4 : zr x4) {q0 : Int × Int × zH} (hv0 : zLoop (fun L q => F_RM_layFrequencies_43 K  L p0 p1 x3 x4 q.1 q.2.1 q.2.2) q0) : zr q0.1 → zr q0.2.1 → zh (q0.2.2) → zW Wf m 9 g n H0 43 [(0, .ref (g.2.2 p0)), (1, .ref (g.2.2 p1)), (3, zi x3), (4, zi x4), (5, zi q0.1), (6, zi q0.2.1)] [] (q0.2.2) := by
  refine zLoop_use (G := fun q => zr q.1 → zr q.2.1 → zh (q.2.2) → zW Wf m 9 g n H0 43 [(0, .ref (g.2.2 p0)), (1, .ref (g.2.2 p1)), (3, zi x3), (4, zi x4), (5, zi q.1), (6, zi q.2.1)] [] (q.2.2)) ?_ hv0
  rintro L43 ⟨x5, x6, h⟩ hL43 hv rx5 rx6 hh
  have hv : F_RM_layFrequencies_43 K  L43 p0 p1 x3 x4 x5 x6 h := hv
  unfold F_RM_layFrequencies_43 at hv
  show zW Wf m 9 g n H0 43 [(0, .ref (g.2.2 p0)), (1, .ref (g.2.2 p1)), (3, zi x3), (4, zi x4), (5, zi x5), (6, zi x6)] [] h
  refine z_iload (pc := 43) (q := 5) X d_RM_layFrequencies_43 rfl ?_
  refine z_bipush (pc := 45) X d_RM_layFrequencies_45 (by decide) ?_
  refine z_icmp_ge (pc := 47) (tgt := 151) X rx6 (show zr 8 from by decide) d_RM_layFrequencies_47 (by decide) (fun hc => ?_) (fun hc => ?_)
  · replace hv := hv.1 hc
    refine z_perm [0, 2, 4] rfl ?_
    exact s_RM_layFrequencies_151 X E  op0 rx3 hv rx5 hh
  · replace hv := hv.2 hc
    refine z_iload (pc := 50) (q := 5) X d_RM_layFrequencies_50 rfl ?_
    refine z_aload_n (pc := 52) (q := 0) X d_RM_layFrequencies_52 rfl ?_
    refine z_geti (pc := 53) (j := 4) X cf_RM op0 (by decide) q1025 rfl rfl d_RM_layFrequencies_53 ?_
    refine z_icmp_ge (pc := 56) (tgt := 68) X rx6 (hh.1 _ _ (zO.ne op0 (by decide))) d_RM_layFrequencies_56 (by decide) (fun hc => ?_) (fun hc => ?_)
    · replace hv := hv.1 hc
      refine z_iconst (pc := 68) X d_RM_layFrequencies_68 ?_
      exact s_RM_layFrequencies_69 X E hL43 op0 op1 rx3 rx4 rx5 rx6 (show zr 0 from by decide) hh hv
    · replace hv := hv.2 hc
      refine z_aload_n (pc := 59) (q := 1) X d_RM_layFrequencies_59 rfl ?_
      refine z_iload_n (pc := 60) (q := 2) X d_RM_layFrequencies_60 rfl ?_
      refine z_iload (pc := 61) (q := 5) X d_RM_layFrequencies_61 rfl ?_
      obtain ⟨v_1, hv⟩ := hv
      refine z_iadd (pc := 63) X d_RM_layFrequencies_63 ?_
      obtain ⟨v_2, hv⟩ := hv
      refine z_ialdj (pc := 64) (j := (x3 + x6).toNat) X op1 rfl v_1 v_2 rfl d_RM_layFrequencies_64 ?_
      refine z_goto (pc := 65) (tgt := 69) X d_RM_layFrequencies_65 (by decide) ?_
      exact s_RM_layFrequencies_69 X E hL43 op0 op1 rx3 rx4 rx5 rx6 (hh.1 _ _ (zO.ne op1 (by decide))) hh hv
def F_RM_layFrequencies_11 (K : zH → Prop)  (L11 : Int × Int × zH → Prop) (p0 : Nat) (p1 : Nat) (x3 : Int) (x4 : Int) (x5 : Int) (h : zH) : Prop :=
  (h p0 4 ≤ x5 → (zLoop (fun L q => F_RM_layFrequencies_43 K  L p0 p1 x3 x4 q.1 q.2.1 q.2.2) (0, 0, h))) ∧ (x5 < h p0 4 → (zr (x3 + x5) ∧ ((0 ≤ x3 + x5 ∧ x3 + x5 < ((zln p1 : Nat) : Int)) ∧ (zr (x4 + (h p1 ((x3 + x5).toNat))) ∧ ((∀ x4_4 : Int, x4_4 = x4 + (h p1 ((x3 + x5).toNat)) → (zr (x5 + 1) ∧ (L11 (x4_4, x5 + 1, h)))))))))
set_option maxRecDepth 100000 in
theorem s_RM_layFrequencies_11 {Wf : Heap → List Loc → JFrame → Prop} {m : MethodId} {g : zG} {n : Nat} {H0 : Heap} (X : zX Wf m rm_RM_layFrequencies b_RM_layFrequencies "AliasStreamsModel" 9 g n H0) {K : zH → Prop} (E : zEx Wf m b_RM_layFrequencies none 9 g n H0 (zPv K))  {p0 : Nat} {p1 : Nat} {x3 : Int}  (op0 : zO n p0 11) (op1 : zO n p1 12) (rx3 : zr x3) {q0 : Int × Int × zH} (hv0 : zLoop (fun L q => F_RM_layFrequencies_11 K  L p0 p1 x3 q.1 q.2.1 q.2.2) q0) : zr q0.1 → zr q0.2.1 → zh (q0.2.2) → zW Wf m 9 g n H0 11 [(0, .ref (g.2.2 p0)), (1, .ref (g.2.2 p1)), (3, zi x3), (4, zi q0.1), (5, zi q0.2.1)] [] (q0.2.2) := by
  refine zLoop_use (G := fun q => zr q.1 → zr q.2.1 → zh (q.2.2) → zW Wf m 9 g n H0 11 [(0, .ref (g.2.2 p0)), (1, .ref (g.2.2 p1)), (3, zi x3), (4, zi q.1), (5, zi q.2.1)] [] (q.2.2)) ?_ hv0
  rintro L11 ⟨x4, x5, h⟩ hL11 hv rx4 rx5 hh
  have hv : F_RM_layFrequencies_11 K  L11 p0 p1 x3 x4 x5 h := hv
  unfold F_RM_layFrequencies_11 at hv
  show zW Wf m 9 g n H0 11 [(0, .ref (g.2.2 p0)), (1, .ref (g.2.2 p1)), (3, zi x3), (4, zi x4), (5, zi x5)] [] h
  refine z_iload (pc := 11) (q := 4) X d_RM_layFrequencies_11 rfl ?_
  refine z_aload_n (pc := 13) (q := 0) X d_RM_layFrequencies_13 rfl ?_
  refine z_geti (pc := 14) (j := 4) X cf_RM op0 (by decide) q1025 rfl rfl d_RM_layFrequencies_14 ?_
  refine z_icmp_ge (pc := 17) (tgt := 37) X rx5 (hh.1 _ _ (zO.ne op0 (by decide))) d_RM_layFrequencies_17 (by decide) (fun hc => ?_) (fun hc => ?_)
  · replace hv := hv.1 hc
    refine z_iconst (pc := 37) X d_RM_layFrequencies_37 ?_
    refine z_istore (pc := 38) (lv' := [(5, zi 0), (0, .ref (g.2.2 p0)), (1, .ref (g.2.2 p1)), (3, zi x3), (4, zi x4)]) X d_RM_layFrequencies_38 (by decide) rfl ?_
    refine z_iconst (pc := 40) X d_RM_layFrequencies_40 ?_
    refine z_istore (pc := 41) (lv' := [(6, zi 0), (5, zi 0), (0, .ref (g.2.2 p0)), (1, .ref (g.2.2 p1)), (3, zi x3), (4, zi x4)]) X d_RM_layFrequencies_41 (by decide) rfl ?_
    refine z_perm [2, 3, 4, 5, 1, 0] rfl ?_
    exact s_RM_layFrequencies_43 X E  op0 op1 rx3 rx4 hv (show zr 0 from by decide) (show zr 0 from by decide) hh
  · replace hv := hv.2 hc
    refine z_iload (pc := 20) (q := 3) X d_RM_layFrequencies_20 rfl ?_
    refine z_aload_n (pc := 22) (q := 1) X d_RM_layFrequencies_22 rfl ?_
    refine z_iload_n (pc := 23) (q := 2) X d_RM_layFrequencies_23 rfl ?_
    refine z_iload (pc := 24) (q := 4) X d_RM_layFrequencies_24 rfl ?_
    obtain ⟨v_1, hv⟩ := hv
    refine z_iadd (pc := 26) X d_RM_layFrequencies_26 ?_
    obtain ⟨v_2, hv⟩ := hv
    refine z_ialdj (pc := 27) (j := (x3 + x5).toNat) X op1 rfl v_1 v_2 rfl d_RM_layFrequencies_27 ?_
    obtain ⟨v_3, hv⟩ := hv
    refine z_iadd (pc := 28) X d_RM_layFrequencies_28 ?_
    refine z_topi (fun x4_4 ex4_4 => ?_)
    have rx4_4 : zr x4_4 := by rw [ex4_4]; exact v_3
    replace hv := hv x4_4 ex4_4
    refine z_istore (pc := 29) (lv' := [(4, zi x4_4), (0, .ref (g.2.2 p0)), (1, .ref (g.2.2 p1)), (3, zi x3), (5, zi x5)]) X d_RM_layFrequencies_29 (by decide) rfl ?_
    obtain ⟨v_5, hv⟩ := hv
    refine z_iinc (pc := 31) (q := 4) (lv' := [(5, zi (x5 + 1)), (4, zi x4_4), (0, .ref (g.2.2 p0)), (1, .ref (g.2.2 p1)), (3, zi x3)]) X d_RM_layFrequencies_31 rfl (by decide) rfl ?_
    refine z_goto (pc := 34) (tgt := 11) X d_RM_layFrequencies_34 (by decide) ?_
    refine z_perm [2, 3, 4, 1, 0] rfl ?_
    exact hL11 _ hv rx4_4 v_5 hh
def M_RM_layFrequencies (p0 : Nat) (p1 : Nat) (x2 : Int) (h : zH) (K : zH → Prop) : Prop :=
  zr (8 * x2) ∧ ((∀ x3_2 : Int, x3_2 = 8 * x2 → (zLoop (fun L q => F_RM_layFrequencies_11 K  L p0 p1 x3_2 q.1 q.2.1 q.2.2) (0, 0, h))))
set_option maxRecDepth 100000 in
theorem c_RM_layFrequencies {l : Launch} (hfl : l.flags = flags0) {g : zG} {n : Nat} {p0 : Nat} {p1 : Nat} {x2 : Int} (op0 : zO n p0 11) (op1 : zO n p1 12) (rx2 : zr x2) {h : zH} (hh : zh h) {K : zH → Prop} (hv : M_RM_layFrequencies p0 p1 x2 h K) : zMet l y_RM_layFrequencies b_RM_layFrequencies 9 none rm_RM_layFrequencies g n [.ref (g.2.2 p0), .ref (g.2.2 p1), zi x2] h (zPv K) := by
  refine zMet_of (own := "AliasStreamsModel") hfl (by decide) rfl (Nat.le_of_ble_eq_true rfl) (fun Wf m H0 X E => ?_)
  unfold M_RM_layFrequencies at hv
  show zW Wf m 9 g n H0 0 [(0, .ref (g.2.2 p0)), (1, .ref (g.2.2 p1)), (2, zi x2)] [] h
  refine z_bipush (pc := 0) X d_RM_layFrequencies_0 (by decide) ?_
  refine z_iload_n (pc := 2) (q := 2) X d_RM_layFrequencies_2 rfl ?_
  obtain ⟨v_1, hv⟩ := hv
  refine z_imul (pc := 3) X d_RM_layFrequencies_3 ?_
  refine z_topi (fun x3_2 ex3_2 => ?_)
  have rx3_2 : zr x3_2 := by rw [ex3_2]; exact v_1
  replace hv := hv x3_2 ex3_2
  refine z_istore_n (pc := 4) (lv' := [(3, zi x3_2), (0, .ref (g.2.2 p0)), (1, .ref (g.2.2 p1)), (2, zi x2)]) X d_RM_layFrequencies_4 (by decide) rfl ?_
  refine z_iconst (pc := 5) X d_RM_layFrequencies_5 ?_
  refine z_istore (pc := 6) (lv' := [(4, zi 0), (3, zi x3_2), (0, .ref (g.2.2 p0)), (1, .ref (g.2.2 p1)), (2, zi x2)]) X d_RM_layFrequencies_6 (by decide) rfl ?_
  refine z_iconst (pc := 8) X d_RM_layFrequencies_8 ?_
  refine z_istore (pc := 9) (lv' := [(5, zi 0), (4, zi 0), (3, zi x3_2), (0, .ref (g.2.2 p0)), (1, .ref (g.2.2 p1)), (2, zi x2)]) X d_RM_layFrequencies_9 (by decide) rfl ?_
  refine z_perm [3, 4, 2, 1, 0] rfl ?_
  exact s_RM_layFrequencies_11 X E  op0 op1 rx3_2 hv (show zr 0 from by decide) (show zr 0 from by decide) hh
theorem d_RM_laySlots_0 : decode b_RM_laySlots 0 = .ok (.bipush 8, 2) := by decide +kernel
theorem d_RM_laySlots_2 : decode b_RM_laySlots 2 = .ok (.iload_n 1, 1) := by decide +kernel
theorem d_RM_laySlots_3 : decode b_RM_laySlots 3 = .ok (.imul, 1) := by decide +kernel
theorem d_RM_laySlots_4 : decode b_RM_laySlots 4 = .ok (.istore_n 2, 1) := by decide +kernel
theorem d_RM_laySlots_5 : decode b_RM_laySlots 5 = .ok (.iconst 0, 1) := by decide +kernel
theorem d_RM_laySlots_6 : decode b_RM_laySlots 6 = .ok (.istore_n 3, 1) := by decide +kernel
theorem d_RM_laySlots_7 : decode b_RM_laySlots 7 = .ok (.iload_n 3, 1) := by decide +kernel
theorem d_RM_laySlots_8 : decode b_RM_laySlots 8 = .ok (.bipush 8, 2) := by decide +kernel
theorem d_RM_laySlots_10 : decode b_RM_laySlots 10 = .ok (.if_icmp .ge 30, 3) := by decide +kernel
theorem d_RM_laySlots_13 : decode b_RM_laySlots 13 = .ok (.aload_n 0, 1) := by decide +kernel
theorem d_RM_laySlots_14 : decode b_RM_laySlots 14 = .ok (.getfield 60, 3) := by decide +kernel
theorem d_RM_laySlots_17 : decode b_RM_laySlots 17 = .ok (.iload_n 3, 1) := by decide +kernel
theorem d_RM_laySlots_18 : decode b_RM_laySlots 18 = .ok (.aload_n 0, 1) := by decide +kernel
theorem d_RM_laySlots_19 : decode b_RM_laySlots 19 = .ok (.getfield 42, 3) := by decide +kernel
theorem d_RM_laySlots_22 : decode b_RM_laySlots 22 = .ok (.iload_n 2, 1) := by decide +kernel
theorem d_RM_laySlots_23 : decode b_RM_laySlots 23 = .ok (.iload_n 3, 1) := by decide +kernel
theorem d_RM_laySlots_24 : decode b_RM_laySlots 24 = .ok (.iadd, 1) := by decide +kernel
theorem d_RM_laySlots_25 : decode b_RM_laySlots 25 = .ok (.iaload, 1) := by decide +kernel
theorem d_RM_laySlots_26 : decode b_RM_laySlots 26 = .ok (.iastore, 1) := by decide +kernel
theorem d_RM_laySlots_27 : decode b_RM_laySlots 27 = .ok (.aload_n 0, 1) := by decide +kernel
theorem d_RM_laySlots_28 : decode b_RM_laySlots 28 = .ok (.getfield 63, 3) := by decide +kernel
theorem d_RM_laySlots_31 : decode b_RM_laySlots 31 = .ok (.iload_n 3, 1) := by decide +kernel
theorem d_RM_laySlots_32 : decode b_RM_laySlots 32 = .ok (.iconst 1, 1) := by decide +kernel
theorem d_RM_laySlots_33 : decode b_RM_laySlots 33 = .ok (.bastore, 1) := by decide +kernel
theorem d_RM_laySlots_34 : decode b_RM_laySlots 34 = .ok (.iinc 3 1, 3) := by decide +kernel
theorem d_RM_laySlots_37 : decode b_RM_laySlots 37 = .ok (.goto (-30), 3) := by decide +kernel
theorem d_RM_laySlots_40 : decode b_RM_laySlots 40 = .ok (.iconst 0, 1) := by decide +kernel
theorem d_RM_laySlots_41 : decode b_RM_laySlots 41 = .ok (.istore_n 3, 1) := by decide +kernel
theorem d_RM_laySlots_42 : decode b_RM_laySlots 42 = .ok (.iload_n 3, 1) := by decide +kernel
theorem d_RM_laySlots_43 : decode b_RM_laySlots 43 = .ok (.bipush 8, 2) := by decide +kernel
theorem d_RM_laySlots_45 : decode b_RM_laySlots 45 = .ok (.if_icmp .ge 234, 3) := by decide +kernel
theorem d_RM_laySlots_48 : decode b_RM_laySlots 48 = .ok (.iconst 0, 1) := by decide +kernel
theorem d_RM_laySlots_49 : decode b_RM_laySlots 49 = .ok (.istore 4, 2) := by decide +kernel
theorem d_RM_laySlots_51 : decode b_RM_laySlots 51 = .ok (.aload_n 0, 1) := by decide +kernel
theorem d_RM_laySlots_52 : decode b_RM_laySlots 52 = .ok (.getfield 63, 3) := by decide +kernel
theorem d_RM_laySlots_55 : decode b_RM_laySlots 55 = .ok (.iload 4, 2) := by decide +kernel
theorem d_RM_laySlots_57 : decode b_RM_laySlots 57 = .ok (.baload, 1) := by decide +kernel
theorem d_RM_laySlots_58 : decode b_RM_laySlots 58 = .ok (.ifCond .eq 14, 3) := by decide +kernel
theorem d_RM_laySlots_61 : decode b_RM_laySlots 61 = .ok (.aload_n 0, 1) := by decide +kernel
theorem d_RM_laySlots_62 : decode b_RM_laySlots 62 = .ok (.getfield 60, 3) := by decide +kernel
theorem d_RM_laySlots_65 : decode b_RM_laySlots 65 = .ok (.iload 4, 2) := by decide +kernel
theorem d_RM_laySlots_67 : decode b_RM_laySlots 67 = .ok (.iaload, 1) := by decide +kernel
theorem d_RM_laySlots_68 : decode b_RM_laySlots 68 = .ok (.iconst 4, 1) := by decide +kernel
theorem d_RM_laySlots_69 : decode b_RM_laySlots 69 = .ok (.if_icmp .le 9, 3) := by decide +kernel
theorem d_RM_laySlots_72 : decode b_RM_laySlots 72 = .ok (.iinc 4 1, 3) := by decide +kernel
theorem d_RM_laySlots_75 : decode b_RM_laySlots 75 = .ok (.goto (-24), 3) := by decide +kernel
theorem d_RM_laySlots_78 : decode b_RM_laySlots 78 = .ok (.aload_n 0, 1) := by decide +kernel
theorem d_RM_laySlots_79 : decode b_RM_laySlots 79 = .ok (.getfield 63, 3) := by decide +kernel
theorem d_RM_laySlots_82 : decode b_RM_laySlots 82 = .ok (.iload 4, 2) := by decide +kernel
theorem d_RM_laySlots_84 : decode b_RM_laySlots 84 = .ok (.iconst 0, 1) := by decide +kernel
theorem d_RM_laySlots_85 : decode b_RM_laySlots 85 = .ok (.bastore, 1) := by decide +kernel
theorem d_RM_laySlots_86 : decode b_RM_laySlots 86 = .ok (.aload_n 0, 1) := by decide +kernel
theorem d_RM_laySlots_87 : decode b_RM_laySlots 87 = .ok (.getfield 45, 3) := by decide +kernel
theorem d_RM_laySlots_90 : decode b_RM_laySlots 90 = .ok (.iload_n 2, 1) := by decide +kernel
theorem d_RM_laySlots_91 : decode b_RM_laySlots 91 = .ok (.iload 4, 2) := by decide +kernel
theorem d_RM_laySlots_93 : decode b_RM_laySlots 93 = .ok (.iadd, 1) := by decide +kernel
theorem d_RM_laySlots_94 : decode b_RM_laySlots 94 = .ok (.aload_n 0, 1) := by decide +kernel
theorem d_RM_laySlots_95 : decode b_RM_laySlots 95 = .ok (.getfield 60, 3) := by decide +kernel
theorem d_RM_laySlots_98 : decode b_RM_laySlots 98 = .ok (.iload 4, 2) := by decide +kernel
theorem d_RM_laySlots_100 : decode b_RM_laySlots 100 = .ok (.iaload, 1) := by decide +kernel
theorem d_RM_laySlots_101 : decode b_RM_laySlots 101 = .ok (.iastore, 1) := by decide +kernel
theorem d_RM_laySlots_102 : decode b_RM_laySlots 102 = .ok (.bipush (-9), 2) := by decide +kernel
theorem d_RM_laySlots_104 : decode b_RM_laySlots 104 = .ok (.istore 5, 2) := by decide +kernel
theorem d_RM_laySlots_106 : decode b_RM_laySlots 106 = .ok (.iconst 0, 1) := by decide +kernel
theorem d_RM_laySlots_107 : decode b_RM_laySlots 107 = .ok (.istore 6, 2) := by decide +kernel
theorem d_RM_laySlots_109 : decode b_RM_laySlots 109 = .ok (.iload 6, 2) := by decide +kernel
theorem d_RM_laySlots_111 : decode b_RM_laySlots 111 = .ok (.bipush 8, 2) := by decide +kernel
theorem d_RM_laySlots_113 : decode b_RM_laySlots 113 = .ok (.if_icmp .ge 52, 3) := by decide +kernel
theorem d_RM_laySlots_116 : decode b_RM_laySlots 116 = .ok (.aload_n 0, 1) := by decide +kernel
theorem d_RM_laySlots_117 : decode b_RM_laySlots 117 = .ok (.getfield 63, 3) := by decide +kernel
theorem d_RM_laySlots_120 : decode b_RM_laySlots 120 = .ok (.iload 6, 2) := by decide +kernel
theorem d_RM_laySlots_122 : decode b_RM_laySlots 122 = .ok (.baload, 1) := by decide +kernel
theorem d_RM_laySlots_123 : decode b_RM_laySlots 123 = .ok (.ifCond .eq 32, 3) := by decide +kernel
theorem d_RM_laySlots_126 : decode b_RM_laySlots 126 = .ok (.iload 5, 2) := by decide +kernel
theorem d_RM_laySlots_128 : decode b_RM_laySlots 128 = .ok (.bipush (-9), 2) := by decide +kernel
theorem d_RM_laySlots_130 : decode b_RM_laySlots 130 = .ok (.if_icmp .eq 20, 3) := by decide +kernel
theorem d_RM_laySlots_133 : decode b_RM_laySlots 133 = .ok (.aload_n 0, 1) := by decide +kernel
theorem d_RM_laySlots_134 : decode b_RM_laySlots 134 = .ok (.getfield 60, 3) := by decide +kernel
theorem d_RM_laySlots_137 : decode b_RM_laySlots 137 = .ok (.iload 6, 2) := by decide +kernel
theorem d_RM_laySlots_139 : decode b_RM_laySlots 139 = .ok (.iaload, 1) := by decide +kernel
theorem d_RM_laySlots_140 : decode b_RM_laySlots 140 = .ok (.aload_n 0, 1) := by decide +kernel
theorem d_RM_laySlots_141 : decode b_RM_laySlots 141 = .ok (.getfield 60, 3) := by decide +kernel
theorem d_RM_laySlots_144 : decode b_RM_laySlots 144 = .ok (.iload 5, 2) := by decide +kernel
theorem d_RM_laySlots_146 : decode b_RM_laySlots 146 = .ok (.iaload, 1) := by decide +kernel
theorem d_RM_laySlots_147 : decode b_RM_laySlots 147 = .ok (.if_icmp .le 8, 3) := by decide +kernel
theorem d_RM_laySlots_150 : decode b_RM_laySlots 150 = .ok (.iload 6, 2) := by decide +kernel
theorem d_RM_laySlots_152 : decode b_RM_laySlots 152 = .ok (.goto 5, 3) := by decide +kernel
theorem d_RM_laySlots_155 : decode b_RM_laySlots 155 = .ok (.iload 5, 2) := by decide +kernel
theorem d_RM_laySlots_157 : decode b_RM_laySlots 157 = .ok (.istore 5, 2) := by decide +kernel
theorem d_RM_laySlots_159 : decode b_RM_laySlots 159 = .ok (.iinc 6 1, 3) := by decide +kernel
theorem d_RM_laySlots_162 : decode b_RM_laySlots 162 = .ok (.goto (-53), 3) := by decide +kernel
theorem d_RM_laySlots_165 : decode b_RM_laySlots 165 = .ok (.aload_n 0, 1) := by decide +kernel
theorem d_RM_laySlots_166 : decode b_RM_laySlots 166 = .ok (.getfield 48, 3) := by decide +kernel
theorem d_RM_laySlots_169 : decode b_RM_laySlots 169 = .ok (.iload_n 2, 1) := by decide +kernel
theorem d_RM_laySlots_170 : decode b_RM_laySlots 170 = .ok (.iload 4, 2) := by decide +kernel
theorem d_RM_laySlots_172 : decode b_RM_laySlots 172 = .ok (.iadd, 1) := by decide +kernel
theorem d_RM_laySlots_173 : decode b_RM_laySlots 173 = .ok (.aload_n 0, 1) := by decide +kernel
theorem d_RM_laySlots_174 : decode b_RM_laySlots 174 = .ok (.getfield 60, 3) := by decide +kernel
theorem d_RM_laySlots_177 : decode b_RM_laySlots 177 = .ok (.iload 4, 2) := by decide +kernel
theorem d_RM_laySlots_179 : decode b_RM_laySlots 179 = .ok (.iaload, 1) := by decide +kernel
theorem d_RM_laySlots_180 : decode b_RM_laySlots 180 = .ok (.iconst 4, 1) := by decide +kernel
theorem d_RM_laySlots_181 : decode b_RM_laySlots 181 = .ok (.if_icmp .ge 8, 3) := by decide +kernel
theorem d_RM_laySlots_184 : decode b_RM_laySlots 184 = .ok (.iload 5, 2) := by decide +kernel
theorem d_RM_laySlots_186 : decode b_RM_laySlots 186 = .ok (.goto 5, 3) := by decide +kernel
theorem d_RM_laySlots_189 : decode b_RM_laySlots 189 = .ok (.bipush (-9), 2) := by decide +kernel
theorem d_RM_laySlots_191 : decode b_RM_laySlots 191 = .ok (.iastore, 1) := by decide +kernel
theorem d_RM_laySlots_192 : decode b_RM_laySlots 192 = .ok (.iconst 0, 1) := by decide +kernel
theorem d_RM_laySlots_193 : decode b_RM_laySlots 193 = .ok (.istore 6, 2) := by decide +kernel
theorem d_RM_laySlots_195 : decode b_RM_laySlots 195 = .ok (.iload 6, 2) := by decide +kernel
theorem d_RM_laySlots_197 : decode b_RM_laySlots 197 = .ok (.iconst 4, 1) := by decide +kernel
theorem d_RM_laySlots_198 : decode b_RM_laySlots 198 = .ok (.if_icmp .ge 45, 3) := by decide +kernel
theorem d_RM_laySlots_201 : decode b_RM_laySlots 201 = .ok (.aload_n 0, 1) := by decide +kernel
theorem d_RM_laySlots_202 : decode b_RM_laySlots 202 = .ok (.getfield 51, 3) := by decide +kernel
theorem d_RM_laySlots_205 : decode b_RM_laySlots 205 = .ok (.bipush 32, 2) := by decide +kernel
theorem d_RM_laySlots_207 : decode b_RM_laySlots 207 = .ok (.iload_n 1, 1) := by decide +kernel
theorem d_RM_laySlots_208 : decode b_RM_laySlots 208 = .ok (.imul, 1) := by decide +kernel
theorem d_RM_laySlots_209 : decode b_RM_laySlots 209 = .ok (.iconst 4, 1) := by decide +kernel
theorem d_RM_laySlots_210 : decode b_RM_laySlots 210 = .ok (.iload 4, 2) := by decide +kernel
theorem d_RM_laySlots_212 : decode b_RM_laySlots 212 = .ok (.imul, 1) := by decide +kernel
theorem d_RM_laySlots_213 : decode b_RM_laySlots 213 = .ok (.iadd, 1) := by decide +kernel
theorem d_RM_laySlots_214 : decode b_RM_laySlots 214 = .ok (.iload 6, 2) := by decide +kernel
theorem d_RM_laySlots_216 : decode b_RM_laySlots 216 = .ok (.iadd, 1) := by decide +kernel
theorem d_RM_laySlots_217 : decode b_RM_laySlots 217 = .ok (.iload 6, 2) := by decide +kernel
theorem d_RM_laySlots_219 : decode b_RM_laySlots 219 = .ok (.aload_n 0, 1) := by decide +kernel
theorem d_RM_laySlots_220 : decode b_RM_laySlots 220 = .ok (.getfield 60, 3) := by decide +kernel
theorem d_RM_laySlots_223 : decode b_RM_laySlots 223 = .ok (.iload 4, 2) := by decide +kernel
theorem d_RM_laySlots_225 : decode b_RM_laySlots 225 = .ok (.iaload, 1) := by decide +kernel
theorem d_RM_laySlots_226 : decode b_RM_laySlots 226 = .ok (.if_icmp .ge 8, 3) := by decide +kernel
theorem d_RM_laySlots_229 : decode b_RM_laySlots 229 = .ok (.iload 4, 2) := by decide +kernel
theorem d_RM_laySlots_231 : decode b_RM_laySlots 231 = .ok (.goto 5, 3) := by decide +kernel
theorem d_RM_laySlots_234 : decode b_RM_laySlots 234 = .ok (.iload 5, 2) := by decide +kernel
theorem d_RM_laySlots_236 : decode b_RM_laySlots 236 = .ok (.iastore, 1) := by decide +kernel
theorem d_RM_laySlots_237 : decode b_RM_laySlots 237 = .ok (.iinc 6 1, 3) := by decide +kernel
theorem d_RM_laySlots_240 : decode b_RM_laySlots 240 = .ok (.goto (-45), 3) := by decide +kernel
theorem d_RM_laySlots_243 : decode b_RM_laySlots 243 = .ok (.aload_n 0, 1) := by decide +kernel
theorem d_RM_laySlots_244 : decode b_RM_laySlots 244 = .ok (.getfield 60, 3) := by decide +kernel
theorem d_RM_laySlots_247 : decode b_RM_laySlots 247 = .ok (.iload 4, 2) := by decide +kernel
theorem d_RM_laySlots_249 : decode b_RM_laySlots 249 = .ok (.iaload, 1) := by decide +kernel
theorem d_RM_laySlots_250 : decode b_RM_laySlots 250 = .ok (.iconst 4, 1) := by decide +kernel
theorem d_RM_laySlots_251 : decode b_RM_laySlots 251 = .ok (.if_icmp .ge 22, 3) := by decide +kernel
theorem d_RM_laySlots_254 : decode b_RM_laySlots 254 = .ok (.aload_n 0, 1) := by decide +kernel
theorem d_RM_laySlots_255 : decode b_RM_laySlots 255 = .ok (.getfield 60, 3) := by decide +kernel
theorem d_RM_laySlots_258 : decode b_RM_laySlots 258 = .ok (.iload 5, 2) := by decide +kernel
theorem d_RM_laySlots_260 : decode b_RM_laySlots 260 = .ok (.dup2, 1) := by decide +kernel
theorem d_RM_laySlots_261 : decode b_RM_laySlots 261 = .ok (.iaload, 1) := by decide +kernel
theorem d_RM_laySlots_262 : decode b_RM_laySlots 262 = .ok (.iconst 4, 1) := by decide +kernel
theorem d_RM_laySlots_263 : decode b_RM_laySlots 263 = .ok (.aload_n 0, 1) := by decide +kernel
theorem d_RM_laySlots_264 : decode b_RM_laySlots 264 = .ok (.getfield 60, 3) := by decide +kernel
theorem d_RM_laySlots_267 : decode b_RM_laySlots 267 = .ok (.iload 4, 2) := by decide +kernel
theorem d_RM_laySlots_269 : decode b_RM_laySlots 269 = .ok (.iaload, 1) := by decide +kernel
theorem d_RM_laySlots_270 : decode b_RM_laySlots 270 = .ok (.isub, 1) := by decide +kernel
theorem d_RM_laySlots_271 : decode b_RM_laySlots 271 = .ok (.isub, 1) := by decide +kernel
theorem d_RM_laySlots_272 : decode b_RM_laySlots 272 = .ok (.iastore, 1) := by decide +kernel
theorem d_RM_laySlots_273 : decode b_RM_laySlots 273 = .ok (.iinc 3 1, 3) := by decide +kernel
theorem d_RM_laySlots_276 : decode b_RM_laySlots 276 = .ok (.goto (-234), 3) := by decide +kernel
theorem d_RM_laySlots_279 : decode b_RM_laySlots 279 = .ok (.iconst 0, 1) := by decide +kernel
theorem d_RM_laySlots_280 : decode b_RM_laySlots 280 = .ok (.istore_n 3, 1) := by decide +kernel
theorem d_RM_laySlots_281 : decode b_RM_laySlots 281 = .ok (.iload_n 3, 1) := by decide +kernel
theorem d_RM_laySlots_282 : decode b_RM_laySlots 282 = .ok (.bipush 8, 2) := by decide +kernel
theorem d_RM_laySlots_284 : decode b_RM_laySlots 284 = .ok (.if_icmp .ge 81, 3) := by decide +kernel
theorem d_RM_laySlots_287 : decode b_RM_laySlots 287 = .ok (.iconst 0, 1) := by decide +kernel
theorem d_RM_laySlots_288 : decode b_RM_laySlots 288 = .ok (.istore 4, 2) := by decide +kernel
theorem d_RM_laySlots_290 : decode b_RM_laySlots 290 = .ok (.iconst 0, 1) := by decide +kernel
theorem d_RM_laySlots_291 : decode b_RM_laySlots 291 = .ok (.istore 5, 2) := by decide +kernel
theorem d_RM_laySlots_293 : decode b_RM_laySlots 293 = .ok (.iload 5, 2) := by decide +kernel
theorem d_RM_laySlots_295 : decode b_RM_laySlots 295 = .ok (.bipush 32, 2) := by decide +kernel
theorem d_RM_laySlots_297 : decode b_RM_laySlots 297 = .ok (.if_icmp .ge 62, 3) := by decide +kernel
theorem d_RM_laySlots_300 : decode b_RM_laySlots 300 = .ok (.aload_n 0, 1) := by decide +kernel
theorem d_RM_laySlots_301 : decode b_RM_laySlots 301 = .ok (.getfield 51, 3) := by decide +kernel
theorem d_RM_laySlots_304 : decode b_RM_laySlots 304 = .ok (.bipush 32, 2) := by decide +kernel
theorem d_RM_laySlots_306 : decode b_RM_laySlots 306 = .ok (.iload_n 1, 1) := by decide +kernel
theorem d_RM_laySlots_307 : decode b_RM_laySlots 307 = .ok (.imul, 1) := by decide +kernel
theorem d_RM_laySlots_308 : decode b_RM_laySlots 308 = .ok (.iload 5, 2) := by decide +kernel
theorem d_RM_laySlots_310 : decode b_RM_laySlots 310 = .ok (.iadd, 1) := by decide +kernel
theorem d_RM_laySlots_311 : decode b_RM_laySlots 311 = .ok (.iaload, 1) := by decide +kernel
theorem d_RM_laySlots_312 : decode b_RM_laySlots 312 = .ok (.iload_n 3, 1) := by decide +kernel
theorem d_RM_laySlots_313 : decode b_RM_laySlots 313 = .ok (.if_icmp .ne 40, 3) := by decide +kernel
theorem d_RM_laySlots_316 : decode b_RM_laySlots 316 = .ok (.aload_n 0, 1) := by decide +kernel
theorem d_RM_laySlots_317 : decode b_RM_laySlots 317 = .ok (.getfield 54, 3) := by decide +kernel
theorem d_RM_laySlots_320 : decode b_RM_laySlots 320 = .ok (.bipush 32, 2) := by decide +kernel
theorem d_RM_laySlots_322 : decode b_RM_laySlots 322 = .ok (.iload_n 1, 1) := by decide +kernel
theorem d_RM_laySlots_323 : decode b_RM_laySlots 323 = .ok (.imul, 1) := by decide +kernel
theorem d_RM_laySlots_324 : decode b_RM_laySlots 324 = .ok (.iload 5, 2) := by decide +kernel
theorem d_RM_laySlots_326 : decode b_RM_laySlots 326 = .ok (.iadd, 1) := by decide +kernel
theorem d_RM_laySlots_327 : decode b_RM_laySlots 327 = .ok (.iload 4, 2) := by decide +kernel
theorem d_RM_laySlots_329 : decode b_RM_laySlots 329 = .ok (.iastore, 1) := by decide +kernel
theorem d_RM_laySlots_330 : decode b_RM_laySlots 330 = .ok (.aload_n 0, 1) := by decide +kernel
theorem d_RM_laySlots_331 : decode b_RM_laySlots 331 = .ok (.getfield 57, 3) := by decide +kernel
theorem d_RM_laySlots_334 : decode b_RM_laySlots 334 = .ok (.sipush 256, 3) := by decide +kernel
theorem d_RM_laySlots_337 : decode b_RM_laySlots 337 = .ok (.iload_n 1, 1) := by decide +kernel
theorem d_RM_laySlots_338 : decode b_RM_laySlots 338 = .ok (.imul, 1) := by decide +kernel
theorem d_RM_laySlots_339 : decode b_RM_laySlots 339 = .ok (.bipush 32, 2) := by decide +kernel
theorem d_RM_laySlots_341 : decode b_RM_laySlots 341 = .ok (.iload_n 3, 1) := by decide +kernel
theorem d_RM_laySlots_342 : decode b_RM_laySlots 342 = .ok (.imul, 1) := by decide +kernel
theorem d_RM_laySlots_343 : decode b_RM_laySlots 343 = .ok (.iadd, 1) := by decide +kernel
theorem d_RM_laySlots_344 : decode b_RM_laySlots 344 = .ok (.iload 4, 2) := by decide +kernel
theorem d_RM_laySlots_346 : decode b_RM_laySlots 346 = .ok (.iadd, 1) := by decide +kernel
theorem d_RM_laySlots_347 : decode b_RM_laySlots 347 = .ok (.iload 5, 2) := by decide +kernel
theorem d_RM_laySlots_349 : decode b_RM_laySlots 349 = .ok (.iastore, 1) := by decide +kernel
theorem d_RM_laySlots_350 : decode b_RM_laySlots 350 = .ok (.iinc 4 1, 3) := by decide +kernel
theorem d_RM_laySlots_353 : decode b_RM_laySlots 353 = .ok (.iinc 5 1, 3) := by decide +kernel
theorem d_RM_laySlots_356 : decode b_RM_laySlots 356 = .ok (.goto (-63), 3) := by decide +kernel
theorem d_RM_laySlots_359 : decode b_RM_laySlots 359 = .ok (.iinc 3 1, 3) := by decide +kernel
theorem d_RM_laySlots_362 : decode b_RM_laySlots 362 = .ok (.goto (-81), 3) := by decide +kernel
theorem d_RM_laySlots_365 : decode b_RM_laySlots 365 = .ok (.return_, 1) := by decide +kernel
def rm_RM_laySlots : Room := { frames := 0, cells := 0, slots := 0, locals := 0 }
theorem mf_RM_laySlots : zMV y_RM_laySlots b_RM_laySlots 7 none 1 := ⟨q1191, qs75, q13, q1192, by decide +kernel⟩
def F_RM_laySlots_293 (K : zH → Prop) (L281 : Int × zH → Prop) (L293 : Int × Int × zH → Prop) (p0 : Nat) (x1 : Int) (x3 : Int) (x4 : Int) (x5 : Int) (h : zH) : Prop :=
  (32 ≤ x5 → (zr (x3 + 1) ∧ (L281 (x3 + 1, h)))) ∧ (x5 < 32 → (zr (32 * x1) ∧ (zr ((32 * x1) + x5) ∧ ((0 ≤ (32 * x1) + x5 ∧ (32 * x1) + x5 < 96) ∧ ((h (p0 + 12) (((32 * x1) + x5).toNat) ≠ x3 → (zr (x5 + 1) ∧ (L293 (x4, x5 + 1, h)))) ∧ (h (p0 + 12) (((32 * x1) + x5).toNat) = x3 → (zr (32 * x1) ∧ (zr ((32 * x1) + x5) ∧ ((0 ≤ (32 * x1) + x5 ∧ (32 * x1) + x5 < 96) ∧ (∀ h_9 : zH, h_9 = zs h (p0 + 13) (((32 * x1) + x5).toNat) x4 → (zr (256 * x1) ∧ (zr (32 * x3) ∧ (zr ((256 * x1) + (32 * x3)) ∧ (zr (((256 * x1) + (32 * x3)) + x4) ∧ ((0 ≤ ((256 * x1) + (32 * x3)) + x4 ∧ ((256 * x1) + (32 * x3)) + x4 < 768) ∧ (∀ h_15 : zH, h_15 = zs h_9 (p0 + 14) ((((256 * x1) + (32 * x3)) + x4).toNat) x5 → (zr (x4 + 1) ∧ (zr (x5 + 1) ∧ (L293 (x4 + 1, x5 + 1, h_15))))))))))))))))))))
set_option maxRecDepth 100000 in
theorem s_RM_laySlots_293 {Wf : Heap → List Loc → JFrame → Prop} {m : MethodId} {g : zG} {n : Nat} {H0 : Heap} (X : zX Wf m rm_RM_laySlots b_RM_laySlots "AliasStreamsModel" 7 g n H0) {K : zH → Prop} (E : zEx Wf m b_RM_laySlots none 7 g n H0 (zPv K)) {L281 : Int × zH → Prop} {p0 : Nat} {x1 : Int} {x3 : Int} (hL281 : ∀ q : Int × zH, L281 q → zr q.1 → zh (q.2) → zW Wf m 7 g n H0 281 [(0, .ref (g.2.2 p0)), (1, zi x1), (3, zi q.1)] [] (q.2)) (op0 : zO n p0 11) (rx1 : zr x1) (rx3 : zr x3) {q0 : Int × Int × zH} (hv0 : zLoop (fun L q => F_RM_laySlots_293 K L281 L p0 x1 x3 q.1 q.2.1 q.2.2) q0) : zr q0.1 → zr q0.2.1 → zh (q0.2.2) → zW Wf m 7 g n H0 293 [(0, .ref (g.2.2 p0)), (1, zi x1), (3, zi x3), (4, zi q0.1), (5, zi q0.2.1)] [] (q0.2.2) := by
  refine zLoop_use (G := fun q => zr q.1 → zr q.2.1 → zh (q.2.2) → zW Wf m 7 g n H0 293 [(0, .ref (g.2.2 p0)), (1, zi x1), (3, zi x3), (4, zi q.1), (5, zi q.2.1)] [] (q.2.2)) ?_ hv0
  rintro L293 ⟨x4, x5, h⟩ hL293 hv rx4 rx5 hh
  have hv : F_RM_laySlots_293 K L281 L293 p0 x1 x3 x4 x5 h := hv
  unfold F_RM_laySlots_293 at hv
  show zW Wf m 7 g n H0 293 [(0, .ref (g.2.2 p0)), (1, zi x1), (3, zi x3), (4, zi x4), (5, zi x5)] [] h
  refine z_iload (pc := 293) (q := 4) X d_RM_laySlots_293 rfl ?_
  refine z_bipush (pc := 295) X d_RM_laySlots_295 (by decide) ?_
  refine z_icmp_ge (pc := 297) (tgt := 359) X rx5 (show zr 32 from by decide) d_RM_laySlots_297 (by decide) (fun hc => ?_) (fun hc => ?_)
  · replace hv := hv.1 hc
    obtain ⟨v_1, hv⟩ := hv
    refine z_iinc (pc := 359) (q := 2) (lv' := [(3, zi (x3 + 1)), (0, .ref (g.2.2 p0)), (1, zi x1), (4, zi x4), (5, zi x5)]) X d_RM_laySlots_359 rfl (by decide) rfl ?_
    refine z_goto (pc := 362) (tgt := 281) X d_RM_laySlots_362 (by decide) ?_
    refine z_perm [1, 2, 0] rfl ?_
    exact hL281 _ hv v_1 hh
  · replace hv := hv.2 hc
    refine z_aload_n (pc := 300) (q := 0) X d_RM_laySlots_300 rfl ?_
    refine z_getr (pc := 301) (j := 19) (dd := 12) X cf_RM op0 (by decide) q1040 rfl rfl d_RM_laySlots_301 ?_
    refine z_bipush (pc := 304) X d_RM_laySlots_304 (by decide) ?_
    refine z_iload_n (pc := 306) (q := 1) X d_RM_laySlots_306 rfl ?_
    obtain ⟨v_2, hv⟩ := hv
    refine z_imul (pc := 307) X d_RM_laySlots_307 ?_
    refine z_iload (pc := 308) (q := 4) X d_RM_laySlots_308 rfl ?_
    obtain ⟨v_3, hv⟩ := hv
    refine z_iadd (pc := 310) X d_RM_laySlots_310 ?_
    obtain ⟨v_4, hv⟩ := hv
    refine z_ialdj (pc := 311) (j := ((32 * x1) + x5).toNat) X (gf_RM_19 op0) (gl_RM_19 op0) v_3 v_4 rfl d_RM_laySlots_311 ?_
    refine z_iload_n (pc := 312) (q := 2) X d_RM_laySlots_312 rfl ?_
    refine z_icmp_ne (pc := 313) (tgt := 353) X (hh.1 _ _ (zO.ne (gf_RM_19 op0) (by decide))) rx3 d_RM_laySlots_313 (by decide) (fun hc => ?_) (fun hc => ?_)
    · replace hv := hv.1 hc
      obtain ⟨v_5, hv⟩ := hv
      refine z_iinc (pc := 353) (q := 4) (lv' := [(5, zi (x5 + 1)), (0, .ref (g.2.2 p0)), (1, zi x1), (3, zi x3), (4, zi x4)]) X d_RM_laySlots_353 rfl (by decide) rfl ?_
      refine z_goto (pc := 356) (tgt := 293) X d_RM_laySlots_356 (by decide) ?_
      refine z_perm [1, 2, 3, 4, 0] rfl ?_
      exact hL293 _ hv rx4 v_5 hh
    · replace hv := hv.2 hc
      refine z_aload_n (pc := 316) (q := 0) X d_RM_laySlots_316 rfl ?_
      refine z_getr (pc := 317) (j := 20) (dd := 13) X cf_RM op0 (by decide) q1041 rfl rfl d_RM_laySlots_317 ?_
      refine z_bipush (pc := 320) X d_RM_laySlots_320 (by decide) ?_
      refine z_iload_n (pc := 322) (q := 1) X d_RM_laySlots_322 rfl ?_
      obtain ⟨v_6, hv⟩ := hv
      refine z_imul (pc := 323) X d_RM_laySlots_323 ?_
      refine z_iload (pc := 324) (q := 4) X d_RM_laySlots_324 rfl ?_
      obtain ⟨v_7, hv⟩ := hv
      refine z_iadd (pc := 326) X d_RM_laySlots_326 ?_
      refine z_iload (pc := 327) (q := 3) X d_RM_laySlots_327 rfl ?_
      obtain ⟨v_8, hv⟩ := hv
      refine z_iastj (pc := 329) (j := ((32 * x1) + x5).toNat) X (gf_RM_20 op0) (gl_RM_20 op0) v_7 v_8 rfl d_RM_laySlots_329 ?_
      refine z_toph (fun h_9 eh_9 => ?_)
      have zh_9 : zh h_9 := by rw [eh_9]; exact zh_set hh (zO.ne (gf_RM_20 op0) (by decide)) rx4
      replace hv := hv h_9 eh_9
      refine z_aload_n (pc := 330) (q := 0) X d_RM_laySlots_330 rfl ?_
      refine z_getr (pc := 331) (j := 21) (dd := 14) X cf_RM op0 (by decide) q1042 rfl rfl d_RM_laySlots_331 ?_
      refine z_sipush (pc := 334) X d_RM_laySlots_334 (by decide) ?_
      refine z_iload_n (pc := 337) (q := 1) X d_RM_laySlots_337 rfl ?_
      obtain ⟨v_10, hv⟩ := hv
      refine z_imul (pc := 338) X d_RM_laySlots_338 ?_
      refine z_bipush (pc := 339) X d_RM_laySlots_339 (by decide) ?_
      refine z_iload_n (pc := 341) (q := 2) X d_RM_laySlots_341 rfl ?_
      obtain ⟨v_11, hv⟩ := hv
      refine z_imul (pc := 342) X d_RM_laySlots_342 ?_
      obtain ⟨v_12, hv⟩ := hv
      refine z_iadd (pc := 343) X d_RM_laySlots_343 ?_
      refine z_iload (pc := 344) (q := 3) X d_RM_laySlots_344 rfl ?_
      obtain ⟨v_13, hv⟩ := hv
      refine z_iadd (pc := 346) X d_RM_laySlots_346 ?_
      refine z_iload (pc := 347) (q := 4) X d_RM_laySlots_347 rfl ?_
      obtain ⟨v_14, hv⟩ := hv
      refine z_iastj (pc := 349) (j := (((256 * x1) + (32 * x3)) + x4).toNat) X (gf_RM_21 op0) (gl_RM_21 op0) v_13 v_14 rfl d_RM_laySlots_349 ?_
      refine z_toph (fun h_15 eh_15 => ?_)
      have zh_15 : zh h_15 := by rw [eh_15]; exact zh_set zh_9 (zO.ne (gf_RM_21 op0) (by decide)) rx5
      replace hv := hv h_15 eh_15
      obtain ⟨v_16, hv⟩ := hv
      refine z_iinc (pc := 350) (q := 3) (lv' := [(4, zi (x4 + 1)), (0, .ref (g.2.2 p0)), (1, zi x1), (3, zi x3), (5, zi x5)]) X d_RM_laySlots_350 rfl (by decide) rfl ?_
      obtain ⟨v_17, hv⟩ := hv
      refine z_iinc (pc := 353) (q := 4) (lv' := [(5, zi (x5 + 1)), (4, zi (x4 + 1)), (0, .ref (g.2.2 p0)), (1, zi x1), (3, zi x3)]) X d_RM_laySlots_353 rfl (by decide) rfl ?_
      refine z_goto (pc := 356) (tgt := 293) X d_RM_laySlots_356 (by decide) ?_
      refine z_perm [2, 3, 4, 1, 0] rfl ?_
      exact hL293 _ hv v_16 v_17 zh_15
def F_RM_laySlots_281 (K : zH → Prop)  (L281 : Int × zH → Prop) (p0 : Nat) (x1 : Int) (x3 : Int) (h : zH) : Prop :=
  (8 ≤ x3 → (K h)) ∧ (x3 < 8 → (zLoop (fun L q => F_RM_laySlots_293 K L281 L p0 x1 x3 q.1 q.2.1 q.2.2) (0, 0, h)))
set_option maxRecDepth 100000 in
theorem s_RM_laySlots_281 {Wf : Heap → List Loc → JFrame → Prop} {m : MethodId} {g : zG} {n : Nat} {H0 : Heap} (X : zX Wf m rm_RM_laySlots b_RM_laySlots "AliasStreamsModel" 7 g n H0) {K : zH → Prop} (E : zEx Wf m b_RM_laySlots none 7 g n H0 (zPv K))  {p0 : Nat} {x1 : Int}  (op0 : zO n p0 11) (rx1 : zr x1) {q0 : Int × zH} (hv0 : zLoop (fun L q => F_RM_laySlots_281 K  L p0 x1 q.1 q.2) q0) : zr q0.1 → zh (q0.2) → zW Wf m 7 g n H0 281 [(0, .ref (g.2.2 p0)), (1, zi x1), (3, zi q0.1)] [] (q0.2) := by
  refine zLoop_use (G := fun q => zr q.1 → zh (q.2) → zW Wf m 7 g n H0 281 [(0, .ref (g.2.2 p0)), (1, zi x1), (3, zi q.1)] [] (q.2)) ?_ hv0
  rintro L281 ⟨x3, h⟩ hL281 hv rx3 hh
  have hv : F_RM_laySlots_281 K  L281 p0 x1 x3 h := hv
  unfold F_RM_laySlots_281 at hv
  show zW Wf m 7 g n H0 281 [(0, .ref (g.2.2 p0)), (1, zi x1), (3, zi x3)] [] h
  refine z_iload_n (pc := 281) (q := 2) X d_RM_laySlots_281 rfl ?_
  refine z_bipush (pc := 282) X d_RM_laySlots_282 (by decide) ?_
  refine z_icmp_ge (pc := 284) (tgt := 365) X rx3 (show zr 8 from by decide) d_RM_laySlots_284 (by decide) (fun hc => ?_) (fun hc => ?_)
  · replace hv := hv.1 hc
    exact E.1 rfl _ _ _ d_RM_laySlots_365 ⟨rfl, hh, hv⟩
  · replace hv := hv.2 hc
    refine z_iconst (pc := 287) X d_RM_laySlots_287 ?_
    refine z_istore (pc := 288) (lv' := [(4, zi 0), (0, .ref (g.2.2 p0)), (1, zi x1), (3, zi x3)]) X d_RM_laySlots_288 (by decide) rfl ?_
    refine z_iconst (pc := 290) X d_RM_laySlots_290 ?_
    refine z_istore (pc := 291) (lv' := [(5, zi 0), (4, zi 0), (0, .ref (g.2.2 p0)), (1, zi x1), (3, zi x3)]) X d_RM_laySlots_291 (by decide) rfl ?_
    refine z_perm [2, 3, 4, 1, 0] rfl ?_
    exact s_RM_laySlots_293 X E hL281 op0 rx1 rx3 hv (show zr 0 from by decide) (show zr 0 from by decide) hh
def F_RM_laySlots_195 (K : zH → Prop) (L42 : Int × zH → Prop) (L195 : Int × zH → Prop) (p0 : Nat) (x1 : Int) (x2 : Int) (x3 : Int) (x4 : Int) (x5 : Int) (x6 : Int) (h : zH) : Prop :=
  (4 ≤ x6 → ((0 ≤ x4 ∧ x4 < 8) ∧ ((4 ≤ h (p0 + 15) x4.toNat → (zr (x3 + 1) ∧ (L42 (x3 + 1, h)))) ∧ (h (p0 + 15) x4.toNat < 4 → ((0 ≤ x5 ∧ x5 < 8) ∧ ((0 ≤ x4 ∧ x4 < 8) ∧ (zr (4 - (h (p0 + 15) x4.toNat)) ∧ (zr ((h (p0 + 15) x5.toNat) - (4 - (h (p0 + 15) x4.toNat))) ∧ ((0 ≤ x5 ∧ x5 < 8) ∧ (∀ h_8 : zH, h_8 = zs h (p0 + 15) x5.toNat ((h (p0 + 15) x5.toNat) - (4 - (h (p0 + 15) x4.toNat))) → (zr (x3 + 1) ∧ (L42 (x3 + 1, h_8))))))))))))) ∧ (x6 < 4 → (zr (32 * x1) ∧ (zr (4 * x4) ∧ (zr ((32 * x1) + (4 * x4)) ∧ (zr (((32 * x1) + (4 * x4)) + x6) ∧ ((0 ≤ x4 ∧ x4 < 8) ∧ ((h (p0 + 15) x4.toNat ≤ x6 → ((0 ≤ ((32 * x1) + (4 * x4)) + x6 ∧ ((32 * x1) + (4 * x4)) + x6 < 96) ∧ (∀ h_16 : zH, h_16 = zs h (p0 + 12) ((((32 * x1) + (4 * x4)) + x6).toNat) x5 → (zr (x6 + 1) ∧ (L195 (x6 + 1, h_16)))))) ∧ (x6 < h (p0 + 15) x4.toNat → ((0 ≤ ((32 * x1) + (4 * x4)) + x6 ∧ ((32 * x1) + (4 * x4)) + x6 < 96) ∧ (∀ h_19 : zH, h_19 = zs h (p0 + 12) ((((32 * x1) + (4 * x4)) + x6).toNat) x4 → (zr (x6 + 1) ∧ (L195 (x6 + 1, h_19)))))))))))))
set_option maxRecDepth 100000 in
theorem s_RM_laySlots_195 {Wf : Heap → List Loc → JFrame → Prop} {m : MethodId} {g : zG} {n : Nat} {H0 : Heap} (X : zX Wf m rm_RM_laySlots b_RM_laySlots "AliasStreamsModel" 7 g n H0) {K : zH → Prop} (E : zEx Wf m b_RM_laySlots none 7 g n H0 (zPv K)) {L42 : Int × zH → Prop} {p0 : Nat} {x1 : Int} {x2 : Int} {x3 : Int} {x4 : Int} {x5 : Int} (hL42 : ∀ q : Int × zH, L42 q → zr q.1 → zh (q.2) → zW Wf m 7 g n H0 42 [(0, .ref (g.2.2 p0)), (1, zi x1), (2, zi x2), (3, zi q.1)] [] (q.2)) (op0 : zO n p0 11) (rx1 : zr x1) (rx2 : zr x2) (rx3 : zr x3) (rx4 : zr x4) (rx5 : zr x5) {q0 : Int × zH} (hv0 : zLoop (fun L q => F_RM_laySlots_195 K L42 L p0 x1 x2 x3 x4 x5 q.1 q.2) q0) : zr q0.1 → zh (q0.2) → zW Wf m 7 g n H0 195 [(0, .ref (g.2.2 p0)), (1, zi x1), (2, zi x2), (3, zi x3), (4, zi x4), (5, zi x5), (6, zi q0.1)] [] (q0.2) := by
  refine zLoop_use (G := fun q => zr q.1 → zh (q.2) → zW Wf m 7 g n H0 195 [(0, .ref (g.2.2 p0)), (1, zi x1), (2, zi x2), (3, zi x3), (4, zi x4), (5, zi x5), (6, zi q.1)] [] (q.2)) ?_ hv0
  rintro L195 ⟨x6, h⟩ hL195 hv rx6 hh
  have hv : F_RM_laySlots_195 K L42 L195 p0 x1 x2 x3 x4 x5 x6 h := hv
  unfold F_RM_laySlots_195 at hv
  show zW Wf m 7 g n H0 195 [(0, .ref (g.2.2 p0)), (1, zi x1), (2, zi x2), (3, zi x3), (4, zi x4), (5, zi x5), (6, zi x6)] [] h
  refine z_iload (pc := 195) (q := 6) X d_RM_laySlots_195 rfl ?_
  refine z_iconst (pc := 197) X d_RM_laySlots_197 ?_
  refine z_icmp_ge (pc := 198) (tgt := 243) X rx6 (show zr 4 from by decide) d_RM_laySlots_198 (by decide) (fun hc => ?_) (fun hc => ?_)
  · replace hv := hv.1 hc
    refine z_aload_n (pc := 243) (q := 0) X d_RM_laySlots_243 rfl ?_
    refine z_getr (pc := 244) (j := 22) (dd := 15) X cf_RM op0 (by decide) q1043 rfl rfl d_RM_laySlots_244 ?_
    refine z_iload (pc := 247) (q := 4) X d_RM_laySlots_247 rfl ?_
    obtain ⟨v_1, hv⟩ := hv
    refine z_ialdj (pc := 249) (j := x4.toNat) X (gf_RM_22 op0) (gl_RM_22 op0) rx4 v_1 rfl d_RM_laySlots_249 ?_
    refine z_iconst (pc := 250) X d_RM_laySlots_250 ?_
    refine z_icmp_ge (pc := 251) (tgt := 273) X (hh.1 _ _ (zO.ne (gf_RM_22 op0) (by decide))) (show zr 4 from by decide) d_RM_laySlots_251 (by decide) (fun hc => ?_) (fun hc => ?_)
    · replace hv := hv.1 hc
      obtain ⟨v_2, hv⟩ := hv
      refine z_iinc (pc := 273) (q := 3) (lv' := [(3, zi (x3 + 1)), (0, .ref (g.2.2 p0)), (1, zi x1), (2, zi x2), (4, zi x4), (5, zi x5), (6, zi x6)]) X d_RM_laySlots_273 rfl (by decide) rfl ?_
      refine z_goto (pc := 276) (tgt := 42) X d_RM_laySlots_276 (by decide) ?_
      refine z_perm [1, 2, 3, 0] rfl ?_
      exact hL42 _ hv v_2 hh
    · replace hv := hv.2 hc
      refine z_aload_n (pc := 254) (q := 0) X d_RM_laySlots_254 rfl ?_
      refine z_getr (pc := 255) (j := 22) (dd := 15) X cf_RM op0 (by decide) q1043 rfl rfl d_RM_laySlots_255 ?_
      refine z_iload (pc := 258) (q := 5) X d_RM_laySlots_258 rfl ?_
      refine z_dup2 (pc := 260) X d_RM_laySlots_260 rfl rfl ?_
      obtain ⟨v_3, hv⟩ := hv
      refine z_ialdj (pc := 261) (j := x5.toNat) X (gf_RM_22 op0) (gl_RM_22 op0) rx5 v_3 rfl d_RM_laySlots_261 ?_
      refine z_iconst (pc := 262) X d_RM_laySlots_262 ?_
      refine z_aload_n (pc := 263) (q := 0) X d_RM_laySlots_263 rfl ?_
      refine z_getr (pc := 264) (j := 22) (dd := 15) X cf_RM op0 (by decide) q1043 rfl rfl d_RM_laySlots_264 ?_
      refine z_iload (pc := 267) (q := 4) X d_RM_laySlots_267 rfl ?_
      obtain ⟨v_4, hv⟩ := hv
      refine z_ialdj (pc := 269) (j := x4.toNat) X (gf_RM_22 op0) (gl_RM_22 op0) rx4 v_4 rfl d_RM_laySlots_269 ?_
      obtain ⟨v_5, hv⟩ := hv
      refine z_isub (pc := 270) X d_RM_laySlots_270 ?_
      obtain ⟨v_6, hv⟩ := hv
      refine z_isub (pc := 271) X d_RM_laySlots_271 ?_
      obtain ⟨v_7, hv⟩ := hv
      refine z_iastj (pc := 272) (j := x5.toNat) X (gf_RM_22 op0) (gl_RM_22 op0) rx5 v_7 rfl d_RM_laySlots_272 ?_
      refine z_toph (fun h_8 eh_8 => ?_)
      have zh_8 : zh h_8 := by rw [eh_8]; exact zh_set hh (zO.ne (gf_RM_22 op0) (by decide)) v_6
      replace hv := hv h_8 eh_8
      obtain ⟨v_9, hv⟩ := hv
      refine z_iinc (pc := 273) (q := 3) (lv' := [(3, zi (x3 + 1)), (0, .ref (g.2.2 p0)), (1, zi x1), (2, zi x2), (4, zi x4), (5, zi x5), (6, zi x6)]) X d_RM_laySlots_273 rfl (by decide) rfl ?_
      refine z_goto (pc := 276) (tgt := 42) X d_RM_laySlots_276 (by decide) ?_
      refine z_perm [1, 2, 3, 0] rfl ?_
      exact hL42 _ hv v_9 zh_8
  · replace hv := hv.2 hc
    refine z_aload_n (pc := 201) (q := 0) X d_RM_laySlots_201 rfl ?_
    refine z_getr (pc := 202) (j := 19) (dd := 12) X cf_RM op0 (by decide) q1040 rfl rfl d_RM_laySlots_202 ?_
    refine z_bipush (pc := 205) X d_RM_laySlots_205 (by decide) ?_
    refine z_iload_n (pc := 207) (q := 1) X d_RM_laySlots_207 rfl ?_
    obtain ⟨v_10, hv⟩ := hv
    refine z_imul (pc := 208) X d_RM_laySlots_208 ?_
    refine z_iconst (pc := 209) X d_RM_laySlots_209 ?_
    refine z_iload (pc := 210) (q := 4) X d_RM_laySlots_210 rfl ?_
    obtain ⟨v_11, hv⟩ := hv
    refine z_imul (pc := 212) X d_RM_laySlots_212 ?_
    obtain ⟨v_12, hv⟩ := hv
    refine z_iadd (pc := 213) X d_RM_laySlots_213 ?_
    refine z_iload (pc := 214) (q := 6) X d_RM_laySlots_214 rfl ?_
    obtain ⟨v_13, hv⟩ := hv
    refine z_iadd (pc := 216) X d_RM_laySlots_216 ?_
    refine z_iload (pc := 217) (q := 6) X d_RM_laySlots_217 rfl ?_
    refine z_aload_n (pc := 219) (q := 0) X d_RM_laySlots_219 rfl ?_
    refine z_getr (pc := 220) (j := 22) (dd := 15) X cf_RM op0 (by decide) q1043 rfl rfl d_RM_laySlots_220 ?_
    refine z_iload (pc := 223) (q := 4) X d_RM_laySlots_223 rfl ?_
    obtain ⟨v_14, hv⟩ := hv
    refine z_ialdj (pc := 225) (j := x4.toNat) X (gf_RM_22 op0) (gl_RM_22 op0) rx4 v_14 rfl d_RM_laySlots_225 ?_
    refine z_icmp_ge (pc := 226) (tgt := 234) X rx6 (hh.1 _ _ (zO.ne (gf_RM_22 op0) (by decide))) d_RM_laySlots_226 (by decide) (fun hc => ?_) (fun hc => ?_)
    · replace hv := hv.1 hc
      refine z_iload (pc := 234) (q := 5) X d_RM_laySlots_234 rfl ?_
      obtain ⟨v_15, hv⟩ := hv
      refine z_iastj (pc := 236) (j := (((32 * x1) + (4 * x4)) + x6).toNat) X (gf_RM_19 op0) (gl_RM_19 op0) v_13 v_15 rfl d_RM_laySlots_236 ?_
      refine z_toph (fun h_16 eh_16 => ?_)
      have zh_16 : zh h_16 := by rw [eh_16]; exact zh_set hh (zO.ne (gf_RM_19 op0) (by decide)) rx5
      replace hv := hv h_16 eh_16
      obtain ⟨v_17, hv⟩ := hv
      refine z_iinc (pc := 237) (q := 6) (lv' := [(6, zi (x6 + 1)), (0, .ref (g.2.2 p0)), (1, zi x1), (2, zi x2), (3, zi x3), (4, zi x4), (5, zi x5)]) X d_RM_laySlots_237 rfl (by decide) rfl ?_
      refine z_goto (pc := 240) (tgt := 195) X d_RM_laySlots_240 (by decide) ?_
      refine z_perm [1, 2, 3, 4, 5, 6, 0] rfl ?_
      exact hL195 _ hv v_17 zh_16
    · replace hv := hv.2 hc
      refine z_iload (pc := 229) (q := 4) X d_RM_laySlots_229 rfl ?_
      refine z_goto (pc := 231) (tgt := 236) X d_RM_laySlots_231 (by decide) ?_
      obtain ⟨v_18, hv⟩ := hv
      refine z_iastj (pc := 236) (j := (((32 * x1) + (4 * x4)) + x6).toNat) X (gf_RM_19 op0) (gl_RM_19 op0) v_13 v_18 rfl d_RM_laySlots_236 ?_
      refine z_toph (fun h_19 eh_19 => ?_)
      have zh_19 : zh h_19 := by rw [eh_19]; exact zh_set hh (zO.ne (gf_RM_19 op0) (by decide)) rx4
      replace hv := hv h_19 eh_19
      obtain ⟨v_20, hv⟩ := hv
      refine z_iinc (pc := 237) (q := 6) (lv' := [(6, zi (x6 + 1)), (0, .ref (g.2.2 p0)), (1, zi x1), (2, zi x2), (3, zi x3), (4, zi x4), (5, zi x5)]) X d_RM_laySlots_237 rfl (by decide) rfl ?_
      refine z_goto (pc := 240) (tgt := 195) X d_RM_laySlots_240 (by decide) ?_
      refine z_perm [1, 2, 3, 4, 5, 6, 0] rfl ?_
      exact hL195 _ hv v_20 zh_19
def F_RM_laySlots_109 (K : zH → Prop) (L42 : Int × zH → Prop) (L109 : Int × Int × zH → Prop) (p0 : Nat) (x1 : Int) (x2 : Int) (x3 : Int) (x4 : Int) (x5 : Int) (x6 : Int) (h : zH) : Prop :=
  (8 ≤ x6 → (zr (x2 + x4) ∧ ((0 ≤ x4 ∧ x4 < 8) ∧ ((4 ≤ h (p0 + 15) x4.toNat → ((0 ≤ x2 + x4 ∧ x2 + x4 < 24) ∧ (∀ h_4 : zH, h_4 = zs h (p0 + 11) ((x2 + x4).toNat) (-9) → (zLoop (fun L q => F_RM_laySlots_195 K L42 L p0 x1 x2 x3 x4 x5 q.1 q.2) (0, h_4))))) ∧ (h (p0 + 15) x4.toNat < 4 → ((0 ≤ x2 + x4 ∧ x2 + x4 < 24) ∧ (∀ h_6 : zH, h_6 = zs h (p0 + 11) ((x2 + x4).toNat) x5 → (zLoop (fun L q => F_RM_laySlots_195 K L42 L p0 x1 x2 x3 x4 x5 q.1 q.2) (0, h_6))))))))) ∧ (x6 < 8 → ((0 ≤ x6 ∧ x6 < 8) ∧ ((h (p0 + 16) x6.toNat = 0 → (zr (x6 + 1) ∧ (L109 (x5, x6 + 1, h)))) ∧ (h (p0 + 16) x6.toNat ≠ 0 → ((x5 = (-9) → (zr (x6 + 1) ∧ (L109 (x6, x6 + 1, h)))) ∧ (x5 ≠ (-9) → ((0 ≤ x6 ∧ x6 < 8) ∧ ((0 ≤ x5 ∧ x5 < 8) ∧ ((h (p0 + 15) x6.toNat ≤ h (p0 + 15) x5.toNat → (zr (x6 + 1) ∧ (L109 (x5, x6 + 1, h)))) ∧ (h (p0 + 15) x5.toNat < h (p0 + 15) x6.toNat → (zr (x6 + 1) ∧ (L109 (x6, x6 + 1, h)))))))))))))
set_option maxRecDepth 100000 in
theorem s_RM_laySlots_109 {Wf : Heap → List Loc → JFrame → Prop} {m : MethodId} {g : zG} {n : Nat} {H0 : Heap} (X : zX Wf m rm_RM_laySlots b_RM_laySlots "AliasStreamsModel" 7 g n H0) {K : zH → Prop} (E : zEx Wf m b_RM_laySlots none 7 g n H0 (zPv K)) {L42 : Int × zH → Prop} {p0 : Nat} {x1 : Int} {x2 : Int} {x3 : Int} {x4 : Int} (hL42 : ∀ q : Int × zH, L42 q → zr q.1 → zh (q.2) → zW Wf m 7 g n H0 42 [(0, .ref (g.2.2 p0)), (1, zi x1), (2, zi x2), (3, zi q.1)] [] (q.2)) (op0 : zO n p0 11) (rx1 : zr x1) (rx2 : zr x2) (rx3 : zr x3) (rx4 : zr x4) {q0 : Int × Int × zH} (hv0 : zLoop (fun L q => F_RM_laySlots_109 K L42 L p0 x1 x2 x3 x4 q.1 q.2.1 q.2.2) q0) : zr q0.1 → zr q0.2.1 → zh (q0.2.2) → zW Wf m 7 g n H0 109 [(0, .ref (g.2.2 p0)), (1, zi x1), (2, zi x2), (3, zi x3), (4, zi x4), (5, zi q0.1), (6, zi q0.2.1)] [] (q0.2.2) := by
  refine zLoop_use (G := fun q => zr q.1 → zr q.2.1 → zh (q.2.2) → zW Wf m 7 g n H0 109 [(0, .ref (g.2.2 p0)), (1, zi x1), (2, zi x2), (3, zi x3), (4, zi x4), (5, zi q.1), (6, zi q.2.1)] [] (q.2.2)) ?_ hv0
  rintro L109 ⟨x5, x6, h⟩ hL109 hv rx5 rx6 hh
  have hv : F_RM_laySlots_109 K L42 L109 p0 x1 x2 x3 x4 x5 x6 h := hv
  unfold F_RM_laySlots_109 at hv
  show zW Wf m 7 g n H0 109 [(0, .ref (g.2.2 p0)), (1, zi x1), (2, zi x2), (3, zi x3), (4, zi x4), (5, zi x5), (6, zi x6)] [] h
  refine z_iload (pc := 109) (q := 6) X d_RM_laySlots_109 rfl ?_
  refine z_bipush (pc := 111) X d_RM_laySlots_111 (by decide) ?_
  refine z_icmp_ge (pc := 113) (tgt := 165) X rx6 (show zr 8 from by decide) d_RM_laySlots_113 (by decide) (fun hc => ?_) (fun hc => ?_)
  · replace hv := hv.1 hc
    refine z_aload_n (pc := 165) (q := 0) X d_RM_laySlots_165 rfl ?_
    refine z_getr (pc := 166) (j := 18) (dd := 11) X cf_RM op0 (by decide) q1039 rfl rfl d_RM_laySlots_166 ?_
    refine z_iload_n (pc := 169) (q := 2) X d_RM_laySlots_169 rfl ?_
    refine z_iload (pc := 170) (q := 4) X d_RM_laySlots_170 rfl ?_
    obtain ⟨v_1, hv⟩ := hv
    refine z_iadd (pc := 172) X d_RM_laySlots_172 ?_
    refine z_aload_n (pc := 173) (q := 0) X d_RM_laySlots_173 rfl ?_
    refine z_getr (pc := 174) (j := 22) (dd := 15) X cf_RM op0 (by decide) q1043 rfl rfl d_RM_laySlots_174 ?_
    refine z_iload (pc := 177) (q := 4) X d_RM_laySlots_177 rfl ?_
    obtain ⟨v_2, hv⟩ := hv
    refine z_ialdj (pc := 179) (j := x4.toNat) X (gf_RM_22 op0) (gl_RM_22 op0) rx4 v_2 rfl d_RM_laySlots_179 ?_
    refine z_iconst (pc := 180) X d_RM_laySlots_180 ?_
    refine z_icmp_ge (pc := 181) (tgt := 189) X (hh.1 _ _ (zO.ne (gf_RM_22 op0) (by decide))) (show zr 4 from by decide) d_RM_laySlots_181 (by decide) (fun hc => ?_) (fun hc => ?_)
    · replace hv := hv.1 hc
      refine z_bipush (pc := 189) X d_RM_laySlots_189 (by decide) ?_
      obtain ⟨v_3, hv⟩ := hv
      refine z_iastj (pc := 191) (j := (x2 + x4).toNat) X (gf_RM_18 op0) (gl_RM_18 op0) v_1 v_3 rfl d_RM_laySlots_191 ?_
      refine z_toph (fun h_4 eh_4 => ?_)
      have zh_4 : zh h_4 := by rw [eh_4]; exact zh_set hh (zO.ne (gf_RM_18 op0) (by decide)) (show zr (-9) from by decide)
      replace hv := hv h_4 eh_4
      refine z_iconst (pc := 192) X d_RM_laySlots_192 ?_
      refine z_istore (pc := 193) (lv' := [(6, zi 0), (0, .ref (g.2.2 p0)), (1, zi x1), (2, zi x2), (3, zi x3), (4, zi x4), (5, zi x5)]) X d_RM_laySlots_193 (by decide) rfl ?_
      refine z_perm [1, 2, 3, 4, 5, 6, 0] rfl ?_
      exact s_RM_laySlots_195 X E hL42 op0 rx1 rx2 rx3 rx4 rx5 hv (show zr 0 from by decide) zh_4
    · replace hv := hv.2 hc
      refine z_iload (pc := 184) (q := 5) X d_RM_laySlots_184 rfl ?_
      refine z_goto (pc := 186) (tgt := 191) X d_RM_laySlots_186 (by decide) ?_
      obtain ⟨v_5, hv⟩ := hv
      refine z_iastj (pc := 191) (j := (x2 + x4).toNat) X (gf_RM_18 op0) (gl_RM_18 op0) v_1 v_5 rfl d_RM_laySlots_191 ?_
      refine z_toph (fun h_6 eh_6 => ?_)
      have zh_6 : zh h_6 := by rw [eh_6]; exact zh_set hh (zO.ne (gf_RM_18 op0) (by decide)) rx5
      replace hv := hv h_6 eh_6
      refine z_iconst (pc := 192) X d_RM_laySlots_192 ?_
      refine z_istore (pc := 193) (lv' := [(6, zi 0), (0, .ref (g.2.2 p0)), (1, zi x1), (2, zi x2), (3, zi x3), (4, zi x4), (5, zi x5)]) X d_RM_laySlots_193 (by decide) rfl ?_
      refine z_perm [1, 2, 3, 4, 5, 6, 0] rfl ?_
      exact s_RM_laySlots_195 X E hL42 op0 rx1 rx2 rx3 rx4 rx5 hv (show zr 0 from by decide) zh_6
  · replace hv := hv.2 hc
    refine z_aload_n (pc := 116) (q := 0) X d_RM_laySlots_116 rfl ?_
    refine z_getr (pc := 117) (j := 23) (dd := 16) X cf_RM op0 (by decide) q1044 rfl rfl d_RM_laySlots_117 ?_
    refine z_iload (pc := 120) (q := 6) X d_RM_laySlots_120 rfl ?_
    obtain ⟨v_7, hv⟩ := hv
    refine z_zaldj (pc := 122) (j := x6.toNat) X (gf_RM_23 op0) (gl_RM_23 op0) rx6 v_7 rfl d_RM_laySlots_122 ?_
    refine z_if_eq (pc := 123) (tgt := 155) X (hh.1 _ _ (zO.ne (gf_RM_23 op0) (by decide))) d_RM_laySlots_123 (by decide) (fun hc => ?_) (fun hc => ?_)
    · replace hv := hv.1 hc
      refine z_iload (pc := 155) (q := 5) X d_RM_laySlots_155 rfl ?_
      refine z_istore (pc := 157) (lv' := [(5, zi x5), (0, .ref (g.2.2 p0)), (1, zi x1), (2, zi x2), (3, zi x3), (4, zi x4), (6, zi x6)]) X d_RM_laySlots_157 (by decide) rfl ?_
      obtain ⟨v_8, hv⟩ := hv
      refine z_iinc (pc := 159) (q := 6) (lv' := [(6, zi (x6 + 1)), (5, zi x5), (0, .ref (g.2.2 p0)), (1, zi x1), (2, zi x2), (3, zi x3), (4, zi x4)]) X d_RM_laySlots_159 rfl (by decide) rfl ?_
      refine z_goto (pc := 162) (tgt := 109) X d_RM_laySlots_162 (by decide) ?_
      refine z_perm [2, 3, 4, 5, 6, 1, 0] rfl ?_
      exact hL109 _ hv rx5 v_8 hh
    · replace hv := hv.2 hc
      refine z_iload (pc := 126) (q := 5) X d_RM_laySlots_126 rfl ?_
      refine z_bipush (pc := 128) X d_RM_laySlots_128 (by decide) ?_
      refine z_icmp_eq (pc := 130) (tgt := 150) X rx5 (show zr (-9) from by decide) d_RM_laySlots_130 (by decide) (fun hc => ?_) (fun hc => ?_)
      · replace hv := hv.1 hc
        refine z_iload (pc := 150) (q := 6) X d_RM_laySlots_150 rfl ?_
        refine z_goto (pc := 152) (tgt := 157) X d_RM_laySlots_152 (by decide) ?_
        refine z_istore (pc := 157) (lv' := [(5, zi x6), (0, .ref (g.2.2 p0)), (1, zi x1), (2, zi x2), (3, zi x3), (4, zi x4), (6, zi x6)]) X d_RM_laySlots_157 (by decide) rfl ?_
        obtain ⟨v_9, hv⟩ := hv
        refine z_iinc (pc := 159) (q := 6) (lv' := [(6, zi (x6 + 1)), (5, zi x6), (0, .ref (g.2.2 p0)), (1, zi x1), (2, zi x2), (3, zi x3), (4, zi x4)]) X d_RM_laySlots_159 rfl (by decide) rfl ?_
        refine z_goto (pc := 162) (tgt := 109) X d_RM_laySlots_162 (by decide) ?_
        refine z_perm [2, 3, 4, 5, 6, 1, 0] rfl ?_
        exact hL109 _ hv rx6 v_9 hh
      · replace hv := hv.2 hc
        refine z_aload_n (pc := 133) (q := 0) X d_RM_laySlots_133 rfl ?_
        refine z_getr (pc := 134) (j := 22) (dd := 15) X cf_RM op0 (by decide) q1043 rfl rfl d_RM_laySlots_134 ?_
        refine z_iload (pc := 137) (q := 6) X d_RM_laySlots_137 rfl ?_
        obtain ⟨v_10, hv⟩ := hv
        refine z_ialdj (pc := 139) (j := x6.toNat) X (gf_RM_22 op0) (gl_RM_22 op0) rx6 v_10 rfl d_RM_laySlots_139 ?_
        refine z_aload_n (pc := 140) (q := 0) X d_RM_laySlots_140 rfl ?_
        refine z_getr (pc := 141) (j := 22) (dd := 15) X cf_RM op0 (by decide) q1043 rfl rfl d_RM_laySlots_141 ?_
        refine z_iload (pc := 144) (q := 5) X d_RM_laySlots_144 rfl ?_
        obtain ⟨v_11, hv⟩ := hv
        refine z_ialdj (pc := 146) (j := x5.toNat) X (gf_RM_22 op0) (gl_RM_22 op0) rx5 v_11 rfl d_RM_laySlots_146 ?_
        refine z_icmp_le (pc := 147) (tgt := 155) X (hh.1 _ _ (zO.ne (gf_RM_22 op0) (by decide))) (hh.1 _ _ (zO.ne (gf_RM_22 op0) (by decide))) d_RM_laySlots_147 (by decide) (fun hc => ?_) (fun hc => ?_)
        · replace hv := hv.1 hc
          refine z_iload (pc := 155) (q := 5) X d_RM_laySlots_155 rfl ?_
          refine z_istore (pc := 157) (lv' := [(5, zi x5), (0, .ref (g.2.2 p0)), (1, zi x1), (2, zi x2), (3, zi x3), (4, zi x4), (6, zi x6)]) X d_RM_laySlots_157 (by decide) rfl ?_
          obtain ⟨v_12, hv⟩ := hv
          refine z_iinc (pc := 159) (q := 6) (lv' := [(6, zi (x6 + 1)), (5, zi x5), (0, .ref (g.2.2 p0)), (1, zi x1), (2, zi x2), (3, zi x3), (4, zi x4)]) X d_RM_laySlots_159 rfl (by decide) rfl ?_
          refine z_goto (pc := 162) (tgt := 109) X d_RM_laySlots_162 (by decide) ?_
          refine z_perm [2, 3, 4, 5, 6, 1, 0] rfl ?_
          exact hL109 _ hv rx5 v_12 hh
        · replace hv := hv.2 hc
          refine z_iload (pc := 150) (q := 6) X d_RM_laySlots_150 rfl ?_
          refine z_goto (pc := 152) (tgt := 157) X d_RM_laySlots_152 (by decide) ?_
          refine z_istore (pc := 157) (lv' := [(5, zi x6), (0, .ref (g.2.2 p0)), (1, zi x1), (2, zi x2), (3, zi x3), (4, zi x4), (6, zi x6)]) X d_RM_laySlots_157 (by decide) rfl ?_
          obtain ⟨v_13, hv⟩ := hv
          refine z_iinc (pc := 159) (q := 6) (lv' := [(6, zi (x6 + 1)), (5, zi x6), (0, .ref (g.2.2 p0)), (1, zi x1), (2, zi x2), (3, zi x3), (4, zi x4)]) X d_RM_laySlots_159 rfl (by decide) rfl ?_
          refine z_goto (pc := 162) (tgt := 109) X d_RM_laySlots_162 (by decide) ?_
          refine z_perm [2, 3, 4, 5, 6, 1, 0] rfl ?_
          exact hL109 _ hv rx6 v_13 hh
def F_RM_laySlots_51 (K : zH → Prop) (L42 : Int × zH → Prop) (L51 : Int × zH → Prop) (p0 : Nat) (x1 : Int) (x2 : Int) (x3 : Int) (x4 : Int) (h : zH) : Prop :=
  (0 ≤ x4 ∧ x4 < 8) ∧ ((h (p0 + 16) x4.toNat = 0 → (zr (x4 + 1) ∧ (L51 (x4 + 1, h)))) ∧ (h (p0 + 16) x4.toNat ≠ 0 → ((0 ≤ x4 ∧ x4 < 8) ∧ ((h (p0 + 15) x4.toNat ≤ 4 → ((0 ≤ x4 ∧ x4 < 8) ∧ (∀ h_5 : zH, h_5 = zs h (p0 + 16) x4.toNat 0 → (zr (x2 + x4) ∧ ((0 ≤ x4 ∧ x4 < 8) ∧ ((0 ≤ x2 + x4 ∧ x2 + x4 < 24) ∧ (∀ h_9 : zH, h_9 = zs h_5 (p0 + 10) ((x2 + x4).toNat) (h_5 (p0 + 15) x4.toNat) → (zLoop (fun L q => F_RM_laySlots_109 K L42 L p0 x1 x2 x3 x4 q.1 q.2.1 q.2.2) ((-9), 0, h_9))))))))) ∧ (4 < h (p0 + 15) x4.toNat → (zr (x4 + 1) ∧ (L51 (x4 + 1, h))))))))
set_option maxRecDepth 100000 in
theorem s_RM_laySlots_51 {Wf : Heap → List Loc → JFrame → Prop} {m : MethodId} {g : zG} {n : Nat} {H0 : Heap} (X : zX Wf m rm_RM_laySlots b_RM_laySlots "AliasStreamsModel" 7 g n H0) {K : zH → Prop} (E : zEx Wf m b_RM_laySlots none 7 g n H0 (zPv K)) {L42 : Int × zH → Prop} {p0 : Nat} {x1 : Int} {x2 : Int} {x3 : Int} (hL42 : ∀ q : Int × zH, L42 q → zr q.1 → zh (q.2) → zW Wf m 7 g n H0 42 [(0, .ref (g.2.2 p0)), (1, zi x1), (2, zi x2), (3, zi q.1)] [] (q.2)) (op0 : zO n p0 11) (rx1 : zr x1) (rx2 : zr x2) (rx3 : zr x3) {q0 : Int × zH} (hv0 : zLoop (fun L q => F_RM_laySlots_51 K L42 L p0 x1 x2 x3 q.1 q.2) q0) : zr q0.1 → zh (q0.2) → zW Wf m 7 g n H0 51 [(0, .ref (g.2.2 p0)), (1, zi x1), (2, zi x2), (3, zi x3), (4, zi q0.1)] [] (q0.2) := by
  refine zLoop_use (G := fun q => zr q.1 → zh (q.2) → zW Wf m 7 g n H0 51 [(0, .ref (g.2.2 p0)), (1, zi x1), (2, zi x2), (3, zi x3), (4, zi q.1)] [] (q.2)) ?_ hv0
  rintro L51 ⟨x4, h⟩ hL51 hv rx4 hh
  have hv : F_RM_laySlots_51 K L42 L51 p0 x1 x2 x3 x4 h := hv
  unfold F_RM_laySlots_51 at hv
  show zW Wf m 7 g n H0 51 [(0, .ref (g.2.2 p0)), (1, zi x1), (2, zi x2), (3, zi x3), (4, zi x4)] [] h
  refine z_aload_n (pc := 51) (q := 0) X d_RM_laySlots_51 rfl ?_
  refine z_getr (pc := 52) (j := 23) (dd := 16) X cf_RM op0 (by decide) q1044 rfl rfl d_RM_laySlots_52 ?_
  refine z_iload (pc := 55) (q := 4) X d_RM_laySlots_55 rfl ?_
  obtain ⟨v_1, hv⟩ := hv
  refine z_zaldj (pc := 57) (j := x4.toNat) X (gf_RM_23 op0) (gl_RM_23 op0) rx4 v_1 rfl d_RM_laySlots_57 ?_
  refine z_if_eq (pc := 58) (tgt := 72) X (hh.1 _ _ (zO.ne (gf_RM_23 op0) (by decide))) d_RM_laySlots_58 (by decide) (fun hc => ?_) (fun hc => ?_)
  · replace hv := hv.1 hc
    obtain ⟨v_2, hv⟩ := hv
    refine z_iinc (pc := 72) (q := 4) (lv' := [(4, zi (x4 + 1)), (0, .ref (g.2.2 p0)), (1, zi x1), (2, zi x2), (3, zi x3)]) X d_RM_laySlots_72 rfl (by decide) rfl ?_
    refine z_goto (pc := 75) (tgt := 51) X d_RM_laySlots_75 (by decide) ?_
    refine z_perm [1, 2, 3, 4, 0] rfl ?_
    exact hL51 _ hv v_2 hh
  · replace hv := hv.2 hc
    refine z_aload_n (pc := 61) (q := 0) X d_RM_laySlots_61 rfl ?_
    refine z_getr (pc := 62) (j := 22) (dd := 15) X cf_RM op0 (by decide) q1043 rfl rfl d_RM_laySlots_62 ?_
    refine z_iload (pc := 65) (q := 4) X d_RM_laySlots_65 rfl ?_
    obtain ⟨v_3, hv⟩ := hv
    refine z_ialdj (pc := 67) (j := x4.toNat) X (gf_RM_22 op0) (gl_RM_22 op0) rx4 v_3 rfl d_RM_laySlots_67 ?_
    refine z_iconst (pc := 68) X d_RM_laySlots_68 ?_
    refine z_icmp_le (pc := 69) (tgt := 78) X (hh.1 _ _ (zO.ne (gf_RM_22 op0) (by decide))) (show zr 4 from by decide) d_RM_laySlots_69 (by decide) (fun hc => ?_) (fun hc => ?_)
    · replace hv := hv.1 hc
      refine z_aload_n (pc := 78) (q := 0) X d_RM_laySlots_78 rfl ?_
      refine z_getr (pc := 79) (j := 23) (dd := 16) X cf_RM op0 (by decide) q1044 rfl rfl d_RM_laySlots_79 ?_
      refine z_iload (pc := 82) (q := 4) X d_RM_laySlots_82 rfl ?_
      refine z_iconst (pc := 84) X d_RM_laySlots_84 ?_
      obtain ⟨v_4, hv⟩ := hv
      refine z_zastj (pc := 85) (j := x4.toNat) X (gf_RM_23 op0) (gl_RM_23 op0) rx4 v_4 rfl (by decide) d_RM_laySlots_85 ?_
      refine z_toph (fun h_5 eh_5 => ?_)
      have zh_5 : zh h_5 := by rw [eh_5]; exact zh_set hh (zO.ne (gf_RM_23 op0) (by decide)) (show zr 0 from by decide)
      replace hv := hv h_5 eh_5
      refine z_aload_n (pc := 86) (q := 0) X d_RM_laySlots_86 rfl ?_
      refine z_getr (pc := 87) (j := 17) (dd := 10) X cf_RM op0 (by decide) q1038 rfl rfl d_RM_laySlots_87 ?_
      refine z_iload_n (pc := 90) (q := 2) X d_RM_laySlots_90 rfl ?_
      refine z_iload (pc := 91) (q := 4) X d_RM_laySlots_91 rfl ?_
      obtain ⟨v_6, hv⟩ := hv
      refine z_iadd (pc := 93) X d_RM_laySlots_93 ?_
      refine z_aload_n (pc := 94) (q := 0) X d_RM_laySlots_94 rfl ?_
      refine z_getr (pc := 95) (j := 22) (dd := 15) X cf_RM op0 (by decide) q1043 rfl rfl d_RM_laySlots_95 ?_
      refine z_iload (pc := 98) (q := 4) X d_RM_laySlots_98 rfl ?_
      obtain ⟨v_7, hv⟩ := hv
      refine z_ialdj (pc := 100) (j := x4.toNat) X (gf_RM_22 op0) (gl_RM_22 op0) rx4 v_7 rfl d_RM_laySlots_100 ?_
      obtain ⟨v_8, hv⟩ := hv
      refine z_iastj (pc := 101) (j := (x2 + x4).toNat) X (gf_RM_17 op0) (gl_RM_17 op0) v_6 v_8 rfl d_RM_laySlots_101 ?_
      refine z_toph (fun h_9 eh_9 => ?_)
      have zh_9 : zh h_9 := by rw [eh_9]; exact zh_set zh_5 (zO.ne (gf_RM_17 op0) (by decide)) (zh_5.1 _ _ (zO.ne (gf_RM_22 op0) (by decide)))
      replace hv := hv h_9 eh_9
      refine z_bipush (pc := 102) X d_RM_laySlots_102 (by decide) ?_
      refine z_istore (pc := 104) (lv' := [(5, zi (-9)), (0, .ref (g.2.2 p0)), (1, zi x1), (2, zi x2), (3, zi x3), (4, zi x4)]) X d_RM_laySlots_104 (by decide) rfl ?_
      refine z_iconst (pc := 106) X d_RM_laySlots_106 ?_
      refine z_istore (pc := 107) (lv' := [(6, zi 0), (5, zi (-9)), (0, .ref (g.2.2 p0)), (1, zi x1), (2, zi x2), (3, zi x3), (4, zi x4)]) X d_RM_laySlots_107 (by decide) rfl ?_
      refine z_perm [2, 3, 4, 5, 6, 1, 0] rfl ?_
      exact s_RM_laySlots_109 X E hL42 op0 rx1 rx2 rx3 rx4 hv (show zr (-9) from by decide) (show zr 0 from by decide) zh_9
    · replace hv := hv.2 hc
      obtain ⟨v_10, hv⟩ := hv
      refine z_iinc (pc := 72) (q := 4) (lv' := [(4, zi (x4 + 1)), (0, .ref (g.2.2 p0)), (1, zi x1), (2, zi x2), (3, zi x3)]) X d_RM_laySlots_72 rfl (by decide) rfl ?_
      refine z_goto (pc := 75) (tgt := 51) X d_RM_laySlots_75 (by decide) ?_
      refine z_perm [1, 2, 3, 4, 0] rfl ?_
      exact hL51 _ hv v_10 hh
def F_RM_laySlots_42 (K : zH → Prop)  (L42 : Int × zH → Prop) (p0 : Nat) (x1 : Int) (x2 : Int) (x3 : Int) (h : zH) : Prop :=
  (8 ≤ x3 → (zLoop (fun L q => F_RM_laySlots_281 K  L p0 x1 q.1 q.2) (0, h))) ∧ (x3 < 8 → (zLoop (fun L q => F_RM_laySlots_51 K L42 L p0 x1 x2 x3 q.1 q.2) (0, h)))
set_option maxRecDepth 100000 in
theorem s_RM_laySlots_42 {Wf : Heap → List Loc → JFrame → Prop} {m : MethodId} {g : zG} {n : Nat} {H0 : Heap} (X : zX Wf m rm_RM_laySlots b_RM_laySlots "AliasStreamsModel" 7 g n H0) {K : zH → Prop} (E : zEx Wf m b_RM_laySlots none 7 g n H0 (zPv K))  {p0 : Nat} {x1 : Int} {x2 : Int}  (op0 : zO n p0 11) (rx1 : zr x1) (rx2 : zr x2) {q0 : Int × zH} (hv0 : zLoop (fun L q => F_RM_laySlots_42 K  L p0 x1 x2 q.1 q.2) q0) : zr q0.1 → zh (q0.2) → zW Wf m 7 g n H0 42 [(0, .ref (g.2.2 p0)), (1, zi x1), (2, zi x2), (3, zi q0.1)] [] (q0.2) := by
  refine zLoop_use (G := fun q => zr q.1 → zh (q.2) → zW Wf m 7 g n H0 42 [(0, .ref (g.2.2 p0)), (1, zi x1), (2, zi x2), (3, zi q.1)] [] (q.2)) ?_ hv0
  rintro L42 ⟨x3, h⟩ hL42 hv rx3 hh
  have hv : F_RM_laySlots_42 K  L42 p0 x1 x2 x3 h := hv
  unfold F_RM_laySlots_42 at hv
  show zW Wf m 7 g n H0 42 [(0, .ref (g.2.2 p0)), (1, zi x1), (2, zi x2), (3, zi x3)] [] h
  refine z_iload_n (pc := 42) (q := 3) X d_RM_laySlots_42 rfl ?_
  refine z_bipush (pc := 43) X d_RM_laySlots_43 (by decide) ?_
  refine z_icmp_ge (pc := 45) (tgt := 279) X rx3 (show zr 8 from by decide) d_RM_laySlots_45 (by decide) (fun hc => ?_) (fun hc => ?_)
  · replace hv := hv.1 hc
    refine z_iconst (pc := 279) X d_RM_laySlots_279 ?_
    refine z_istore_n (pc := 280) (lv' := [(3, zi 0), (0, .ref (g.2.2 p0)), (1, zi x1), (2, zi x2)]) X d_RM_laySlots_280 (by decide) rfl ?_
    refine z_perm [1, 2, 0] rfl ?_
    exact s_RM_laySlots_281 X E  op0 rx1 hv (show zr 0 from by decide) hh
  · replace hv := hv.2 hc
    refine z_iconst (pc := 48) X d_RM_laySlots_48 ?_
    refine z_istore (pc := 49) (lv' := [(4, zi 0), (0, .ref (g.2.2 p0)), (1, zi x1), (2, zi x2), (3, zi x3)]) X d_RM_laySlots_49 (by decide) rfl ?_
    refine z_perm [1, 2, 3, 4, 0] rfl ?_
    exact s_RM_laySlots_51 X E hL42 op0 rx1 rx2 rx3 hv (show zr 0 from by decide) hh
def F_RM_laySlots_7 (K : zH → Prop)  (L7 : Int × zH → Prop) (p0 : Nat) (x1 : Int) (x2 : Int) (x3 : Int) (h : zH) : Prop :=
  (8 ≤ x3 → (zLoop (fun L q => F_RM_laySlots_42 K  L p0 x1 x2 q.1 q.2) (0, h))) ∧ (x3 < 8 → (zr (x2 + x3) ∧ ((0 ≤ x2 + x3 ∧ x2 + x3 < 24) ∧ ((0 ≤ x3 ∧ x3 < 8) ∧ (∀ h_4 : zH, h_4 = zs h (p0 + 15) x3.toNat (h (p0 + 9) ((x2 + x3).toNat)) → ((0 ≤ x3 ∧ x3 < 8) ∧ (∀ h_6 : zH, h_6 = zs h_4 (p0 + 16) x3.toNat 1 → (zr (x3 + 1) ∧ (L7 (x3 + 1, h_6))))))))))
set_option maxRecDepth 100000 in
theorem s_RM_laySlots_7 {Wf : Heap → List Loc → JFrame → Prop} {m : MethodId} {g : zG} {n : Nat} {H0 : Heap} (X : zX Wf m rm_RM_laySlots b_RM_laySlots "AliasStreamsModel" 7 g n H0) {K : zH → Prop} (E : zEx Wf m b_RM_laySlots none 7 g n H0 (zPv K))  {p0 : Nat} {x1 : Int} {x2 : Int}  (op0 : zO n p0 11) (rx1 : zr x1) (rx2 : zr x2) {q0 : Int × zH} (hv0 : zLoop (fun L q => F_RM_laySlots_7 K  L p0 x1 x2 q.1 q.2) q0) : zr q0.1 → zh (q0.2) → zW Wf m 7 g n H0 7 [(0, .ref (g.2.2 p0)), (1, zi x1), (2, zi x2), (3, zi q0.1)] [] (q0.2) := by
  refine zLoop_use (G := fun q => zr q.1 → zh (q.2) → zW Wf m 7 g n H0 7 [(0, .ref (g.2.2 p0)), (1, zi x1), (2, zi x2), (3, zi q.1)] [] (q.2)) ?_ hv0
  rintro L7 ⟨x3, h⟩ hL7 hv rx3 hh
  have hv : F_RM_laySlots_7 K  L7 p0 x1 x2 x3 h := hv
  unfold F_RM_laySlots_7 at hv
  show zW Wf m 7 g n H0 7 [(0, .ref (g.2.2 p0)), (1, zi x1), (2, zi x2), (3, zi x3)] [] h
  refine z_iload_n (pc := 7) (q := 3) X d_RM_laySlots_7 rfl ?_
  refine z_bipush (pc := 8) X d_RM_laySlots_8 (by decide) ?_
  refine z_icmp_ge (pc := 10) (tgt := 40) X rx3 (show zr 8 from by decide) d_RM_laySlots_10 (by decide) (fun hc => ?_) (fun hc => ?_)
  · replace hv := hv.1 hc
    refine z_iconst (pc := 40) X d_RM_laySlots_40 ?_
    refine z_istore_n (pc := 41) (lv' := [(3, zi 0), (0, .ref (g.2.2 p0)), (1, zi x1), (2, zi x2)]) X d_RM_laySlots_41 (by decide) rfl ?_
    refine z_perm [1, 2, 3, 0] rfl ?_
    exact s_RM_laySlots_42 X E  op0 rx1 rx2 hv (show zr 0 from by decide) hh
  · replace hv := hv.2 hc
    refine z_aload_n (pc := 13) (q := 0) X d_RM_laySlots_13 rfl ?_
    refine z_getr (pc := 14) (j := 22) (dd := 15) X cf_RM op0 (by decide) q1043 rfl rfl d_RM_laySlots_14 ?_
    refine z_iload_n (pc := 17) (q := 3) X d_RM_laySlots_17 rfl ?_
    refine z_aload_n (pc := 18) (q := 0) X d_RM_laySlots_18 rfl ?_
    refine z_getr (pc := 19) (j := 16) (dd := 9) X cf_RM op0 (by decide) q1037 rfl rfl d_RM_laySlots_19 ?_
    refine z_iload_n (pc := 22) (q := 2) X d_RM_laySlots_22 rfl ?_
    refine z_iload_n (pc := 23) (q := 3) X d_RM_laySlots_23 rfl ?_
    obtain ⟨v_1, hv⟩ := hv
    refine z_iadd (pc := 24) X d_RM_laySlots_24 ?_
    obtain ⟨v_2, hv⟩ := hv
    refine z_ialdj (pc := 25) (j := (x2 + x3).toNat) X (gf_RM_16 op0) (gl_RM_16 op0) v_1 v_2 rfl d_RM_laySlots_25 ?_
    obtain ⟨v_3, hv⟩ := hv
    refine z_iastj (pc := 26) (j := x3.toNat) X (gf_RM_22 op0) (gl_RM_22 op0) rx3 v_3 rfl d_RM_laySlots_26 ?_
    refine z_toph (fun h_4 eh_4 => ?_)
    have zh_4 : zh h_4 := by rw [eh_4]; exact zh_set hh (zO.ne (gf_RM_22 op0) (by decide)) (hh.1 _ _ (zO.ne (gf_RM_16 op0) (by decide)))
    replace hv := hv h_4 eh_4
    refine z_aload_n (pc := 27) (q := 0) X d_RM_laySlots_27 rfl ?_
    refine z_getr (pc := 28) (j := 23) (dd := 16) X cf_RM op0 (by decide) q1044 rfl rfl d_RM_laySlots_28 ?_
    refine z_iload_n (pc := 31) (q := 3) X d_RM_laySlots_31 rfl ?_
    refine z_iconst (pc := 32) X d_RM_laySlots_32 ?_
    obtain ⟨v_5, hv⟩ := hv
    refine z_zastj (pc := 33) (j := x3.toNat) X (gf_RM_23 op0) (gl_RM_23 op0) rx3 v_5 rfl (by decide) d_RM_laySlots_33 ?_
    refine z_toph (fun h_6 eh_6 => ?_)
    have zh_6 : zh h_6 := by rw [eh_6]; exact zh_set zh_4 (zO.ne (gf_RM_23 op0) (by decide)) (show zr 1 from by decide)
    replace hv := hv h_6 eh_6
    obtain ⟨v_7, hv⟩ := hv
    refine z_iinc (pc := 34) (q := 3) (lv' := [(3, zi (x3 + 1)), (0, .ref (g.2.2 p0)), (1, zi x1), (2, zi x2)]) X d_RM_laySlots_34 rfl (by decide) rfl ?_
    refine z_goto (pc := 37) (tgt := 7) X d_RM_laySlots_37 (by decide) ?_
    refine z_perm [1, 2, 3, 0] rfl ?_
    exact hL7 _ hv v_7 zh_6
def M_RM_laySlots (p0 : Nat) (x1 : Int) (h : zH) (K : zH → Prop) : Prop :=
  zr (8 * x1) ∧ ((∀ x2_2 : Int, x2_2 = 8 * x1 → (zLoop (fun L q => F_RM_laySlots_7 K  L p0 x1 x2_2 q.1 q.2) (0, h))))
set_option maxRecDepth 100000 in
theorem c_RM_laySlots {l : Launch} (hfl : l.flags = flags0) {g : zG} {n : Nat} {p0 : Nat} {x1 : Int} (op0 : zO n p0 11) (rx1 : zr x1) {h : zH} (hh : zh h) {K : zH → Prop} (hv : M_RM_laySlots p0 x1 h K) : zMet l y_RM_laySlots b_RM_laySlots 7 none rm_RM_laySlots g n [.ref (g.2.2 p0), zi x1] h (zPv K) := by
  refine zMet_of (own := "AliasStreamsModel") hfl (by decide) rfl (Nat.le_of_ble_eq_true rfl) (fun Wf m H0 X E => ?_)
  unfold M_RM_laySlots at hv
  show zW Wf m 7 g n H0 0 [(0, .ref (g.2.2 p0)), (1, zi x1)] [] h
  refine z_bipush (pc := 0) X d_RM_laySlots_0 (by decide) ?_
  refine z_iload_n (pc := 2) (q := 1) X d_RM_laySlots_2 rfl ?_
  obtain ⟨v_1, hv⟩ := hv
  refine z_imul (pc := 3) X d_RM_laySlots_3 ?_
  refine z_topi (fun x2_2 ex2_2 => ?_)
  have rx2_2 : zr x2_2 := by rw [ex2_2]; exact v_1
  replace hv := hv x2_2 ex2_2
  refine z_istore_n (pc := 4) (lv' := [(2, zi x2_2), (0, .ref (g.2.2 p0)), (1, zi x1)]) X d_RM_laySlots_4 (by decide) rfl ?_
  refine z_iconst (pc := 5) X d_RM_laySlots_5 ?_
  refine z_istore_n (pc := 6) (lv' := [(3, zi 0), (2, zi x2_2), (0, .ref (g.2.2 p0)), (1, zi x1)]) X d_RM_laySlots_6 (by decide) rfl ?_
  refine z_perm [2, 3, 1, 0] rfl ?_
  exact s_RM_laySlots_7 X E  op0 rx1 rx2_2 hv (show zr 0 from by decide) hh
theorem d_RM_layTables_0 : decode b_RM_layTables 0 = .ok (.iconst 0, 1) := by decide +kernel
theorem d_RM_layTables_1 : decode b_RM_layTables 1 = .ok (.istore_n 2, 1) := by decide +kernel
theorem d_RM_layTables_2 : decode b_RM_layTables 2 = .ok (.iload_n 2, 1) := by decide +kernel
theorem d_RM_layTables_3 : decode b_RM_layTables 3 = .ok (.aload_n 0, 1) := by decide +kernel
theorem d_RM_layTables_4 : decode b_RM_layTables 4 = .ok (.getfield 17, 3) := by decide +kernel
theorem d_RM_layTables_7 : decode b_RM_layTables 7 = .ok (.if_icmp .ge 20, 3) := by decide +kernel
theorem d_RM_layTables_10 : decode b_RM_layTables 10 = .ok (.aload_n 0, 1) := by decide +kernel
theorem d_RM_layTables_11 : decode b_RM_layTables 11 = .ok (.aload_n 1, 1) := by decide +kernel
theorem d_RM_layTables_12 : decode b_RM_layTables 12 = .ok (.iload_n 2, 1) := by decide +kernel
theorem d_RM_layTables_13 : decode b_RM_layTables 13 = .ok (.invokevirtual 91, 3) := by decide +kernel
theorem d_RM_layTables_16 : decode b_RM_layTables 16 = .ok (.aload_n 0, 1) := by decide +kernel
theorem d_RM_layTables_17 : decode b_RM_layTables 17 = .ok (.iload_n 2, 1) := by decide +kernel
theorem d_RM_layTables_18 : decode b_RM_layTables 18 = .ok (.invokevirtual 95, 3) := by decide +kernel
theorem d_RM_layTables_21 : decode b_RM_layTables 21 = .ok (.iinc 2 1, 3) := by decide +kernel
theorem d_RM_layTables_24 : decode b_RM_layTables 24 = .ok (.goto (-22), 3) := by decide +kernel
theorem d_RM_layTables_27 : decode b_RM_layTables 27 = .ok (.return_, 1) := by decide +kernel
def rm_RM_layTables : Room := { frames := 1, cells := 0, slots := 0, locals := 28 }
theorem mf_RM_layTables : zMV y_RM_layTables b_RM_layTables 3 none 1 := ⟨q1183, qs73, q13, q1184, by decide +kernel⟩
def F_RM_layTables_2 (K : zH → Prop)  (L2 : Int × zH → Prop) (p0 : Nat) (p1 : Nat) (x2 : Int) (h : zH) : Prop :=
  (h p0 5 ≤ x2 → (K h)) ∧ (x2 < h p0 5 → (M_RM_layFrequencies p0 p1 x2 h (fun h_1 => M_RM_laySlots p0 x2 h_1 (fun h_3 => zr (x2 + 1) ∧ (L2 (x2 + 1, h_3))))))
set_option maxRecDepth 100000 in
theorem s_RM_layTables_2 {Wf : Heap → List Loc → JFrame → Prop} {m : MethodId} {g : zG} {n : Nat} {H0 : Heap} (X : zX Wf m rm_RM_layTables b_RM_layTables "AliasStreamsModel" 3 g n H0) {K : zH → Prop} (E : zEx Wf m b_RM_layTables none 3 g n H0 (zPv K))  {p0 : Nat} {p1 : Nat}  (op0 : zO n p0 11) (op1 : zO n p1 12) {q0 : Int × zH} (hv0 : zLoop (fun L q => F_RM_layTables_2 K  L p0 p1 q.1 q.2) q0) : zr q0.1 → zh (q0.2) → zW Wf m 3 g n H0 2 [(0, .ref (g.2.2 p0)), (1, .ref (g.2.2 p1)), (2, zi q0.1)] [] (q0.2) := by
  refine zLoop_use (G := fun q => zr q.1 → zh (q.2) → zW Wf m 3 g n H0 2 [(0, .ref (g.2.2 p0)), (1, .ref (g.2.2 p1)), (2, zi q.1)] [] (q.2)) ?_ hv0
  rintro L2 ⟨x2, h⟩ hL2 hv rx2 hh
  have hv : F_RM_layTables_2 K  L2 p0 p1 x2 h := hv
  unfold F_RM_layTables_2 at hv
  show zW Wf m 3 g n H0 2 [(0, .ref (g.2.2 p0)), (1, .ref (g.2.2 p1)), (2, zi x2)] [] h
  refine z_iload_n (pc := 2) (q := 2) X d_RM_layTables_2 rfl ?_
  refine z_aload_n (pc := 3) (q := 0) X d_RM_layTables_3 rfl ?_
  refine z_geti (pc := 4) (j := 5) X cf_RM op0 (by decide) q1026 rfl rfl d_RM_layTables_4 ?_
  refine z_icmp_ge (pc := 7) (tgt := 27) X rx2 (hh.1 _ _ (zO.ne op0 (by decide))) d_RM_layTables_7 (by decide) (fun hc => ?_) (fun hc => ?_)
  · replace hv := hv.1 hc
    exact E.1 rfl _ _ _ d_RM_layTables_27 ⟨rfl, hh, hv⟩
  · replace hv := hv.2 hc
    refine z_aload_n (pc := 10) (q := 0) X d_RM_layTables_10 rfl ?_
    refine z_aload_n (pc := 11) (q := 1) X d_RM_layTables_11 rfl ?_
    refine z_iload_n (pc := 12) (q := 2) X d_RM_layTables_12 rfl ?_
    refine z_callVv (pc := 13) (As := [.ref (g.2.2 p1), zi x2]) (rest := []) X (fun l hl => c_RM_layFrequencies hl op0 op1 rx2 hh hv) cf_RM op0 rfl mf_RM_layFrequencies q1185 ⟨⟨by decide, by decide⟩, rfl, rfl⟩ rfl d_RM_layTables_13 rfl (Nat.le_of_ble_eq_true rfl) (fun h_1 zh_1 hv => ?_)
    refine z_aload_n (pc := 16) (q := 0) X d_RM_layTables_16 rfl ?_
    refine z_iload_n (pc := 17) (q := 2) X d_RM_layTables_17 rfl ?_
    refine z_callVv (pc := 18) (As := [zi x2]) (rest := []) X (fun l hl => c_RM_laySlots hl op0 rx2 zh_1 hv) cf_RM op0 rfl mf_RM_laySlots q1189 ⟨⟨by decide, by decide⟩, rfl, rfl⟩ rfl d_RM_layTables_18 rfl (Nat.le_of_ble_eq_true rfl) (fun h_3 zh_3 hv => ?_)
    obtain ⟨v_5, hv⟩ := hv
    refine z_iinc (pc := 21) (q := 2) (lv' := [(2, zi (x2 + 1)), (0, .ref (g.2.2 p0)), (1, .ref (g.2.2 p1))]) X d_RM_layTables_21 rfl (by decide) rfl ?_
    refine z_goto (pc := 24) (tgt := 2) X d_RM_layTables_24 (by decide) ?_
    refine z_perm [1, 2, 0] rfl ?_
    exact hL2 _ hv v_5 zh_3
def M_RM_layTables (p0 : Nat) (p1 : Nat) (h : zH) (K : zH → Prop) : Prop :=
  zLoop (fun L q => F_RM_layTables_2 K  L p0 p1 q.1 q.2) (0, h)
set_option maxRecDepth 100000 in
theorem c_RM_layTables {l : Launch} (hfl : l.flags = flags0) {g : zG} {n : Nat} {p0 : Nat} {p1 : Nat} (op0 : zO n p0 11) (op1 : zO n p1 12) {h : zH} (hh : zh h) {K : zH → Prop} (hv : M_RM_layTables p0 p1 h K) : zMet l y_RM_layTables b_RM_layTables 3 none rm_RM_layTables g n [.ref (g.2.2 p0), .ref (g.2.2 p1)] h (zPv K) := by
  refine zMet_of (own := "AliasStreamsModel") hfl (by decide) rfl (Nat.le_of_ble_eq_true rfl) (fun Wf m H0 X E => ?_)
  unfold M_RM_layTables at hv
  show zW Wf m 3 g n H0 0 [(0, .ref (g.2.2 p0)), (1, .ref (g.2.2 p1))] [] h
  refine z_iconst (pc := 0) X d_RM_layTables_0 ?_
  refine z_istore_n (pc := 1) (lv' := [(2, zi 0), (0, .ref (g.2.2 p0)), (1, .ref (g.2.2 p1))]) X d_RM_layTables_1 (by decide) rfl ?_
  refine z_perm [1, 2, 0] rfl ?_
  exact s_RM_layTables_2 X E  op0 op1 hv (show zr 0 from by decide) hh
theorem d_RM_layMessage_0 : decode b_RM_layMessage 0 = .ok (.aload_n 0, 1) := by decide +kernel
theorem d_RM_layMessage_1 : decode b_RM_layMessage 1 = .ok (.iconst 0, 1) := by decide +kernel
theorem d_RM_layMessage_2 : decode b_RM_layMessage 2 = .ok (.putfield 99, 3) := by decide +kernel
theorem d_RM_layMessage_5 : decode b_RM_layMessage 5 = .ok (.iconst 0, 1) := by decide +kernel
theorem d_RM_layMessage_6 : decode b_RM_layMessage 6 = .ok (.istore_n 2, 1) := by decide +kernel
theorem d_RM_layMessage_7 : decode b_RM_layMessage 7 = .ok (.iconst 0, 1) := by decide +kernel
theorem d_RM_layMessage_8 : decode b_RM_layMessage 8 = .ok (.istore_n 3, 1) := by decide +kernel
theorem d_RM_layMessage_9 : decode b_RM_layMessage 9 = .ok (.iload_n 3, 1) := by decide +kernel
theorem d_RM_layMessage_10 : decode b_RM_layMessage 10 = .ok (.aload_n 1, 1) := by decide +kernel
theorem d_RM_layMessage_11 : decode b_RM_layMessage 11 = .ok (.sipush 188, 3) := by decide +kernel
theorem d_RM_layMessage_14 : decode b_RM_layMessage 14 = .ok (.iaload, 1) := by decide +kernel
theorem d_RM_layMessage_15 : decode b_RM_layMessage 15 = .ok (.if_icmp .ge 64, 3) := by decide +kernel
theorem d_RM_layMessage_18 : decode b_RM_layMessage 18 = .ok (.aload_n 1, 1) := by decide +kernel
theorem d_RM_layMessage_19 : decode b_RM_layMessage 19 = .ok (.bipush 24, 2) := by decide +kernel
theorem d_RM_layMessage_21 : decode b_RM_layMessage 21 = .ok (.iload_n 3, 1) := by decide +kernel
theorem d_RM_layMessage_22 : decode b_RM_layMessage 22 = .ok (.iadd, 1) := by decide +kernel
theorem d_RM_layMessage_23 : decode b_RM_layMessage 23 = .ok (.iaload, 1) := by decide +kernel
theorem d_RM_layMessage_24 : decode b_RM_layMessage 24 = .ok (.istore 4, 2) := by decide +kernel
theorem d_RM_layMessage_26 : decode b_RM_layMessage 26 = .ok (.iload 4, 2) := by decide +kernel
theorem d_RM_layMessage_28 : decode b_RM_layMessage 28 = .ok (.bipush 10, 2) := by decide +kernel
theorem d_RM_layMessage_30 : decode b_RM_layMessage 30 = .ok (.if_icmp .lt 12, 3) := by decide +kernel
theorem d_RM_layMessage_33 : decode b_RM_layMessage 33 = .ok (.iload 4, 2) := by decide +kernel
theorem d_RM_layMessage_35 : decode b_RM_layMessage 35 = .ok (.bipush 10, 2) := by decide +kernel
theorem d_RM_layMessage_37 : decode b_RM_layMessage 37 = .ok (.isub, 1) := by decide +kernel
theorem d_RM_layMessage_38 : decode b_RM_layMessage 38 = .ok (.istore_n 2, 1) := by decide +kernel
theorem d_RM_layMessage_39 : decode b_RM_layMessage 39 = .ok (.goto 34, 3) := by decide +kernel
theorem d_RM_layMessage_42 : decode b_RM_layMessage 42 = .ok (.aload_n 0, 1) := by decide +kernel
theorem d_RM_layMessage_43 : decode b_RM_layMessage 43 = .ok (.getfield 78, 3) := by decide +kernel
theorem d_RM_layMessage_46 : decode b_RM_layMessage 46 = .ok (.aload_n 0, 1) := by decide +kernel
theorem d_RM_layMessage_47 : decode b_RM_layMessage 47 = .ok (.getfield 99, 3) := by decide +kernel
theorem d_RM_layMessage_50 : decode b_RM_layMessage 50 = .ok (.iload 4, 2) := by decide +kernel
theorem d_RM_layMessage_52 : decode b_RM_layMessage 52 = .ok (.iastore, 1) := by decide +kernel
theorem d_RM_layMessage_53 : decode b_RM_layMessage 53 = .ok (.aload_n 0, 1) := by decide +kernel
theorem d_RM_layMessage_54 : decode b_RM_layMessage 54 = .ok (.getfield 81, 3) := by decide +kernel
theorem d_RM_layMessage_57 : decode b_RM_layMessage 57 = .ok (.aload_n 0, 1) := by decide +kernel
theorem d_RM_layMessage_58 : decode b_RM_layMessage 58 = .ok (.getfield 99, 3) := by decide +kernel
theorem d_RM_layMessage_61 : decode b_RM_layMessage 61 = .ok (.iload_n 2, 1) := by decide +kernel
theorem d_RM_layMessage_62 : decode b_RM_layMessage 62 = .ok (.iastore, 1) := by decide +kernel
theorem d_RM_layMessage_63 : decode b_RM_layMessage 63 = .ok (.aload_n 0, 1) := by decide +kernel
theorem d_RM_layMessage_64 : decode b_RM_layMessage 64 = .ok (.dup, 1) := by decide +kernel
theorem d_RM_layMessage_65 : decode b_RM_layMessage 65 = .ok (.getfield 99, 3) := by decide +kernel
theorem d_RM_layMessage_68 : decode b_RM_layMessage 68 = .ok (.iconst 1, 1) := by decide +kernel
theorem d_RM_layMessage_69 : decode b_RM_layMessage 69 = .ok (.iadd, 1) := by decide +kernel
theorem d_RM_layMessage_70 : decode b_RM_layMessage 70 = .ok (.putfield 99, 3) := by decide +kernel
theorem d_RM_layMessage_73 : decode b_RM_layMessage 73 = .ok (.iinc 3 1, 3) := by decide +kernel
theorem d_RM_layMessage_76 : decode b_RM_layMessage 76 = .ok (.goto (-67), 3) := by decide +kernel
theorem d_RM_layMessage_79 : decode b_RM_layMessage 79 = .ok (.return_, 1) := by decide +kernel
def rm_RM_layMessage : Room := { frames := 0, cells := 0, slots := 0, locals := 0 }
theorem mf_RM_layMessage : zMV y_RM_layMessage b_RM_layMessage 5 none 1 := ⟨q1179, qs72, q13, q1180, by decide +kernel⟩
def F_RM_layMessage_9 (K : zH → Prop)  (L9 : Int × Int × zH → Prop) (p0 : Nat) (p1 : Nat) (x2 : Int) (x3 : Int) (h : zH) : Prop :=
  (188 : Int) < ((zln p1 : Nat) : Int) ∧ ((h p1 188 ≤ x3 → (K h)) ∧ (x3 < h p1 188 → (zr (24 + x3) ∧ ((0 ≤ 24 + x3 ∧ 24 + x3 < ((zln p1 : Nat) : Int)) ∧ ((∀ x4_4 : Int, x4_4 = h p1 ((24 + x3).toNat) → ((x4_4 < 10 → ((0 ≤ h p0 31 ∧ h p0 31 < 40) ∧ (∀ h_6 : zH, h_6 = zs h (p0 + 21) ((h p0 31).toNat) x4_4 → ((0 ≤ h_6 p0 31 ∧ h_6 p0 31 < 40) ∧ (∀ h_8 : zH, h_8 = zs h_6 (p0 + 22) ((h_6 p0 31).toNat) x2 → (zr ((h_8 p0 31) + 1) ∧ ((∀ h_10 : zH, h_10 = zs h_8 p0 31 ((h_8 p0 31) + 1) → (zr (x3 + 1) ∧ (L9 (x2, x3 + 1, h_10))))))))))) ∧ (10 ≤ x4_4 → (zr (x4_4 - 10) ∧ ((∀ x2_13 : Int, x2_13 = x4_4 - 10 → (zr (x3 + 1) ∧ (L9 (x2_13, x3 + 1, h))))))))))))))
set_option maxRecDepth 100000 in
theorem s_RM_layMessage_9 {Wf : Heap → List Loc → JFrame → Prop} {m : MethodId} {g : zG} {n : Nat} {H0 : Heap} (X : zX Wf m rm_RM_layMessage b_RM_layMessage "AliasStreamsModel" 5 g n H0) {K : zH → Prop} (E : zEx Wf m b_RM_layMessage none 5 g n H0 (zPv K))  {p0 : Nat} {p1 : Nat}  (op0 : zO n p0 11) (op1 : zO n p1 12) {q0 : Int × Int × zH} (hv0 : zLoop (fun L q => F_RM_layMessage_9 K  L p0 p1 q.1 q.2.1 q.2.2) q0) : zr q0.1 → zr q0.2.1 → zh (q0.2.2) → zW Wf m 5 g n H0 9 [(0, .ref (g.2.2 p0)), (1, .ref (g.2.2 p1)), (2, zi q0.1), (3, zi q0.2.1)] [] (q0.2.2) := by
  refine zLoop_use (G := fun q => zr q.1 → zr q.2.1 → zh (q.2.2) → zW Wf m 5 g n H0 9 [(0, .ref (g.2.2 p0)), (1, .ref (g.2.2 p1)), (2, zi q.1), (3, zi q.2.1)] [] (q.2.2)) ?_ hv0
  rintro L9 ⟨x2, x3, h⟩ hL9 hv rx2 rx3 hh
  have hv : F_RM_layMessage_9 K  L9 p0 p1 x2 x3 h := hv
  unfold F_RM_layMessage_9 at hv
  show zW Wf m 5 g n H0 9 [(0, .ref (g.2.2 p0)), (1, .ref (g.2.2 p1)), (2, zi x2), (3, zi x3)] [] h
  refine z_iload_n (pc := 9) (q := 3) X d_RM_layMessage_9 rfl ?_
  refine z_aload_n (pc := 10) (q := 1) X d_RM_layMessage_10 rfl ?_
  refine z_sipush (pc := 11) X d_RM_layMessage_11 (by decide) ?_
  obtain ⟨v_1, hv⟩ := hv
  refine z_ialdj (pc := 14) (j := 188) X op1 rfl (show zr 188 from by decide) ⟨by decide, v_1⟩ rfl d_RM_layMessage_14 ?_
  refine z_icmp_ge (pc := 15) (tgt := 79) X rx3 (hh.1 _ _ (zO.ne op1 (by decide))) d_RM_layMessage_15 (by decide) (fun hc => ?_) (fun hc => ?_)
  · replace hv := hv.1 hc
    exact E.1 rfl _ _ _ d_RM_layMessage_79 ⟨rfl, hh, hv⟩
  · replace hv := hv.2 hc
    refine z_aload_n (pc := 18) (q := 1) X d_RM_layMessage_18 rfl ?_
    refine z_bipush (pc := 19) X d_RM_layMessage_19 (by decide) ?_
    refine z_iload_n (pc := 21) (q := 3) X d_RM_layMessage_21 rfl ?_
    obtain ⟨v_2, hv⟩ := hv
    refine z_iadd (pc := 22) X d_RM_layMessage_22 ?_
    obtain ⟨v_3, hv⟩ := hv
    refine z_ialdj (pc := 23) (j := (24 + x3).toNat) X op1 rfl v_2 v_3 rfl d_RM_layMessage_23 ?_
    refine z_topi (fun x4_4 ex4_4 => ?_)
    have rx4_4 : zr x4_4 := by rw [ex4_4]; exact (hh.1 _ _ (zO.ne op1 (by decide)))
    replace hv := hv x4_4 ex4_4
    refine z_istore (pc := 24) (lv' := [(4, zi x4_4), (0, .ref (g.2.2 p0)), (1, .ref (g.2.2 p1)), (2, zi x2), (3, zi x3)]) X d_RM_layMessage_24 (by decide) rfl ?_
    refine z_iload (pc := 26) (q := 0) X d_RM_layMessage_26 rfl ?_
    refine z_bipush (pc := 28) X d_RM_layMessage_28 (by decide) ?_
    refine z_icmp_lt (pc := 30) (tgt := 42) X rx4_4 (show zr 10 from by decide) d_RM_layMessage_30 (by decide) (fun hc => ?_) (fun hc => ?_)
    · replace hv := hv.1 hc
      refine z_aload_n (pc := 42) (q := 1) X d_RM_layMessage_42 rfl ?_
      refine z_getr (pc := 43) (j := 29) (dd := 21) X cf_RM op0 (by decide) q1050 rfl rfl d_RM_layMessage_43 ?_
      refine z_aload_n (pc := 46) (q := 1) X d_RM_layMessage_46 rfl ?_
      refine z_geti (pc := 47) (j := 31) X cf_RM op0 (by decide) q1052 rfl rfl d_RM_layMessage_47 ?_
      refine z_iload (pc := 50) (q := 0) X d_RM_layMessage_50 rfl ?_
      obtain ⟨v_5, hv⟩ := hv
      refine z_iastj (pc := 52) (j := (h p0 31).toNat) X (gf_RM_29 op0) (gl_RM_29 op0) (hh.1 _ _ (zO.ne op0 (by decide))) v_5 rfl d_RM_layMessage_52 ?_
      refine z_toph (fun h_6 eh_6 => ?_)
      have zh_6 : zh h_6 := by rw [eh_6]; exact zh_set hh (zO.ne (gf_RM_29 op0) (by decide)) rx4_4
      replace hv := hv h_6 eh_6
      refine z_aload_n (pc := 53) (q := 1) X d_RM_layMessage_53 rfl ?_
      refine z_getr (pc := 54) (j := 30) (dd := 22) X cf_RM op0 (by decide) q1051 rfl rfl d_RM_layMessage_54 ?_
      refine z_aload_n (pc := 57) (q := 1) X d_RM_layMessage_57 rfl ?_
      refine z_geti (pc := 58) (j := 31) X cf_RM op0 (by decide) q1052 rfl rfl d_RM_layMessage_58 ?_
      refine z_iload_n (pc := 61) (q := 3) X d_RM_layMessage_61 rfl ?_
      obtain ⟨v_7, hv⟩ := hv
      refine z_iastj (pc := 62) (j := (h_6 p0 31).toNat) X (gf_RM_30 op0) (gl_RM_30 op0) (zh_6.1 _ _ (zO.ne op0 (by decide))) v_7 rfl d_RM_layMessage_62 ?_
      refine z_toph (fun h_8 eh_8 => ?_)
      have zh_8 : zh h_8 := by rw [eh_8]; exact zh_set zh_6 (zO.ne (gf_RM_30 op0) (by decide)) rx2
      replace hv := hv h_8 eh_8
      refine z_aload_n (pc := 63) (q := 1) X d_RM_layMessage_63 rfl ?_
      refine z_dup (pc := 64) X d_RM_layMessage_64 rfl ?_
      refine z_geti (pc := 65) (j := 31) X cf_RM op0 (by decide) q1052 rfl rfl d_RM_layMessage_65 ?_
      refine z_iconst (pc := 68) X d_RM_layMessage_68 ?_
      obtain ⟨v_9, hv⟩ := hv
      refine z_iadd (pc := 69) X d_RM_layMessage_69 ?_
      refine z_put (pc := 70) (j := 31) X cf_RM op0 (by decide) q1052 rfl rfl rfl rfl d_RM_layMessage_70 ?_
      refine z_toph (fun h_10 eh_10 => ?_)
      have zh_10 : zh h_10 := by rw [eh_10]; exact zh_set zh_8 (zO.ne op0 (by decide)) v_9
      replace hv := hv h_10 eh_10
      obtain ⟨v_11, hv⟩ := hv
      refine z_iinc (pc := 73) (q := 4) (lv' := [(3, zi (x3 + 1)), (4, zi x4_4), (0, .ref (g.2.2 p0)), (1, .ref (g.2.2 p1)), (2, zi x2)]) X d_RM_layMessage_73 rfl (by decide) rfl ?_
      refine z_goto (pc := 76) (tgt := 9) X d_RM_layMessage_76 (by decide) ?_
      refine z_perm [2, 3, 4, 0] rfl ?_
      exact hL9 _ hv rx2 v_11 zh_10
    · replace hv := hv.2 hc
      refine z_iload (pc := 33) (q := 0) X d_RM_layMessage_33 rfl ?_
      refine z_bipush (pc := 35) X d_RM_layMessage_35 (by decide) ?_
      obtain ⟨v_12, hv⟩ := hv
      refine z_isub (pc := 37) X d_RM_layMessage_37 ?_
      refine z_topi (fun x2_13 ex2_13 => ?_)
      have rx2_13 : zr x2_13 := by rw [ex2_13]; exact v_12
      replace hv := hv x2_13 ex2_13
      refine z_istore_n (pc := 38) (lv' := [(2, zi x2_13), (4, zi x4_4), (0, .ref (g.2.2 p0)), (1, .ref (g.2.2 p1)), (3, zi x3)]) X d_RM_layMessage_38 (by decide) rfl ?_
      refine z_goto (pc := 39) (tgt := 73) X d_RM_layMessage_39 (by decide) ?_
      obtain ⟨v_14, hv⟩ := hv
      refine z_iinc (pc := 73) (q := 4) (lv' := [(3, zi (x3 + 1)), (2, zi x2_13), (4, zi x4_4), (0, .ref (g.2.2 p0)), (1, .ref (g.2.2 p1))]) X d_RM_layMessage_73 rfl (by decide) rfl ?_
      refine z_goto (pc := 76) (tgt := 9) X d_RM_layMessage_76 (by decide) ?_
      refine z_perm [3, 4, 1, 0] rfl ?_
      exact hL9 _ hv rx2_13 v_14 hh
def M_RM_layMessage (p0 : Nat) (p1 : Nat) (h : zH) (K : zH → Prop) : Prop :=
  (∀ h_1 : zH, h_1 = zs h p0 31 0 → (zLoop (fun L q => F_RM_layMessage_9 K  L p0 p1 q.1 q.2.1 q.2.2) (0, 0, h_1)))
set_option maxRecDepth 100000 in
theorem c_RM_layMessage {l : Launch} (hfl : l.flags = flags0) {g : zG} {n : Nat} {p0 : Nat} {p1 : Nat} (op0 : zO n p0 11) (op1 : zO n p1 12) {h : zH} (hh : zh h) {K : zH → Prop} (hv : M_RM_layMessage p0 p1 h K) : zMet l y_RM_layMessage b_RM_layMessage 5 none rm_RM_layMessage g n [.ref (g.2.2 p0), .ref (g.2.2 p1)] h (zPv K) := by
  refine zMet_of (own := "AliasStreamsModel") hfl (by decide) rfl (Nat.le_of_ble_eq_true rfl) (fun Wf m H0 X E => ?_)
  unfold M_RM_layMessage at hv
  show zW Wf m 5 g n H0 0 [(0, .ref (g.2.2 p0)), (1, .ref (g.2.2 p1))] [] h
  refine z_aload_n (pc := 0) (q := 0) X d_RM_layMessage_0 rfl ?_
  refine z_iconst (pc := 1) X d_RM_layMessage_1 ?_
  refine z_put (pc := 2) (j := 31) X cf_RM op0 (by decide) q1052 rfl rfl rfl rfl d_RM_layMessage_2 ?_
  refine z_toph (fun h_1 eh_1 => ?_)
  have zh_1 : zh h_1 := by rw [eh_1]; exact zh_set hh (zO.ne op0 (by decide)) (show zr 0 from by decide)
  replace hv := hv h_1 eh_1
  refine z_iconst (pc := 5) X d_RM_layMessage_5 ?_
  refine z_istore_n (pc := 6) (lv' := [(2, zi 0), (0, .ref (g.2.2 p0)), (1, .ref (g.2.2 p1))]) X d_RM_layMessage_6 (by decide) rfl ?_
  refine z_iconst (pc := 7) X d_RM_layMessage_7 ?_
  refine z_istore_n (pc := 8) (lv' := [(3, zi 0), (2, zi 0), (0, .ref (g.2.2 p0)), (1, .ref (g.2.2 p1))]) X d_RM_layMessage_8 (by decide) rfl ?_
  refine z_perm [2, 3, 1, 0] rfl ?_
  exact s_RM_layMessage_9 X E  op0 op1 hv (show zr 0 from by decide) (show zr 0 from by decide) zh_1
theorem d_RM_unfitOf_0 : decode b_RM_unfitOf 0 = .ok (.iconst 0, 1) := by decide +kernel
theorem d_RM_unfitOf_1 : decode b_RM_unfitOf 1 = .ok (.istore_n 1, 1) := by decide +kernel
theorem d_RM_unfitOf_2 : decode b_RM_unfitOf 2 = .ok (.iload_n 1, 1) := by decide +kernel
theorem d_RM_unfitOf_3 : decode b_RM_unfitOf 3 = .ok (.aload_n 0, 1) := by decide +kernel
theorem d_RM_unfitOf_4 : decode b_RM_unfitOf 4 = .ok (.getfield 99, 3) := by decide +kernel
theorem d_RM_unfitOf_7 : decode b_RM_unfitOf 7 = .ok (.if_icmp .ge 35, 3) := by decide +kernel
theorem d_RM_unfitOf_10 : decode b_RM_unfitOf 10 = .ok (.aload_n 0, 1) := by decide +kernel
theorem d_RM_unfitOf_11 : decode b_RM_unfitOf 11 = .ok (.getfield 42, 3) := by decide +kernel
theorem d_RM_unfitOf_14 : decode b_RM_unfitOf 14 = .ok (.bipush 8, 2) := by decide +kernel
theorem d_RM_unfitOf_16 : decode b_RM_unfitOf 16 = .ok (.aload_n 0, 1) := by decide +kernel
theorem d_RM_unfitOf_17 : decode b_RM_unfitOf 17 = .ok (.getfield 81, 3) := by decide +kernel
theorem d_RM_unfitOf_20 : decode b_RM_unfitOf 20 = .ok (.iload_n 1, 1) := by decide +kernel
theorem d_RM_unfitOf_21 : decode b_RM_unfitOf 21 = .ok (.iaload, 1) := by decide +kernel
theorem d_RM_unfitOf_22 : decode b_RM_unfitOf 22 = .ok (.imul, 1) := by decide +kernel
theorem d_RM_unfitOf_23 : decode b_RM_unfitOf 23 = .ok (.aload_n 0, 1) := by decide +kernel
theorem d_RM_unfitOf_24 : decode b_RM_unfitOf 24 = .ok (.getfield 78, 3) := by decide +kernel
theorem d_RM_unfitOf_27 : decode b_RM_unfitOf 27 = .ok (.iload_n 1, 1) := by decide +kernel
theorem d_RM_unfitOf_28 : decode b_RM_unfitOf 28 = .ok (.iaload, 1) := by decide +kernel
theorem d_RM_unfitOf_29 : decode b_RM_unfitOf 29 = .ok (.iadd, 1) := by decide +kernel
theorem d_RM_unfitOf_30 : decode b_RM_unfitOf 30 = .ok (.iaload, 1) := by decide +kernel
theorem d_RM_unfitOf_31 : decode b_RM_unfitOf 31 = .ok (.ifCond .ne 5, 3) := by decide +kernel
theorem d_RM_unfitOf_34 : decode b_RM_unfitOf 34 = .ok (.iload_n 1, 1) := by decide +kernel
theorem d_RM_unfitOf_35 : decode b_RM_unfitOf 35 = .ok (.ireturn, 1) := by decide +kernel
theorem d_RM_unfitOf_36 : decode b_RM_unfitOf 36 = .ok (.iinc 1 1, 3) := by decide +kernel
theorem d_RM_unfitOf_39 : decode b_RM_unfitOf 39 = .ok (.goto (-37), 3) := by decide +kernel
theorem d_RM_unfitOf_42 : decode b_RM_unfitOf 42 = .ok (.bipush (-9), 2) := by decide +kernel
theorem d_RM_unfitOf_44 : decode b_RM_unfitOf 44 = .ok (.ireturn, 1) := by decide +kernel
def rm_RM_unfitOf : Room := { frames := 0, cells := 0, slots := 0, locals := 0 }
theorem mf_RM_unfitOf : zMV y_RM_unfitOf b_RM_unfitOf 2 (some .int) 0 := ⟨q1268, qs83, q13, q1269, by decide +kernel⟩
def F_RM_unfitOf_2 (K : Int → zH → Prop)  (L2 : Int × zH → Prop) (p0 : Nat) (x1 : Int) (h : zH) : Prop :=
  (h p0 31 ≤ x1 → (K (-9) h)) ∧ (x1 < h p0 31 → ((0 ≤ x1 ∧ x1 < 40) ∧ (zr (8 * (h (p0 + 22) x1.toNat)) ∧ ((0 ≤ x1 ∧ x1 < 40) ∧ (zr ((8 * (h (p0 + 22) x1.toNat)) + (h (p0 + 21) x1.toNat)) ∧ ((0 ≤ (8 * (h (p0 + 22) x1.toNat)) + (h (p0 + 21) x1.toNat) ∧ (8 * (h (p0 + 22) x1.toNat)) + (h (p0 + 21) x1.toNat) < 24) ∧ ((h (p0 + 9) (((8 * (h (p0 + 22) x1.toNat)) + (h (p0 + 21) x1.toNat)).toNat) ≠ 0 → (zr (x1 + 1) ∧ (L2 (x1 + 1, h)))) ∧ (h (p0 + 9) (((8 * (h (p0 + 22) x1.toNat)) + (h (p0 + 21) x1.toNat)).toNat) = 0 → (K x1 h)))))))))
set_option maxRecDepth 100000 in
theorem s_RM_unfitOf_2 {Wf : Heap → List Loc → JFrame → Prop} {m : MethodId} {g : zG} {n : Nat} {H0 : Heap} (X : zX Wf m rm_RM_unfitOf b_RM_unfitOf "AliasStreamsModel" 2 g n H0) {K : Int → zH → Prop} (E : zEx Wf m b_RM_unfitOf (some .int) 2 g n H0 (zPi K))  {p0 : Nat}  (op0 : zO n p0 11) {q0 : Int × zH} (hv0 : zLoop (fun L q => F_RM_unfitOf_2 K  L p0 q.1 q.2) q0) : zr q0.1 → zh (q0.2) → zW Wf m 2 g n H0 2 [(0, .ref (g.2.2 p0)), (1, zi q0.1)] [] (q0.2) := by
  refine zLoop_use (G := fun q => zr q.1 → zh (q.2) → zW Wf m 2 g n H0 2 [(0, .ref (g.2.2 p0)), (1, zi q.1)] [] (q.2)) ?_ hv0
  rintro L2 ⟨x1, h⟩ hL2 hv rx1 hh
  have hv : F_RM_unfitOf_2 K  L2 p0 x1 h := hv
  unfold F_RM_unfitOf_2 at hv
  show zW Wf m 2 g n H0 2 [(0, .ref (g.2.2 p0)), (1, zi x1)] [] h
  refine z_iload_n (pc := 2) (q := 1) X d_RM_unfitOf_2 rfl ?_
  refine z_aload_n (pc := 3) (q := 0) X d_RM_unfitOf_3 rfl ?_
  refine z_geti (pc := 4) (j := 31) X cf_RM op0 (by decide) q1052 rfl rfl d_RM_unfitOf_4 ?_
  refine z_icmp_ge (pc := 7) (tgt := 42) X rx1 (hh.1 _ _ (zO.ne op0 (by decide))) d_RM_unfitOf_7 (by decide) (fun hc => ?_) (fun hc => ?_)
  · replace hv := hv.1 hc
    refine z_bipush (pc := 42) X d_RM_unfitOf_42 (by decide) ?_
    exact E.2.1 rfl _ _ _ _ d_RM_unfitOf_44 ⟨_, rfl, (show zr (-9) from by decide), hh, hv⟩
  · replace hv := hv.2 hc
    refine z_aload_n (pc := 10) (q := 0) X d_RM_unfitOf_10 rfl ?_
    refine z_getr (pc := 11) (j := 16) (dd := 9) X cf_RM op0 (by decide) q1037 rfl rfl d_RM_unfitOf_11 ?_
    refine z_bipush (pc := 14) X d_RM_unfitOf_14 (by decide) ?_
    refine z_aload_n (pc := 16) (q := 0) X d_RM_unfitOf_16 rfl ?_
    refine z_getr (pc := 17) (j := 30) (dd := 22) X cf_RM op0 (by decide) q1051 rfl rfl d_RM_unfitOf_17 ?_
    refine z_iload_n (pc := 20) (q := 1) X d_RM_unfitOf_20 rfl ?_
    obtain ⟨v_1, hv⟩ := hv
    refine z_ialdj (pc := 21) (j := x1.toNat) X (gf_RM_30 op0) (gl_RM_30 op0) rx1 v_1 rfl d_RM_unfitOf_21 ?_
    obtain ⟨v_2, hv⟩ := hv
    refine z_imul (pc := 22) X d_RM_unfitOf_22 ?_
    refine z_aload_n (pc := 23) (q := 0) X d_RM_unfitOf_23 rfl ?_
    refine z_getr (pc := 24) (j := 29) (dd := 21) X cf_RM op0 (by decide) q1050 rfl rfl d_RM_unfitOf_24 ?_
    refine z_iload_n (pc := 27) (q := 1) X d_RM_unfitOf_27 rfl ?_
    obtain ⟨v_3, hv⟩ := hv
    refine z_ialdj (pc := 28) (j := x1.toNat) X (gf_RM_29 op0) (gl_RM_29 op0) rx1 v_3 rfl d_RM_unfitOf_28 ?_
    obtain ⟨v_4, hv⟩ := hv
    refine z_iadd (pc := 29) X d_RM_unfitOf_29 ?_
    obtain ⟨v_5, hv⟩ := hv
    refine z_ialdj (pc := 30) (j := ((8 * (h (p0 + 22) x1.toNat)) + (h (p0 + 21) x1.toNat)).toNat) X (gf_RM_16 op0) (gl_RM_16 op0) v_4 v_5 rfl d_RM_unfitOf_30 ?_
    refine z_if_ne (pc := 31) (tgt := 36) X (hh.1 _ _ (zO.ne (gf_RM_16 op0) (by decide))) d_RM_unfitOf_31 (by decide) (fun hc => ?_) (fun hc => ?_)
    · replace hv := hv.1 hc
      obtain ⟨v_6, hv⟩ := hv
      refine z_iinc (pc := 36) (q := 1) (lv' := [(1, zi (x1 + 1)), (0, .ref (g.2.2 p0))]) X d_RM_unfitOf_36 rfl (by decide) rfl ?_
      refine z_goto (pc := 39) (tgt := 2) X d_RM_unfitOf_39 (by decide) ?_
      refine z_perm [1, 0] rfl ?_
      exact hL2 _ hv v_6 hh
    · replace hv := hv.2 hc
      refine z_iload_n (pc := 34) (q := 1) X d_RM_unfitOf_34 rfl ?_
      exact E.2.1 rfl _ _ _ _ d_RM_unfitOf_35 ⟨_, rfl, rx1, hh, hv⟩
def M_RM_unfitOf (p0 : Nat) (h : zH) (K : Int → zH → Prop) : Prop :=
  zLoop (fun L q => F_RM_unfitOf_2 K  L p0 q.1 q.2) (0, h)
set_option maxRecDepth 100000 in
theorem c_RM_unfitOf {l : Launch} (hfl : l.flags = flags0) {g : zG} {n : Nat} {p0 : Nat} (op0 : zO n p0 11) {h : zH} (hh : zh h) {K : Int → zH → Prop} (hv : M_RM_unfitOf p0 h K) : zMet l y_RM_unfitOf b_RM_unfitOf 2 (some .int) rm_RM_unfitOf g n [.ref (g.2.2 p0)] h (zPi K) := by
  refine zMet_of (own := "AliasStreamsModel") hfl (by decide) rfl (Nat.le_of_ble_eq_true rfl) (fun Wf m H0 X E => ?_)
  unfold M_RM_unfitOf at hv
  show zW Wf m 2 g n H0 0 [(0, .ref (g.2.2 p0))] [] h
  refine z_iconst (pc := 0) X d_RM_unfitOf_0 ?_
  refine z_istore_n (pc := 1) (lv' := [(1, zi 0), (0, .ref (g.2.2 p0))]) X d_RM_unfitOf_1 (by decide) rfl ?_
  refine z_perm [1, 0] rfl ?_
  exact s_RM_unfitOf_2 X E  op0 hv (show zr 0 from by decide) hh

/-! 23.Tape (printed by wip/whole/methgen.py) -/
theorem d_Tape_hasPlanned_0 : decode b_Tape_hasPlanned 0 = .ok (.iload_n 1, 1) := by decide +kernel
theorem d_Tape_hasPlanned_1 : decode b_Tape_hasPlanned 1 = .ok (.ifCond .lt 21, 3) := by decide +kernel
theorem d_Tape_hasPlanned_4 : decode b_Tape_hasPlanned 4 = .ok (.iload_n 1, 1) := by decide +kernel
theorem d_Tape_hasPlanned_5 : decode b_Tape_hasPlanned 5 = .ok (.aload_n 0, 1) := by decide +kernel
theorem d_Tape_hasPlanned_6 : decode b_Tape_hasPlanned 6 = .ok (.getfield 21, 3) := by decide +kernel
theorem d_Tape_hasPlanned_9 : decode b_Tape_hasPlanned 9 = .ok (.if_icmp .ge 13, 3) := by decide +kernel
theorem d_Tape_hasPlanned_12 : decode b_Tape_hasPlanned 12 = .ok (.iload_n 1, 1) := by decide +kernel
theorem d_Tape_hasPlanned_13 : decode b_Tape_hasPlanned 13 = .ok (.bipush 40, 2) := by decide +kernel
theorem d_Tape_hasPlanned_15 : decode b_Tape_hasPlanned 15 = .ok (.if_icmp .ge 7, 3) := by decide +kernel
theorem d_Tape_hasPlanned_18 : decode b_Tape_hasPlanned 18 = .ok (.iconst 1, 1) := by decide +kernel
theorem d_Tape_hasPlanned_19 : decode b_Tape_hasPlanned 19 = .ok (.goto 4, 3) := by decide +kernel
theorem d_Tape_hasPlanned_22 : decode b_Tape_hasPlanned 22 = .ok (.iconst 0, 1) := by decide +kernel
theorem d_Tape_hasPlanned_23 : decode b_Tape_hasPlanned 23 = .ok (.ireturn, 1) := by decide +kernel
def rm_Tape_hasPlanned : Room := { frames := 0, cells := 0, slots := 0, locals := 0 }
theorem mf_Tape_hasPlanned : zMV y_Tape_hasPlanned b_Tape_hasPlanned 2 (some .boolean) 1 := ⟨q694, qs37, q6, q695, by decide +kernel⟩
def M_Tape_hasPlanned (p0 : Nat) (x1 : Int) (h : zH) (K : Int → zH → Prop) : Prop :=
  (x1 < 0 → (K 0 h)) ∧ (0 ≤ x1 → ((h p0 3 ≤ x1 → (K 0 h)) ∧ (x1 < h p0 3 → ((40 ≤ x1 → (K 0 h)) ∧ (x1 < 40 → (K 1 h))))))
set_option maxRecDepth 100000 in
theorem c_Tape_hasPlanned {l : Launch} (hfl : l.flags = flags0) {g : zG} {n : Nat} {p0 : Nat} {x1 : Int} (op0 : zO n p0 8) (rx1 : zr x1) {h : zH} (hh : zh h) {K : Int → zH → Prop} (hv : M_Tape_hasPlanned p0 x1 h K) : zMet l y_Tape_hasPlanned b_Tape_hasPlanned 2 (some .boolean) rm_Tape_hasPlanned g n [.ref (g.2.2 p0), zi x1] h (zPi K) := by
  refine zMet_of (own := "AliasStreams$Tape") hfl (by decide) rfl (Nat.le_of_ble_eq_true rfl) (fun Wf m H0 X E => ?_)
  unfold M_Tape_hasPlanned at hv
  show zW Wf m 2 g n H0 0 [(0, .ref (g.2.2 p0)), (1, zi x1)] [] h
  refine z_iload_n (pc := 0) (q := 1) X d_Tape_hasPlanned_0 rfl ?_
  refine z_if_lt (pc := 1) (tgt := 22) X rx1 d_Tape_hasPlanned_1 (by decide) (fun hc => ?_) (fun hc => ?_)
  · replace hv := hv.1 hc
    refine z_iconst (pc := 22) X d_Tape_hasPlanned_22 ?_
    exact E.2.2.1 rfl _ _ _ _ (by decide) d_Tape_hasPlanned_23 ⟨_, rfl, (show zr 0 from by decide), hh, hv⟩
  · replace hv := hv.2 hc
    refine z_iload_n (pc := 4) (q := 1) X d_Tape_hasPlanned_4 rfl ?_
    refine z_aload_n (pc := 5) (q := 0) X d_Tape_hasPlanned_5 rfl ?_
    refine z_geti (pc := 6) (j := 3) X cf_Tape op0 (by decide) q150 rfl rfl d_Tape_hasPlanned_6 ?_
    refine z_icmp_ge (pc := 9) (tgt := 22) X rx1 (hh.1 _ _ (zO.ne op0 (by decide))) d_Tape_hasPlanned_9 (by decide) (fun hc => ?_) (fun hc => ?_)
    · replace hv := hv.1 hc
      refine z_iconst (pc := 22) X d_Tape_hasPlanned_22 ?_
      exact E.2.2.1 rfl _ _ _ _ (by decide) d_Tape_hasPlanned_23 ⟨_, rfl, (show zr 0 from by decide), hh, hv⟩
    · replace hv := hv.2 hc
      refine z_iload_n (pc := 12) (q := 1) X d_Tape_hasPlanned_12 rfl ?_
      refine z_bipush (pc := 13) X d_Tape_hasPlanned_13 (by decide) ?_
      refine z_icmp_ge (pc := 15) (tgt := 22) X rx1 (show zr 40 from by decide) d_Tape_hasPlanned_15 (by decide) (fun hc => ?_) (fun hc => ?_)
      · replace hv := hv.1 hc
        refine z_iconst (pc := 22) X d_Tape_hasPlanned_22 ?_
        exact E.2.2.1 rfl _ _ _ _ (by decide) d_Tape_hasPlanned_23 ⟨_, rfl, (show zr 0 from by decide), hh, hv⟩
      · replace hv := hv.2 hc
        refine z_iconst (pc := 18) X d_Tape_hasPlanned_18 ?_
        refine z_goto (pc := 19) (tgt := 23) X d_Tape_hasPlanned_19 (by decide) ?_
        exact E.2.2.1 rfl _ _ _ _ (by decide) d_Tape_hasPlanned_23 ⟨_, rfl, (show zr 1 from by decide), hh, hv⟩
theorem d_Tape_hasDigit_0 : decode b_Tape_hasDigit 0 = .ok (.iload_n 1, 1) := by decide +kernel
theorem d_Tape_hasDigit_1 : decode b_Tape_hasDigit 1 = .ok (.ifCond .lt 21, 3) := by decide +kernel
theorem d_Tape_hasDigit_4 : decode b_Tape_hasDigit 4 = .ok (.iload_n 1, 1) := by decide +kernel
theorem d_Tape_hasDigit_5 : decode b_Tape_hasDigit 5 = .ok (.aload_n 0, 1) := by decide +kernel
theorem d_Tape_hasDigit_6 : decode b_Tape_hasDigit 6 = .ok (.getfield 25, 3) := by decide +kernel
theorem d_Tape_hasDigit_9 : decode b_Tape_hasDigit 9 = .ok (.if_icmp .ge 13, 3) := by decide +kernel
theorem d_Tape_hasDigit_12 : decode b_Tape_hasDigit 12 = .ok (.iload_n 1, 1) := by decide +kernel
theorem d_Tape_hasDigit_13 : decode b_Tape_hasDigit 13 = .ok (.bipush 80, 2) := by decide +kernel
theorem d_Tape_hasDigit_15 : decode b_Tape_hasDigit 15 = .ok (.if_icmp .ge 7, 3) := by decide +kernel
theorem d_Tape_hasDigit_18 : decode b_Tape_hasDigit 18 = .ok (.iconst 1, 1) := by decide +kernel
theorem d_Tape_hasDigit_19 : decode b_Tape_hasDigit 19 = .ok (.goto 4, 3) := by decide +kernel
theorem d_Tape_hasDigit_22 : decode b_Tape_hasDigit 22 = .ok (.iconst 0, 1) := by decide +kernel
theorem d_Tape_hasDigit_23 : decode b_Tape_hasDigit 23 = .ok (.ireturn, 1) := by decide +kernel
def rm_Tape_hasDigit : Room := { frames := 0, cells := 0, slots := 0, locals := 0 }
theorem mf_Tape_hasDigit : zMV y_Tape_hasDigit b_Tape_hasDigit 2 (some .boolean) 1 := ⟨q459, qs23, q6, q460, by decide +kernel⟩
def M_Tape_hasDigit (p0 : Nat) (x1 : Int) (h : zH) (K : Int → zH → Prop) : Prop :=
  (x1 < 0 → (K 0 h)) ∧ (0 ≤ x1 → ((h p0 4 ≤ x1 → (K 0 h)) ∧ (x1 < h p0 4 → ((80 ≤ x1 → (K 0 h)) ∧ (x1 < 80 → (K 1 h))))))
set_option maxRecDepth 100000 in
theorem c_Tape_hasDigit {l : Launch} (hfl : l.flags = flags0) {g : zG} {n : Nat} {p0 : Nat} {x1 : Int} (op0 : zO n p0 8) (rx1 : zr x1) {h : zH} (hh : zh h) {K : Int → zH → Prop} (hv : M_Tape_hasDigit p0 x1 h K) : zMet l y_Tape_hasDigit b_Tape_hasDigit 2 (some .boolean) rm_Tape_hasDigit g n [.ref (g.2.2 p0), zi x1] h (zPi K) := by
  refine zMet_of (own := "AliasStreams$Tape") hfl (by decide) rfl (Nat.le_of_ble_eq_true rfl) (fun Wf m H0 X E => ?_)
  unfold M_Tape_hasDigit at hv
  show zW Wf m 2 g n H0 0 [(0, .ref (g.2.2 p0)), (1, zi x1)] [] h
  refine z_iload_n (pc := 0) (q := 1) X d_Tape_hasDigit_0 rfl ?_
  refine z_if_lt (pc := 1) (tgt := 22) X rx1 d_Tape_hasDigit_1 (by decide) (fun hc => ?_) (fun hc => ?_)
  · replace hv := hv.1 hc
    refine z_iconst (pc := 22) X d_Tape_hasDigit_22 ?_
    exact E.2.2.1 rfl _ _ _ _ (by decide) d_Tape_hasDigit_23 ⟨_, rfl, (show zr 0 from by decide), hh, hv⟩
  · replace hv := hv.2 hc
    refine z_iload_n (pc := 4) (q := 1) X d_Tape_hasDigit_4 rfl ?_
    refine z_aload_n (pc := 5) (q := 0) X d_Tape_hasDigit_5 rfl ?_
    refine z_geti (pc := 6) (j := 4) X cf_Tape op0 (by decide) q155 rfl rfl d_Tape_hasDigit_6 ?_
    refine z_icmp_ge (pc := 9) (tgt := 22) X rx1 (hh.1 _ _ (zO.ne op0 (by decide))) d_Tape_hasDigit_9 (by decide) (fun hc => ?_) (fun hc => ?_)
    · replace hv := hv.1 hc
      refine z_iconst (pc := 22) X d_Tape_hasDigit_22 ?_
      exact E.2.2.1 rfl _ _ _ _ (by decide) d_Tape_hasDigit_23 ⟨_, rfl, (show zr 0 from by decide), hh, hv⟩
    · replace hv := hv.2 hc
      refine z_iload_n (pc := 12) (q := 1) X d_Tape_hasDigit_12 rfl ?_
      refine z_bipush (pc := 13) X d_Tape_hasDigit_13 (by decide) ?_
      refine z_icmp_ge (pc := 15) (tgt := 22) X rx1 (show zr 80 from by decide) d_Tape_hasDigit_15 (by decide) (fun hc => ?_) (fun hc => ?_)
      · replace hv := hv.1 hc
        refine z_iconst (pc := 22) X d_Tape_hasDigit_22 ?_
        exact E.2.2.1 rfl _ _ _ _ (by decide) d_Tape_hasDigit_23 ⟨_, rfl, (show zr 0 from by decide), hh, hv⟩
      · replace hv := hv.2 hc
        refine z_iconst (pc := 18) X d_Tape_hasDigit_18 ?_
        refine z_goto (pc := 19) (tgt := 23) X d_Tape_hasDigit_19 (by decide) ?_
        exact E.2.2.1 rfl _ _ _ _ (by decide) d_Tape_hasDigit_23 ⟨_, rfl, (show zr 1 from by decide), hh, hv⟩
theorem d_Tape_becomeEmpty_0 : decode b_Tape_becomeEmpty 0 = .ok (.aload_n 0, 1) := by decide +kernel
theorem d_Tape_becomeEmpty_1 : decode b_Tape_becomeEmpty 1 = .ok (.iconst 0, 1) := by decide +kernel
theorem d_Tape_becomeEmpty_2 : decode b_Tape_becomeEmpty 2 = .ok (.putfield 21, 3) := by decide +kernel
theorem d_Tape_becomeEmpty_5 : decode b_Tape_becomeEmpty 5 = .ok (.aload_n 0, 1) := by decide +kernel
theorem d_Tape_becomeEmpty_6 : decode b_Tape_becomeEmpty 6 = .ok (.iconst 0, 1) := by decide +kernel
theorem d_Tape_becomeEmpty_7 : decode b_Tape_becomeEmpty 7 = .ok (.putfield 25, 3) := by decide +kernel
theorem d_Tape_becomeEmpty_10 : decode b_Tape_becomeEmpty 10 = .ok (.aload_n 0, 1) := by decide +kernel
theorem d_Tape_becomeEmpty_11 : decode b_Tape_becomeEmpty 11 = .ok (.getfield 18, 3) := by decide +kernel
theorem d_Tape_becomeEmpty_14 : decode b_Tape_becomeEmpty 14 = .ok (.iconst 0, 1) := by decide +kernel
theorem d_Tape_becomeEmpty_15 : decode b_Tape_becomeEmpty 15 = .ok (.sipush 512, 3) := by decide +kernel
theorem d_Tape_becomeEmpty_18 : decode b_Tape_becomeEmpty 18 = .ok (.iastore, 1) := by decide +kernel
theorem d_Tape_becomeEmpty_19 : decode b_Tape_becomeEmpty 19 = .ok (.aload_n 0, 1) := by decide +kernel
theorem d_Tape_becomeEmpty_20 : decode b_Tape_becomeEmpty 20 = .ok (.getfield 18, 3) := by decide +kernel
theorem d_Tape_becomeEmpty_23 : decode b_Tape_becomeEmpty 23 = .ok (.iconst 1, 1) := by decide +kernel
theorem d_Tape_becomeEmpty_24 : decode b_Tape_becomeEmpty 24 = .ok (.sipush 512, 3) := by decide +kernel
theorem d_Tape_becomeEmpty_27 : decode b_Tape_becomeEmpty 27 = .ok (.iastore, 1) := by decide +kernel
theorem d_Tape_becomeEmpty_28 : decode b_Tape_becomeEmpty 28 = .ok (.return_, 1) := by decide +kernel
def rm_Tape_becomeEmpty : Room := { frames := 0, cells := 0, slots := 0, locals := 0 }
theorem mf_Tape_becomeEmpty : zMV y_Tape_becomeEmpty b_Tape_becomeEmpty 1 none 0 := ⟨q597, qs30, q6, q598, by decide +kernel⟩
def M_Tape_becomeEmpty (p0 : Nat) (h : zH) (K : zH → Prop) : Prop :=
  (∀ h_1 : zH, h_1 = zs h p0 3 0 → ((∀ h_2 : zH, h_2 = zs h_1 p0 4 0 → ((∀ h_3 : zH, h_3 = zs h_2 (p0 + 3) 0 512 → ((∀ h_4 : zH, h_4 = zs h_3 (p0 + 3) 1 512 → (K h_4))))))))
set_option maxRecDepth 100000 in
theorem c_Tape_becomeEmpty {l : Launch} (hfl : l.flags = flags0) {g : zG} {n : Nat} {p0 : Nat} (op0 : zO n p0 8) {h : zH} (hh : zh h) {K : zH → Prop} (hv : M_Tape_becomeEmpty p0 h K) : zMet l y_Tape_becomeEmpty b_Tape_becomeEmpty 1 none rm_Tape_becomeEmpty g n [.ref (g.2.2 p0)] h (zPv K) := by
  refine zMet_of (own := "AliasStreams$Tape") hfl (by decide) rfl (Nat.le_of_ble_eq_true rfl) (fun Wf m H0 X E => ?_)
  unfold M_Tape_becomeEmpty at hv
  show zW Wf m 1 g n H0 0 [(0, .ref (g.2.2 p0))] [] h
  refine z_aload_n (pc := 0) (q := 0) X d_Tape_becomeEmpty_0 rfl ?_
  refine z_iconst (pc := 1) X d_Tape_becomeEmpty_1 ?_
  refine z_put (pc := 2) (j := 3) X cf_Tape op0 (by decide) q150 rfl rfl rfl rfl d_Tape_becomeEmpty_2 ?_
  refine z_toph (fun h_1 eh_1 => ?_)
  have zh_1 : zh h_1 := by rw [eh_1]; exact zh_set hh (zO.ne op0 (by decide)) (show zr 0 from by decide)
  replace hv := hv h_1 eh_1
  refine z_aload_n (pc := 5) (q := 0) X d_Tape_becomeEmpty_5 rfl ?_
  refine z_iconst (pc := 6) X d_Tape_becomeEmpty_6 ?_
  refine z_put (pc := 7) (j := 4) X cf_Tape op0 (by decide) q155 rfl rfl rfl rfl d_Tape_becomeEmpty_7 ?_
  refine z_toph (fun h_2 eh_2 => ?_)
  have zh_2 : zh h_2 := by rw [eh_2]; exact zh_set zh_1 (zO.ne op0 (by decide)) (show zr 0 from by decide)
  replace hv := hv h_2 eh_2
  refine z_aload_n (pc := 10) (q := 0) X d_Tape_becomeEmpty_10 rfl ?_
  refine z_getr (pc := 11) (j := 2) (dd := 3) X cf_Tape op0 (by decide) q147 rfl rfl d_Tape_becomeEmpty_11 ?_
  refine z_iconst (pc := 14) X d_Tape_becomeEmpty_14 ?_
  refine z_sipush (pc := 15) X d_Tape_becomeEmpty_15 (by decide) ?_
  refine z_iastj (pc := 18) (j := 0) X (gf_Tape_2 op0) (gl_Tape_2 op0) (show zr 0 from by decide) ⟨by decide, by decide⟩ rfl d_Tape_becomeEmpty_18 ?_
  refine z_toph (fun h_3 eh_3 => ?_)
  have zh_3 : zh h_3 := by rw [eh_3]; exact zh_set zh_2 (zO.ne (gf_Tape_2 op0) (by decide)) (show zr 512 from by decide)
  replace hv := hv h_3 eh_3
  refine z_aload_n (pc := 19) (q := 0) X d_Tape_becomeEmpty_19 rfl ?_
  refine z_getr (pc := 20) (j := 2) (dd := 3) X cf_Tape op0 (by decide) q147 rfl rfl d_Tape_becomeEmpty_20 ?_
  refine z_iconst (pc := 23) X d_Tape_becomeEmpty_23 ?_
  refine z_sipush (pc := 24) X d_Tape_becomeEmpty_24 (by decide) ?_
  refine z_iastj (pc := 27) (j := 1) X (gf_Tape_2 op0) (gl_Tape_2 op0) (show zr 1 from by decide) ⟨by decide, by decide⟩ rfl d_Tape_becomeEmpty_27 ?_
  refine z_toph (fun h_4 eh_4 => ?_)
  have zh_4 : zh h_4 := by rw [eh_4]; exact zh_set zh_3 (zO.ne (gf_Tape_2 op0) (by decide)) (show zr 512 from by decide)
  replace hv := hv h_4 eh_4
  exact E.1 rfl _ _ _ d_Tape_becomeEmpty_28 ⟨rfl, zh_4, hv⟩
theorem d_Tape_copyFrom_0 : decode b_Tape_copyFrom 0 = .ok (.aload_n 1, 1) := by decide +kernel
theorem d_Tape_copyFrom_1 : decode b_Tape_copyFrom 1 = .ok (.getfield 9, 3) := by decide +kernel
theorem d_Tape_copyFrom_4 : decode b_Tape_copyFrom 4 = .ok (.iconst 0, 1) := by decide +kernel
theorem d_Tape_copyFrom_5 : decode b_Tape_copyFrom 5 = .ok (.aload_n 0, 1) := by decide +kernel
theorem d_Tape_copyFrom_6 : decode b_Tape_copyFrom 6 = .ok (.getfield 9, 3) := by decide +kernel
theorem d_Tape_copyFrom_9 : decode b_Tape_copyFrom 9 = .ok (.iconst 0, 1) := by decide +kernel
theorem d_Tape_copyFrom_10 : decode b_Tape_copyFrom 10 = .ok (.bipush 40, 2) := by decide +kernel
theorem d_Tape_copyFrom_12 : decode b_Tape_copyFrom 12 = .ok (.invokestatic 28, 3) := by decide +kernel
theorem d_Tape_copyFrom_15 : decode b_Tape_copyFrom 15 = .ok (.aload_n 1, 1) := by decide +kernel
theorem d_Tape_copyFrom_16 : decode b_Tape_copyFrom 16 = .ok (.getfield 15, 3) := by decide +kernel
theorem d_Tape_copyFrom_19 : decode b_Tape_copyFrom 19 = .ok (.iconst 0, 1) := by decide +kernel
theorem d_Tape_copyFrom_20 : decode b_Tape_copyFrom 20 = .ok (.aload_n 0, 1) := by decide +kernel
theorem d_Tape_copyFrom_21 : decode b_Tape_copyFrom 21 = .ok (.getfield 15, 3) := by decide +kernel
theorem d_Tape_copyFrom_24 : decode b_Tape_copyFrom 24 = .ok (.iconst 0, 1) := by decide +kernel
theorem d_Tape_copyFrom_25 : decode b_Tape_copyFrom 25 = .ok (.bipush 80, 2) := by decide +kernel
theorem d_Tape_copyFrom_27 : decode b_Tape_copyFrom 27 = .ok (.invokestatic 28, 3) := by decide +kernel
theorem d_Tape_copyFrom_30 : decode b_Tape_copyFrom 30 = .ok (.aload_n 1, 1) := by decide +kernel
theorem d_Tape_copyFrom_31 : decode b_Tape_copyFrom 31 = .ok (.getfield 18, 3) := by decide +kernel
theorem d_Tape_copyFrom_34 : decode b_Tape_copyFrom 34 = .ok (.iconst 0, 1) := by decide +kernel
theorem d_Tape_copyFrom_35 : decode b_Tape_copyFrom 35 = .ok (.aload_n 0, 1) := by decide +kernel
theorem d_Tape_copyFrom_36 : decode b_Tape_copyFrom 36 = .ok (.getfield 18, 3) := by decide +kernel
theorem d_Tape_copyFrom_39 : decode b_Tape_copyFrom 39 = .ok (.iconst 0, 1) := by decide +kernel
theorem d_Tape_copyFrom_40 : decode b_Tape_copyFrom 40 = .ok (.iconst 2, 1) := by decide +kernel
theorem d_Tape_copyFrom_41 : decode b_Tape_copyFrom 41 = .ok (.invokestatic 28, 3) := by decide +kernel
theorem d_Tape_copyFrom_44 : decode b_Tape_copyFrom 44 = .ok (.aload_n 0, 1) := by decide +kernel
theorem d_Tape_copyFrom_45 : decode b_Tape_copyFrom 45 = .ok (.aload_n 1, 1) := by decide +kernel
theorem d_Tape_copyFrom_46 : decode b_Tape_copyFrom 46 = .ok (.getfield 21, 3) := by decide +kernel
theorem d_Tape_copyFrom_49 : decode b_Tape_copyFrom 49 = .ok (.putfield 21, 3) := by decide +kernel
theorem d_Tape_copyFrom_52 : decode b_Tape_copyFrom 52 = .ok (.aload_n 0, 1) := by decide +kernel
theorem d_Tape_copyFrom_53 : decode b_Tape_copyFrom 53 = .ok (.aload_n 1, 1) := by decide +kernel
theorem d_Tape_copyFrom_54 : decode b_Tape_copyFrom 54 = .ok (.getfield 25, 3) := by decide +kernel
theorem d_Tape_copyFrom_57 : decode b_Tape_copyFrom 57 = .ok (.putfield 25, 3) := by decide +kernel
theorem d_Tape_copyFrom_60 : decode b_Tape_copyFrom 60 = .ok (.return_, 1) := by decide +kernel
def rm_Tape_copyFrom : Room := { frames := 1, cells := 0, slots := 0, locals := 60 }
theorem mf_Tape_copyFrom : zMV y_Tape_copyFrom b_Tape_copyFrom 2 none 1 := ⟨q729, qs41, q6, q730, by decide +kernel⟩
def M_Tape_copyFrom (p0 : Nat) (p1 : Nat) (h : zH) (K : zH → Prop) : Prop :=
  (∀ h_1 : zH, h_1 = zcp h (p1 + 1) 0 (p0 + 1) 0 40 → ((∀ h_2 : zH, h_2 = zcp h_1 (p1 + 2) 0 (p0 + 2) 0 80 → ((∀ h_3 : zH, h_3 = zcp h_2 (p1 + 3) 0 (p0 + 3) 0 2 → ((∀ h_4 : zH, h_4 = zs h_3 p0 3 (h_3 p1 3) → ((∀ h_5 : zH, h_5 = zs h_4 p0 4 (h_4 p1 4) → (K h_5))))))))))
set_option maxRecDepth 100000 in
theorem c_Tape_copyFrom {l : Launch} (hfl : l.flags = flags0) {g : zG} {n : Nat} {p0 : Nat} {p1 : Nat} (op0 : zO n p0 8) (op1 : zO n p1 8) {h : zH} (hh : zh h) {K : zH → Prop} (hv : M_Tape_copyFrom p0 p1 h K) : zMet l y_Tape_copyFrom b_Tape_copyFrom 2 none rm_Tape_copyFrom g n [.ref (g.2.2 p0), .ref (g.2.2 p1)] h (zPv K) := by
  refine zMet_of (own := "AliasStreams$Tape") hfl (by decide) rfl (Nat.le_of_ble_eq_true rfl) (fun Wf m H0 X E => ?_)
  unfold M_Tape_copyFrom at hv
  show zW Wf m 2 g n H0 0 [(0, .ref (g.2.2 p0)), (1, .ref (g.2.2 p1))] [] h
  refine z_aload_n (pc := 0) (q := 1) X d_Tape_copyFrom_0 rfl ?_
  refine z_getr (pc := 1) (j := 0) (dd := 1) X cf_Tape op1 (by decide) q139 rfl rfl d_Tape_copyFrom_1 ?_
  refine z_iconst (pc := 4) X d_Tape_copyFrom_4 ?_
  refine z_aload_n (pc := 5) (q := 0) X d_Tape_copyFrom_5 rfl ?_
  refine z_getr (pc := 6) (j := 0) (dd := 1) X cf_Tape op0 (by decide) q139 rfl rfl d_Tape_copyFrom_6 ?_
  refine z_iconst (pc := 9) X d_Tape_copyFrom_9 ?_
  refine z_bipush (pc := 10) X d_Tape_copyFrom_10 (by decide) ?_
  refine z_copy (pc := 12) (sp := 0) (dp := 0) (len := 40) X (gf_Tape_0 op1) (gf_Tape_0 op0) (gl_Tape_0 op1) (gl_Tape_0 op0) rfl rfl rfl (by decide) (by decide) (by decide) (by decide) (by decide) q731 q594 q593 q19 ⟨by decide, Nat.le_of_ble_eq_true rfl⟩ d_Tape_copyFrom_12 ?_
  refine z_toph (fun h_1 eh_1 => ?_)
  have zh_1 : zh h_1 := by rw [eh_1]; exact zh_cp hh (zO.ne (gf_Tape_0 op1) (by decide)) (zO.ne (gf_Tape_0 op0) (by decide))
  replace hv := hv h_1 eh_1
  refine z_aload_n (pc := 15) (q := 1) X d_Tape_copyFrom_15 rfl ?_
  refine z_getr (pc := 16) (j := 1) (dd := 2) X cf_Tape op1 (by decide) q143 rfl rfl d_Tape_copyFrom_16 ?_
  refine z_iconst (pc := 19) X d_Tape_copyFrom_19 ?_
  refine z_aload_n (pc := 20) (q := 0) X d_Tape_copyFrom_20 rfl ?_
  refine z_getr (pc := 21) (j := 1) (dd := 2) X cf_Tape op0 (by decide) q143 rfl rfl d_Tape_copyFrom_21 ?_
  refine z_iconst (pc := 24) X d_Tape_copyFrom_24 ?_
  refine z_bipush (pc := 25) X d_Tape_copyFrom_25 (by decide) ?_
  refine z_copy (pc := 27) (sp := 0) (dp := 0) (len := 80) X (gf_Tape_1 op1) (gf_Tape_1 op0) (gl_Tape_1 op1) (gl_Tape_1 op0) rfl rfl rfl (by decide) (by decide) (by decide) (by decide) (by decide) q731 q594 q593 q19 ⟨by decide, Nat.le_of_ble_eq_true rfl⟩ d_Tape_copyFrom_27 ?_
  refine z_toph (fun h_2 eh_2 => ?_)
  have zh_2 : zh h_2 := by rw [eh_2]; exact zh_cp zh_1 (zO.ne (gf_Tape_1 op1) (by decide)) (zO.ne (gf_Tape_1 op0) (by decide))
  replace hv := hv h_2 eh_2
  refine z_aload_n (pc := 30) (q := 1) X d_Tape_copyFrom_30 rfl ?_
  refine z_getr (pc := 31) (j := 2) (dd := 3) X cf_Tape op1 (by decide) q147 rfl rfl d_Tape_copyFrom_31 ?_
  refine z_iconst (pc := 34) X d_Tape_copyFrom_34 ?_
  refine z_aload_n (pc := 35) (q := 0) X d_Tape_copyFrom_35 rfl ?_
  refine z_getr (pc := 36) (j := 2) (dd := 3) X cf_Tape op0 (by decide) q147 rfl rfl d_Tape_copyFrom_36 ?_
  refine z_iconst (pc := 39) X d_Tape_copyFrom_39 ?_
  refine z_iconst (pc := 40) X d_Tape_copyFrom_40 ?_
  refine z_copy (pc := 41) (sp := 0) (dp := 0) (len := 2) X (gf_Tape_2 op1) (gf_Tape_2 op0) (gl_Tape_2 op1) (gl_Tape_2 op0) rfl rfl rfl (by decide) (by decide) (by decide) (by decide) (by decide) q731 q594 q593 q19 ⟨by decide, Nat.le_of_ble_eq_true rfl⟩ d_Tape_copyFrom_41 ?_
  refine z_toph (fun h_3 eh_3 => ?_)
  have zh_3 : zh h_3 := by rw [eh_3]; exact zh_cp zh_2 (zO.ne (gf_Tape_2 op1) (by decide)) (zO.ne (gf_Tape_2 op0) (by decide))
  replace hv := hv h_3 eh_3
  refine z_aload_n (pc := 44) (q := 0) X d_Tape_copyFrom_44 rfl ?_
  refine z_aload_n (pc := 45) (q := 1) X d_Tape_copyFrom_45 rfl ?_
  refine z_geti (pc := 46) (j := 3) X cf_Tape op1 (by decide) q150 rfl rfl d_Tape_copyFrom_46 ?_
  refine z_put (pc := 49) (j := 3) X cf_Tape op0 (by decide) q150 rfl rfl rfl rfl d_Tape_copyFrom_49 ?_
  refine z_toph (fun h_4 eh_4 => ?_)
  have zh_4 : zh h_4 := by rw [eh_4]; exact zh_set zh_3 (zO.ne op0 (by decide)) (zh_3.1 _ _ (zO.ne op1 (by decide)))
  replace hv := hv h_4 eh_4
  refine z_aload_n (pc := 52) (q := 0) X d_Tape_copyFrom_52 rfl ?_
  refine z_aload_n (pc := 53) (q := 1) X d_Tape_copyFrom_53 rfl ?_
  refine z_geti (pc := 54) (j := 4) X cf_Tape op1 (by decide) q155 rfl rfl d_Tape_copyFrom_54 ?_
  refine z_put (pc := 57) (j := 4) X cf_Tape op0 (by decide) q155 rfl rfl rfl rfl d_Tape_copyFrom_57 ?_
  refine z_toph (fun h_5 eh_5 => ?_)
  have zh_5 : zh h_5 := by rw [eh_5]; exact zh_set zh_4 (zO.ne op0 (by decide)) (zh_4.1 _ _ (zO.ne op1 (by decide)))
  replace hv := hv h_5 eh_5
  exact E.1 rfl _ _ _ d_Tape_copyFrom_60 ⟨rfl, zh_5, hv⟩
theorem d_Tape_writeDigit_0 : decode b_Tape_writeDigit 0 = .ok (.aload_n 0, 1) := by decide +kernel
theorem d_Tape_writeDigit_1 : decode b_Tape_writeDigit 1 = .ok (.getfield 25, 3) := by decide +kernel
theorem d_Tape_writeDigit_4 : decode b_Tape_writeDigit 4 = .ok (.ifCond .lt 32, 3) := by decide +kernel
theorem d_Tape_writeDigit_7 : decode b_Tape_writeDigit 7 = .ok (.aload_n 0, 1) := by decide +kernel
theorem d_Tape_writeDigit_8 : decode b_Tape_writeDigit 8 = .ok (.getfield 25, 3) := by decide +kernel
theorem d_Tape_writeDigit_11 : decode b_Tape_writeDigit 11 = .ok (.bipush 80, 2) := by decide +kernel
theorem d_Tape_writeDigit_13 : decode b_Tape_writeDigit 13 = .ok (.if_icmp .ge 23, 3) := by decide +kernel
theorem d_Tape_writeDigit_16 : decode b_Tape_writeDigit 16 = .ok (.aload_n 0, 1) := by decide +kernel
theorem d_Tape_writeDigit_17 : decode b_Tape_writeDigit 17 = .ok (.getfield 15, 3) := by decide +kernel
theorem d_Tape_writeDigit_20 : decode b_Tape_writeDigit 20 = .ok (.aload_n 0, 1) := by decide +kernel
theorem d_Tape_writeDigit_21 : decode b_Tape_writeDigit 21 = .ok (.getfield 25, 3) := by decide +kernel
theorem d_Tape_writeDigit_24 : decode b_Tape_writeDigit 24 = .ok (.iload_n 1, 1) := by decide +kernel
theorem d_Tape_writeDigit_25 : decode b_Tape_writeDigit 25 = .ok (.iastore, 1) := by decide +kernel
theorem d_Tape_writeDigit_26 : decode b_Tape_writeDigit 26 = .ok (.aload_n 0, 1) := by decide +kernel
theorem d_Tape_writeDigit_27 : decode b_Tape_writeDigit 27 = .ok (.dup, 1) := by decide +kernel
theorem d_Tape_writeDigit_28 : decode b_Tape_writeDigit 28 = .ok (.getfield 25, 3) := by decide +kernel
theorem d_Tape_writeDigit_31 : decode b_Tape_writeDigit 31 = .ok (.iconst 1, 1) := by decide +kernel
theorem d_Tape_writeDigit_32 : decode b_Tape_writeDigit 32 = .ok (.iadd, 1) := by decide +kernel
theorem d_Tape_writeDigit_33 : decode b_Tape_writeDigit 33 = .ok (.putfield 25, 3) := by decide +kernel
theorem d_Tape_writeDigit_36 : decode b_Tape_writeDigit 36 = .ok (.return_, 1) := by decide +kernel
def rm_Tape_writeDigit : Room := { frames := 0, cells := 0, slots := 0, locals := 0 }
theorem mf_Tape_writeDigit : zMV y_Tape_writeDigit b_Tape_writeDigit 2 none 1 := ⟨q795, qs48, q6, q796, by decide +kernel⟩
def M_Tape_writeDigit (p0 : Nat) (x1 : Int) (h : zH) (K : zH → Prop) : Prop :=
  (h p0 4 < 0 → (K h)) ∧ (0 ≤ h p0 4 → ((80 ≤ h p0 4 → (K h)) ∧ (h p0 4 < 80 → ((0 ≤ h p0 4 ∧ h p0 4 < 80) ∧ (∀ h_2 : zH, h_2 = zs h (p0 + 2) ((h p0 4).toNat) x1 → (zr ((h_2 p0 4) + 1) ∧ ((∀ h_4 : zH, h_4 = zs h_2 p0 4 ((h_2 p0 4) + 1) → (K h_4)))))))))
set_option maxRecDepth 100000 in
theorem c_Tape_writeDigit {l : Launch} (hfl : l.flags = flags0) {g : zG} {n : Nat} {p0 : Nat} {x1 : Int} (op0 : zO n p0 8) (rx1 : zr x1) {h : zH} (hh : zh h) {K : zH → Prop} (hv : M_Tape_writeDigit p0 x1 h K) : zMet l y_Tape_writeDigit b_Tape_writeDigit 2 none rm_Tape_writeDigit g n [.ref (g.2.2 p0), zi x1] h (zPv K) := by
  refine zMet_of (own := "AliasStreams$Tape") hfl (by decide) rfl (Nat.le_of_ble_eq_true rfl) (fun Wf m H0 X E => ?_)
  unfold M_Tape_writeDigit at hv
  show zW Wf m 2 g n H0 0 [(0, .ref (g.2.2 p0)), (1, zi x1)] [] h
  refine z_aload_n (pc := 0) (q := 0) X d_Tape_writeDigit_0 rfl ?_
  refine z_geti (pc := 1) (j := 4) X cf_Tape op0 (by decide) q155 rfl rfl d_Tape_writeDigit_1 ?_
  refine z_if_lt (pc := 4) (tgt := 36) X (hh.1 _ _ (zO.ne op0 (by decide))) d_Tape_writeDigit_4 (by decide) (fun hc => ?_) (fun hc => ?_)
  · replace hv := hv.1 hc
    exact E.1 rfl _ _ _ d_Tape_writeDigit_36 ⟨rfl, hh, hv⟩
  · replace hv := hv.2 hc
    refine z_aload_n (pc := 7) (q := 0) X d_Tape_writeDigit_7 rfl ?_
    refine z_geti (pc := 8) (j := 4) X cf_Tape op0 (by decide) q155 rfl rfl d_Tape_writeDigit_8 ?_
    refine z_bipush (pc := 11) X d_Tape_writeDigit_11 (by decide) ?_
    refine z_icmp_ge (pc := 13) (tgt := 36) X (hh.1 _ _ (zO.ne op0 (by decide))) (show zr 80 from by decide) d_Tape_writeDigit_13 (by decide) (fun hc => ?_) (fun hc => ?_)
    · replace hv := hv.1 hc
      exact E.1 rfl _ _ _ d_Tape_writeDigit_36 ⟨rfl, hh, hv⟩
    · replace hv := hv.2 hc
      refine z_aload_n (pc := 16) (q := 0) X d_Tape_writeDigit_16 rfl ?_
      refine z_getr (pc := 17) (j := 1) (dd := 2) X cf_Tape op0 (by decide) q143 rfl rfl d_Tape_writeDigit_17 ?_
      refine z_aload_n (pc := 20) (q := 0) X d_Tape_writeDigit_20 rfl ?_
      refine z_geti (pc := 21) (j := 4) X cf_Tape op0 (by decide) q155 rfl rfl d_Tape_writeDigit_21 ?_
      refine z_iload_n (pc := 24) (q := 1) X d_Tape_writeDigit_24 rfl ?_
      obtain ⟨v_1, hv⟩ := hv
      refine z_iastj (pc := 25) (j := (h p0 4).toNat) X (gf_Tape_1 op0) (gl_Tape_1 op0) (hh.1 _ _ (zO.ne op0 (by decide))) v_1 rfl d_Tape_writeDigit_25 ?_
      refine z_toph (fun h_2 eh_2 => ?_)
      have zh_2 : zh h_2 := by rw [eh_2]; exact zh_set hh (zO.ne (gf_Tape_1 op0) (by decide)) rx1
      replace hv := hv h_2 eh_2
      refine z_aload_n (pc := 26) (q := 0) X d_Tape_writeDigit_26 rfl ?_
      refine z_dup (pc := 27) X d_Tape_writeDigit_27 rfl ?_
      refine z_geti (pc := 28) (j := 4) X cf_Tape op0 (by decide) q155 rfl rfl d_Tape_writeDigit_28 ?_
      refine z_iconst (pc := 31) X d_Tape_writeDigit_31 ?_
      obtain ⟨v_3, hv⟩ := hv
      refine z_iadd (pc := 32) X d_Tape_writeDigit_32 ?_
      refine z_put (pc := 33) (j := 4) X cf_Tape op0 (by decide) q155 rfl rfl rfl rfl d_Tape_writeDigit_33 ?_
      refine z_toph (fun h_4 eh_4 => ?_)
      have zh_4 : zh h_4 := by rw [eh_4]; exact zh_set zh_2 (zO.ne op0 (by decide)) v_3
      replace hv := hv h_4 eh_4
      exact E.1 rfl _ _ _ d_Tape_writeDigit_36 ⟨rfl, zh_4, hv⟩
theorem d_Tape_putSymbol_0 : decode b_Tape_putSymbol 0 = .ok (.aload_n 1, 1) := by decide +kernel
theorem d_Tape_putSymbol_1 : decode b_Tape_putSymbol 1 = .ok (.iload_n 2, 1) := by decide +kernel
theorem d_Tape_putSymbol_2 : decode b_Tape_putSymbol 2 = .ok (.invokevirtual 64, 3) := by decide +kernel
theorem d_Tape_putSymbol_5 : decode b_Tape_putSymbol 5 = .ok (.istore 4, 2) := by decide +kernel
theorem d_Tape_putSymbol_7 : decode b_Tape_putSymbol 7 = .ok (.iload 4, 2) := by decide +kernel
theorem d_Tape_putSymbol_9 : decode b_Tape_putSymbol 9 = .ok (.ifCond .le 10, 3) := by decide +kernel
theorem d_Tape_putSymbol_12 : decode b_Tape_putSymbol 12 = .ok (.iload_n 3, 1) := by decide +kernel
theorem d_Tape_putSymbol_13 : decode b_Tape_putSymbol 13 = .ok (.invokestatic 70, 3) := by decide +kernel
theorem d_Tape_putSymbol_16 : decode b_Tape_putSymbol 16 = .ok (.ifCond .ne 4, 3) := by decide +kernel
theorem d_Tape_putSymbol_19 : decode b_Tape_putSymbol 19 = .ok (.return_, 1) := by decide +kernel
theorem d_Tape_putSymbol_20 : decode b_Tape_putSymbol 20 = .ok (.aload_n 0, 1) := by decide +kernel
theorem d_Tape_putSymbol_21 : decode b_Tape_putSymbol 21 = .ok (.getfield 18, 3) := by decide +kernel
theorem d_Tape_putSymbol_24 : decode b_Tape_putSymbol 24 = .ok (.iload_n 3, 1) := by decide +kernel
theorem d_Tape_putSymbol_25 : decode b_Tape_putSymbol 25 = .ok (.iaload, 1) := by decide +kernel
theorem d_Tape_putSymbol_26 : decode b_Tape_putSymbol 26 = .ok (.istore 5, 2) := by decide +kernel
theorem d_Tape_putSymbol_28 : decode b_Tape_putSymbol 28 = .ok (.iconst 0, 1) := by decide +kernel
theorem d_Tape_putSymbol_29 : decode b_Tape_putSymbol 29 = .ok (.istore 6, 2) := by decide +kernel
theorem d_Tape_putSymbol_31 : decode b_Tape_putSymbol 31 = .ok (.iload 6, 2) := by decide +kernel
theorem d_Tape_putSymbol_33 : decode b_Tape_putSymbol 33 = .ok (.iconst 2, 1) := by decide +kernel
theorem d_Tape_putSymbol_34 : decode b_Tape_putSymbol 34 = .ok (.if_icmp .ge 36, 3) := by decide +kernel
theorem d_Tape_putSymbol_37 : decode b_Tape_putSymbol 37 = .ok (.iload 5, 2) := by decide +kernel
theorem d_Tape_putSymbol_39 : decode b_Tape_putSymbol 39 = .ok (.sipush 256, 3) := by decide +kernel
theorem d_Tape_putSymbol_42 : decode b_Tape_putSymbol 42 = .ok (.iload 4, 2) := by decide +kernel
theorem d_Tape_putSymbol_44 : decode b_Tape_putSymbol 44 = .ok (.imul, 1) := by decide +kernel
theorem d_Tape_putSymbol_45 : decode b_Tape_putSymbol 45 = .ok (.if_icmp .lt 25, 3) := by decide +kernel
theorem d_Tape_putSymbol_48 : decode b_Tape_putSymbol 48 = .ok (.aload_n 0, 1) := by decide +kernel
theorem d_Tape_putSymbol_49 : decode b_Tape_putSymbol 49 = .ok (.iload 5, 2) := by decide +kernel
theorem d_Tape_putSymbol_51 : decode b_Tape_putSymbol 51 = .ok (.bipush 16, 2) := by decide +kernel
theorem d_Tape_putSymbol_53 : decode b_Tape_putSymbol 53 = .ok (.irem, 1) := by decide +kernel
theorem d_Tape_putSymbol_54 : decode b_Tape_putSymbol 54 = .ok (.invokevirtual 74, 3) := by decide +kernel
theorem d_Tape_putSymbol_57 : decode b_Tape_putSymbol 57 = .ok (.iload 5, 2) := by decide +kernel
theorem d_Tape_putSymbol_59 : decode b_Tape_putSymbol 59 = .ok (.bipush 16, 2) := by decide +kernel
theorem d_Tape_putSymbol_61 : decode b_Tape_putSymbol 61 = .ok (.idiv, 1) := by decide +kernel
theorem d_Tape_putSymbol_62 : decode b_Tape_putSymbol 62 = .ok (.istore 5, 2) := by decide +kernel
theorem d_Tape_putSymbol_64 : decode b_Tape_putSymbol 64 = .ok (.iinc 6 1, 3) := by decide +kernel
theorem d_Tape_putSymbol_67 : decode b_Tape_putSymbol 67 = .ok (.goto (-36), 3) := by decide +kernel
theorem d_Tape_putSymbol_70 : decode b_Tape_putSymbol 70 = .ok (.aload_n 0, 1) := by decide +kernel
theorem d_Tape_putSymbol_71 : decode b_Tape_putSymbol 71 = .ok (.getfield 18, 3) := by decide +kernel
theorem d_Tape_putSymbol_74 : decode b_Tape_putSymbol 74 = .ok (.iload_n 3, 1) := by decide +kernel
theorem d_Tape_putSymbol_75 : decode b_Tape_putSymbol 75 = .ok (.bipush 32, 2) := by decide +kernel
theorem d_Tape_putSymbol_77 : decode b_Tape_putSymbol 77 = .ok (.iload 5, 2) := by decide +kernel
theorem d_Tape_putSymbol_79 : decode b_Tape_putSymbol 79 = .ok (.iload 4, 2) := by decide +kernel
theorem d_Tape_putSymbol_81 : decode b_Tape_putSymbol 81 = .ok (.idiv, 1) := by decide +kernel
theorem d_Tape_putSymbol_82 : decode b_Tape_putSymbol 82 = .ok (.imul, 1) := by decide +kernel
theorem d_Tape_putSymbol_83 : decode b_Tape_putSymbol 83 = .ok (.aload_n 1, 1) := by decide +kernel
theorem d_Tape_putSymbol_84 : decode b_Tape_putSymbol 84 = .ok (.iload_n 2, 1) := by decide +kernel
theorem d_Tape_putSymbol_85 : decode b_Tape_putSymbol 85 = .ok (.iload 5, 2) := by decide +kernel
theorem d_Tape_putSymbol_87 : decode b_Tape_putSymbol 87 = .ok (.iload 4, 2) := by decide +kernel
theorem d_Tape_putSymbol_89 : decode b_Tape_putSymbol 89 = .ok (.irem, 1) := by decide +kernel
theorem d_Tape_putSymbol_90 : decode b_Tape_putSymbol 90 = .ok (.invokevirtual 78, 3) := by decide +kernel
theorem d_Tape_putSymbol_93 : decode b_Tape_putSymbol 93 = .ok (.iadd, 1) := by decide +kernel
theorem d_Tape_putSymbol_94 : decode b_Tape_putSymbol 94 = .ok (.iastore, 1) := by decide +kernel
theorem d_Tape_putSymbol_95 : decode b_Tape_putSymbol 95 = .ok (.return_, 1) := by decide +kernel
def rm_Tape_putSymbol : Room := { frames := 1, cells := 0, slots := 0, locals := 23 }
theorem mf_Tape_putSymbol : zMV y_Tape_putSymbol b_Tape_putSymbol 7 none 3 := ⟨q789, qs47, q6, q790, by decide +kernel⟩
def B_Tape_putSymbol_70 (K : zH → Prop)  (p0 : Nat) (p1 : Nat) (x2 : Int) (x3 : Int) (x4 : Int) (x5 : Int)  (h : zH) : Prop :=
  (0 ≤ x5 ∧ 0 < x4) ∧ (zr (32 * (x5 / x4)) ∧ ((0 ≤ x5 ∧ 0 < x4) ∧ (M_Model_slotOf p1 x2 (x5 % x4) h (fun r_5 h_4 => zr ((32 * (x5 / x4)) + r_5) ∧ ((0 ≤ x3 ∧ x3 < 2) ∧ (∀ h_8 : zH, h_8 = zs h_4 (p0 + 3) x3.toNat ((32 * (x5 / x4)) + r_5) → (K h_8)))))))
set_option maxRecDepth 100000 in
theorem s_Tape_putSymbol_70 {Wf : Heap → List Loc → JFrame → Prop} {m : MethodId} {g : zG} {n : Nat} {H0 : Heap} (X : zX Wf m rm_Tape_putSymbol b_Tape_putSymbol "AliasStreams$Tape" 7 g n H0) {K : zH → Prop} (E : zEx Wf m b_Tape_putSymbol none 7 g n H0 (zPv K))  {p0 : Nat} {p1 : Nat} {x2 : Int} {x3 : Int} {x4 : Int} {x5 : Int}  (op0 : zO n p0 8) (op1 : zO n p1 1) (rx2 : zr x2) (rx3 : zr x3) (rx4 : zr x4) (rx5 : zr x5)   {h : zH} (hh : zh h) (hv : B_Tape_putSymbol_70 K  p0 p1 x2 x3 x4 x5  h) : zW Wf m 7 g n H0 70 [(0, .ref (g.2.2 p0)), (1, .ref (g.2.2 p1)), (2, zi x2), (3, zi x3), (4, zi x4), (5, zi x5)] [] h := by
  unfold B_Tape_putSymbol_70 at hv
  refine z_aload_n (pc := 70) (q := 0) X d_Tape_putSymbol_70 rfl ?_
  refine z_getr (pc := 71) (j := 2) (dd := 3) X cf_Tape op0 (by decide) q147 rfl rfl d_Tape_putSymbol_71 ?_
  refine z_iload_n (pc := 74) (q := 3) X d_Tape_putSymbol_74 rfl ?_
  refine z_bipush (pc := 75) X d_Tape_putSymbol_75 (by decide) ?_
  refine z_iload (pc := 77) (q := 5) X d_Tape_putSymbol_77 rfl ?_
  refine z_iload (pc := 79) (q := 4) X d_Tape_putSymbol_79 rfl ?_
  obtain ⟨v_1, hv⟩ := hv
  refine z_idiv (pc := 81) X rx5 rx4 v_1.1 v_1.2 d_Tape_putSymbol_81 ?_
  obtain ⟨v_2, hv⟩ := hv
  refine z_imul (pc := 82) X d_Tape_putSymbol_82 ?_
  refine z_aload_n (pc := 83) (q := 1) X d_Tape_putSymbol_83 rfl ?_
  refine z_iload_n (pc := 84) (q := 2) X d_Tape_putSymbol_84 rfl ?_
  refine z_iload (pc := 85) (q := 5) X d_Tape_putSymbol_85 rfl ?_
  refine z_iload (pc := 87) (q := 4) X d_Tape_putSymbol_87 rfl ?_
  obtain ⟨v_3, hv⟩ := hv
  refine z_irem (pc := 89) X rx5 rx4 v_3.1 v_3.2 d_Tape_putSymbol_89 ?_
  refine z_callVNi (pc := 90) (As := [zi x2, zi (x5 % x4)]) (rest := [zi (32 * (x5 / x4)), zi x3, .ref (g.2.2 (p0 + 3))]) X (fun l hl => c_Model_slotOf hl op1 rx2 (zr_rem rx4 v_3.2) hh hv) cf_Model op1 rfl mf_Model_slotOf q797 ⟨⟨by decide, by decide⟩, rfl, rfl⟩ rfl d_Tape_putSymbol_90 rfl (Nat.le_of_ble_eq_true rfl) (fun r_5 h_4 rr_5 zh_4 hv => ?_)
  obtain ⟨v_6, hv⟩ := hv
  refine z_iadd (pc := 93) X d_Tape_putSymbol_93 ?_
  obtain ⟨v_7, hv⟩ := hv
  refine z_iastj (pc := 94) (j := x3.toNat) X (gf_Tape_2 op0) (gl_Tape_2 op0) rx3 v_7 rfl d_Tape_putSymbol_94 ?_
  refine z_toph (fun h_8 eh_8 => ?_)
  have zh_8 : zh h_8 := by rw [eh_8]; exact zh_set zh_4 (zO.ne (gf_Tape_2 op0) (by decide)) v_6
  replace hv := hv h_8 eh_8
  exact E.1 rfl _ _ _ d_Tape_putSymbol_95 ⟨rfl, zh_8, hv⟩
def F_Tape_putSymbol_31 (K : zH → Prop)  (L31 : Int × Int × zH → Prop) (p0 : Nat) (p1 : Nat) (x2 : Int) (x3 : Int) (x4 : Int) (x5 : Int) (x6 : Int) (h : zH) : Prop :=
  (2 ≤ x6 → (B_Tape_putSymbol_70 K  p0 p1 x2 x3 x4 x5  h)) ∧ (x6 < 2 → (zr (256 * x4) ∧ ((x5 < 256 * x4 → (B_Tape_putSymbol_70 K  p0 p1 x2 x3 x4 x5  h)) ∧ (256 * x4 ≤ x5 → (0 ≤ x5 ∧ (M_Tape_writeDigit p0 (x5 % 16) h (fun h_3 => 0 ≤ x5 ∧ ((∀ x5_6 : Int, x5_6 = x5 / 16 → (zr (x6 + 1) ∧ (L31 (x5_6, x6 + 1, h_3))))))))))))
set_option maxRecDepth 100000 in
theorem s_Tape_putSymbol_31 {Wf : Heap → List Loc → JFrame → Prop} {m : MethodId} {g : zG} {n : Nat} {H0 : Heap} (X : zX Wf m rm_Tape_putSymbol b_Tape_putSymbol "AliasStreams$Tape" 7 g n H0) {K : zH → Prop} (E : zEx Wf m b_Tape_putSymbol none 7 g n H0 (zPv K))  {p0 : Nat} {p1 : Nat} {x2 : Int} {x3 : Int} {x4 : Int}  (op0 : zO n p0 8) (op1 : zO n p1 1) (rx2 : zr x2) (rx3 : zr x3) (rx4 : zr x4) {q0 : Int × Int × zH} (hv0 : zLoop (fun L q => F_Tape_putSymbol_31 K  L p0 p1 x2 x3 x4 q.1 q.2.1 q.2.2) q0) : zr q0.1 → zr q0.2.1 → zh (q0.2.2) → zW Wf m 7 g n H0 31 [(0, .ref (g.2.2 p0)), (1, .ref (g.2.2 p1)), (2, zi x2), (3, zi x3), (4, zi x4), (5, zi q0.1), (6, zi q0.2.1)] [] (q0.2.2) := by
  refine zLoop_use (G := fun q => zr q.1 → zr q.2.1 → zh (q.2.2) → zW Wf m 7 g n H0 31 [(0, .ref (g.2.2 p0)), (1, .ref (g.2.2 p1)), (2, zi x2), (3, zi x3), (4, zi x4), (5, zi q.1), (6, zi q.2.1)] [] (q.2.2)) ?_ hv0
  rintro L31 ⟨x5, x6, h⟩ hL31 hv rx5 rx6 hh
  have hv : F_Tape_putSymbol_31 K  L31 p0 p1 x2 x3 x4 x5 x6 h := hv
  unfold F_Tape_putSymbol_31 at hv
  show zW Wf m 7 g n H0 31 [(0, .ref (g.2.2 p0)), (1, .ref (g.2.2 p1)), (2, zi x2), (3, zi x3), (4, zi x4), (5, zi x5), (6, zi x6)] [] h
  refine z_iload (pc := 31) (q := 6) X d_Tape_putSymbol_31 rfl ?_
  refine z_iconst (pc := 33) X d_Tape_putSymbol_33 ?_
  refine z_icmp_ge (pc := 34) (tgt := 70) X rx6 (show zr 2 from by decide) d_Tape_putSymbol_34 (by decide) (fun hc => ?_) (fun hc => ?_)
  · replace hv := hv.1 hc
    refine z_perm [0, 1, 2, 3, 4, 5] rfl ?_
    exact s_Tape_putSymbol_70 X E  op0 op1 rx2 rx3 rx4 rx5  hh hv
  · replace hv := hv.2 hc
    refine z_iload (pc := 37) (q := 5) X d_Tape_putSymbol_37 rfl ?_
    refine z_sipush (pc := 39) X d_Tape_putSymbol_39 (by decide) ?_
    refine z_iload (pc := 42) (q := 4) X d_Tape_putSymbol_42 rfl ?_
    obtain ⟨v_1, hv⟩ := hv
    refine z_imul (pc := 44) X d_Tape_putSymbol_44 ?_
    refine z_icmp_lt (pc := 45) (tgt := 70) X rx5 v_1 d_Tape_putSymbol_45 (by decide) (fun hc => ?_) (fun hc => ?_)
    · replace hv := hv.1 hc
      refine z_perm [0, 1, 2, 3, 4, 5] rfl ?_
      exact s_Tape_putSymbol_70 X E  op0 op1 rx2 rx3 rx4 rx5  hh hv
    · replace hv := hv.2 hc
      refine z_aload_n (pc := 48) (q := 0) X d_Tape_putSymbol_48 rfl ?_
      refine z_iload (pc := 49) (q := 5) X d_Tape_putSymbol_49 rfl ?_
      refine z_bipush (pc := 51) X d_Tape_putSymbol_51 (by decide) ?_
      obtain ⟨v_2, hv⟩ := hv
      refine z_irem (pc := 53) X rx5 (show zr 16 from by decide) v_2 (by decide) d_Tape_putSymbol_53 ?_
      refine z_callVv (pc := 54) (As := [zi (x5 % 16)]) (rest := []) X (fun l hl => c_Tape_writeDigit hl op0 (zr_rem (show zr 16 from by decide) (by decide)) hh hv) cf_Tape op0 rfl mf_Tape_writeDigit q793 ⟨⟨by decide, by decide⟩, rfl, rfl⟩ rfl d_Tape_putSymbol_54 rfl (Nat.le_of_ble_eq_true rfl) (fun h_3 zh_3 hv => ?_)
      refine z_iload (pc := 57) (q := 5) X d_Tape_putSymbol_57 rfl ?_
      refine z_bipush (pc := 59) X d_Tape_putSymbol_59 (by decide) ?_
      obtain ⟨v_5, hv⟩ := hv
      refine z_idiv (pc := 61) X rx5 (show zr 16 from by decide) v_5 (by decide) d_Tape_putSymbol_61 ?_
      refine z_topi (fun x5_6 ex5_6 => ?_)
      have rx5_6 : zr x5_6 := by rw [ex5_6]; exact (zr_div rx5 v_5 (by decide))
      replace hv := hv x5_6 ex5_6
      refine z_istore (pc := 62) (lv' := [(5, zi x5_6), (0, .ref (g.2.2 p0)), (1, .ref (g.2.2 p1)), (2, zi x2), (3, zi x3), (4, zi x4), (6, zi x6)]) X d_Tape_putSymbol_62 (by decide) rfl ?_
      obtain ⟨v_7, hv⟩ := hv
      refine z_iinc (pc := 64) (q := 6) (lv' := [(6, zi (x6 + 1)), (5, zi x5_6), (0, .ref (g.2.2 p0)), (1, .ref (g.2.2 p1)), (2, zi x2), (3, zi x3), (4, zi x4)]) X d_Tape_putSymbol_64 rfl (by decide) rfl ?_
      refine z_goto (pc := 67) (tgt := 31) X d_Tape_putSymbol_67 (by decide) ?_
      refine z_perm [2, 3, 4, 5, 6, 1, 0] rfl ?_
      exact hL31 _ hv rx5_6 v_7 zh_3
def M_Tape_putSymbol (p0 : Nat) (p1 : Nat) (x2 : Int) (x3 : Int) (h : zH) (K : zH → Prop) : Prop :=
  M_Model_frequencyOf p1 x2 h (fun r_2 h_1 => (r_2 ≤ 0 → (K h_1)) ∧ (0 < r_2 → (M_AS_isHead x3 h_1 (fun r_4 h_3 => (r_4 ≠ 0 → ((0 ≤ x3 ∧ x3 < 2) ∧ ((∀ x5_6 : Int, x5_6 = h_3 (p0 + 3) x3.toNat → (zLoop (fun L q => F_Tape_putSymbol_31 K  L p0 p1 x2 x3 r_2 q.1 q.2.1 q.2.2) (x5_6, 0, h_3)))))) ∧ (r_4 = 0 → (K h_3))))))
set_option maxRecDepth 100000 in
theorem c_Tape_putSymbol {l : Launch} (hfl : l.flags = flags0) {g : zG} {n : Nat} {p0 : Nat} {p1 : Nat} {x2 : Int} {x3 : Int} (op0 : zO n p0 8) (op1 : zO n p1 1) (rx2 : zr x2) (rx3 : zr x3) {h : zH} (hh : zh h) {K : zH → Prop} (hv : M_Tape_putSymbol p0 p1 x2 x3 h K) : zMet l y_Tape_putSymbol b_Tape_putSymbol 7 none rm_Tape_putSymbol g n [.ref (g.2.2 p0), .ref (g.2.2 p1), zi x2, zi x3] h (zPv K) := by
  refine zMet_of (own := "AliasStreams$Tape") hfl (by decide) rfl (Nat.le_of_ble_eq_true rfl) (fun Wf m H0 X E => ?_)
  unfold M_Tape_putSymbol at hv
  show zW Wf m 7 g n H0 0 [(0, .ref (g.2.2 p0)), (1, .ref (g.2.2 p1)), (2, zi x2), (3, zi x3)] [] h
  refine z_aload_n (pc := 0) (q := 1) X d_Tape_putSymbol_0 rfl ?_
  refine z_iload_n (pc := 1) (q := 2) X d_Tape_putSymbol_1 rfl ?_
  refine z_callVNi (pc := 2) (As := [zi x2]) (rest := []) X (fun l hl => c_Model_frequencyOf hl op1 rx2 hh hv) cf_Model op1 rfl mf_Model_frequencyOf q791 ⟨⟨by decide, by decide⟩, rfl, rfl⟩ rfl d_Tape_putSymbol_2 rfl (Nat.le_of_ble_eq_true rfl) (fun r_2 h_1 rr_2 zh_1 hv => ?_)
  refine z_istore (pc := 5) (lv' := [(4, zi r_2), (0, .ref (g.2.2 p0)), (1, .ref (g.2.2 p1)), (2, zi x2), (3, zi x3)]) X d_Tape_putSymbol_5 (by decide) rfl ?_
  refine z_iload (pc := 7) (q := 0) X d_Tape_putSymbol_7 rfl ?_
  refine z_if_le (pc := 9) (tgt := 19) X rr_2 d_Tape_putSymbol_9 (by decide) (fun hc => ?_) (fun hc => ?_)
  · replace hv := hv.1 hc
    exact E.1 rfl _ _ _ d_Tape_putSymbol_19 ⟨rfl, zh_1, hv⟩
  · replace hv := hv.2 hc
    refine z_iload_n (pc := 12) (q := 4) X d_Tape_putSymbol_12 rfl ?_
    refine z_callSNi (pc := 13) (As := [zi x3]) (rest := []) X (fun l hl => c_AS_isHead hl rx3 zh_1 hv) mf_AS_isHead q792 ⟨⟨by decide, by decide⟩, rfl, rfl⟩ rfl d_Tape_putSymbol_13 rfl (Nat.le_of_ble_eq_true rfl) (fun r_4 h_3 rr_4 zh_3 hv => ?_)
    refine z_if_ne (pc := 16) (tgt := 20) X rr_4 d_Tape_putSymbol_16 (by decide) (fun hc => ?_) (fun hc => ?_)
    · replace hv := hv.1 hc
      refine z_aload_n (pc := 20) (q := 1) X d_Tape_putSymbol_20 rfl ?_
      refine z_getr (pc := 21) (j := 2) (dd := 3) X cf_Tape op0 (by decide) q147 rfl rfl d_Tape_putSymbol_21 ?_
      refine z_iload_n (pc := 24) (q := 4) X d_Tape_putSymbol_24 rfl ?_
      obtain ⟨v_5, hv⟩ := hv
      refine z_ialdj (pc := 25) (j := x3.toNat) X (gf_Tape_2 op0) (gl_Tape_2 op0) rx3 v_5 rfl d_Tape_putSymbol_25 ?_
      refine z_topi (fun x5_6 ex5_6 => ?_)
      have rx5_6 : zr x5_6 := by rw [ex5_6]; exact (zh_3.1 _ _ (zO.ne (gf_Tape_2 op0) (by decide)))
      replace hv := hv x5_6 ex5_6
      refine z_istore (pc := 26) (lv' := [(5, zi x5_6), (4, zi r_2), (0, .ref (g.2.2 p0)), (1, .ref (g.2.2 p1)), (2, zi x2), (3, zi x3)]) X d_Tape_putSymbol_26 (by decide) rfl ?_
      refine z_iconst (pc := 28) X d_Tape_putSymbol_28 ?_
      refine z_istore (pc := 29) (lv' := [(6, zi 0), (5, zi x5_6), (4, zi r_2), (0, .ref (g.2.2 p0)), (1, .ref (g.2.2 p1)), (2, zi x2), (3, zi x3)]) X d_Tape_putSymbol_29 (by decide) rfl ?_
      refine z_perm [3, 4, 5, 6, 2, 1, 0] rfl ?_
      exact s_Tape_putSymbol_31 X E  op0 op1 rx2 rx3 rr_2 hv rx5_6 (show zr 0 from by decide) zh_3
    · replace hv := hv.2 hc
      exact E.1 rfl _ _ _ d_Tape_putSymbol_19 ⟨rfl, zh_3, hv⟩
theorem d_Tape_fill_0 : decode b_Tape_fill 0 = .ok (.aload_n 0, 1) := by decide +kernel
theorem d_Tape_fill_1 : decode b_Tape_fill 1 = .ok (.invokevirtual 34, 3) := by decide +kernel
theorem d_Tape_fill_4 : decode b_Tape_fill 4 = .ok (.aload_n 1, 1) := by decide +kernel
theorem d_Tape_fill_5 : decode b_Tape_fill 5 = .ok (.getfield 37, 3) := by decide +kernel
theorem d_Tape_fill_8 : decode b_Tape_fill 8 = .ok (.bipush 40, 2) := by decide +kernel
theorem d_Tape_fill_10 : decode b_Tape_fill 10 = .ok (.invokestatic 42, 3) := by decide +kernel
theorem d_Tape_fill_13 : decode b_Tape_fill 13 = .ok (.iconst 1, 1) := by decide +kernel
theorem d_Tape_fill_14 : decode b_Tape_fill 14 = .ok (.isub, 1) := by decide +kernel
theorem d_Tape_fill_15 : decode b_Tape_fill 15 = .ok (.istore_n 3, 1) := by decide +kernel
theorem d_Tape_fill_16 : decode b_Tape_fill 16 = .ok (.iload_n 3, 1) := by decide +kernel
theorem d_Tape_fill_17 : decode b_Tape_fill 17 = .ok (.ifCond .lt 44, 3) := by decide +kernel
theorem d_Tape_fill_20 : decode b_Tape_fill 20 = .ok (.aload_n 0, 1) := by decide +kernel
theorem d_Tape_fill_21 : decode b_Tape_fill 21 = .ok (.getfield 9, 3) := by decide +kernel
theorem d_Tape_fill_24 : decode b_Tape_fill 24 = .ok (.iload_n 3, 1) := by decide +kernel
theorem d_Tape_fill_25 : decode b_Tape_fill 25 = .ok (.aload_n 1, 1) := by decide +kernel
theorem d_Tape_fill_26 : decode b_Tape_fill 26 = .ok (.getfield 48, 3) := by decide +kernel
theorem d_Tape_fill_29 : decode b_Tape_fill 29 = .ok (.iload_n 3, 1) := by decide +kernel
theorem d_Tape_fill_30 : decode b_Tape_fill 30 = .ok (.iaload, 1) := by decide +kernel
theorem d_Tape_fill_31 : decode b_Tape_fill 31 = .ok (.iastore, 1) := by decide +kernel
theorem d_Tape_fill_32 : decode b_Tape_fill 32 = .ok (.aload_n 0, 1) := by decide +kernel
theorem d_Tape_fill_33 : decode b_Tape_fill 33 = .ok (.aload_n 2, 1) := by decide +kernel
theorem d_Tape_fill_34 : decode b_Tape_fill 34 = .ok (.aload_n 1, 1) := by decide +kernel
theorem d_Tape_fill_35 : decode b_Tape_fill 35 = .ok (.getfield 48, 3) := by decide +kernel
theorem d_Tape_fill_38 : decode b_Tape_fill 38 = .ok (.iload_n 3, 1) := by decide +kernel
theorem d_Tape_fill_39 : decode b_Tape_fill 39 = .ok (.iaload, 1) := by decide +kernel
theorem d_Tape_fill_40 : decode b_Tape_fill 40 = .ok (.invokevirtual 51, 3) := by decide +kernel
theorem d_Tape_fill_43 : decode b_Tape_fill 43 = .ok (.aload_n 1, 1) := by decide +kernel
theorem d_Tape_fill_44 : decode b_Tape_fill 44 = .ok (.getfield 57, 3) := by decide +kernel
theorem d_Tape_fill_47 : decode b_Tape_fill 47 = .ok (.iload_n 3, 1) := by decide +kernel
theorem d_Tape_fill_48 : decode b_Tape_fill 48 = .ok (.iaload, 1) := by decide +kernel
theorem d_Tape_fill_49 : decode b_Tape_fill 49 = .ok (.iload_n 3, 1) := by decide +kernel
theorem d_Tape_fill_50 : decode b_Tape_fill 50 = .ok (.iconst 2, 1) := by decide +kernel
theorem d_Tape_fill_51 : decode b_Tape_fill 51 = .ok (.irem, 1) := by decide +kernel
theorem d_Tape_fill_52 : decode b_Tape_fill 52 = .ok (.invokevirtual 60, 3) := by decide +kernel
theorem d_Tape_fill_55 : decode b_Tape_fill 55 = .ok (.iinc 3 (-1), 3) := by decide +kernel
theorem d_Tape_fill_58 : decode b_Tape_fill 58 = .ok (.goto (-42), 3) := by decide +kernel
theorem d_Tape_fill_61 : decode b_Tape_fill 61 = .ok (.aload_n 0, 1) := by decide +kernel
theorem d_Tape_fill_62 : decode b_Tape_fill 62 = .ok (.aload_n 1, 1) := by decide +kernel
theorem d_Tape_fill_63 : decode b_Tape_fill 63 = .ok (.getfield 37, 3) := by decide +kernel
theorem d_Tape_fill_66 : decode b_Tape_fill 66 = .ok (.putfield 21, 3) := by decide +kernel
theorem d_Tape_fill_69 : decode b_Tape_fill 69 = .ok (.return_, 1) := by decide +kernel
def rm_Tape_fill : Room := { frames := 2, cells := 0, slots := 0, locals := 49 }
theorem mf_Tape_fill : zMV y_Tape_fill b_Tape_fill 4 none 2 := ⟨q782, qs46, q6, q783, by decide +kernel⟩
def F_Tape_fill_16 (K : zH → Prop)  (L16 : Int × zH → Prop) (p0 : Nat) (p1 : Nat) (p2 : Nat) (x3 : Int) (h : zH) : Prop :=
  (x3 < 0 → ((∀ h_1 : zH, h_1 = zs h p0 3 (h p1 2) → (K h_1)))) ∧ (0 ≤ x3 → ((0 ≤ x3 ∧ x3 < 40) ∧ ((0 ≤ x3 ∧ x3 < 40) ∧ (∀ h_4 : zH, h_4 = zs h (p0 + 1) x3.toNat (h (p1 + 2) x3.toNat) → ((0 ≤ x3 ∧ x3 < 40) ∧ (M_Models_of p2 (h_4 (p1 + 2) x3.toNat) h_4 (fun p_7 h_6 => (0 ≤ x3 ∧ x3 < 40) ∧ (0 ≤ x3 ∧ (M_Tape_putSymbol p0 p_7 (h_6 (p1 + 1) x3.toNat) (x3 % 2) h_6 (fun h_10 => zr (x3 + (-1)) ∧ (L16 (x3 + (-1), h_10))))))))))))
set_option maxRecDepth 100000 in
theorem s_Tape_fill_16 {Wf : Heap → List Loc → JFrame → Prop} {m : MethodId} {g : zG} {n : Nat} {H0 : Heap} (X : zX Wf m rm_Tape_fill b_Tape_fill "AliasStreams$Tape" 4 g n H0) {K : zH → Prop} (E : zEx Wf m b_Tape_fill none 4 g n H0 (zPv K))  {p0 : Nat} {p1 : Nat} {p2 : Nat}  (op0 : zO n p0 8) (op1 : zO n p1 6) (op2 : zO n p2 2) {q0 : Int × zH} (hv0 : zLoop (fun L q => F_Tape_fill_16 K  L p0 p1 p2 q.1 q.2) q0) : zr q0.1 → zh (q0.2) → zW Wf m 4 g n H0 16 [(0, .ref (g.2.2 p0)), (1, .ref (g.2.2 p1)), (2, .ref (g.2.2 p2)), (3, zi q0.1)] [] (q0.2) := by
  refine zLoop_use (G := fun q => zr q.1 → zh (q.2) → zW Wf m 4 g n H0 16 [(0, .ref (g.2.2 p0)), (1, .ref (g.2.2 p1)), (2, .ref (g.2.2 p2)), (3, zi q.1)] [] (q.2)) ?_ hv0
  rintro L16 ⟨x3, h⟩ hL16 hv rx3 hh
  have hv : F_Tape_fill_16 K  L16 p0 p1 p2 x3 h := hv
  unfold F_Tape_fill_16 at hv
  show zW Wf m 4 g n H0 16 [(0, .ref (g.2.2 p0)), (1, .ref (g.2.2 p1)), (2, .ref (g.2.2 p2)), (3, zi x3)] [] h
  refine z_iload_n (pc := 16) (q := 3) X d_Tape_fill_16 rfl ?_
  refine z_if_lt (pc := 17) (tgt := 61) X rx3 d_Tape_fill_17 (by decide) (fun hc => ?_) (fun hc => ?_)
  · replace hv := hv.1 hc
    refine z_aload_n (pc := 61) (q := 0) X d_Tape_fill_61 rfl ?_
    refine z_aload_n (pc := 62) (q := 1) X d_Tape_fill_62 rfl ?_
    refine z_getiN (pc := 63) (j := 2) X cf_Symbols op1 (by decide) q239 rfl rfl d_Tape_fill_63 ?_
    refine z_put (pc := 66) (j := 3) X cf_Tape op0 (by decide) q150 rfl rfl rfl rfl d_Tape_fill_66 ?_
    refine z_toph (fun h_1 eh_1 => ?_)
    have zh_1 : zh h_1 := by rw [eh_1]; exact zh_set hh (zO.ne op0 (by decide)) (hh.1 _ _ (zO.ne op1 (by decide)))
    replace hv := hv h_1 eh_1
    exact E.1 rfl _ _ _ d_Tape_fill_69 ⟨rfl, zh_1, hv⟩
  · replace hv := hv.2 hc
    refine z_aload_n (pc := 20) (q := 0) X d_Tape_fill_20 rfl ?_
    refine z_getr (pc := 21) (j := 0) (dd := 1) X cf_Tape op0 (by decide) q139 rfl rfl d_Tape_fill_21 ?_
    refine z_iload_n (pc := 24) (q := 3) X d_Tape_fill_24 rfl ?_
    refine z_aload_n (pc := 25) (q := 1) X d_Tape_fill_25 rfl ?_
    refine z_getrN (pc := 26) (j := 1) (dd := 2) X cf_Symbols op1 (by decide) q237 rfl rfl d_Tape_fill_26 ?_
    refine z_iload_n (pc := 29) (q := 3) X d_Tape_fill_29 rfl ?_
    obtain ⟨v_2, hv⟩ := hv
    refine z_ialdj (pc := 30) (j := x3.toNat) X (gf_Symbols_1 op1) (gl_Symbols_1 op1) rx3 v_2 rfl d_Tape_fill_30 ?_
    obtain ⟨v_3, hv⟩ := hv
    refine z_iastj (pc := 31) (j := x3.toNat) X (gf_Tape_0 op0) (gl_Tape_0 op0) rx3 v_3 rfl d_Tape_fill_31 ?_
    refine z_toph (fun h_4 eh_4 => ?_)
    have zh_4 : zh h_4 := by rw [eh_4]; exact zh_set hh (zO.ne (gf_Tape_0 op0) (by decide)) (hh.1 _ _ (zO.ne (gf_Symbols_1 op1) (by decide)))
    replace hv := hv h_4 eh_4
    refine z_aload_n (pc := 32) (q := 0) X d_Tape_fill_32 rfl ?_
    refine z_aload_n (pc := 33) (q := 2) X d_Tape_fill_33 rfl ?_
    refine z_aload_n (pc := 34) (q := 1) X d_Tape_fill_34 rfl ?_
    refine z_getrN (pc := 35) (j := 1) (dd := 2) X cf_Symbols op1 (by decide) q237 rfl rfl d_Tape_fill_35 ?_
    refine z_iload_n (pc := 38) (q := 3) X d_Tape_fill_38 rfl ?_
    obtain ⟨v_5, hv⟩ := hv
    refine z_ialdj (pc := 39) (j := x3.toNat) X (gf_Symbols_1 op1) (gl_Symbols_1 op1) rx3 v_5 rfl d_Tape_fill_39 ?_
    refine z_callVNr (pc := 40) (As := [zi (h_4 (p1 + 2) x3.toNat)]) (rest := [.ref (g.2.2 p0)]) X (fun l hl => c_Models_of hl op2 (zh_4.1 _ _ (zO.ne (gf_Symbols_1 op1) (by decide))) zh_4 hv) cf_Models op2 rfl mf_Models_of q786 ⟨⟨by decide, by decide⟩, rfl, rfl⟩ rfl d_Tape_fill_40 rfl (Nat.le_of_ble_eq_true rfl) (fun p_7 h_6 op_7 zh_6 hv => ?_)
    refine z_aload_n (pc := 43) (q := 1) X d_Tape_fill_43 rfl ?_
    refine z_getrN (pc := 44) (j := 0) (dd := 1) X cf_Symbols op1 (by decide) q234 rfl rfl d_Tape_fill_44 ?_
    refine z_iload_n (pc := 47) (q := 3) X d_Tape_fill_47 rfl ?_
    obtain ⟨v_8, hv⟩ := hv
    refine z_ialdj (pc := 48) (j := x3.toNat) X (gf_Symbols_0 op1) (gl_Symbols_0 op1) rx3 v_8 rfl d_Tape_fill_48 ?_
    refine z_iload_n (pc := 49) (q := 3) X d_Tape_fill_49 rfl ?_
    refine z_iconst (pc := 50) X d_Tape_fill_50 ?_
    obtain ⟨v_9, hv⟩ := hv
    refine z_irem (pc := 51) X rx3 (show zr 2 from by decide) v_9 (by decide) d_Tape_fill_51 ?_
    refine z_callVv (pc := 52) (As := [.ref (g.2.2 p_7), zi (h_6 (p1 + 1) x3.toNat), zi (x3 % 2)]) (rest := []) X (fun l hl => c_Tape_putSymbol hl op0 op_7 (zh_6.1 _ _ (zO.ne (gf_Symbols_0 op1) (by decide))) (zr_rem (show zr 2 from by decide) (by decide)) zh_6 hv) cf_Tape op0 rfl mf_Tape_putSymbol q787 ⟨⟨by decide, by decide⟩, rfl, rfl⟩ rfl d_Tape_fill_52 rfl (Nat.le_of_ble_eq_true rfl) (fun h_10 zh_10 hv => ?_)
    obtain ⟨v_12, hv⟩ := hv
    refine z_iinc (pc := 55) (q := 3) (lv' := [(3, zi (x3 + (-1))), (0, .ref (g.2.2 p0)), (1, .ref (g.2.2 p1)), (2, .ref (g.2.2 p2))]) X d_Tape_fill_55 rfl (by decide) rfl ?_
    refine z_goto (pc := 58) (tgt := 16) X d_Tape_fill_58 (by decide) ?_
    refine z_perm [1, 2, 3, 0] rfl ?_
    exact hL16 _ hv v_12 zh_10
def M_Tape_fill (p0 : Nat) (p1 : Nat) (p2 : Nat) (h : zH) (K : zH → Prop) : Prop :=
  M_Tape_becomeEmpty p0 h (fun h_1 => zr ((if 40 < h_1 p1 2 then 40 else h_1 p1 2) - 1) ∧ ((∀ x3_4 : Int, x3_4 = (if 40 < h_1 p1 2 then 40 else h_1 p1 2) - 1 → (zLoop (fun L q => F_Tape_fill_16 K  L p0 p1 p2 q.1 q.2) (x3_4, h_1)))))
set_option maxRecDepth 100000 in
theorem c_Tape_fill {l : Launch} (hfl : l.flags = flags0) {g : zG} {n : Nat} {p0 : Nat} {p1 : Nat} {p2 : Nat} (op0 : zO n p0 8) (op1 : zO n p1 6) (op2 : zO n p2 2) {h : zH} (hh : zh h) {K : zH → Prop} (hv : M_Tape_fill p0 p1 p2 h K) : zMet l y_Tape_fill b_Tape_fill 4 none rm_Tape_fill g n [.ref (g.2.2 p0), .ref (g.2.2 p1), .ref (g.2.2 p2)] h (zPv K) := by
  refine zMet_of (own := "AliasStreams$Tape") hfl (by decide) rfl (Nat.le_of_ble_eq_true rfl) (fun Wf m H0 X E => ?_)
  unfold M_Tape_fill at hv
  show zW Wf m 4 g n H0 0 [(0, .ref (g.2.2 p0)), (1, .ref (g.2.2 p1)), (2, .ref (g.2.2 p2))] [] h
  refine z_aload_n (pc := 0) (q := 0) X d_Tape_fill_0 rfl ?_
  refine z_callVv (pc := 1) (As := []) (rest := []) X (fun l hl => c_Tape_becomeEmpty hl op0 hh hv) cf_Tape op0 rfl mf_Tape_becomeEmpty q784 ⟨⟨by decide, by decide⟩, rfl, rfl⟩ rfl d_Tape_fill_1 rfl (Nat.le_of_ble_eq_true rfl) (fun h_1 zh_1 hv => ?_)
  refine z_aload_n (pc := 4) (q := 1) X d_Tape_fill_4 rfl ?_
  refine z_getiN (pc := 5) (j := 2) X cf_Symbols op1 (by decide) q239 rfl rfl d_Tape_fill_5 ?_
  refine z_bipush (pc := 8) X d_Tape_fill_8 (by decide) ?_
  refine z_mmin (pc := 10) X (zh_1.1 _ _ (zO.ne op1 (by decide))) (show zr 40 from by decide) q785 q733 q12 q734 ⟨by decide, Nat.le_of_ble_eq_true rfl⟩ d_Tape_fill_10 ?_
  refine z_iconst (pc := 13) X d_Tape_fill_13 ?_
  obtain ⟨v_3, hv⟩ := hv
  refine z_isub (pc := 14) X d_Tape_fill_14 ?_
  refine z_topi (fun x3_4 ex3_4 => ?_)
  have rx3_4 : zr x3_4 := by rw [ex3_4]; exact v_3
  replace hv := hv x3_4 ex3_4
  refine z_istore_n (pc := 15) (lv' := [(3, zi x3_4), (0, .ref (g.2.2 p0)), (1, .ref (g.2.2 p1)), (2, .ref (g.2.2 p2))]) X d_Tape_fill_15 (by decide) rfl ?_
  refine z_perm [1, 2, 3, 0] rfl ?_
  exact s_Tape_fill_16 X E  op0 op1 op2 hv rx3_4 zh_1
theorem d_Tape_itemsNeeded_0 : decode b_Tape_itemsNeeded 0 = .ok (.iconst 0, 1) := by decide +kernel
theorem d_Tape_itemsNeeded_1 : decode b_Tape_itemsNeeded 1 = .ok (.istore_n 1, 1) := by decide +kernel
theorem d_Tape_itemsNeeded_2 : decode b_Tape_itemsNeeded 2 = .ok (.iconst 0, 1) := by decide +kernel
theorem d_Tape_itemsNeeded_3 : decode b_Tape_itemsNeeded 3 = .ok (.istore_n 2, 1) := by decide +kernel
theorem d_Tape_itemsNeeded_4 : decode b_Tape_itemsNeeded 4 = .ok (.iconst 0, 1) := by decide +kernel
theorem d_Tape_itemsNeeded_5 : decode b_Tape_itemsNeeded 5 = .ok (.istore_n 3, 1) := by decide +kernel
theorem d_Tape_itemsNeeded_6 : decode b_Tape_itemsNeeded 6 = .ok (.iload_n 3, 1) := by decide +kernel
theorem d_Tape_itemsNeeded_7 : decode b_Tape_itemsNeeded 7 = .ok (.aload_n 0, 1) := by decide +kernel
theorem d_Tape_itemsNeeded_8 : decode b_Tape_itemsNeeded 8 = .ok (.getfield 21, 3) := by decide +kernel
theorem d_Tape_itemsNeeded_11 : decode b_Tape_itemsNeeded 11 = .ok (.if_icmp .ge 40, 3) := by decide +kernel
theorem d_Tape_itemsNeeded_14 : decode b_Tape_itemsNeeded 14 = .ok (.iload_n 3, 1) := by decide +kernel
theorem d_Tape_itemsNeeded_15 : decode b_Tape_itemsNeeded 15 = .ok (.bipush 40, 2) := by decide +kernel
theorem d_Tape_itemsNeeded_17 : decode b_Tape_itemsNeeded 17 = .ok (.if_icmp .ge 34, 3) := by decide +kernel
theorem d_Tape_itemsNeeded_20 : decode b_Tape_itemsNeeded 20 = .ok (.iload_n 1, 1) := by decide +kernel
theorem d_Tape_itemsNeeded_21 : decode b_Tape_itemsNeeded 21 = .ok (.aload_n 0, 1) := by decide +kernel
theorem d_Tape_itemsNeeded_22 : decode b_Tape_itemsNeeded 22 = .ok (.getfield 9, 3) := by decide +kernel
theorem d_Tape_itemsNeeded_25 : decode b_Tape_itemsNeeded 25 = .ok (.iload_n 3, 1) := by decide +kernel
theorem d_Tape_itemsNeeded_26 : decode b_Tape_itemsNeeded 26 = .ok (.iaload, 1) := by decide +kernel
theorem d_Tape_itemsNeeded_27 : decode b_Tape_itemsNeeded 27 = .ok (.iload_n 2, 1) := by decide +kernel
theorem d_Tape_itemsNeeded_28 : decode b_Tape_itemsNeeded 28 = .ok (.if_icmp .ne 7, 3) := by decide +kernel
theorem d_Tape_itemsNeeded_31 : decode b_Tape_itemsNeeded 31 = .ok (.iconst 1, 1) := by decide +kernel
theorem d_Tape_itemsNeeded_32 : decode b_Tape_itemsNeeded 32 = .ok (.goto 4, 3) := by decide +kernel
theorem d_Tape_itemsNeeded_35 : decode b_Tape_itemsNeeded 35 = .ok (.iconst 2, 1) := by decide +kernel
theorem d_Tape_itemsNeeded_36 : decode b_Tape_itemsNeeded 36 = .ok (.iadd, 1) := by decide +kernel
theorem d_Tape_itemsNeeded_37 : decode b_Tape_itemsNeeded 37 = .ok (.istore_n 1, 1) := by decide +kernel
theorem d_Tape_itemsNeeded_38 : decode b_Tape_itemsNeeded 38 = .ok (.aload_n 0, 1) := by decide +kernel
theorem d_Tape_itemsNeeded_39 : decode b_Tape_itemsNeeded 39 = .ok (.getfield 9, 3) := by decide +kernel
theorem d_Tape_itemsNeeded_42 : decode b_Tape_itemsNeeded 42 = .ok (.iload_n 3, 1) := by decide +kernel
theorem d_Tape_itemsNeeded_43 : decode b_Tape_itemsNeeded 43 = .ok (.iaload, 1) := by decide +kernel
theorem d_Tape_itemsNeeded_44 : decode b_Tape_itemsNeeded 44 = .ok (.istore_n 2, 1) := by decide +kernel
theorem d_Tape_itemsNeeded_45 : decode b_Tape_itemsNeeded 45 = .ok (.iinc 3 1, 3) := by decide +kernel
theorem d_Tape_itemsNeeded_48 : decode b_Tape_itemsNeeded 48 = .ok (.goto (-42), 3) := by decide +kernel
theorem d_Tape_itemsNeeded_51 : decode b_Tape_itemsNeeded 51 = .ok (.iload_n 1, 1) := by decide +kernel
theorem d_Tape_itemsNeeded_52 : decode b_Tape_itemsNeeded 52 = .ok (.ireturn, 1) := by decide +kernel
def rm_Tape_itemsNeeded : Room := { frames := 0, cells := 0, slots := 0, locals := 0 }
theorem mf_Tape_itemsNeeded : zMV y_Tape_itemsNeeded b_Tape_itemsNeeded 4 (some .int) 0 := ⟨q810, qs50, q6, q811, by decide +kernel⟩
def B_Tape_itemsNeeded_36 (K : Int → zH → Prop) (L6 : Int × Int × Int × zH → Prop) (p0 : Nat) (x3 : Int) (u0 : Int) (u1 : Int) (h : zH) : Prop :=
  zr (u0 + u1) ∧ ((∀ x1_2 : Int, x1_2 = u0 + u1 → ((0 ≤ x3 ∧ x3 < 40) ∧ ((∀ x2_4 : Int, x2_4 = h (p0 + 1) x3.toNat → (zr (x3 + 1) ∧ (L6 (x1_2, x2_4, x3 + 1, h))))))))
set_option maxRecDepth 100000 in
theorem s_Tape_itemsNeeded_36 {Wf : Heap → List Loc → JFrame → Prop} {m : MethodId} {g : zG} {n : Nat} {H0 : Heap} (X : zX Wf m rm_Tape_itemsNeeded b_Tape_itemsNeeded "AliasStreams$Tape" 4 g n H0) {K : Int → zH → Prop} (E : zEx Wf m b_Tape_itemsNeeded (some .int) 4 g n H0 (zPi K)) {L6 : Int × Int × Int × zH → Prop} {p0 : Nat} {x3 : Int} (hL6 : ∀ q : Int × Int × Int × zH, L6 q → zr q.1 → zr q.2.1 → zr q.2.2.1 → zh (q.2.2.2) → zW Wf m 4 g n H0 6 [(0, .ref (g.2.2 p0)), (1, zi q.1), (2, zi q.2.1), (3, zi q.2.2.1)] [] (q.2.2.2)) (op0 : zO n p0 8) (rx3 : zr x3) {u0 : Int} {u1 : Int} (ru0 : zr u0) (ru1 : zr u1) {h : zH} (hh : zh h) (hv : B_Tape_itemsNeeded_36 K L6 p0 x3 u0 u1 h) : zW Wf m 4 g n H0 36 [(0, .ref (g.2.2 p0)), (3, zi x3)] [zi u1, zi u0] h := by
  unfold B_Tape_itemsNeeded_36 at hv
  obtain ⟨v_1, hv⟩ := hv
  refine z_iadd (pc := 36) X d_Tape_itemsNeeded_36 ?_
  refine z_topi (fun x1_2 ex1_2 => ?_)
  have rx1_2 : zr x1_2 := by rw [ex1_2]; exact v_1
  replace hv := hv x1_2 ex1_2
  refine z_istore_n (pc := 37) (lv' := [(1, zi x1_2), (0, .ref (g.2.2 p0)), (3, zi x3)]) X d_Tape_itemsNeeded_37 (by decide) rfl ?_
  refine z_aload_n (pc := 38) (q := 1) X d_Tape_itemsNeeded_38 rfl ?_
  refine z_getr (pc := 39) (j := 0) (dd := 1) X cf_Tape op0 (by decide) q139 rfl rfl d_Tape_itemsNeeded_39 ?_
  refine z_iload_n (pc := 42) (q := 2) X d_Tape_itemsNeeded_42 rfl ?_
  obtain ⟨v_3, hv⟩ := hv
  refine z_ialdj (pc := 43) (j := x3.toNat) X (gf_Tape_0 op0) (gl_Tape_0 op0) rx3 v_3 rfl d_Tape_itemsNeeded_43 ?_
  refine z_topi (fun x2_4 ex2_4 => ?_)
  have rx2_4 : zr x2_4 := by rw [ex2_4]; exact (hh.1 _ _ (zO.ne (gf_Tape_0 op0) (by decide)))
  replace hv := hv x2_4 ex2_4
  refine z_istore_n (pc := 44) (lv' := [(2, zi x2_4), (1, zi x1_2), (0, .ref (g.2.2 p0)), (3, zi x3)]) X d_Tape_itemsNeeded_44 (by decide) rfl ?_
  obtain ⟨v_5, hv⟩ := hv
  refine z_iinc (pc := 45) (q := 3) (lv' := [(3, zi (x3 + 1)), (2, zi x2_4), (1, zi x1_2), (0, .ref (g.2.2 p0))]) X d_Tape_itemsNeeded_45 rfl (by decide) rfl ?_
  refine z_goto (pc := 48) (tgt := 6) X d_Tape_itemsNeeded_48 (by decide) ?_
  refine z_perm [3, 2, 1, 0] rfl ?_
  exact hL6 _ hv rx1_2 rx2_4 v_5 hh
def F_Tape_itemsNeeded_6 (K : Int → zH → Prop)  (L6 : Int × Int × Int × zH → Prop) (p0 : Nat) (x1 : Int) (x2 : Int) (x3 : Int) (h : zH) : Prop :=
  (h p0 3 ≤ x3 → (K x1 h)) ∧ (x3 < h p0 3 → ((40 ≤ x3 → (K x1 h)) ∧ (x3 < 40 → ((0 ≤ x3 ∧ x3 < 40) ∧ ((h (p0 + 1) x3.toNat ≠ x2 → (B_Tape_itemsNeeded_36 K L6 p0 x3 x1 2 h)) ∧ (h (p0 + 1) x3.toNat = x2 → (B_Tape_itemsNeeded_36 K L6 p0 x3 x1 1 h)))))))
set_option maxRecDepth 100000 in
theorem s_Tape_itemsNeeded_6 {Wf : Heap → List Loc → JFrame → Prop} {m : MethodId} {g : zG} {n : Nat} {H0 : Heap} (X : zX Wf m rm_Tape_itemsNeeded b_Tape_itemsNeeded "AliasStreams$Tape" 4 g n H0) {K : Int → zH → Prop} (E : zEx Wf m b_Tape_itemsNeeded (some .int) 4 g n H0 (zPi K))  {p0 : Nat}  (op0 : zO n p0 8) {q0 : Int × Int × Int × zH} (hv0 : zLoop (fun L q => F_Tape_itemsNeeded_6 K  L p0 q.1 q.2.1 q.2.2.1 q.2.2.2) q0) : zr q0.1 → zr q0.2.1 → zr q0.2.2.1 → zh (q0.2.2.2) → zW Wf m 4 g n H0 6 [(0, .ref (g.2.2 p0)), (1, zi q0.1), (2, zi q0.2.1), (3, zi q0.2.2.1)] [] (q0.2.2.2) := by
  refine zLoop_use (G := fun q => zr q.1 → zr q.2.1 → zr q.2.2.1 → zh (q.2.2.2) → zW Wf m 4 g n H0 6 [(0, .ref (g.2.2 p0)), (1, zi q.1), (2, zi q.2.1), (3, zi q.2.2.1)] [] (q.2.2.2)) ?_ hv0
  rintro L6 ⟨x1, x2, x3, h⟩ hL6 hv rx1 rx2 rx3 hh
  have hv : F_Tape_itemsNeeded_6 K  L6 p0 x1 x2 x3 h := hv
  unfold F_Tape_itemsNeeded_6 at hv
  show zW Wf m 4 g n H0 6 [(0, .ref (g.2.2 p0)), (1, zi x1), (2, zi x2), (3, zi x3)] [] h
  refine z_iload_n (pc := 6) (q := 3) X d_Tape_itemsNeeded_6 rfl ?_
  refine z_aload_n (pc := 7) (q := 0) X d_Tape_itemsNeeded_7 rfl ?_
  refine z_geti (pc := 8) (j := 3) X cf_Tape op0 (by decide) q150 rfl rfl d_Tape_itemsNeeded_8 ?_
  refine z_icmp_ge (pc := 11) (tgt := 51) X rx3 (hh.1 _ _ (zO.ne op0 (by decide))) d_Tape_itemsNeeded_11 (by decide) (fun hc => ?_) (fun hc => ?_)
  · replace hv := hv.1 hc
    refine z_iload_n (pc := 51) (q := 1) X d_Tape_itemsNeeded_51 rfl ?_
    exact E.2.1 rfl _ _ _ _ d_Tape_itemsNeeded_52 ⟨_, rfl, rx1, hh, hv⟩
  · replace hv := hv.2 hc
    refine z_iload_n (pc := 14) (q := 3) X d_Tape_itemsNeeded_14 rfl ?_
    refine z_bipush (pc := 15) X d_Tape_itemsNeeded_15 (by decide) ?_
    refine z_icmp_ge (pc := 17) (tgt := 51) X rx3 (show zr 40 from by decide) d_Tape_itemsNeeded_17 (by decide) (fun hc => ?_) (fun hc => ?_)
    · replace hv := hv.1 hc
      refine z_iload_n (pc := 51) (q := 1) X d_Tape_itemsNeeded_51 rfl ?_
      exact E.2.1 rfl _ _ _ _ d_Tape_itemsNeeded_52 ⟨_, rfl, rx1, hh, hv⟩
    · replace hv := hv.2 hc
      refine z_iload_n (pc := 20) (q := 1) X d_Tape_itemsNeeded_20 rfl ?_
      refine z_aload_n (pc := 21) (q := 0) X d_Tape_itemsNeeded_21 rfl ?_
      refine z_getr (pc := 22) (j := 0) (dd := 1) X cf_Tape op0 (by decide) q139 rfl rfl d_Tape_itemsNeeded_22 ?_
      refine z_iload_n (pc := 25) (q := 3) X d_Tape_itemsNeeded_25 rfl ?_
      obtain ⟨v_1, hv⟩ := hv
      refine z_ialdj (pc := 26) (j := x3.toNat) X (gf_Tape_0 op0) (gl_Tape_0 op0) rx3 v_1 rfl d_Tape_itemsNeeded_26 ?_
      refine z_iload_n (pc := 27) (q := 2) X d_Tape_itemsNeeded_27 rfl ?_
      refine z_icmp_ne (pc := 28) (tgt := 35) X (hh.1 _ _ (zO.ne (gf_Tape_0 op0) (by decide))) rx2 d_Tape_itemsNeeded_28 (by decide) (fun hc => ?_) (fun hc => ?_)
      · replace hv := hv.1 hc
        refine z_iconst (pc := 35) X d_Tape_itemsNeeded_35 ?_
        refine z_perm [0, 3] rfl ?_
        exact s_Tape_itemsNeeded_36 X E hL6 op0 rx3 rx1 (show zr 2 from by decide) hh hv
      · replace hv := hv.2 hc
        refine z_iconst (pc := 31) X d_Tape_itemsNeeded_31 ?_
        refine z_goto (pc := 32) (tgt := 36) X d_Tape_itemsNeeded_32 (by decide) ?_
        refine z_perm [0, 3] rfl ?_
        exact s_Tape_itemsNeeded_36 X E hL6 op0 rx3 rx1 (show zr 1 from by decide) hh hv
def M_Tape_itemsNeeded (p0 : Nat) (h : zH) (K : Int → zH → Prop) : Prop :=
  zLoop (fun L q => F_Tape_itemsNeeded_6 K  L p0 q.1 q.2.1 q.2.2.1 q.2.2.2) (0, 0, 0, h)
set_option maxRecDepth 100000 in
theorem c_Tape_itemsNeeded {l : Launch} (hfl : l.flags = flags0) {g : zG} {n : Nat} {p0 : Nat} (op0 : zO n p0 8) {h : zH} (hh : zh h) {K : Int → zH → Prop} (hv : M_Tape_itemsNeeded p0 h K) : zMet l y_Tape_itemsNeeded b_Tape_itemsNeeded 4 (some .int) rm_Tape_itemsNeeded g n [.ref (g.2.2 p0)] h (zPi K) := by
  refine zMet_of (own := "AliasStreams$Tape") hfl (by decide) rfl (Nat.le_of_ble_eq_true rfl) (fun Wf m H0 X E => ?_)
  unfold M_Tape_itemsNeeded at hv
  show zW Wf m 4 g n H0 0 [(0, .ref (g.2.2 p0))] [] h
  refine z_iconst (pc := 0) X d_Tape_itemsNeeded_0 ?_
  refine z_istore_n (pc := 1) (lv' := [(1, zi 0), (0, .ref (g.2.2 p0))]) X d_Tape_itemsNeeded_1 (by decide) rfl ?_
  refine z_iconst (pc := 2) X d_Tape_itemsNeeded_2 ?_
  refine z_istore_n (pc := 3) (lv' := [(2, zi 0), (1, zi 0), (0, .ref (g.2.2 p0))]) X d_Tape_itemsNeeded_3 (by decide) rfl ?_
  refine z_iconst (pc := 4) X d_Tape_itemsNeeded_4 ?_
  refine z_istore_n (pc := 5) (lv' := [(3, zi 0), (2, zi 0), (1, zi 0), (0, .ref (g.2.2 p0))]) X d_Tape_itemsNeeded_5 (by decide) rfl ?_
  refine z_perm [3, 2, 1, 0] rfl ?_
  exact s_Tape_itemsNeeded_6 X E  op0 hv (show zr 0 from by decide) (show zr 0 from by decide) (show zr 0 from by decide) hh
theorem d_Tape_disturb_0 : decode b_Tape_disturb 0 = .ok (.aload_n 0, 1) := by decide +kernel
theorem d_Tape_disturb_1 : decode b_Tape_disturb 1 = .ok (.getfield 25, 3) := by decide +kernel
theorem d_Tape_disturb_4 : decode b_Tape_disturb 4 = .ok (.ifCond .le 34, 3) := by decide +kernel
theorem d_Tape_disturb_7 : decode b_Tape_disturb 7 = .ok (.iload_n 1, 1) := by decide +kernel
theorem d_Tape_disturb_8 : decode b_Tape_disturb 8 = .ok (.bipush 16, 2) := by decide +kernel
theorem d_Tape_disturb_10 : decode b_Tape_disturb 10 = .ok (.idiv, 1) := by decide +kernel
theorem d_Tape_disturb_11 : decode b_Tape_disturb 11 = .ok (.aload_n 0, 1) := by decide +kernel
theorem d_Tape_disturb_12 : decode b_Tape_disturb 12 = .ok (.getfield 25, 3) := by decide +kernel
theorem d_Tape_disturb_15 : decode b_Tape_disturb 15 = .ok (.irem, 1) := by decide +kernel
theorem d_Tape_disturb_16 : decode b_Tape_disturb 16 = .ok (.istore_n 2, 1) := by decide +kernel
theorem d_Tape_disturb_17 : decode b_Tape_disturb 17 = .ok (.aload_n 0, 1) := by decide +kernel
theorem d_Tape_disturb_18 : decode b_Tape_disturb 18 = .ok (.iload_n 2, 1) := by decide +kernel
theorem d_Tape_disturb_19 : decode b_Tape_disturb 19 = .ok (.invokevirtual 81, 3) := by decide +kernel
theorem d_Tape_disturb_22 : decode b_Tape_disturb 22 = .ok (.ifCond .eq 13, 3) := by decide +kernel
theorem d_Tape_disturb_25 : decode b_Tape_disturb 25 = .ok (.aload_n 0, 1) := by decide +kernel
theorem d_Tape_disturb_26 : decode b_Tape_disturb 26 = .ok (.getfield 15, 3) := by decide +kernel
theorem d_Tape_disturb_29 : decode b_Tape_disturb 29 = .ok (.iload_n 2, 1) := by decide +kernel
theorem d_Tape_disturb_30 : decode b_Tape_disturb 30 = .ok (.iload_n 1, 1) := by decide +kernel
theorem d_Tape_disturb_31 : decode b_Tape_disturb 31 = .ok (.bipush 16, 2) := by decide +kernel
theorem d_Tape_disturb_33 : decode b_Tape_disturb 33 = .ok (.irem, 1) := by decide +kernel
theorem d_Tape_disturb_34 : decode b_Tape_disturb 34 = .ok (.iastore, 1) := by decide +kernel
theorem d_Tape_disturb_35 : decode b_Tape_disturb 35 = .ok (.goto 31, 3) := by decide +kernel
theorem d_Tape_disturb_38 : decode b_Tape_disturb 38 = .ok (.iload_n 1, 1) := by decide +kernel
theorem d_Tape_disturb_39 : decode b_Tape_disturb 39 = .ok (.iconst 2, 1) := by decide +kernel
theorem d_Tape_disturb_40 : decode b_Tape_disturb 40 = .ok (.irem, 1) := by decide +kernel
theorem d_Tape_disturb_41 : decode b_Tape_disturb 41 = .ok (.invokestatic 70, 3) := by decide +kernel
theorem d_Tape_disturb_44 : decode b_Tape_disturb 44 = .ok (.ifCond .eq 22, 3) := by decide +kernel
theorem d_Tape_disturb_47 : decode b_Tape_disturb 47 = .ok (.aload_n 0, 1) := by decide +kernel
theorem d_Tape_disturb_48 : decode b_Tape_disturb 48 = .ok (.getfield 18, 3) := by decide +kernel
theorem d_Tape_disturb_51 : decode b_Tape_disturb 51 = .ok (.iload_n 1, 1) := by decide +kernel
theorem d_Tape_disturb_52 : decode b_Tape_disturb 52 = .ok (.iconst 2, 1) := by decide +kernel
theorem d_Tape_disturb_53 : decode b_Tape_disturb 53 = .ok (.irem, 1) := by decide +kernel
theorem d_Tape_disturb_54 : decode b_Tape_disturb 54 = .ok (.sipush 512, 3) := by decide +kernel
theorem d_Tape_disturb_57 : decode b_Tape_disturb 57 = .ok (.iload_n 1, 1) := by decide +kernel
theorem d_Tape_disturb_58 : decode b_Tape_disturb 58 = .ok (.iconst 2, 1) := by decide +kernel
theorem d_Tape_disturb_59 : decode b_Tape_disturb 59 = .ok (.idiv, 1) := by decide +kernel
theorem d_Tape_disturb_60 : decode b_Tape_disturb 60 = .ok (.sipush 7680, 3) := by decide +kernel
theorem d_Tape_disturb_63 : decode b_Tape_disturb 63 = .ok (.irem, 1) := by decide +kernel
theorem d_Tape_disturb_64 : decode b_Tape_disturb 64 = .ok (.iadd, 1) := by decide +kernel
theorem d_Tape_disturb_65 : decode b_Tape_disturb 65 = .ok (.iastore, 1) := by decide +kernel
theorem d_Tape_disturb_66 : decode b_Tape_disturb 66 = .ok (.return_, 1) := by decide +kernel
def rm_Tape_disturb : Room := { frames := 1, cells := 0, slots := 0, locals := 21 }
theorem mf_Tape_disturb : zMV y_Tape_disturb b_Tape_disturb 3 none 1 := ⟨q992, qs65, q6, q993, by decide +kernel⟩
def M_Tape_disturb (p0 : Nat) (x1 : Int) (h : zH) (K : zH → Prop) : Prop :=
  (h p0 4 ≤ 0 → (0 ≤ x1 ∧ (M_AS_isHead (x1 % 2) h (fun r_3 h_2 => (r_3 = 0 → (K h_2)) ∧ (r_3 ≠ 0 → (0 ≤ x1 ∧ (0 ≤ x1 ∧ (0 ≤ x1 / 2 ∧ (zr (512 + ((x1 / 2) % 7680)) ∧ ((0 ≤ x1 % 2 ∧ x1 % 2 < 2) ∧ (∀ h_9 : zH, h_9 = zs h_2 (p0 + 3) ((x1 % 2).toNat) (512 + ((x1 / 2) % 7680)) → (K h_9)))))))))))) ∧ (0 < h p0 4 → (0 ≤ x1 ∧ ((0 ≤ x1 / 16 ∧ 0 < h p0 4) ∧ ((∀ x2_12 : Int, x2_12 = (x1 / 16) % (h p0 4) → (M_Tape_hasDigit p0 x2_12 h (fun r_14 h_13 => (r_14 = 0 → (K h_13)) ∧ (r_14 ≠ 0 → (0 ≤ x1 ∧ ((0 ≤ x2_12 ∧ x2_12 < 80) ∧ (∀ h_17 : zH, h_17 = zs h_13 (p0 + 2) x2_12.toNat (x1 % 16) → (K h_17))))))))))))
set_option maxRecDepth 100000 in
theorem c_Tape_disturb {l : Launch} (hfl : l.flags = flags0) {g : zG} {n : Nat} {p0 : Nat} {x1 : Int} (op0 : zO n p0 8) (rx1 : zr x1) {h : zH} (hh : zh h) {K : zH → Prop} (hv : M_Tape_disturb p0 x1 h K) : zMet l y_Tape_disturb b_Tape_disturb 3 none rm_Tape_disturb g n [.ref (g.2.2 p0), zi x1] h (zPv K) := by
  refine zMet_of (own := "AliasStreams$Tape") hfl (by decide) rfl (Nat.le_of_ble_eq_true rfl) (fun Wf m H0 X E => ?_)
  unfold M_Tape_disturb at hv
  show zW Wf m 3 g n H0 0 [(0, .ref (g.2.2 p0)), (1, zi x1)] [] h
  refine z_aload_n (pc := 0) (q := 0) X d_Tape_disturb_0 rfl ?_
  refine z_geti (pc := 1) (j := 4) X cf_Tape op0 (by decide) q155 rfl rfl d_Tape_disturb_1 ?_
  refine z_if_le (pc := 4) (tgt := 38) X (hh.1 _ _ (zO.ne op0 (by decide))) d_Tape_disturb_4 (by decide) (fun hc => ?_) (fun hc => ?_)
  · replace hv := hv.1 hc
    refine z_iload_n (pc := 38) (q := 1) X d_Tape_disturb_38 rfl ?_
    refine z_iconst (pc := 39) X d_Tape_disturb_39 ?_
    obtain ⟨v_1, hv⟩ := hv
    refine z_irem (pc := 40) X rx1 (show zr 2 from by decide) v_1 (by decide) d_Tape_disturb_40 ?_
    refine z_callSNi (pc := 41) (As := [zi (x1 % 2)]) (rest := []) X (fun l hl => c_AS_isHead hl (zr_rem (show zr 2 from by decide) (by decide)) hh hv) mf_AS_isHead q792 ⟨⟨by decide, by decide⟩, rfl, rfl⟩ rfl d_Tape_disturb_41 rfl (Nat.le_of_ble_eq_true rfl) (fun r_3 h_2 rr_3 zh_2 hv => ?_)
    refine z_if_eq (pc := 44) (tgt := 66) X rr_3 d_Tape_disturb_44 (by decide) (fun hc => ?_) (fun hc => ?_)
    · replace hv := hv.1 hc
      exact E.1 rfl _ _ _ d_Tape_disturb_66 ⟨rfl, zh_2, hv⟩
    · replace hv := hv.2 hc
      refine z_aload_n (pc := 47) (q := 0) X d_Tape_disturb_47 rfl ?_
      refine z_getr (pc := 48) (j := 2) (dd := 3) X cf_Tape op0 (by decide) q147 rfl rfl d_Tape_disturb_48 ?_
      refine z_iload_n (pc := 51) (q := 1) X d_Tape_disturb_51 rfl ?_
      refine z_iconst (pc := 52) X d_Tape_disturb_52 ?_
      obtain ⟨v_4, hv⟩ := hv
      refine z_irem (pc := 53) X rx1 (show zr 2 from by decide) v_4 (by decide) d_Tape_disturb_53 ?_
      refine z_sipush (pc := 54) X d_Tape_disturb_54 (by decide) ?_
      refine z_iload_n (pc := 57) (q := 1) X d_Tape_disturb_57 rfl ?_
      refine z_iconst (pc := 58) X d_Tape_disturb_58 ?_
      obtain ⟨v_5, hv⟩ := hv
      refine z_idiv (pc := 59) X rx1 (show zr 2 from by decide) v_5 (by decide) d_Tape_disturb_59 ?_
      refine z_sipush (pc := 60) X d_Tape_disturb_60 (by decide) ?_
      obtain ⟨v_6, hv⟩ := hv
      refine z_irem (pc := 63) X (zr_div rx1 v_5 (by decide)) (show zr 7680 from by decide) v_6 (by decide) d_Tape_disturb_63 ?_
      obtain ⟨v_7, hv⟩ := hv
      refine z_iadd (pc := 64) X d_Tape_disturb_64 ?_
      obtain ⟨v_8, hv⟩ := hv
      refine z_iastj (pc := 65) (j := (x1 % 2).toNat) X (gf_Tape_2 op0) (gl_Tape_2 op0) (zr_rem (show zr 2 from by decide) (by decide)) v_8 rfl d_Tape_disturb_65 ?_
      refine z_toph (fun h_9 eh_9 => ?_)
      have zh_9 : zh h_9 := by rw [eh_9]; exact zh_set zh_2 (zO.ne (gf_Tape_2 op0) (by decide)) v_7
      replace hv := hv h_9 eh_9
      exact E.1 rfl _ _ _ d_Tape_disturb_66 ⟨rfl, zh_9, hv⟩
  · replace hv := hv.2 hc
    refine z_iload_n (pc := 7) (q := 1) X d_Tape_disturb_7 rfl ?_
    refine z_bipush (pc := 8) X d_Tape_disturb_8 (by decide) ?_
    obtain ⟨v_10, hv⟩ := hv
    refine z_idiv (pc := 10) X rx1 (show zr 16 from by decide) v_10 (by decide) d_Tape_disturb_10 ?_
    refine z_aload_n (pc := 11) (q := 0) X d_Tape_disturb_11 rfl ?_
    refine z_geti (pc := 12) (j := 4) X cf_Tape op0 (by decide) q155 rfl rfl d_Tape_disturb_12 ?_
    obtain ⟨v_11, hv⟩ := hv
    refine z_irem (pc := 15) X (zr_div rx1 v_10 (by decide)) (hh.1 _ _ (zO.ne op0 (by decide))) v_11.1 v_11.2 d_Tape_disturb_15 ?_
    refine z_topi (fun x2_12 ex2_12 => ?_)
    have rx2_12 : zr x2_12 := by rw [ex2_12]; exact (zr_rem (hh.1 _ _ (zO.ne op0 (by decide))) v_11.2)
    replace hv := hv x2_12 ex2_12
    refine z_istore_n (pc := 16) (lv' := [(2, zi x2_12), (0, .ref (g.2.2 p0)), (1, zi x1)]) X d_Tape_disturb_16 (by decide) rfl ?_
    refine z_aload_n (pc := 17) (q := 1) X d_Tape_disturb_17 rfl ?_
    refine z_iload_n (pc := 18) (q := 0) X d_Tape_disturb_18 rfl ?_
    refine z_callVi (pc := 19) (As := [zi x2_12]) (rest := []) X (fun l hl => c_Tape_hasDigit hl op0 rx2_12 hh hv) cf_Tape op0 rfl mf_Tape_hasDigit q994 ⟨⟨by decide, by decide⟩, rfl, rfl⟩ rfl d_Tape_disturb_19 rfl (Nat.le_of_ble_eq_true rfl) (fun r_14 h_13 rr_14 zh_13 hv => ?_)
    refine z_if_eq (pc := 22) (tgt := 35) X rr_14 d_Tape_disturb_22 (by decide) (fun hc => ?_) (fun hc => ?_)
    · replace hv := hv.1 hc
      refine z_goto (pc := 35) (tgt := 66) X d_Tape_disturb_35 (by decide) ?_
      exact E.1 rfl _ _ _ d_Tape_disturb_66 ⟨rfl, zh_13, hv⟩
    · replace hv := hv.2 hc
      refine z_aload_n (pc := 25) (q := 1) X d_Tape_disturb_25 rfl ?_
      refine z_getr (pc := 26) (j := 1) (dd := 2) X cf_Tape op0 (by decide) q143 rfl rfl d_Tape_disturb_26 ?_
      refine z_iload_n (pc := 29) (q := 0) X d_Tape_disturb_29 rfl ?_
      refine z_iload_n (pc := 30) (q := 2) X d_Tape_disturb_30 rfl ?_
      refine z_bipush (pc := 31) X d_Tape_disturb_31 (by decide) ?_
      obtain ⟨v_15, hv⟩ := hv
      refine z_irem (pc := 33) X rx1 (show zr 16 from by decide) v_15 (by decide) d_Tape_disturb_33 ?_
      obtain ⟨v_16, hv⟩ := hv
      refine z_iastj (pc := 34) (j := x2_12.toNat) X (gf_Tape_1 op0) (gl_Tape_1 op0) rx2_12 v_16 rfl d_Tape_disturb_34 ?_
      refine z_toph (fun h_17 eh_17 => ?_)
      have zh_17 : zh h_17 := by rw [eh_17]; exact zh_set zh_13 (zO.ne (gf_Tape_1 op0) (by decide)) (zr_rem (show zr 16 from by decide) (by decide))
      replace hv := hv h_17 eh_17
      refine z_goto (pc := 35) (tgt := 66) X d_Tape_disturb_35 (by decide) ?_
      exact E.1 rfl _ _ _ d_Tape_disturb_66 ⟨rfl, zh_17, hv⟩

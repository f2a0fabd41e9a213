/-! 22.Text (printed by wip/whole/methgen.py) -/
theorem d_Text_add_0 : decode b_Text_add 0 = .ok (.aload_n 0, 1) := by decide +kernel
theorem d_Text_add_1 : decode b_Text_add 1 = .ok (.getfield 21, 3) := by decide +kernel
theorem d_Text_add_4 : decode b_Text_add 4 = .ok (.ifCond .lt 32, 3) := by decide +kernel
theorem d_Text_add_7 : decode b_Text_add 7 = .ok (.aload_n 0, 1) := by decide +kernel
theorem d_Text_add_8 : decode b_Text_add 8 = .ok (.getfield 21, 3) := by decide +kernel
theorem d_Text_add_11 : decode b_Text_add 11 = .ok (.bipush 100, 2) := by decide +kernel
theorem d_Text_add_13 : decode b_Text_add 13 = .ok (.if_icmp .ge 23, 3) := by decide +kernel
theorem d_Text_add_16 : decode b_Text_add 16 = .ok (.aload_n 0, 1) := by decide +kernel
theorem d_Text_add_17 : decode b_Text_add 17 = .ok (.getfield 9, 3) := by decide +kernel
theorem d_Text_add_20 : decode b_Text_add 20 = .ok (.aload_n 0, 1) := by decide +kernel
theorem d_Text_add_21 : decode b_Text_add 21 = .ok (.getfield 21, 3) := by decide +kernel
theorem d_Text_add_24 : decode b_Text_add 24 = .ok (.iload_n 1, 1) := by decide +kernel
theorem d_Text_add_25 : decode b_Text_add 25 = .ok (.iastore, 1) := by decide +kernel
theorem d_Text_add_26 : decode b_Text_add 26 = .ok (.aload_n 0, 1) := by decide +kernel
theorem d_Text_add_27 : decode b_Text_add 27 = .ok (.dup, 1) := by decide +kernel
theorem d_Text_add_28 : decode b_Text_add 28 = .ok (.getfield 21, 3) := by decide +kernel
theorem d_Text_add_31 : decode b_Text_add 31 = .ok (.iconst 1, 1) := by decide +kernel
theorem d_Text_add_32 : decode b_Text_add 32 = .ok (.iadd, 1) := by decide +kernel
theorem d_Text_add_33 : decode b_Text_add 33 = .ok (.putfield 21, 3) := by decide +kernel
theorem d_Text_add_36 : decode b_Text_add 36 = .ok (.return_, 1) := by decide +kernel
def rm_Text_add : Room := { frames := 0, cells := 0, slots := 0, locals := 0 }
theorem mf_Text_add : zMV y_Text_add b_Text_add 2 none 1 := ⟨q578, qs28, q2, q579, by decide +kernel⟩
def M_Text_add (p0 : Nat) (x1 : Int) (h : zH) (K : zH → Prop) : Prop :=
  (h p0 3 < 0 → (K h)) ∧ (0 ≤ h p0 3 → ((100 ≤ h p0 3 → (K h)) ∧ (h p0 3 < 100 → ((0 ≤ h p0 3 ∧ h p0 3 < 100) ∧ (∀ h_2 : zH, h_2 = zs h (p0 + 1) ((h p0 3).toNat) x1 → (zr ((h_2 p0 3) + 1) ∧ ((∀ h_4 : zH, h_4 = zs h_2 p0 3 ((h_2 p0 3) + 1) → (K h_4)))))))))
set_option maxRecDepth 100000 in
theorem c_Text_add {l : Launch} (hfl : l.flags = flags0) {g : zG} {n : Nat} {p0 : Nat} {x1 : Int} (op0 : zO n p0 9) (rx1 : zr x1) {h : zH} (hh : zh h) {K : zH → Prop} (hv : M_Text_add p0 x1 h K) : zMet l y_Text_add b_Text_add 2 none rm_Text_add g n [.ref (g.2.2 p0), zi x1] h (zPv K) := by
  refine zMet_of (own := "AliasStreams$Text") hfl (by decide) rfl (Nat.le_of_ble_eq_true rfl) (fun Wf m H0 X E => ?_)
  unfold M_Text_add at hv
  show zW Wf m 2 g n H0 0 [(0, .ref (g.2.2 p0)), (1, zi x1)] [] h
  refine z_aload_n (pc := 0) (q := 0) X d_Text_add_0 rfl ?_
  refine z_geti (pc := 1) (j := 3) X cf_Text op0 (by decide) q40 rfl rfl d_Text_add_1 ?_
  refine z_if_lt (pc := 4) (tgt := 36) X (hh.1 _ _ (zO.ne op0 (by decide))) d_Text_add_4 (by decide) (fun hc => ?_) (fun hc => ?_)
  · replace hv := hv.1 hc
    exact E.1 rfl _ _ _ d_Text_add_36 ⟨rfl, hh, hv⟩
  · replace hv := hv.2 hc
    refine z_aload_n (pc := 7) (q := 0) X d_Text_add_7 rfl ?_
    refine z_geti (pc := 8) (j := 3) X cf_Text op0 (by decide) q40 rfl rfl d_Text_add_8 ?_
    refine z_bipush (pc := 11) X d_Text_add_11 (by decide) ?_
    refine z_icmp_ge (pc := 13) (tgt := 36) X (hh.1 _ _ (zO.ne op0 (by decide))) (show zr 100 from by decide) d_Text_add_13 (by decide) (fun hc => ?_) (fun hc => ?_)
    · replace hv := hv.1 hc
      exact E.1 rfl _ _ _ d_Text_add_36 ⟨rfl, hh, hv⟩
    · replace hv := hv.2 hc
      refine z_aload_n (pc := 16) (q := 0) X d_Text_add_16 rfl ?_
      refine z_getr (pc := 17) (j := 0) (dd := 1) X cf_Text op0 (by decide) q35 rfl rfl d_Text_add_17 ?_
      refine z_aload_n (pc := 20) (q := 0) X d_Text_add_20 rfl ?_
      refine z_geti (pc := 21) (j := 3) X cf_Text op0 (by decide) q40 rfl rfl d_Text_add_21 ?_
      refine z_iload_n (pc := 24) (q := 1) X d_Text_add_24 rfl ?_
      obtain ⟨v_1, hv⟩ := hv
      refine z_iastj (pc := 25) (j := (h p0 3).toNat) X (gf_Text_0 op0) (gl_Text_0 op0) (hh.1 _ _ (zO.ne op0 (by decide))) v_1 rfl d_Text_add_25 ?_
      refine z_toph (fun h_2 eh_2 => ?_)
      have zh_2 : zh h_2 := by rw [eh_2]; exact zh_set hh (zO.ne (gf_Text_0 op0) (by decide)) rx1
      replace hv := hv h_2 eh_2
      refine z_aload_n (pc := 26) (q := 0) X d_Text_add_26 rfl ?_
      refine z_dup (pc := 27) X d_Text_add_27 rfl ?_
      refine z_geti (pc := 28) (j := 3) X cf_Text op0 (by decide) q40 rfl rfl d_Text_add_28 ?_
      refine z_iconst (pc := 31) X d_Text_add_31 ?_
      obtain ⟨v_3, hv⟩ := hv
      refine z_iadd (pc := 32) X d_Text_add_32 ?_
      refine z_put (pc := 33) (j := 3) X cf_Text op0 (by decide) q40 rfl rfl rfl rfl d_Text_add_33 ?_
      refine z_toph (fun h_4 eh_4 => ?_)
      have zh_4 : zh h_4 := by rw [eh_4]; exact zh_set zh_2 (zO.ne op0 (by decide)) v_3
      replace hv := hv h_4 eh_4
      exact E.1 rfl _ _ _ d_Text_add_36 ⟨rfl, zh_4, hv⟩
theorem d_Text_here_0 : decode b_Text_here 0 = .ok (.aload_n 0, 1) := by decide +kernel
theorem d_Text_here_1 : decode b_Text_here 1 = .ok (.getfield 25, 3) := by decide +kernel
theorem d_Text_here_4 : decode b_Text_here 4 = .ok (.ifCond .lt 35, 3) := by decide +kernel
theorem d_Text_here_7 : decode b_Text_here 7 = .ok (.aload_n 0, 1) := by decide +kernel
theorem d_Text_here_8 : decode b_Text_here 8 = .ok (.getfield 25, 3) := by decide +kernel
theorem d_Text_here_11 : decode b_Text_here 11 = .ok (.aload_n 0, 1) := by decide +kernel
theorem d_Text_here_12 : decode b_Text_here 12 = .ok (.getfield 21, 3) := by decide +kernel
theorem d_Text_here_15 : decode b_Text_here 15 = .ok (.if_icmp .ge 24, 3) := by decide +kernel
theorem d_Text_here_18 : decode b_Text_here 18 = .ok (.aload_n 0, 1) := by decide +kernel
theorem d_Text_here_19 : decode b_Text_here 19 = .ok (.getfield 25, 3) := by decide +kernel
theorem d_Text_here_22 : decode b_Text_here 22 = .ok (.bipush 100, 2) := by decide +kernel
theorem d_Text_here_24 : decode b_Text_here 24 = .ok (.if_icmp .ge 15, 3) := by decide +kernel
theorem d_Text_here_27 : decode b_Text_here 27 = .ok (.aload_n 0, 1) := by decide +kernel
theorem d_Text_here_28 : decode b_Text_here 28 = .ok (.getfield 9, 3) := by decide +kernel
theorem d_Text_here_31 : decode b_Text_here 31 = .ok (.aload_n 0, 1) := by decide +kernel
theorem d_Text_here_32 : decode b_Text_here 32 = .ok (.getfield 25, 3) := by decide +kernel
theorem d_Text_here_35 : decode b_Text_here 35 = .ok (.iaload, 1) := by decide +kernel
theorem d_Text_here_36 : decode b_Text_here 36 = .ok (.goto 4, 3) := by decide +kernel
theorem d_Text_here_39 : decode b_Text_here 39 = .ok (.iconst (-1), 1) := by decide +kernel
theorem d_Text_here_40 : decode b_Text_here 40 = .ok (.ireturn, 1) := by decide +kernel
def rm_Text_here : Room := { frames := 0, cells := 0, slots := 0, locals := 0 }
theorem mf_Text_here : zMV y_Text_here b_Text_here 1 (some .int) 0 := ⟨q415, qs13, q2, q416, by decide +kernel⟩
def M_Text_here (p0 : Nat) (h : zH) (K : Int → zH → Prop) : Prop :=
  (h p0 7 < 0 → (K (-1) h)) ∧ (0 ≤ h p0 7 → ((h p0 3 ≤ h p0 7 → (K (-1) h)) ∧ (h p0 7 < h p0 3 → ((100 ≤ h p0 7 → (K (-1) h)) ∧ (h p0 7 < 100 → ((0 ≤ h p0 7 ∧ h p0 7 < 100) ∧ (K (h (p0 + 1) ((h p0 7).toNat)) h)))))))
set_option maxRecDepth 100000 in
theorem c_Text_here {l : Launch} (hfl : l.flags = flags0) {g : zG} {n : Nat} {p0 : Nat} (op0 : zO n p0 9) {h : zH} (hh : zh h) {K : Int → zH → Prop} (hv : M_Text_here p0 h K) : zMet l y_Text_here b_Text_here 1 (some .int) rm_Text_here g n [.ref (g.2.2 p0)] h (zPi K) := by
  refine zMet_of (own := "AliasStreams$Text") hfl (by decide) rfl (Nat.le_of_ble_eq_true rfl) (fun Wf m H0 X E => ?_)
  unfold M_Text_here at hv
  show zW Wf m 1 g n H0 0 [(0, .ref (g.2.2 p0))] [] h
  refine z_aload_n (pc := 0) (q := 0) X d_Text_here_0 rfl ?_
  refine z_geti (pc := 1) (j := 7) X cf_Text op0 (by decide) q48 rfl rfl d_Text_here_1 ?_
  refine z_if_lt (pc := 4) (tgt := 39) X (hh.1 _ _ (zO.ne op0 (by decide))) d_Text_here_4 (by decide) (fun hc => ?_) (fun hc => ?_)
  · replace hv := hv.1 hc
    refine z_iconst (pc := 39) X d_Text_here_39 ?_
    exact E.2.1 rfl _ _ _ _ d_Text_here_40 ⟨_, rfl, (show zr (-1) from by decide), hh, hv⟩
  · replace hv := hv.2 hc
    refine z_aload_n (pc := 7) (q := 0) X d_Text_here_7 rfl ?_
    refine z_geti (pc := 8) (j := 7) X cf_Text op0 (by decide) q48 rfl rfl d_Text_here_8 ?_
    refine z_aload_n (pc := 11) (q := 0) X d_Text_here_11 rfl ?_
    refine z_geti (pc := 12) (j := 3) X cf_Text op0 (by decide) q40 rfl rfl d_Text_here_12 ?_
    refine z_icmp_ge (pc := 15) (tgt := 39) X (hh.1 _ _ (zO.ne op0 (by decide))) (hh.1 _ _ (zO.ne op0 (by decide))) d_Text_here_15 (by decide) (fun hc => ?_) (fun hc => ?_)
    · replace hv := hv.1 hc
      refine z_iconst (pc := 39) X d_Text_here_39 ?_
      exact E.2.1 rfl _ _ _ _ d_Text_here_40 ⟨_, rfl, (show zr (-1) from by decide), hh, hv⟩
    · replace hv := hv.2 hc
      refine z_aload_n (pc := 18) (q := 0) X d_Text_here_18 rfl ?_
      refine z_geti (pc := 19) (j := 7) X cf_Text op0 (by decide) q48 rfl rfl d_Text_here_19 ?_
      refine z_bipush (pc := 22) X d_Text_here_22 (by decide) ?_
      refine z_icmp_ge (pc := 24) (tgt := 39) X (hh.1 _ _ (zO.ne op0 (by decide))) (show zr 100 from by decide) d_Text_here_24 (by decide) (fun hc => ?_) (fun hc => ?_)
      · replace hv := hv.1 hc
        refine z_iconst (pc := 39) X d_Text_here_39 ?_
        exact E.2.1 rfl _ _ _ _ d_Text_here_40 ⟨_, rfl, (show zr (-1) from by decide), hh, hv⟩
      · replace hv := hv.2 hc
        refine z_aload_n (pc := 27) (q := 0) X d_Text_here_27 rfl ?_
        refine z_getr (pc := 28) (j := 0) (dd := 1) X cf_Text op0 (by decide) q35 rfl rfl d_Text_here_28 ?_
        refine z_aload_n (pc := 31) (q := 0) X d_Text_here_31 rfl ?_
        refine z_geti (pc := 32) (j := 7) X cf_Text op0 (by decide) q48 rfl rfl d_Text_here_32 ?_
        obtain ⟨v_1, hv⟩ := hv
        refine z_ialdj (pc := 35) (j := (h p0 7).toNat) X (gf_Text_0 op0) (gl_Text_0 op0) (hh.1 _ _ (zO.ne op0 (by decide))) v_1 rfl d_Text_here_35 ?_
        refine z_goto (pc := 36) (tgt := 40) X d_Text_here_36 (by decide) ?_
        exact E.2.1 rfl _ _ _ _ d_Text_here_40 ⟨_, rfl, (hh.1 _ _ (zO.ne (gf_Text_0 op0) (by decide))), hh, hv⟩
theorem d_Text_digitHere_0 : decode b_Text_digitHere 0 = .ok (.aload_n 0, 1) := by decide +kernel
theorem d_Text_digitHere_1 : decode b_Text_digitHere 1 = .ok (.invokevirtual 47, 3) := by decide +kernel
theorem d_Text_digitHere_4 : decode b_Text_digitHere 4 = .ok (.istore_n 1, 1) := by decide +kernel
theorem d_Text_digitHere_5 : decode b_Text_digitHere 5 = .ok (.iload_n 1, 1) := by decide +kernel
theorem d_Text_digitHere_6 : decode b_Text_digitHere 6 = .ok (.bipush 48, 2) := by decide +kernel
theorem d_Text_digitHere_8 : decode b_Text_digitHere 8 = .ok (.if_icmp .lt 16, 3) := by decide +kernel
theorem d_Text_digitHere_11 : decode b_Text_digitHere 11 = .ok (.iload_n 1, 1) := by decide +kernel
theorem d_Text_digitHere_12 : decode b_Text_digitHere 12 = .ok (.bipush 57, 2) := by decide +kernel
theorem d_Text_digitHere_14 : decode b_Text_digitHere 14 = .ok (.if_icmp .gt 10, 3) := by decide +kernel
theorem d_Text_digitHere_17 : decode b_Text_digitHere 17 = .ok (.iload_n 1, 1) := by decide +kernel
theorem d_Text_digitHere_18 : decode b_Text_digitHere 18 = .ok (.bipush 48, 2) := by decide +kernel
theorem d_Text_digitHere_20 : decode b_Text_digitHere 20 = .ok (.isub, 1) := by decide +kernel
theorem d_Text_digitHere_21 : decode b_Text_digitHere 21 = .ok (.goto 5, 3) := by decide +kernel
theorem d_Text_digitHere_24 : decode b_Text_digitHere 24 = .ok (.bipush (-9), 2) := by decide +kernel
theorem d_Text_digitHere_26 : decode b_Text_digitHere 26 = .ok (.ireturn, 1) := by decide +kernel
def rm_Text_digitHere : Room := { frames := 1, cells := 0, slots := 0, locals := 20 }
theorem mf_Text_digitHere : zMV y_Text_digitHere b_Text_digitHere 2 (some .int) 0 := ⟨q419, qs14, q2, q420, by decide +kernel⟩
def M_Text_digitHere (p0 : Nat) (h : zH) (K : Int → zH → Prop) : Prop :=
  M_Text_here p0 h (fun r_2 h_1 => (r_2 < 48 → (K (-9) h_1)) ∧ (48 ≤ r_2 → ((57 < r_2 → (K (-9) h_1)) ∧ (r_2 ≤ 57 → (zr (r_2 - 48) ∧ (K (r_2 - 48) h_1))))))
set_option maxRecDepth 100000 in
theorem c_Text_digitHere {l : Launch} (hfl : l.flags = flags0) {g : zG} {n : Nat} {p0 : Nat} (op0 : zO n p0 9) {h : zH} (hh : zh h) {K : Int → zH → Prop} (hv : M_Text_digitHere p0 h K) : zMet l y_Text_digitHere b_Text_digitHere 2 (some .int) rm_Text_digitHere g n [.ref (g.2.2 p0)] h (zPi K) := by
  refine zMet_of (own := "AliasStreams$Text") hfl (by decide) rfl (Nat.le_of_ble_eq_true rfl) (fun Wf m H0 X E => ?_)
  unfold M_Text_digitHere at hv
  show zW Wf m 2 g n H0 0 [(0, .ref (g.2.2 p0))] [] h
  refine z_aload_n (pc := 0) (q := 0) X d_Text_digitHere_0 rfl ?_
  refine z_callVi (pc := 1) (As := []) (rest := []) X (fun l hl => c_Text_here hl op0 hh hv) cf_Text op0 rfl mf_Text_here q413 ⟨⟨by decide, by decide⟩, rfl, rfl⟩ rfl d_Text_digitHere_1 rfl (Nat.le_of_ble_eq_true rfl) (fun r_2 h_1 rr_2 zh_1 hv => ?_)
  refine z_istore_n (pc := 4) (lv' := [(1, zi r_2), (0, .ref (g.2.2 p0))]) X d_Text_digitHere_4 (by decide) rfl ?_
  refine z_iload_n (pc := 5) (q := 0) X d_Text_digitHere_5 rfl ?_
  refine z_bipush (pc := 6) X d_Text_digitHere_6 (by decide) ?_
  refine z_icmp_lt (pc := 8) (tgt := 24) X rr_2 (show zr 48 from by decide) d_Text_digitHere_8 (by decide) (fun hc => ?_) (fun hc => ?_)
  · replace hv := hv.1 hc
    refine z_bipush (pc := 24) X d_Text_digitHere_24 (by decide) ?_
    exact E.2.1 rfl _ _ _ _ d_Text_digitHere_26 ⟨_, rfl, (show zr (-9) from by decide), zh_1, hv⟩
  · replace hv := hv.2 hc
    refine z_iload_n (pc := 11) (q := 0) X d_Text_digitHere_11 rfl ?_
    refine z_bipush (pc := 12) X d_Text_digitHere_12 (by decide) ?_
    refine z_icmp_gt (pc := 14) (tgt := 24) X rr_2 (show zr 57 from by decide) d_Text_digitHere_14 (by decide) (fun hc => ?_) (fun hc => ?_)
    · replace hv := hv.1 hc
      refine z_bipush (pc := 24) X d_Text_digitHere_24 (by decide) ?_
      exact E.2.1 rfl _ _ _ _ d_Text_digitHere_26 ⟨_, rfl, (show zr (-9) from by decide), zh_1, hv⟩
    · replace hv := hv.2 hc
      refine z_iload_n (pc := 17) (q := 0) X d_Text_digitHere_17 rfl ?_
      refine z_bipush (pc := 18) X d_Text_digitHere_18 (by decide) ?_
      obtain ⟨v_3, hv⟩ := hv
      refine z_isub (pc := 20) X d_Text_digitHere_20 ?_
      refine z_goto (pc := 21) (tgt := 26) X d_Text_digitHere_21 (by decide) ?_
      exact E.2.1 rfl _ _ _ _ d_Text_digitHere_26 ⟨_, rfl, v_3, zh_1, hv⟩
theorem d_Text_readSize_0 : decode b_Text_readSize 0 = .ok (.aload_n 0, 1) := by decide +kernel
theorem d_Text_readSize_1 : decode b_Text_readSize 1 = .ok (.invokevirtual 47, 3) := by decide +kernel
theorem d_Text_readSize_4 : decode b_Text_readSize 4 = .ok (.bipush 65, 2) := by decide +kernel
theorem d_Text_readSize_6 : decode b_Text_readSize 6 = .ok (.if_icmp .eq 5, 3) := by decide +kernel
theorem d_Text_readSize_9 : decode b_Text_readSize 9 = .ok (.iconst 0, 1) := by decide +kernel
theorem d_Text_readSize_10 : decode b_Text_readSize 10 = .ok (.ireturn, 1) := by decide +kernel
theorem d_Text_readSize_11 : decode b_Text_readSize 11 = .ok (.aload_n 0, 1) := by decide +kernel
theorem d_Text_readSize_12 : decode b_Text_readSize 12 = .ok (.dup, 1) := by decide +kernel
theorem d_Text_readSize_13 : decode b_Text_readSize 13 = .ok (.getfield 25, 3) := by decide +kernel
theorem d_Text_readSize_16 : decode b_Text_readSize 16 = .ok (.iconst 1, 1) := by decide +kernel
theorem d_Text_readSize_17 : decode b_Text_readSize 17 = .ok (.iadd, 1) := by decide +kernel
theorem d_Text_readSize_18 : decode b_Text_readSize 18 = .ok (.putfield 25, 3) := by decide +kernel
theorem d_Text_readSize_21 : decode b_Text_readSize 21 = .ok (.aload_n 0, 1) := by decide +kernel
theorem d_Text_readSize_22 : decode b_Text_readSize 22 = .ok (.aload_n 0, 1) := by decide +kernel
theorem d_Text_readSize_23 : decode b_Text_readSize 23 = .ok (.invokevirtual 51, 3) := by decide +kernel
theorem d_Text_readSize_26 : decode b_Text_readSize 26 = .ok (.putfield 28, 3) := by decide +kernel
theorem d_Text_readSize_29 : decode b_Text_readSize 29 = .ok (.aload_n 0, 1) := by decide +kernel
theorem d_Text_readSize_30 : decode b_Text_readSize 30 = .ok (.getfield 28, 3) := by decide +kernel
theorem d_Text_readSize_33 : decode b_Text_readSize 33 = .ok (.iconst 2, 1) := by decide +kernel
theorem d_Text_readSize_34 : decode b_Text_readSize 34 = .ok (.if_icmp .lt 12, 3) := by decide +kernel
theorem d_Text_readSize_37 : decode b_Text_readSize 37 = .ok (.aload_n 0, 1) := by decide +kernel
theorem d_Text_readSize_38 : decode b_Text_readSize 38 = .ok (.getfield 28, 3) := by decide +kernel
theorem d_Text_readSize_41 : decode b_Text_readSize 41 = .ok (.bipush 8, 2) := by decide +kernel
theorem d_Text_readSize_43 : decode b_Text_readSize 43 = .ok (.if_icmp .le 5, 3) := by decide +kernel
theorem d_Text_readSize_46 : decode b_Text_readSize 46 = .ok (.iconst 0, 1) := by decide +kernel
theorem d_Text_readSize_47 : decode b_Text_readSize 47 = .ok (.ireturn, 1) := by decide +kernel
theorem d_Text_readSize_48 : decode b_Text_readSize 48 = .ok (.aload_n 0, 1) := by decide +kernel
theorem d_Text_readSize_49 : decode b_Text_readSize 49 = .ok (.dup, 1) := by decide +kernel
theorem d_Text_readSize_50 : decode b_Text_readSize 50 = .ok (.getfield 25, 3) := by decide +kernel
theorem d_Text_readSize_53 : decode b_Text_readSize 53 = .ok (.iconst 1, 1) := by decide +kernel
theorem d_Text_readSize_54 : decode b_Text_readSize 54 = .ok (.iadd, 1) := by decide +kernel
theorem d_Text_readSize_55 : decode b_Text_readSize 55 = .ok (.putfield 25, 3) := by decide +kernel
theorem d_Text_readSize_58 : decode b_Text_readSize 58 = .ok (.iconst 1, 1) := by decide +kernel
theorem d_Text_readSize_59 : decode b_Text_readSize 59 = .ok (.ireturn, 1) := by decide +kernel
def rm_Text_readSize : Room := { frames := 2, cells := 0, slots := 0, locals := 41 }
theorem mf_Text_readSize : zMV y_Text_readSize b_Text_readSize 1 (some .boolean) 0 := ⟨q411, qs12, q2, q412, by decide +kernel⟩
def M_Text_readSize (p0 : Nat) (h : zH) (K : Int → zH → Prop) : Prop :=
  M_Text_here p0 h (fun r_2 h_1 => (r_2 = 65 → (zr ((h_1 p0 7) + 1) ∧ ((∀ h_4 : zH, h_4 = zs h_1 p0 7 ((h_1 p0 7) + 1) → (M_Text_digitHere p0 h_4 (fun r_6 h_5 => (∀ h_7 : zH, h_7 = zs h_5 p0 4 r_6 → ((h_7 p0 4 < 2 → (K 0 h_7)) ∧ (2 ≤ h_7 p0 4 → ((h_7 p0 4 ≤ 8 → (zr ((h_7 p0 7) + 1) ∧ ((∀ h_9 : zH, h_9 = zs h_7 p0 7 ((h_7 p0 7) + 1) → (K 1 h_9))))) ∧ (8 < h_7 p0 4 → (K 0 h_7)))))))))))) ∧ (r_2 ≠ 65 → (K 0 h_1)))
set_option maxRecDepth 100000 in
theorem c_Text_readSize {l : Launch} (hfl : l.flags = flags0) {g : zG} {n : Nat} {p0 : Nat} (op0 : zO n p0 9) {h : zH} (hh : zh h) {K : Int → zH → Prop} (hv : M_Text_readSize p0 h K) : zMet l y_Text_readSize b_Text_readSize 1 (some .boolean) rm_Text_readSize g n [.ref (g.2.2 p0)] h (zPi K) := by
  refine zMet_of (own := "AliasStreams$Text") hfl (by decide) rfl (Nat.le_of_ble_eq_true rfl) (fun Wf m H0 X E => ?_)
  unfold M_Text_readSize at hv
  show zW Wf m 1 g n H0 0 [(0, .ref (g.2.2 p0))] [] h
  refine z_aload_n (pc := 0) (q := 0) X d_Text_readSize_0 rfl ?_
  refine z_callVi (pc := 1) (As := []) (rest := []) X (fun l hl => c_Text_here hl op0 hh hv) cf_Text op0 rfl mf_Text_here q413 ⟨⟨by decide, by decide⟩, rfl, rfl⟩ rfl d_Text_readSize_1 rfl (Nat.le_of_ble_eq_true rfl) (fun r_2 h_1 rr_2 zh_1 hv => ?_)
  refine z_bipush (pc := 4) X d_Text_readSize_4 (by decide) ?_
  refine z_icmp_eq (pc := 6) (tgt := 11) X rr_2 (show zr 65 from by decide) d_Text_readSize_6 (by decide) (fun hc => ?_) (fun hc => ?_)
  · replace hv := hv.1 hc
    refine z_aload_n (pc := 11) (q := 0) X d_Text_readSize_11 rfl ?_
    refine z_dup (pc := 12) X d_Text_readSize_12 rfl ?_
    refine z_geti (pc := 13) (j := 7) X cf_Text op0 (by decide) q48 rfl rfl d_Text_readSize_13 ?_
    refine z_iconst (pc := 16) X d_Text_readSize_16 ?_
    obtain ⟨v_3, hv⟩ := hv
    refine z_iadd (pc := 17) X d_Text_readSize_17 ?_
    refine z_put (pc := 18) (j := 7) X cf_Text op0 (by decide) q48 rfl rfl rfl rfl d_Text_readSize_18 ?_
    refine z_toph (fun h_4 eh_4 => ?_)
    have zh_4 : zh h_4 := by rw [eh_4]; exact zh_set zh_1 (zO.ne op0 (by decide)) v_3
    replace hv := hv h_4 eh_4
    refine z_aload_n (pc := 21) (q := 0) X d_Text_readSize_21 rfl ?_
    refine z_aload_n (pc := 22) (q := 0) X d_Text_readSize_22 rfl ?_
    refine z_callVi (pc := 23) (As := []) (rest := [.ref (g.2.2 p0)]) X (fun l hl => c_Text_digitHere hl op0 zh_4 hv) cf_Text op0 rfl mf_Text_digitHere q417 ⟨⟨by decide, by decide⟩, rfl, rfl⟩ rfl d_Text_readSize_23 rfl (Nat.le_of_ble_eq_true rfl) (fun r_6 h_5 rr_6 zh_5 hv => ?_)
    refine z_put (pc := 26) (j := 4) X cf_Text op0 (by decide) q42 rfl rfl rfl rfl d_Text_readSize_26 ?_
    refine z_toph (fun h_7 eh_7 => ?_)
    have zh_7 : zh h_7 := by rw [eh_7]; exact zh_set zh_5 (zO.ne op0 (by decide)) rr_6
    replace hv := hv h_7 eh_7
    refine z_aload_n (pc := 29) (q := 0) X d_Text_readSize_29 rfl ?_
    refine z_geti (pc := 30) (j := 4) X cf_Text op0 (by decide) q42 rfl rfl d_Text_readSize_30 ?_
    refine z_iconst (pc := 33) X d_Text_readSize_33 ?_
    refine z_icmp_lt (pc := 34) (tgt := 46) X (zh_7.1 _ _ (zO.ne op0 (by decide))) (show zr 2 from by decide) d_Text_readSize_34 (by decide) (fun hc => ?_) (fun hc => ?_)
    · replace hv := hv.1 hc
      refine z_iconst (pc := 46) X d_Text_readSize_46 ?_
      exact E.2.2.1 rfl _ _ _ _ (by decide) d_Text_readSize_47 ⟨_, rfl, (show zr 0 from by decide), zh_7, hv⟩
    · replace hv := hv.2 hc
      refine z_aload_n (pc := 37) (q := 0) X d_Text_readSize_37 rfl ?_
      refine z_geti (pc := 38) (j := 4) X cf_Text op0 (by decide) q42 rfl rfl d_Text_readSize_38 ?_
      refine z_bipush (pc := 41) X d_Text_readSize_41 (by decide) ?_
      refine z_icmp_le (pc := 43) (tgt := 48) X (zh_7.1 _ _ (zO.ne op0 (by decide))) (show zr 8 from by decide) d_Text_readSize_43 (by decide) (fun hc => ?_) (fun hc => ?_)
      · replace hv := hv.1 hc
        refine z_aload_n (pc := 48) (q := 0) X d_Text_readSize_48 rfl ?_
        refine z_dup (pc := 49) X d_Text_readSize_49 rfl ?_
        refine z_geti (pc := 50) (j := 7) X cf_Text op0 (by decide) q48 rfl rfl d_Text_readSize_50 ?_
        refine z_iconst (pc := 53) X d_Text_readSize_53 ?_
        obtain ⟨v_8, hv⟩ := hv
        refine z_iadd (pc := 54) X d_Text_readSize_54 ?_
        refine z_put (pc := 55) (j := 7) X cf_Text op0 (by decide) q48 rfl rfl rfl rfl d_Text_readSize_55 ?_
        refine z_toph (fun h_9 eh_9 => ?_)
        have zh_9 : zh h_9 := by rw [eh_9]; exact zh_set zh_7 (zO.ne op0 (by decide)) v_8
        replace hv := hv h_9 eh_9
        refine z_iconst (pc := 58) X d_Text_readSize_58 ?_
        exact E.2.2.1 rfl _ _ _ _ (by decide) d_Text_readSize_59 ⟨_, rfl, (show zr 1 from by decide), zh_9, hv⟩
      · replace hv := hv.2 hc
        refine z_iconst (pc := 46) X d_Text_readSize_46 ?_
        exact E.2.2.1 rfl _ _ _ _ (by decide) d_Text_readSize_47 ⟨_, rfl, (show zr 0 from by decide), zh_7, hv⟩
  · replace hv := hv.2 hc
    refine z_iconst (pc := 9) X d_Text_readSize_9 ?_
    exact E.2.2.1 rfl _ _ _ _ (by decide) d_Text_readSize_10 ⟨_, rfl, (show zr 0 from by decide), zh_1, hv⟩
theorem d_Text_readCounts_0 : decode b_Text_readCounts 0 = .ok (.iconst 0, 1) := by decide +kernel
theorem d_Text_readCounts_1 : decode b_Text_readCounts 1 = .ok (.istore_n 2, 1) := by decide +kernel
theorem d_Text_readCounts_2 : decode b_Text_readCounts 2 = .ok (.iconst 0, 1) := by decide +kernel
theorem d_Text_readCounts_3 : decode b_Text_readCounts 3 = .ok (.istore_n 3, 1) := by decide +kernel
theorem d_Text_readCounts_4 : decode b_Text_readCounts 4 = .ok (.iload_n 3, 1) := by decide +kernel
theorem d_Text_readCounts_5 : decode b_Text_readCounts 5 = .ok (.aload_n 0, 1) := by decide +kernel
theorem d_Text_readCounts_6 : decode b_Text_readCounts 6 = .ok (.getfield 28, 3) := by decide +kernel
theorem d_Text_readCounts_9 : decode b_Text_readCounts 9 = .ok (.if_icmp .ge 109, 3) := by decide +kernel
theorem d_Text_readCounts_12 : decode b_Text_readCounts 12 = .ok (.iload_n 3, 1) := by decide +kernel
theorem d_Text_readCounts_13 : decode b_Text_readCounts 13 = .ok (.bipush 8, 2) := by decide +kernel
theorem d_Text_readCounts_15 : decode b_Text_readCounts 15 = .ok (.if_icmp .ge 103, 3) := by decide +kernel
theorem d_Text_readCounts_18 : decode b_Text_readCounts 18 = .ok (.aload_n 0, 1) := by decide +kernel
theorem d_Text_readCounts_19 : decode b_Text_readCounts 19 = .ok (.invokevirtual 51, 3) := by decide +kernel
theorem d_Text_readCounts_22 : decode b_Text_readCounts 22 = .ok (.istore 4, 2) := by decide +kernel
theorem d_Text_readCounts_24 : decode b_Text_readCounts 24 = .ok (.iload 4, 2) := by decide +kernel
theorem d_Text_readCounts_26 : decode b_Text_readCounts 26 = .ok (.bipush (-9), 2) := by decide +kernel
theorem d_Text_readCounts_28 : decode b_Text_readCounts 28 = .ok (.if_icmp .ne 5, 3) := by decide +kernel
theorem d_Text_readCounts_31 : decode b_Text_readCounts 31 = .ok (.iconst 0, 1) := by decide +kernel
theorem d_Text_readCounts_32 : decode b_Text_readCounts 32 = .ok (.ireturn, 1) := by decide +kernel
theorem d_Text_readCounts_33 : decode b_Text_readCounts 33 = .ok (.aload_n 0, 1) := by decide +kernel
theorem d_Text_readCounts_34 : decode b_Text_readCounts 34 = .ok (.dup, 1) := by decide +kernel
theorem d_Text_readCounts_35 : decode b_Text_readCounts 35 = .ok (.getfield 25, 3) := by decide +kernel
theorem d_Text_readCounts_38 : decode b_Text_readCounts 38 = .ok (.iconst 1, 1) := by decide +kernel
theorem d_Text_readCounts_39 : decode b_Text_readCounts 39 = .ok (.iadd, 1) := by decide +kernel
theorem d_Text_readCounts_40 : decode b_Text_readCounts 40 = .ok (.putfield 25, 3) := by decide +kernel
theorem d_Text_readCounts_43 : decode b_Text_readCounts 43 = .ok (.aload_n 0, 1) := by decide +kernel
theorem d_Text_readCounts_44 : decode b_Text_readCounts 44 = .ok (.invokevirtual 51, 3) := by decide +kernel
theorem d_Text_readCounts_47 : decode b_Text_readCounts 47 = .ok (.istore 5, 2) := by decide +kernel
theorem d_Text_readCounts_49 : decode b_Text_readCounts 49 = .ok (.iload 5, 2) := by decide +kernel
theorem d_Text_readCounts_51 : decode b_Text_readCounts 51 = .ok (.bipush (-9), 2) := by decide +kernel
theorem d_Text_readCounts_53 : decode b_Text_readCounts 53 = .ok (.if_icmp .ne 5, 3) := by decide +kernel
theorem d_Text_readCounts_56 : decode b_Text_readCounts 56 = .ok (.iconst 0, 1) := by decide +kernel
theorem d_Text_readCounts_57 : decode b_Text_readCounts 57 = .ok (.ireturn, 1) := by decide +kernel
theorem d_Text_readCounts_58 : decode b_Text_readCounts 58 = .ok (.bipush 10, 2) := by decide +kernel
theorem d_Text_readCounts_60 : decode b_Text_readCounts 60 = .ok (.iload 4, 2) := by decide +kernel
theorem d_Text_readCounts_62 : decode b_Text_readCounts 62 = .ok (.imul, 1) := by decide +kernel
theorem d_Text_readCounts_63 : decode b_Text_readCounts 63 = .ok (.iload 5, 2) := by decide +kernel
theorem d_Text_readCounts_65 : decode b_Text_readCounts 65 = .ok (.iadd, 1) := by decide +kernel
theorem d_Text_readCounts_66 : decode b_Text_readCounts 66 = .ok (.istore 6, 2) := by decide +kernel
theorem d_Text_readCounts_68 : decode b_Text_readCounts 68 = .ok (.iload_n 2, 1) := by decide +kernel
theorem d_Text_readCounts_69 : decode b_Text_readCounts 69 = .ok (.iload 6, 2) := by decide +kernel
theorem d_Text_readCounts_71 : decode b_Text_readCounts 71 = .ok (.iadd, 1) := by decide +kernel
theorem d_Text_readCounts_72 : decode b_Text_readCounts 72 = .ok (.istore_n 2, 1) := by decide +kernel
theorem d_Text_readCounts_73 : decode b_Text_readCounts 73 = .ok (.iload_n 3, 1) := by decide +kernel
theorem d_Text_readCounts_74 : decode b_Text_readCounts 74 = .ok (.aload_n 0, 1) := by decide +kernel
theorem d_Text_readCounts_75 : decode b_Text_readCounts 75 = .ok (.getfield 28, 3) := by decide +kernel
theorem d_Text_readCounts_78 : decode b_Text_readCounts 78 = .ok (.iconst 1, 1) := by decide +kernel
theorem d_Text_readCounts_79 : decode b_Text_readCounts 79 = .ok (.isub, 1) := by decide +kernel
theorem d_Text_readCounts_80 : decode b_Text_readCounts 80 = .ok (.if_icmp .ne 9, 3) := by decide +kernel
theorem d_Text_readCounts_83 : decode b_Text_readCounts 83 = .ok (.iload_n 2, 1) := by decide +kernel
theorem d_Text_readCounts_84 : decode b_Text_readCounts 84 = .ok (.ifCond .ne 5, 3) := by decide +kernel
theorem d_Text_readCounts_87 : decode b_Text_readCounts 87 = .ok (.iconst 0, 1) := by decide +kernel
theorem d_Text_readCounts_88 : decode b_Text_readCounts 88 = .ok (.ireturn, 1) := by decide +kernel
theorem d_Text_readCounts_89 : decode b_Text_readCounts 89 = .ok (.aload_n 0, 1) := by decide +kernel
theorem d_Text_readCounts_90 : decode b_Text_readCounts 90 = .ok (.dup, 1) := by decide +kernel
theorem d_Text_readCounts_91 : decode b_Text_readCounts 91 = .ok (.getfield 25, 3) := by decide +kernel
theorem d_Text_readCounts_94 : decode b_Text_readCounts 94 = .ok (.iconst 1, 1) := by decide +kernel
theorem d_Text_readCounts_95 : decode b_Text_readCounts 95 = .ok (.iadd, 1) := by decide +kernel
theorem d_Text_readCounts_96 : decode b_Text_readCounts 96 = .ok (.putfield 25, 3) := by decide +kernel
theorem d_Text_readCounts_99 : decode b_Text_readCounts 99 = .ok (.aload_n 0, 1) := by decide +kernel
theorem d_Text_readCounts_100 : decode b_Text_readCounts 100 = .ok (.getfield 15, 3) := by decide +kernel
theorem d_Text_readCounts_103 : decode b_Text_readCounts 103 = .ok (.iload_n 1, 1) := by decide +kernel
theorem d_Text_readCounts_104 : decode b_Text_readCounts 104 = .ok (.bipush 8, 2) := by decide +kernel
theorem d_Text_readCounts_106 : decode b_Text_readCounts 106 = .ok (.imul, 1) := by decide +kernel
theorem d_Text_readCounts_107 : decode b_Text_readCounts 107 = .ok (.iload_n 3, 1) := by decide +kernel
theorem d_Text_readCounts_108 : decode b_Text_readCounts 108 = .ok (.iadd, 1) := by decide +kernel
theorem d_Text_readCounts_109 : decode b_Text_readCounts 109 = .ok (.iload 6, 2) := by decide +kernel
theorem d_Text_readCounts_111 : decode b_Text_readCounts 111 = .ok (.iastore, 1) := by decide +kernel
theorem d_Text_readCounts_112 : decode b_Text_readCounts 112 = .ok (.iinc 3 1, 3) := by decide +kernel
theorem d_Text_readCounts_115 : decode b_Text_readCounts 115 = .ok (.goto (-111), 3) := by decide +kernel
theorem d_Text_readCounts_118 : decode b_Text_readCounts 118 = .ok (.iconst 1, 1) := by decide +kernel
theorem d_Text_readCounts_119 : decode b_Text_readCounts 119 = .ok (.ireturn, 1) := by decide +kernel
def rm_Text_readCounts : Room := { frames := 2, cells := 0, slots := 0, locals := 41 }
theorem mf_Text_readCounts : zMV y_Text_readCounts b_Text_readCounts 7 (some .boolean) 1 := ⟨q427, qs16, q2, q428, by decide +kernel⟩
def B_Text_readCounts_89 (K : Int → zH → Prop) (L4 : Int × Int × zH → Prop) (p0 : Nat) (x1 : Int) (x2 : Int) (x3 : Int) (x6 : Int)  (h : zH) : Prop :=
  zr ((h p0 7) + 1) ∧ ((∀ h_2 : zH, h_2 = zs h p0 7 ((h p0 7) + 1) → (zr (x1 * 8) ∧ (zr ((x1 * 8) + x3) ∧ ((0 ≤ (x1 * 8) + x3 ∧ (x1 * 8) + x3 < 24) ∧ (∀ h_6 : zH, h_6 = zs h_2 (p0 + 2) (((x1 * 8) + x3).toNat) x6 → (zr (x3 + 1) ∧ (L4 (x2, x3 + 1, h_6)))))))))
set_option maxRecDepth 100000 in
theorem s_Text_readCounts_89 {Wf : Heap → List Loc → JFrame → Prop} {m : MethodId} {g : zG} {n : Nat} {H0 : Heap} (X : zX Wf m rm_Text_readCounts b_Text_readCounts "AliasStreams$Text" 7 g n H0) {K : Int → zH → Prop} (E : zEx Wf m b_Text_readCounts (some .boolean) 7 g n H0 (zPi K)) {L4 : Int × Int × zH → Prop} {p0 : Nat} {x1 : Int} {x2 : Int} {x3 : Int} {x6 : Int} (hL4 : ∀ q : Int × Int × zH, L4 q → zr q.1 → zr q.2.1 → zh (q.2.2) → zW Wf m 7 g n H0 4 [(0, .ref (g.2.2 p0)), (1, zi x1), (2, zi q.1), (3, zi q.2.1)] [] (q.2.2)) (op0 : zO n p0 9) (rx1 : zr x1) (rx2 : zr x2) (rx3 : zr x3) (rx6 : zr x6)   {h : zH} (hh : zh h) (hv : B_Text_readCounts_89 K L4 p0 x1 x2 x3 x6  h) : zW Wf m 7 g n H0 89 [(0, .ref (g.2.2 p0)), (1, zi x1), (2, zi x2), (3, zi x3), (6, zi x6)] [] h := by
  unfold B_Text_readCounts_89 at hv
  refine z_aload_n (pc := 89) (q := 0) X d_Text_readCounts_89 rfl ?_
  refine z_dup (pc := 90) X d_Text_readCounts_90 rfl ?_
  refine z_geti (pc := 91) (j := 7) X cf_Text op0 (by decide) q48 rfl rfl d_Text_readCounts_91 ?_
  refine z_iconst (pc := 94) X d_Text_readCounts_94 ?_
  obtain ⟨v_1, hv⟩ := hv
  refine z_iadd (pc := 95) X d_Text_readCounts_95 ?_
  refine z_put (pc := 96) (j := 7) X cf_Text op0 (by decide) q48 rfl rfl rfl rfl d_Text_readCounts_96 ?_
  refine z_toph (fun h_2 eh_2 => ?_)
  have zh_2 : zh h_2 := by rw [eh_2]; exact zh_set hh (zO.ne op0 (by decide)) v_1
  replace hv := hv h_2 eh_2
  refine z_aload_n (pc := 99) (q := 0) X d_Text_readCounts_99 rfl ?_
  refine z_getr (pc := 100) (j := 1) (dd := 2) X cf_Text op0 (by decide) q36 rfl rfl d_Text_readCounts_100 ?_
  refine z_iload_n (pc := 103) (q := 1) X d_Text_readCounts_103 rfl ?_
  refine z_bipush (pc := 104) X d_Text_readCounts_104 (by decide) ?_
  obtain ⟨v_3, hv⟩ := hv
  refine z_imul (pc := 106) X d_Text_readCounts_106 ?_
  refine z_iload_n (pc := 107) (q := 3) X d_Text_readCounts_107 rfl ?_
  obtain ⟨v_4, hv⟩ := hv
  refine z_iadd (pc := 108) X d_Text_readCounts_108 ?_
  refine z_iload (pc := 109) (q := 4) X d_Text_readCounts_109 rfl ?_
  obtain ⟨v_5, hv⟩ := hv
  refine z_iastj (pc := 111) (j := ((x1 * 8) + x3).toNat) X (gf_Text_1 op0) (gl_Text_1 op0) v_4 v_5 rfl d_Text_readCounts_111 ?_
  refine z_toph (fun h_6 eh_6 => ?_)
  have zh_6 : zh h_6 := by rw [eh_6]; exact zh_set zh_2 (zO.ne (gf_Text_1 op0) (by decide)) rx6
  replace hv := hv h_6 eh_6
  obtain ⟨v_7, hv⟩ := hv
  refine z_iinc (pc := 112) (q := 3) (lv' := [(3, zi (x3 + 1)), (0, .ref (g.2.2 p0)), (1, zi x1), (2, zi x2), (6, zi x6)]) X d_Text_readCounts_112 rfl (by decide) rfl ?_
  refine z_goto (pc := 115) (tgt := 4) X d_Text_readCounts_115 (by decide) ?_
  refine z_perm [1, 2, 3, 0] rfl ?_
  exact hL4 _ hv rx2 v_7 zh_6
def F_Text_readCounts_4 (K : Int → zH → Prop)  (L4 : Int × Int × zH → Prop) (p0 : Nat) (x1 : Int) (x2 : Int) (x3 : Int) (h : zH) : Prop :=
  (h p0 4 ≤ x3 → (K 1 h)) ∧ (x3 < h p0 4 → ((8 ≤ x3 → (K 1 h)) ∧ (x3 < 8 → (M_Text_digitHere p0 h (fun r_2 h_1 => (r_2 ≠ (-9) → (zr ((h_1 p0 7) + 1) ∧ ((∀ h_4 : zH, h_4 = zs h_1 p0 7 ((h_1 p0 7) + 1) → (M_Text_digitHere p0 h_4 (fun r_6 h_5 => (r_6 ≠ (-9) → (zr (10 * r_2) ∧ (zr ((10 * r_2) + r_6) ∧ ((∀ x6_9 : Int, x6_9 = (10 * r_2) + r_6 → (zr (x2 + x6_9) ∧ ((∀ x2_11 : Int, x2_11 = x2 + x6_9 → (zr ((h_5 p0 4) - 1) ∧ ((x3 ≠ (h_5 p0 4) - 1 → (B_Text_readCounts_89 K L4 p0 x1 x2_11 x3 x6_9  h_5)) ∧ (x3 = (h_5 p0 4) - 1 → ((x2_11 ≠ 0 → (B_Text_readCounts_89 K L4 p0 x1 x2_11 x3 x6_9  h_5)) ∧ (x2_11 = 0 → (K 0 h_5)))))))))))))) ∧ (r_6 = (-9) → (K 0 h_5)))))))) ∧ (r_2 = (-9) → (K 0 h_1)))))))
set_option maxRecDepth 100000 in
theorem s_Text_readCounts_4 {Wf : Heap → List Loc → JFrame → Prop} {m : MethodId} {g : zG} {n : Nat} {H0 : Heap} (X : zX Wf m rm_Text_readCounts b_Text_readCounts "AliasStreams$Text" 7 g n H0) {K : Int → zH → Prop} (E : zEx Wf m b_Text_readCounts (some .boolean) 7 g n H0 (zPi K))  {p0 : Nat} {x1 : Int}  (op0 : zO n p0 9) (rx1 : zr x1) {q0 : Int × Int × zH} (hv0 : zLoop (fun L q => F_Text_readCounts_4 K  L p0 x1 q.1 q.2.1 q.2.2) q0) : zr q0.1 → zr q0.2.1 → zh (q0.2.2) → zW Wf m 7 g n H0 4 [(0, .ref (g.2.2 p0)), (1, zi x1), (2, zi q0.1), (3, zi q0.2.1)] [] (q0.2.2) := by
  refine zLoop_use (G := fun q => zr q.1 → zr q.2.1 → zh (q.2.2) → zW Wf m 7 g n H0 4 [(0, .ref (g.2.2 p0)), (1, zi x1), (2, zi q.1), (3, zi q.2.1)] [] (q.2.2)) ?_ hv0
  rintro L4 ⟨x2, x3, h⟩ hL4 hv rx2 rx3 hh
  have hv : F_Text_readCounts_4 K  L4 p0 x1 x2 x3 h := hv
  unfold F_Text_readCounts_4 at hv
  show zW Wf m 7 g n H0 4 [(0, .ref (g.2.2 p0)), (1, zi x1), (2, zi x2), (3, zi x3)] [] h
  refine z_iload_n (pc := 4) (q := 3) X d_Text_readCounts_4 rfl ?_
  refine z_aload_n (pc := 5) (q := 0) X d_Text_readCounts_5 rfl ?_
  refine z_geti (pc := 6) (j := 4) X cf_Text op0 (by decide) q42 rfl rfl d_Text_readCounts_6 ?_
  refine z_icmp_ge (pc := 9) (tgt := 118) X rx3 (hh.1 _ _ (zO.ne op0 (by decide))) d_Text_readCounts_9 (by decide) (fun hc => ?_) (fun hc => ?_)
  · replace hv := hv.1 hc
    refine z_iconst (pc := 118) X d_Text_readCounts_118 ?_
    exact E.2.2.1 rfl _ _ _ _ (by decide) d_Text_readCounts_119 ⟨_, rfl, (show zr 1 from by decide), hh, hv⟩
  · replace hv := hv.2 hc
    refine z_iload_n (pc := 12) (q := 3) X d_Text_readCounts_12 rfl ?_
    refine z_bipush (pc := 13) X d_Text_readCounts_13 (by decide) ?_
    refine z_icmp_ge (pc := 15) (tgt := 118) X rx3 (show zr 8 from by decide) d_Text_readCounts_15 (by decide) (fun hc => ?_) (fun hc => ?_)
    · replace hv := hv.1 hc
      refine z_iconst (pc := 118) X d_Text_readCounts_118 ?_
      exact E.2.2.1 rfl _ _ _ _ (by decide) d_Text_readCounts_119 ⟨_, rfl, (show zr 1 from by decide), hh, hv⟩
    · replace hv := hv.2 hc
      refine z_aload_n (pc := 18) (q := 0) X d_Text_readCounts_18 rfl ?_
      refine z_callVi (pc := 19) (As := []) (rest := []) X (fun l hl => c_Text_digitHere hl op0 hh hv) cf_Text op0 rfl mf_Text_digitHere q417 ⟨⟨by decide, by decide⟩, rfl, rfl⟩ rfl d_Text_readCounts_19 rfl (Nat.le_of_ble_eq_true rfl) (fun r_2 h_1 rr_2 zh_1 hv => ?_)
      refine z_istore (pc := 22) (lv' := [(4, zi r_2), (0, .ref (g.2.2 p0)), (1, zi x1), (2, zi x2), (3, zi x3)]) X d_Text_readCounts_22 (by decide) rfl ?_
      refine z_iload (pc := 24) (q := 0) X d_Text_readCounts_24 rfl ?_
      refine z_bipush (pc := 26) X d_Text_readCounts_26 (by decide) ?_
      refine z_icmp_ne (pc := 28) (tgt := 33) X rr_2 (show zr (-9) from by decide) d_Text_readCounts_28 (by decide) (fun hc => ?_) (fun hc => ?_)
      · replace hv := hv.1 hc
        refine z_aload_n (pc := 33) (q := 1) X d_Text_readCounts_33 rfl ?_
        refine z_dup (pc := 34) X d_Text_readCounts_34 rfl ?_
        refine z_geti (pc := 35) (j := 7) X cf_Text op0 (by decide) q48 rfl rfl d_Text_readCounts_35 ?_
        refine z_iconst (pc := 38) X d_Text_readCounts_38 ?_
        obtain ⟨v_3, hv⟩ := hv
        refine z_iadd (pc := 39) X d_Text_readCounts_39 ?_
        refine z_put (pc := 40) (j := 7) X cf_Text op0 (by decide) q48 rfl rfl rfl rfl d_Text_readCounts_40 ?_
        refine z_toph (fun h_4 eh_4 => ?_)
        have zh_4 : zh h_4 := by rw [eh_4]; exact zh_set zh_1 (zO.ne op0 (by decide)) v_3
        replace hv := hv h_4 eh_4
        refine z_aload_n (pc := 43) (q := 1) X d_Text_readCounts_43 rfl ?_
        refine z_callVi (pc := 44) (As := []) (rest := []) X (fun l hl => c_Text_digitHere hl op0 zh_4 hv) cf_Text op0 rfl mf_Text_digitHere q417 ⟨⟨by decide, by decide⟩, rfl, rfl⟩ rfl d_Text_readCounts_44 rfl (Nat.le_of_ble_eq_true rfl) (fun r_6 h_5 rr_6 zh_5 hv => ?_)
        refine z_istore (pc := 47) (lv' := [(5, zi r_6), (4, zi r_2), (0, .ref (g.2.2 p0)), (1, zi x1), (2, zi x2), (3, zi x3)]) X d_Text_readCounts_47 (by decide) rfl ?_
        refine z_iload (pc := 49) (q := 0) X d_Text_readCounts_49 rfl ?_
        refine z_bipush (pc := 51) X d_Text_readCounts_51 (by decide) ?_
        refine z_icmp_ne (pc := 53) (tgt := 58) X rr_6 (show zr (-9) from by decide) d_Text_readCounts_53 (by decide) (fun hc => ?_) (fun hc => ?_)
        · replace hv := hv.1 hc
          refine z_bipush (pc := 58) X d_Text_readCounts_58 (by decide) ?_
          refine z_iload (pc := 60) (q := 1) X d_Text_readCounts_60 rfl ?_
          obtain ⟨v_7, hv⟩ := hv
          refine z_imul (pc := 62) X d_Text_readCounts_62 ?_
          refine z_iload (pc := 63) (q := 0) X d_Text_readCounts_63 rfl ?_
          obtain ⟨v_8, hv⟩ := hv
          refine z_iadd (pc := 65) X d_Text_readCounts_65 ?_
          refine z_topi (fun x6_9 ex6_9 => ?_)
          have rx6_9 : zr x6_9 := by rw [ex6_9]; exact v_8
          replace hv := hv x6_9 ex6_9
          refine z_istore (pc := 66) (lv' := [(6, zi x6_9), (5, zi r_6), (4, zi r_2), (0, .ref (g.2.2 p0)), (1, zi x1), (2, zi x2), (3, zi x3)]) X d_Text_readCounts_66 (by decide) rfl ?_
          refine z_iload_n (pc := 68) (q := 5) X d_Text_readCounts_68 rfl ?_
          refine z_iload (pc := 69) (q := 0) X d_Text_readCounts_69 rfl ?_
          obtain ⟨v_10, hv⟩ := hv
          refine z_iadd (pc := 71) X d_Text_readCounts_71 ?_
          refine z_topi (fun x2_11 ex2_11 => ?_)
          have rx2_11 : zr x2_11 := by rw [ex2_11]; exact v_10
          replace hv := hv x2_11 ex2_11
          refine z_istore_n (pc := 72) (lv' := [(2, zi x2_11), (6, zi x6_9), (5, zi r_6), (4, zi r_2), (0, .ref (g.2.2 p0)), (1, zi x1), (3, zi x3)]) X d_Text_readCounts_72 (by decide) rfl ?_
          refine z_iload_n (pc := 73) (q := 6) X d_Text_readCounts_73 rfl ?_
          refine z_aload_n (pc := 74) (q := 4) X d_Text_readCounts_74 rfl ?_
          refine z_geti (pc := 75) (j := 4) X cf_Text op0 (by decide) q42 rfl rfl d_Text_readCounts_75 ?_
          refine z_iconst (pc := 78) X d_Text_readCounts_78 ?_
          obtain ⟨v_12, hv⟩ := hv
          refine z_isub (pc := 79) X d_Text_readCounts_79 ?_
          refine z_icmp_ne (pc := 80) (tgt := 89) X rx3 v_12 d_Text_readCounts_80 (by decide) (fun hc => ?_) (fun hc => ?_)
          · replace hv := hv.1 hc
            refine z_perm [4, 5, 0, 6, 1] rfl ?_
            exact s_Text_readCounts_89 X E hL4 op0 rx1 rx2_11 rx3 rx6_9  zh_5 hv
          · replace hv := hv.2 hc
            refine z_iload_n (pc := 83) (q := 0) X d_Text_readCounts_83 rfl ?_
            refine z_if_ne (pc := 84) (tgt := 89) X rx2_11 d_Text_readCounts_84 (by decide) (fun hc => ?_) (fun hc => ?_)
            · replace hv := hv.1 hc
              refine z_perm [4, 5, 0, 6, 1] rfl ?_
              exact s_Text_readCounts_89 X E hL4 op0 rx1 rx2_11 rx3 rx6_9  zh_5 hv
            · replace hv := hv.2 hc
              refine z_iconst (pc := 87) X d_Text_readCounts_87 ?_
              exact E.2.2.1 rfl _ _ _ _ (by decide) d_Text_readCounts_88 ⟨_, rfl, (show zr 0 from by decide), zh_5, hv⟩
        · replace hv := hv.2 hc
          refine z_iconst (pc := 56) X d_Text_readCounts_56 ?_
          exact E.2.2.1 rfl _ _ _ _ (by decide) d_Text_readCounts_57 ⟨_, rfl, (show zr 0 from by decide), zh_5, hv⟩
      · replace hv := hv.2 hc
        refine z_iconst (pc := 31) X d_Text_readCounts_31 ?_
        exact E.2.2.1 rfl _ _ _ _ (by decide) d_Text_readCounts_32 ⟨_, rfl, (show zr 0 from by decide), zh_1, hv⟩
def M_Text_readCounts (p0 : Nat) (x1 : Int) (h : zH) (K : Int → zH → Prop) : Prop :=
  zLoop (fun L q => F_Text_readCounts_4 K  L p0 x1 q.1 q.2.1 q.2.2) (0, 0, h)
set_option maxRecDepth 100000 in
theorem c_Text_readCounts {l : Launch} (hfl : l.flags = flags0) {g : zG} {n : Nat} {p0 : Nat} {x1 : Int} (op0 : zO n p0 9) (rx1 : zr x1) {h : zH} (hh : zh h) {K : Int → zH → Prop} (hv : M_Text_readCounts p0 x1 h K) : zMet l y_Text_readCounts b_Text_readCounts 7 (some .boolean) rm_Text_readCounts g n [.ref (g.2.2 p0), zi x1] h (zPi K) := by
  refine zMet_of (own := "AliasStreams$Text") hfl (by decide) rfl (Nat.le_of_ble_eq_true rfl) (fun Wf m H0 X E => ?_)
  unfold M_Text_readCounts at hv
  show zW Wf m 7 g n H0 0 [(0, .ref (g.2.2 p0)), (1, zi x1)] [] h
  refine z_iconst (pc := 0) X d_Text_readCounts_0 ?_
  refine z_istore_n (pc := 1) (lv' := [(2, zi 0), (0, .ref (g.2.2 p0)), (1, zi x1)]) X d_Text_readCounts_1 (by decide) rfl ?_
  refine z_iconst (pc := 2) X d_Text_readCounts_2 ?_
  refine z_istore_n (pc := 3) (lv' := [(3, zi 0), (2, zi 0), (0, .ref (g.2.2 p0)), (1, zi x1)]) X d_Text_readCounts_3 (by decide) rfl ?_
  refine z_perm [2, 3, 1, 0] rfl ?_
  exact s_Text_readCounts_4 X E  op0 rx1 hv (show zr 0 from by decide) (show zr 0 from by decide) hh
theorem d_Text_readModels_0 : decode b_Text_readModels 0 = .ok (.iconst 0, 1) := by decide +kernel
theorem d_Text_readModels_1 : decode b_Text_readModels 1 = .ok (.istore_n 1, 1) := by decide +kernel
theorem d_Text_readModels_2 : decode b_Text_readModels 2 = .ok (.iload_n 1, 1) := by decide +kernel
theorem d_Text_readModels_3 : decode b_Text_readModels 3 = .ok (.iconst 3, 1) := by decide +kernel
theorem d_Text_readModels_4 : decode b_Text_readModels 4 = .ok (.if_icmp .ge 48, 3) := by decide +kernel
theorem d_Text_readModels_7 : decode b_Text_readModels 7 = .ok (.aload_n 0, 1) := by decide +kernel
theorem d_Text_readModels_8 : decode b_Text_readModels 8 = .ok (.invokevirtual 47, 3) := by decide +kernel
theorem d_Text_readModels_11 : decode b_Text_readModels 11 = .ok (.bipush 109, 2) := by decide +kernel
theorem d_Text_readModels_13 : decode b_Text_readModels 13 = .ok (.if_icmp .ne 39, 3) := by decide +kernel
theorem d_Text_readModels_16 : decode b_Text_readModels 16 = .ok (.aload_n 0, 1) := by decide +kernel
theorem d_Text_readModels_17 : decode b_Text_readModels 17 = .ok (.dup, 1) := by decide +kernel
theorem d_Text_readModels_18 : decode b_Text_readModels 18 = .ok (.getfield 25, 3) := by decide +kernel
theorem d_Text_readModels_21 : decode b_Text_readModels 21 = .ok (.iconst 1, 1) := by decide +kernel
theorem d_Text_readModels_22 : decode b_Text_readModels 22 = .ok (.iadd, 1) := by decide +kernel
theorem d_Text_readModels_23 : decode b_Text_readModels 23 = .ok (.putfield 25, 3) := by decide +kernel
theorem d_Text_readModels_26 : decode b_Text_readModels 26 = .ok (.aload_n 0, 1) := by decide +kernel
theorem d_Text_readModels_27 : decode b_Text_readModels 27 = .ok (.iload_n 1, 1) := by decide +kernel
theorem d_Text_readModels_28 : decode b_Text_readModels 28 = .ok (.invokevirtual 54, 3) := by decide +kernel
theorem d_Text_readModels_31 : decode b_Text_readModels 31 = .ok (.ifCond .ne 5, 3) := by decide +kernel
theorem d_Text_readModels_34 : decode b_Text_readModels 34 = .ok (.iconst 0, 1) := by decide +kernel
theorem d_Text_readModels_35 : decode b_Text_readModels 35 = .ok (.ireturn, 1) := by decide +kernel
theorem d_Text_readModels_36 : decode b_Text_readModels 36 = .ok (.aload_n 0, 1) := by decide +kernel
theorem d_Text_readModels_37 : decode b_Text_readModels 37 = .ok (.dup, 1) := by decide +kernel
theorem d_Text_readModels_38 : decode b_Text_readModels 38 = .ok (.getfield 31, 3) := by decide +kernel
theorem d_Text_readModels_41 : decode b_Text_readModels 41 = .ok (.iconst 1, 1) := by decide +kernel
theorem d_Text_readModels_42 : decode b_Text_readModels 42 = .ok (.iadd, 1) := by decide +kernel
theorem d_Text_readModels_43 : decode b_Text_readModels 43 = .ok (.putfield 31, 3) := by decide +kernel
theorem d_Text_readModels_46 : decode b_Text_readModels 46 = .ok (.iinc 1 1, 3) := by decide +kernel
theorem d_Text_readModels_49 : decode b_Text_readModels 49 = .ok (.goto (-47), 3) := by decide +kernel
theorem d_Text_readModels_52 : decode b_Text_readModels 52 = .ok (.aload_n 0, 1) := by decide +kernel
theorem d_Text_readModels_53 : decode b_Text_readModels 53 = .ok (.getfield 31, 3) := by decide +kernel
theorem d_Text_readModels_56 : decode b_Text_readModels 56 = .ok (.ifCond .le 7, 3) := by decide +kernel
theorem d_Text_readModels_59 : decode b_Text_readModels 59 = .ok (.iconst 1, 1) := by decide +kernel
theorem d_Text_readModels_60 : decode b_Text_readModels 60 = .ok (.goto 4, 3) := by decide +kernel
theorem d_Text_readModels_63 : decode b_Text_readModels 63 = .ok (.iconst 0, 1) := by decide +kernel
theorem d_Text_readModels_64 : decode b_Text_readModels 64 = .ok (.ireturn, 1) := by decide +kernel
def rm_Text_readModels : Room := { frames := 3, cells := 0, slots := 0, locals := 67 }
theorem mf_Text_readModels : zMV y_Text_readModels b_Text_readModels 2 (some .boolean) 0 := ⟨q423, qs15, q2, q424, by decide +kernel⟩
def B_Text_readModels_52 (K : Int → zH → Prop)  (p0 : Nat)  (h : zH) : Prop :=
  (h p0 5 ≤ 0 → (K 0 h)) ∧ (0 < h p0 5 → (K 1 h))
set_option maxRecDepth 100000 in
theorem s_Text_readModels_52 {Wf : Heap → List Loc → JFrame → Prop} {m : MethodId} {g : zG} {n : Nat} {H0 : Heap} (X : zX Wf m rm_Text_readModels b_Text_readModels "AliasStreams$Text" 2 g n H0) {K : Int → zH → Prop} (E : zEx Wf m b_Text_readModels (some .boolean) 2 g n H0 (zPi K))  {p0 : Nat}  (op0 : zO n p0 9)   {h : zH} (hh : zh h) (hv : B_Text_readModels_52 K  p0  h) : zW Wf m 2 g n H0 52 [(0, .ref (g.2.2 p0))] [] h := by
  unfold B_Text_readModels_52 at hv
  refine z_aload_n (pc := 52) (q := 0) X d_Text_readModels_52 rfl ?_
  refine z_geti (pc := 53) (j := 5) X cf_Text op0 (by decide) q44 rfl rfl d_Text_readModels_53 ?_
  refine z_if_le (pc := 56) (tgt := 63) X (hh.1 _ _ (zO.ne op0 (by decide))) d_Text_readModels_56 (by decide) (fun hc => ?_) (fun hc => ?_)
  · replace hv := hv.1 hc
    refine z_iconst (pc := 63) X d_Text_readModels_63 ?_
    exact E.2.2.1 rfl _ _ _ _ (by decide) d_Text_readModels_64 ⟨_, rfl, (show zr 0 from by decide), hh, hv⟩
  · replace hv := hv.2 hc
    refine z_iconst (pc := 59) X d_Text_readModels_59 ?_
    refine z_goto (pc := 60) (tgt := 64) X d_Text_readModels_60 (by decide) ?_
    exact E.2.2.1 rfl _ _ _ _ (by decide) d_Text_readModels_64 ⟨_, rfl, (show zr 1 from by decide), hh, hv⟩
def F_Text_readModels_2 (K : Int → zH → Prop)  (L2 : Int × zH → Prop) (p0 : Nat) (x1 : Int) (h : zH) : Prop :=
  (3 ≤ x1 → (B_Text_readModels_52 K  p0  h)) ∧ (x1 < 3 → (M_Text_here p0 h (fun r_2 h_1 => (r_2 ≠ 109 → (B_Text_readModels_52 K  p0  h_1)) ∧ (r_2 = 109 → (zr ((h_1 p0 7) + 1) ∧ ((∀ h_4 : zH, h_4 = zs h_1 p0 7 ((h_1 p0 7) + 1) → (M_Text_readCounts p0 x1 h_4 (fun r_6 h_5 => (r_6 ≠ 0 → (zr ((h_5 p0 5) + 1) ∧ ((∀ h_8 : zH, h_8 = zs h_5 p0 5 ((h_5 p0 5) + 1) → (zr (x1 + 1) ∧ (L2 (x1 + 1, h_8))))))) ∧ (r_6 = 0 → (K 0 h_5)))))))))))
set_option maxRecDepth 100000 in
theorem s_Text_readModels_2 {Wf : Heap → List Loc → JFrame → Prop} {m : MethodId} {g : zG} {n : Nat} {H0 : Heap} (X : zX Wf m rm_Text_readModels b_Text_readModels "AliasStreams$Text" 2 g n H0) {K : Int → zH → Prop} (E : zEx Wf m b_Text_readModels (some .boolean) 2 g n H0 (zPi K))  {p0 : Nat}  (op0 : zO n p0 9) {q0 : Int × zH} (hv0 : zLoop (fun L q => F_Text_readModels_2 K  L p0 q.1 q.2) q0) : zr q0.1 → zh (q0.2) → zW Wf m 2 g n H0 2 [(0, .ref (g.2.2 p0)), (1, zi q0.1)] [] (q0.2) := by
  refine zLoop_use (G := fun q => zr q.1 → zh (q.2) → zW Wf m 2 g n H0 2 [(0, .ref (g.2.2 p0)), (1, zi q.1)] [] (q.2)) ?_ hv0
  rintro L2 ⟨x1, h⟩ hL2 hv rx1 hh
  have hv : F_Text_readModels_2 K  L2 p0 x1 h := hv
  unfold F_Text_readModels_2 at hv
  show zW Wf m 2 g n H0 2 [(0, .ref (g.2.2 p0)), (1, zi x1)] [] h
  refine z_iload_n (pc := 2) (q := 1) X d_Text_readModels_2 rfl ?_
  refine z_iconst (pc := 3) X d_Text_readModels_3 ?_
  refine z_icmp_ge (pc := 4) (tgt := 52) X rx1 (show zr 3 from by decide) d_Text_readModels_4 (by decide) (fun hc => ?_) (fun hc => ?_)
  · replace hv := hv.1 hc
    refine z_perm [0] rfl ?_
    exact s_Text_readModels_52 X E  op0  hh hv
  · replace hv := hv.2 hc
    refine z_aload_n (pc := 7) (q := 0) X d_Text_readModels_7 rfl ?_
    refine z_callVi (pc := 8) (As := []) (rest := []) X (fun l hl => c_Text_here hl op0 hh hv) cf_Text op0 rfl mf_Text_here q413 ⟨⟨by decide, by decide⟩, rfl, rfl⟩ rfl d_Text_readModels_8 rfl (Nat.le_of_ble_eq_true rfl) (fun r_2 h_1 rr_2 zh_1 hv => ?_)
    refine z_bipush (pc := 11) X d_Text_readModels_11 (by decide) ?_
    refine z_icmp_ne (pc := 13) (tgt := 52) X rr_2 (show zr 109 from by decide) d_Text_readModels_13 (by decide) (fun hc => ?_) (fun hc => ?_)
    · replace hv := hv.1 hc
      refine z_perm [0] rfl ?_
      exact s_Text_readModels_52 X E  op0  zh_1 hv
    · replace hv := hv.2 hc
      refine z_aload_n (pc := 16) (q := 0) X d_Text_readModels_16 rfl ?_
      refine z_dup (pc := 17) X d_Text_readModels_17 rfl ?_
      refine z_geti (pc := 18) (j := 7) X cf_Text op0 (by decide) q48 rfl rfl d_Text_readModels_18 ?_
      refine z_iconst (pc := 21) X d_Text_readModels_21 ?_
      obtain ⟨v_3, hv⟩ := hv
      refine z_iadd (pc := 22) X d_Text_readModels_22 ?_
      refine z_put (pc := 23) (j := 7) X cf_Text op0 (by decide) q48 rfl rfl rfl rfl d_Text_readModels_23 ?_
      refine z_toph (fun h_4 eh_4 => ?_)
      have zh_4 : zh h_4 := by rw [eh_4]; exact zh_set zh_1 (zO.ne op0 (by decide)) v_3
      replace hv := hv h_4 eh_4
      refine z_aload_n (pc := 26) (q := 0) X d_Text_readModels_26 rfl ?_
      refine z_iload_n (pc := 27) (q := 1) X d_Text_readModels_27 rfl ?_
      refine z_callVi (pc := 28) (As := [zi x1]) (rest := []) X (fun l hl => c_Text_readCounts hl op0 rx1 zh_4 hv) cf_Text op0 rfl mf_Text_readCounts q425 ⟨⟨by decide, by decide⟩, rfl, rfl⟩ rfl d_Text_readModels_28 rfl (Nat.le_of_ble_eq_true rfl) (fun r_6 h_5 rr_6 zh_5 hv => ?_)
      refine z_if_ne (pc := 31) (tgt := 36) X rr_6 d_Text_readModels_31 (by decide) (fun hc => ?_) (fun hc => ?_)
      · replace hv := hv.1 hc
        refine z_aload_n (pc := 36) (q := 0) X d_Text_readModels_36 rfl ?_
        refine z_dup (pc := 37) X d_Text_readModels_37 rfl ?_
        refine z_geti (pc := 38) (j := 5) X cf_Text op0 (by decide) q44 rfl rfl d_Text_readModels_38 ?_
        refine z_iconst (pc := 41) X d_Text_readModels_41 ?_
        obtain ⟨v_7, hv⟩ := hv
        refine z_iadd (pc := 42) X d_Text_readModels_42 ?_
        refine z_put (pc := 43) (j := 5) X cf_Text op0 (by decide) q44 rfl rfl rfl rfl d_Text_readModels_43 ?_
        refine z_toph (fun h_8 eh_8 => ?_)
        have zh_8 : zh h_8 := by rw [eh_8]; exact zh_set zh_5 (zO.ne op0 (by decide)) v_7
        replace hv := hv h_8 eh_8
        obtain ⟨v_9, hv⟩ := hv
        refine z_iinc (pc := 46) (q := 1) (lv' := [(1, zi (x1 + 1)), (0, .ref (g.2.2 p0))]) X d_Text_readModels_46 rfl (by decide) rfl ?_
        refine z_goto (pc := 49) (tgt := 2) X d_Text_readModels_49 (by decide) ?_
        refine z_perm [1, 0] rfl ?_
        exact hL2 _ hv v_9 zh_8
      · replace hv := hv.2 hc
        refine z_iconst (pc := 34) X d_Text_readModels_34 ?_
        exact E.2.2.1 rfl _ _ _ _ (by decide) d_Text_readModels_35 ⟨_, rfl, (show zr 0 from by decide), zh_5, hv⟩
def M_Text_readModels (p0 : Nat) (h : zH) (K : Int → zH → Prop) : Prop :=
  zLoop (fun L q => F_Text_readModels_2 K  L p0 q.1 q.2) (0, h)
set_option maxRecDepth 100000 in
theorem c_Text_readModels {l : Launch} (hfl : l.flags = flags0) {g : zG} {n : Nat} {p0 : Nat} (op0 : zO n p0 9) {h : zH} (hh : zh h) {K : Int → zH → Prop} (hv : M_Text_readModels p0 h K) : zMet l y_Text_readModels b_Text_readModels 2 (some .boolean) rm_Text_readModels g n [.ref (g.2.2 p0)] h (zPi K) := by
  refine zMet_of (own := "AliasStreams$Text") hfl (by decide) rfl (Nat.le_of_ble_eq_true rfl) (fun Wf m H0 X E => ?_)
  unfold M_Text_readModels at hv
  show zW Wf m 2 g n H0 0 [(0, .ref (g.2.2 p0))] [] h
  refine z_iconst (pc := 0) X d_Text_readModels_0 ?_
  refine z_istore_n (pc := 1) (lv' := [(1, zi 0), (0, .ref (g.2.2 p0))]) X d_Text_readModels_1 (by decide) rfl ?_
  refine z_perm [1, 0] rfl ?_
  exact s_Text_readModels_2 X E  op0 hv (show zr 0 from by decide) hh
theorem d_Text_itemHere_0 : decode b_Text_itemHere 0 = .ok (.aload_n 0, 1) := by decide +kernel
theorem d_Text_itemHere_1 : decode b_Text_itemHere 1 = .ok (.invokevirtual 47, 3) := by decide +kernel
theorem d_Text_itemHere_4 : decode b_Text_itemHere 4 = .ok (.istore_n 1, 1) := by decide +kernel
theorem d_Text_itemHere_5 : decode b_Text_itemHere 5 = .ok (.iload_n 1, 1) := by decide +kernel
theorem d_Text_itemHere_6 : decode b_Text_itemHere 6 = .ok (.bipush 97, 2) := by decide +kernel
theorem d_Text_itemHere_8 : decode b_Text_itemHere 8 = .ok (.if_icmp .lt 19, 3) := by decide +kernel
theorem d_Text_itemHere_11 : decode b_Text_itemHere 11 = .ok (.iload_n 1, 1) := by decide +kernel
theorem d_Text_itemHere_12 : decode b_Text_itemHere 12 = .ok (.bipush 97, 2) := by decide +kernel
theorem d_Text_itemHere_14 : decode b_Text_itemHere 14 = .ok (.aload_n 0, 1) := by decide +kernel
theorem d_Text_itemHere_15 : decode b_Text_itemHere 15 = .ok (.getfield 28, 3) := by decide +kernel
theorem d_Text_itemHere_18 : decode b_Text_itemHere 18 = .ok (.iadd, 1) := by decide +kernel
theorem d_Text_itemHere_19 : decode b_Text_itemHere 19 = .ok (.if_icmp .ge 8, 3) := by decide +kernel
theorem d_Text_itemHere_22 : decode b_Text_itemHere 22 = .ok (.iload_n 1, 1) := by decide +kernel
theorem d_Text_itemHere_23 : decode b_Text_itemHere 23 = .ok (.bipush 97, 2) := by decide +kernel
theorem d_Text_itemHere_25 : decode b_Text_itemHere 25 = .ok (.isub, 1) := by decide +kernel
theorem d_Text_itemHere_26 : decode b_Text_itemHere 26 = .ok (.ireturn, 1) := by decide +kernel
theorem d_Text_itemHere_27 : decode b_Text_itemHere 27 = .ok (.iload_n 1, 1) := by decide +kernel
theorem d_Text_itemHere_28 : decode b_Text_itemHere 28 = .ok (.bipush 48, 2) := by decide +kernel
theorem d_Text_itemHere_30 : decode b_Text_itemHere 30 = .ok (.if_icmp .lt 22, 3) := by decide +kernel
theorem d_Text_itemHere_33 : decode b_Text_itemHere 33 = .ok (.iload_n 1, 1) := by decide +kernel
theorem d_Text_itemHere_34 : decode b_Text_itemHere 34 = .ok (.bipush 48, 2) := by decide +kernel
theorem d_Text_itemHere_36 : decode b_Text_itemHere 36 = .ok (.aload_n 0, 1) := by decide +kernel
theorem d_Text_itemHere_37 : decode b_Text_itemHere 37 = .ok (.getfield 31, 3) := by decide +kernel
theorem d_Text_itemHere_40 : decode b_Text_itemHere 40 = .ok (.iadd, 1) := by decide +kernel
theorem d_Text_itemHere_41 : decode b_Text_itemHere 41 = .ok (.if_icmp .ge 11, 3) := by decide +kernel
theorem d_Text_itemHere_44 : decode b_Text_itemHere 44 = .ok (.bipush 10, 2) := by decide +kernel
theorem d_Text_itemHere_46 : decode b_Text_itemHere 46 = .ok (.iload_n 1, 1) := by decide +kernel
theorem d_Text_itemHere_47 : decode b_Text_itemHere 47 = .ok (.iadd, 1) := by decide +kernel
theorem d_Text_itemHere_48 : decode b_Text_itemHere 48 = .ok (.bipush 48, 2) := by decide +kernel
theorem d_Text_itemHere_50 : decode b_Text_itemHere 50 = .ok (.isub, 1) := by decide +kernel
theorem d_Text_itemHere_51 : decode b_Text_itemHere 51 = .ok (.ireturn, 1) := by decide +kernel
theorem d_Text_itemHere_52 : decode b_Text_itemHere 52 = .ok (.bipush (-9), 2) := by decide +kernel
theorem d_Text_itemHere_54 : decode b_Text_itemHere 54 = .ok (.ireturn, 1) := by decide +kernel
def rm_Text_itemHere : Room := { frames := 1, cells := 0, slots := 0, locals := 20 }
theorem mf_Text_itemHere : zMV y_Text_itemHere b_Text_itemHere 2 (some .int) 0 := ⟨q435, qs18, q2, q436, by decide +kernel⟩
def B_Text_itemHere_27 (K : Int → zH → Prop)  (p0 : Nat) (x1 : Int)  (h : zH) : Prop :=
  (x1 < 48 → (K (-9) h)) ∧ (48 ≤ x1 → (zr (48 + (h p0 5)) ∧ ((48 + (h p0 5) ≤ x1 → (K (-9) h)) ∧ (x1 < 48 + (h p0 5) → (zr (10 + x1) ∧ (zr ((10 + x1) - 48) ∧ (K ((10 + x1) - 48) h)))))))
set_option maxRecDepth 100000 in
theorem s_Text_itemHere_27 {Wf : Heap → List Loc → JFrame → Prop} {m : MethodId} {g : zG} {n : Nat} {H0 : Heap} (X : zX Wf m rm_Text_itemHere b_Text_itemHere "AliasStreams$Text" 2 g n H0) {K : Int → zH → Prop} (E : zEx Wf m b_Text_itemHere (some .int) 2 g n H0 (zPi K))  {p0 : Nat} {x1 : Int}  (op0 : zO n p0 9) (rx1 : zr x1)   {h : zH} (hh : zh h) (hv : B_Text_itemHere_27 K  p0 x1  h) : zW Wf m 2 g n H0 27 [(0, .ref (g.2.2 p0)), (1, zi x1)] [] h := by
  unfold B_Text_itemHere_27 at hv
  refine z_iload_n (pc := 27) (q := 1) X d_Text_itemHere_27 rfl ?_
  refine z_bipush (pc := 28) X d_Text_itemHere_28 (by decide) ?_
  refine z_icmp_lt (pc := 30) (tgt := 52) X rx1 (show zr 48 from by decide) d_Text_itemHere_30 (by decide) (fun hc => ?_) (fun hc => ?_)
  · replace hv := hv.1 hc
    refine z_bipush (pc := 52) X d_Text_itemHere_52 (by decide) ?_
    exact E.2.1 rfl _ _ _ _ d_Text_itemHere_54 ⟨_, rfl, (show zr (-9) from by decide), hh, hv⟩
  · replace hv := hv.2 hc
    refine z_iload_n (pc := 33) (q := 1) X d_Text_itemHere_33 rfl ?_
    refine z_bipush (pc := 34) X d_Text_itemHere_34 (by decide) ?_
    refine z_aload_n (pc := 36) (q := 0) X d_Text_itemHere_36 rfl ?_
    refine z_geti (pc := 37) (j := 5) X cf_Text op0 (by decide) q44 rfl rfl d_Text_itemHere_37 ?_
    obtain ⟨v_1, hv⟩ := hv
    refine z_iadd (pc := 40) X d_Text_itemHere_40 ?_
    refine z_icmp_ge (pc := 41) (tgt := 52) X rx1 v_1 d_Text_itemHere_41 (by decide) (fun hc => ?_) (fun hc => ?_)
    · replace hv := hv.1 hc
      refine z_bipush (pc := 52) X d_Text_itemHere_52 (by decide) ?_
      exact E.2.1 rfl _ _ _ _ d_Text_itemHere_54 ⟨_, rfl, (show zr (-9) from by decide), hh, hv⟩
    · replace hv := hv.2 hc
      refine z_bipush (pc := 44) X d_Text_itemHere_44 (by decide) ?_
      refine z_iload_n (pc := 46) (q := 1) X d_Text_itemHere_46 rfl ?_
      obtain ⟨v_2, hv⟩ := hv
      refine z_iadd (pc := 47) X d_Text_itemHere_47 ?_
      refine z_bipush (pc := 48) X d_Text_itemHere_48 (by decide) ?_
      obtain ⟨v_3, hv⟩ := hv
      refine z_isub (pc := 50) X d_Text_itemHere_50 ?_
      exact E.2.1 rfl _ _ _ _ d_Text_itemHere_51 ⟨_, rfl, v_3, hh, hv⟩
def M_Text_itemHere (p0 : Nat) (h : zH) (K : Int → zH → Prop) : Prop :=
  M_Text_here p0 h (fun r_2 h_1 => (r_2 < 97 → (B_Text_itemHere_27 K  p0 r_2  h_1)) ∧ (97 ≤ r_2 → (zr (97 + (h_1 p0 4)) ∧ ((97 + (h_1 p0 4) ≤ r_2 → (B_Text_itemHere_27 K  p0 r_2  h_1)) ∧ (r_2 < 97 + (h_1 p0 4) → (zr (r_2 - 97) ∧ (K (r_2 - 97) h_1)))))))
set_option maxRecDepth 100000 in
theorem c_Text_itemHere {l : Launch} (hfl : l.flags = flags0) {g : zG} {n : Nat} {p0 : Nat} (op0 : zO n p0 9) {h : zH} (hh : zh h) {K : Int → zH → Prop} (hv : M_Text_itemHere p0 h K) : zMet l y_Text_itemHere b_Text_itemHere 2 (some .int) rm_Text_itemHere g n [.ref (g.2.2 p0)] h (zPi K) := by
  refine zMet_of (own := "AliasStreams$Text") hfl (by decide) rfl (Nat.le_of_ble_eq_true rfl) (fun Wf m H0 X E => ?_)
  unfold M_Text_itemHere at hv
  show zW Wf m 2 g n H0 0 [(0, .ref (g.2.2 p0))] [] h
  refine z_aload_n (pc := 0) (q := 0) X d_Text_itemHere_0 rfl ?_
  refine z_callVi (pc := 1) (As := []) (rest := []) X (fun l hl => c_Text_here hl op0 hh hv) cf_Text op0 rfl mf_Text_here q413 ⟨⟨by decide, by decide⟩, rfl, rfl⟩ rfl d_Text_itemHere_1 rfl (Nat.le_of_ble_eq_true rfl) (fun r_2 h_1 rr_2 zh_1 hv => ?_)
  refine z_istore_n (pc := 4) (lv' := [(1, zi r_2), (0, .ref (g.2.2 p0))]) X d_Text_itemHere_4 (by decide) rfl ?_
  refine z_iload_n (pc := 5) (q := 0) X d_Text_itemHere_5 rfl ?_
  refine z_bipush (pc := 6) X d_Text_itemHere_6 (by decide) ?_
  refine z_icmp_lt (pc := 8) (tgt := 27) X rr_2 (show zr 97 from by decide) d_Text_itemHere_8 (by decide) (fun hc => ?_) (fun hc => ?_)
  · replace hv := hv.1 hc
    refine z_perm [1, 0] rfl ?_
    exact s_Text_itemHere_27 X E  op0 rr_2  zh_1 hv
  · replace hv := hv.2 hc
    refine z_iload_n (pc := 11) (q := 0) X d_Text_itemHere_11 rfl ?_
    refine z_bipush (pc := 12) X d_Text_itemHere_12 (by decide) ?_
    refine z_aload_n (pc := 14) (q := 1) X d_Text_itemHere_14 rfl ?_
    refine z_geti (pc := 15) (j := 4) X cf_Text op0 (by decide) q42 rfl rfl d_Text_itemHere_15 ?_
    obtain ⟨v_3, hv⟩ := hv
    refine z_iadd (pc := 18) X d_Text_itemHere_18 ?_
    refine z_icmp_ge (pc := 19) (tgt := 27) X rr_2 v_3 d_Text_itemHere_19 (by decide) (fun hc => ?_) (fun hc => ?_)
    · replace hv := hv.1 hc
      refine z_perm [1, 0] rfl ?_
      exact s_Text_itemHere_27 X E  op0 rr_2  zh_1 hv
    · replace hv := hv.2 hc
      refine z_iload_n (pc := 22) (q := 0) X d_Text_itemHere_22 rfl ?_
      refine z_bipush (pc := 23) X d_Text_itemHere_23 (by decide) ?_
      obtain ⟨v_4, hv⟩ := hv
      refine z_isub (pc := 25) X d_Text_itemHere_25 ?_
      exact E.2.1 rfl _ _ _ _ d_Text_itemHere_26 ⟨_, rfl, v_4, zh_1, hv⟩
theorem d_Text_readItems_0 : decode b_Text_readItems 0 = .ok (.aload_n 0, 1) := by decide +kernel
theorem d_Text_readItems_1 : decode b_Text_readItems 1 = .ok (.invokevirtual 47, 3) := by decide +kernel
theorem d_Text_readItems_4 : decode b_Text_readItems 4 = .ok (.iconst (-1), 1) := by decide +kernel
theorem d_Text_readItems_5 : decode b_Text_readItems 5 = .ok (.if_icmp .ne 5, 3) := by decide +kernel
theorem d_Text_readItems_8 : decode b_Text_readItems 8 = .ok (.iconst 1, 1) := by decide +kernel
theorem d_Text_readItems_9 : decode b_Text_readItems 9 = .ok (.ireturn, 1) := by decide +kernel
theorem d_Text_readItems_10 : decode b_Text_readItems 10 = .ok (.aload_n 0, 1) := by decide +kernel
theorem d_Text_readItems_11 : decode b_Text_readItems 11 = .ok (.invokevirtual 47, 3) := by decide +kernel
theorem d_Text_readItems_14 : decode b_Text_readItems 14 = .ok (.bipush 58, 2) := by decide +kernel
theorem d_Text_readItems_16 : decode b_Text_readItems 16 = .ok (.if_icmp .eq 5, 3) := by decide +kernel
theorem d_Text_readItems_19 : decode b_Text_readItems 19 = .ok (.iconst 0, 1) := by decide +kernel
theorem d_Text_readItems_20 : decode b_Text_readItems 20 = .ok (.ireturn, 1) := by decide +kernel
theorem d_Text_readItems_21 : decode b_Text_readItems 21 = .ok (.aload_n 0, 1) := by decide +kernel
theorem d_Text_readItems_22 : decode b_Text_readItems 22 = .ok (.dup, 1) := by decide +kernel
theorem d_Text_readItems_23 : decode b_Text_readItems 23 = .ok (.getfield 25, 3) := by decide +kernel
theorem d_Text_readItems_26 : decode b_Text_readItems 26 = .ok (.iconst 1, 1) := by decide +kernel
theorem d_Text_readItems_27 : decode b_Text_readItems 27 = .ok (.iadd, 1) := by decide +kernel
theorem d_Text_readItems_28 : decode b_Text_readItems 28 = .ok (.putfield 25, 3) := by decide +kernel
theorem d_Text_readItems_31 : decode b_Text_readItems 31 = .ok (.iconst 0, 1) := by decide +kernel
theorem d_Text_readItems_32 : decode b_Text_readItems 32 = .ok (.istore_n 1, 1) := by decide +kernel
theorem d_Text_readItems_33 : decode b_Text_readItems 33 = .ok (.iload_n 1, 1) := by decide +kernel
theorem d_Text_readItems_34 : decode b_Text_readItems 34 = .ok (.bipush 40, 2) := by decide +kernel
theorem d_Text_readItems_36 : decode b_Text_readItems 36 = .ok (.if_icmp .ge 47, 3) := by decide +kernel
theorem d_Text_readItems_39 : decode b_Text_readItems 39 = .ok (.aload_n 0, 1) := by decide +kernel
theorem d_Text_readItems_40 : decode b_Text_readItems 40 = .ok (.invokevirtual 58, 3) := by decide +kernel
theorem d_Text_readItems_43 : decode b_Text_readItems 43 = .ok (.istore_n 2, 1) := by decide +kernel
theorem d_Text_readItems_44 : decode b_Text_readItems 44 = .ok (.iload_n 2, 1) := by decide +kernel
theorem d_Text_readItems_45 : decode b_Text_readItems 45 = .ok (.bipush (-9), 2) := by decide +kernel
theorem d_Text_readItems_47 : decode b_Text_readItems 47 = .ok (.if_icmp .ne 6, 3) := by decide +kernel
theorem d_Text_readItems_50 : decode b_Text_readItems 50 = .ok (.goto 33, 3) := by decide +kernel
theorem d_Text_readItems_53 : decode b_Text_readItems 53 = .ok (.aload_n 0, 1) := by decide +kernel
theorem d_Text_readItems_54 : decode b_Text_readItems 54 = .ok (.getfield 18, 3) := by decide +kernel
theorem d_Text_readItems_57 : decode b_Text_readItems 57 = .ok (.iload_n 1, 1) := by decide +kernel
theorem d_Text_readItems_58 : decode b_Text_readItems 58 = .ok (.iload_n 2, 1) := by decide +kernel
theorem d_Text_readItems_59 : decode b_Text_readItems 59 = .ok (.iastore, 1) := by decide +kernel
theorem d_Text_readItems_60 : decode b_Text_readItems 60 = .ok (.aload_n 0, 1) := by decide +kernel
theorem d_Text_readItems_61 : decode b_Text_readItems 61 = .ok (.iload_n 1, 1) := by decide +kernel
theorem d_Text_readItems_62 : decode b_Text_readItems 62 = .ok (.iconst 1, 1) := by decide +kernel
theorem d_Text_readItems_63 : decode b_Text_readItems 63 = .ok (.iadd, 1) := by decide +kernel
theorem d_Text_readItems_64 : decode b_Text_readItems 64 = .ok (.putfield 34, 3) := by decide +kernel
theorem d_Text_readItems_67 : decode b_Text_readItems 67 = .ok (.aload_n 0, 1) := by decide +kernel
theorem d_Text_readItems_68 : decode b_Text_readItems 68 = .ok (.dup, 1) := by decide +kernel
theorem d_Text_readItems_69 : decode b_Text_readItems 69 = .ok (.getfield 25, 3) := by decide +kernel
theorem d_Text_readItems_72 : decode b_Text_readItems 72 = .ok (.iconst 1, 1) := by decide +kernel
theorem d_Text_readItems_73 : decode b_Text_readItems 73 = .ok (.iadd, 1) := by decide +kernel
theorem d_Text_readItems_74 : decode b_Text_readItems 74 = .ok (.putfield 25, 3) := by decide +kernel
theorem d_Text_readItems_77 : decode b_Text_readItems 77 = .ok (.iinc 1 1, 3) := by decide +kernel
theorem d_Text_readItems_80 : decode b_Text_readItems 80 = .ok (.goto (-47), 3) := by decide +kernel
theorem d_Text_readItems_83 : decode b_Text_readItems 83 = .ok (.aload_n 0, 1) := by decide +kernel
theorem d_Text_readItems_84 : decode b_Text_readItems 84 = .ok (.getfield 34, 3) := by decide +kernel
theorem d_Text_readItems_87 : decode b_Text_readItems 87 = .ok (.ifCond .le 15, 3) := by decide +kernel
theorem d_Text_readItems_90 : decode b_Text_readItems 90 = .ok (.aload_n 0, 1) := by decide +kernel
theorem d_Text_readItems_91 : decode b_Text_readItems 91 = .ok (.invokevirtual 47, 3) := by decide +kernel
theorem d_Text_readItems_94 : decode b_Text_readItems 94 = .ok (.iconst (-1), 1) := by decide +kernel
theorem d_Text_readItems_95 : decode b_Text_readItems 95 = .ok (.if_icmp .ne 7, 3) := by decide +kernel
theorem d_Text_readItems_98 : decode b_Text_readItems 98 = .ok (.iconst 1, 1) := by decide +kernel
theorem d_Text_readItems_99 : decode b_Text_readItems 99 = .ok (.goto 4, 3) := by decide +kernel
theorem d_Text_readItems_102 : decode b_Text_readItems 102 = .ok (.iconst 0, 1) := by decide +kernel
theorem d_Text_readItems_103 : decode b_Text_readItems 103 = .ok (.ireturn, 1) := by decide +kernel
def rm_Text_readItems : Room := { frames := 2, cells := 0, slots := 0, locals := 41 }
theorem mf_Text_readItems : zMV y_Text_readItems b_Text_readItems 3 (some .boolean) 0 := ⟨q431, qs17, q2, q432, by decide +kernel⟩
def B_Text_readItems_83 (K : Int → zH → Prop)  (p0 : Nat)  (h : zH) : Prop :=
  (h p0 6 ≤ 0 → (K 0 h)) ∧ (0 < h p0 6 → (M_Text_here p0 h (fun r_2 h_1 => (r_2 ≠ (-1) → (K 0 h_1)) ∧ (r_2 = (-1) → (K 1 h_1)))))
set_option maxRecDepth 100000 in
theorem s_Text_readItems_83 {Wf : Heap → List Loc → JFrame → Prop} {m : MethodId} {g : zG} {n : Nat} {H0 : Heap} (X : zX Wf m rm_Text_readItems b_Text_readItems "AliasStreams$Text" 3 g n H0) {K : Int → zH → Prop} (E : zEx Wf m b_Text_readItems (some .boolean) 3 g n H0 (zPi K))  {p0 : Nat}  (op0 : zO n p0 9)   {h : zH} (hh : zh h) (hv : B_Text_readItems_83 K  p0  h) : zW Wf m 3 g n H0 83 [(0, .ref (g.2.2 p0))] [] h := by
  unfold B_Text_readItems_83 at hv
  refine z_aload_n (pc := 83) (q := 0) X d_Text_readItems_83 rfl ?_
  refine z_geti (pc := 84) (j := 6) X cf_Text op0 (by decide) q46 rfl rfl d_Text_readItems_84 ?_
  refine z_if_le (pc := 87) (tgt := 102) X (hh.1 _ _ (zO.ne op0 (by decide))) d_Text_readItems_87 (by decide) (fun hc => ?_) (fun hc => ?_)
  · replace hv := hv.1 hc
    refine z_iconst (pc := 102) X d_Text_readItems_102 ?_
    exact E.2.2.1 rfl _ _ _ _ (by decide) d_Text_readItems_103 ⟨_, rfl, (show zr 0 from by decide), hh, hv⟩
  · replace hv := hv.2 hc
    refine z_aload_n (pc := 90) (q := 0) X d_Text_readItems_90 rfl ?_
    refine z_callVi (pc := 91) (As := []) (rest := []) X (fun l hl => c_Text_here hl op0 hh hv) cf_Text op0 rfl mf_Text_here q413 ⟨⟨by decide, by decide⟩, rfl, rfl⟩ rfl d_Text_readItems_91 rfl (Nat.le_of_ble_eq_true rfl) (fun r_2 h_1 rr_2 zh_1 hv => ?_)
    refine z_iconst (pc := 94) X d_Text_readItems_94 ?_
    refine z_icmp_ne (pc := 95) (tgt := 102) X rr_2 (show zr (-1) from by decide) d_Text_readItems_95 (by decide) (fun hc => ?_) (fun hc => ?_)
    · replace hv := hv.1 hc
      refine z_iconst (pc := 102) X d_Text_readItems_102 ?_
      exact E.2.2.1 rfl _ _ _ _ (by decide) d_Text_readItems_103 ⟨_, rfl, (show zr 0 from by decide), zh_1, hv⟩
    · replace hv := hv.2 hc
      refine z_iconst (pc := 98) X d_Text_readItems_98 ?_
      refine z_goto (pc := 99) (tgt := 103) X d_Text_readItems_99 (by decide) ?_
      exact E.2.2.1 rfl _ _ _ _ (by decide) d_Text_readItems_103 ⟨_, rfl, (show zr 1 from by decide), zh_1, hv⟩
def F_Text_readItems_33 (K : Int → zH → Prop)  (L33 : Int × zH → Prop) (p0 : Nat) (x1 : Int) (h : zH) : Prop :=
  (40 ≤ x1 → (B_Text_readItems_83 K  p0  h)) ∧ (x1 < 40 → (M_Text_itemHere p0 h (fun r_2 h_1 => (r_2 ≠ (-9) → ((0 ≤ x1 ∧ x1 < 40) ∧ (∀ h_4 : zH, h_4 = zs h_1 (p0 + 3) x1.toNat r_2 → (zr (x1 + 1) ∧ ((∀ h_6 : zH, h_6 = zs h_4 p0 6 (x1 + 1) → (zr ((h_6 p0 7) + 1) ∧ ((∀ h_8 : zH, h_8 = zs h_6 p0 7 ((h_6 p0 7) + 1) → (zr (x1 + 1) ∧ (L33 (x1 + 1, h_8)))))))))))) ∧ (r_2 = (-9) → (B_Text_readItems_83 K  p0  h_1)))))
set_option maxRecDepth 100000 in
theorem s_Text_readItems_33 {Wf : Heap → List Loc → JFrame → Prop} {m : MethodId} {g : zG} {n : Nat} {H0 : Heap} (X : zX Wf m rm_Text_readItems b_Text_readItems "AliasStreams$Text" 3 g n H0) {K : Int → zH → Prop} (E : zEx Wf m b_Text_readItems (some .boolean) 3 g n H0 (zPi K))  {p0 : Nat}  (op0 : zO n p0 9) {q0 : Int × zH} (hv0 : zLoop (fun L q => F_Text_readItems_33 K  L p0 q.1 q.2) q0) : zr q0.1 → zh (q0.2) → zW Wf m 3 g n H0 33 [(0, .ref (g.2.2 p0)), (1, zi q0.1)] [] (q0.2) := by
  refine zLoop_use (G := fun q => zr q.1 → zh (q.2) → zW Wf m 3 g n H0 33 [(0, .ref (g.2.2 p0)), (1, zi q.1)] [] (q.2)) ?_ hv0
  rintro L33 ⟨x1, h⟩ hL33 hv rx1 hh
  have hv : F_Text_readItems_33 K  L33 p0 x1 h := hv
  unfold F_Text_readItems_33 at hv
  show zW Wf m 3 g n H0 33 [(0, .ref (g.2.2 p0)), (1, zi x1)] [] h
  refine z_iload_n (pc := 33) (q := 1) X d_Text_readItems_33 rfl ?_
  refine z_bipush (pc := 34) X d_Text_readItems_34 (by decide) ?_
  refine z_icmp_ge (pc := 36) (tgt := 83) X rx1 (show zr 40 from by decide) d_Text_readItems_36 (by decide) (fun hc => ?_) (fun hc => ?_)
  · replace hv := hv.1 hc
    refine z_perm [0] rfl ?_
    exact s_Text_readItems_83 X E  op0  hh hv
  · replace hv := hv.2 hc
    refine z_aload_n (pc := 39) (q := 0) X d_Text_readItems_39 rfl ?_
    refine z_callVi (pc := 40) (As := []) (rest := []) X (fun l hl => c_Text_itemHere hl op0 hh hv) cf_Text op0 rfl mf_Text_itemHere q433 ⟨⟨by decide, by decide⟩, rfl, rfl⟩ rfl d_Text_readItems_40 rfl (Nat.le_of_ble_eq_true rfl) (fun r_2 h_1 rr_2 zh_1 hv => ?_)
    refine z_istore_n (pc := 43) (lv' := [(2, zi r_2), (0, .ref (g.2.2 p0)), (1, zi x1)]) X d_Text_readItems_43 (by decide) rfl ?_
    refine z_iload_n (pc := 44) (q := 0) X d_Text_readItems_44 rfl ?_
    refine z_bipush (pc := 45) X d_Text_readItems_45 (by decide) ?_
    refine z_icmp_ne (pc := 47) (tgt := 53) X rr_2 (show zr (-9) from by decide) d_Text_readItems_47 (by decide) (fun hc => ?_) (fun hc => ?_)
    · replace hv := hv.1 hc
      refine z_aload_n (pc := 53) (q := 1) X d_Text_readItems_53 rfl ?_
      refine z_getr (pc := 54) (j := 2) (dd := 3) X cf_Text op0 (by decide) q38 rfl rfl d_Text_readItems_54 ?_
      refine z_iload_n (pc := 57) (q := 2) X d_Text_readItems_57 rfl ?_
      refine z_iload_n (pc := 58) (q := 0) X d_Text_readItems_58 rfl ?_
      obtain ⟨v_3, hv⟩ := hv
      refine z_iastj (pc := 59) (j := x1.toNat) X (gf_Text_2 op0) (gl_Text_2 op0) rx1 v_3 rfl d_Text_readItems_59 ?_
      refine z_toph (fun h_4 eh_4 => ?_)
      have zh_4 : zh h_4 := by rw [eh_4]; exact zh_set zh_1 (zO.ne (gf_Text_2 op0) (by decide)) rr_2
      replace hv := hv h_4 eh_4
      refine z_aload_n (pc := 60) (q := 1) X d_Text_readItems_60 rfl ?_
      refine z_iload_n (pc := 61) (q := 2) X d_Text_readItems_61 rfl ?_
      refine z_iconst (pc := 62) X d_Text_readItems_62 ?_
      obtain ⟨v_5, hv⟩ := hv
      refine z_iadd (pc := 63) X d_Text_readItems_63 ?_
      refine z_put (pc := 64) (j := 6) X cf_Text op0 (by decide) q46 rfl rfl rfl rfl d_Text_readItems_64 ?_
      refine z_toph (fun h_6 eh_6 => ?_)
      have zh_6 : zh h_6 := by rw [eh_6]; exact zh_set zh_4 (zO.ne op0 (by decide)) v_5
      replace hv := hv h_6 eh_6
      refine z_aload_n (pc := 67) (q := 1) X d_Text_readItems_67 rfl ?_
      refine z_dup (pc := 68) X d_Text_readItems_68 rfl ?_
      refine z_geti (pc := 69) (j := 7) X cf_Text op0 (by decide) q48 rfl rfl d_Text_readItems_69 ?_
      refine z_iconst (pc := 72) X d_Text_readItems_72 ?_
      obtain ⟨v_7, hv⟩ := hv
      refine z_iadd (pc := 73) X d_Text_readItems_73 ?_
      refine z_put (pc := 74) (j := 7) X cf_Text op0 (by decide) q48 rfl rfl rfl rfl d_Text_readItems_74 ?_
      refine z_toph (fun h_8 eh_8 => ?_)
      have zh_8 : zh h_8 := by rw [eh_8]; exact zh_set zh_6 (zO.ne op0 (by decide)) v_7
      replace hv := hv h_8 eh_8
      obtain ⟨v_9, hv⟩ := hv
      refine z_iinc (pc := 77) (q := 2) (lv' := [(1, zi (x1 + 1)), (2, zi r_2), (0, .ref (g.2.2 p0))]) X d_Text_readItems_77 rfl (by decide) rfl ?_
      refine z_goto (pc := 80) (tgt := 33) X d_Text_readItems_80 (by decide) ?_
      refine z_perm [2, 0] rfl ?_
      exact hL33 _ hv v_9 zh_8
    · replace hv := hv.2 hc
      refine z_goto (pc := 50) (tgt := 83) X d_Text_readItems_50 (by decide) ?_
      refine z_perm [1] rfl ?_
      exact s_Text_readItems_83 X E  op0  zh_1 hv
def M_Text_readItems (p0 : Nat) (h : zH) (K : Int → zH → Prop) : Prop :=
  M_Text_here p0 h (fun r_2 h_1 => (r_2 ≠ (-1) → (M_Text_here p0 h_1 (fun r_4 h_3 => (r_4 = 58 → (zr ((h_3 p0 7) + 1) ∧ ((∀ h_6 : zH, h_6 = zs h_3 p0 7 ((h_3 p0 7) + 1) → (zLoop (fun L q => F_Text_readItems_33 K  L p0 q.1 q.2) (0, h_6)))))) ∧ (r_4 ≠ 58 → (K 0 h_3))))) ∧ (r_2 = (-1) → (K 1 h_1)))
set_option maxRecDepth 100000 in
theorem c_Text_readItems {l : Launch} (hfl : l.flags = flags0) {g : zG} {n : Nat} {p0 : Nat} (op0 : zO n p0 9) {h : zH} (hh : zh h) {K : Int → zH → Prop} (hv : M_Text_readItems p0 h K) : zMet l y_Text_readItems b_Text_readItems 3 (some .boolean) rm_Text_readItems g n [.ref (g.2.2 p0)] h (zPi K) := by
  refine zMet_of (own := "AliasStreams$Text") hfl (by decide) rfl (Nat.le_of_ble_eq_true rfl) (fun Wf m H0 X E => ?_)
  unfold M_Text_readItems at hv
  show zW Wf m 3 g n H0 0 [(0, .ref (g.2.2 p0))] [] h
  refine z_aload_n (pc := 0) (q := 0) X d_Text_readItems_0 rfl ?_
  refine z_callVi (pc := 1) (As := []) (rest := []) X (fun l hl => c_Text_here hl op0 hh hv) cf_Text op0 rfl mf_Text_here q413 ⟨⟨by decide, by decide⟩, rfl, rfl⟩ rfl d_Text_readItems_1 rfl (Nat.le_of_ble_eq_true rfl) (fun r_2 h_1 rr_2 zh_1 hv => ?_)
  refine z_iconst (pc := 4) X d_Text_readItems_4 ?_
  refine z_icmp_ne (pc := 5) (tgt := 10) X rr_2 (show zr (-1) from by decide) d_Text_readItems_5 (by decide) (fun hc => ?_) (fun hc => ?_)
  · replace hv := hv.1 hc
    refine z_aload_n (pc := 10) (q := 0) X d_Text_readItems_10 rfl ?_
    refine z_callVi (pc := 11) (As := []) (rest := []) X (fun l hl => c_Text_here hl op0 zh_1 hv) cf_Text op0 rfl mf_Text_here q413 ⟨⟨by decide, by decide⟩, rfl, rfl⟩ rfl d_Text_readItems_11 rfl (Nat.le_of_ble_eq_true rfl) (fun r_4 h_3 rr_4 zh_3 hv => ?_)
    refine z_bipush (pc := 14) X d_Text_readItems_14 (by decide) ?_
    refine z_icmp_eq (pc := 16) (tgt := 21) X rr_4 (show zr 58 from by decide) d_Text_readItems_16 (by decide) (fun hc => ?_) (fun hc => ?_)
    · replace hv := hv.1 hc
      refine z_aload_n (pc := 21) (q := 0) X d_Text_readItems_21 rfl ?_
      refine z_dup (pc := 22) X d_Text_readItems_22 rfl ?_
      refine z_geti (pc := 23) (j := 7) X cf_Text op0 (by decide) q48 rfl rfl d_Text_readItems_23 ?_
      refine z_iconst (pc := 26) X d_Text_readItems_26 ?_
      obtain ⟨v_5, hv⟩ := hv
      refine z_iadd (pc := 27) X d_Text_readItems_27 ?_
      refine z_put (pc := 28) (j := 7) X cf_Text op0 (by decide) q48 rfl rfl rfl rfl d_Text_readItems_28 ?_
      refine z_toph (fun h_6 eh_6 => ?_)
      have zh_6 : zh h_6 := by rw [eh_6]; exact zh_set zh_3 (zO.ne op0 (by decide)) v_5
      replace hv := hv h_6 eh_6
      refine z_iconst (pc := 31) X d_Text_readItems_31 ?_
      refine z_istore_n (pc := 32) (lv' := [(1, zi 0), (0, .ref (g.2.2 p0))]) X d_Text_readItems_32 (by decide) rfl ?_
      refine z_perm [1, 0] rfl ?_
      exact s_Text_readItems_33 X E  op0 hv (show zr 0 from by decide) zh_6
    · replace hv := hv.2 hc
      refine z_iconst (pc := 19) X d_Text_readItems_19 ?_
      exact E.2.2.1 rfl _ _ _ _ (by decide) d_Text_readItems_20 ⟨_, rfl, (show zr 0 from by decide), zh_3, hv⟩
  · replace hv := hv.2 hc
    refine z_iconst (pc := 8) X d_Text_readItems_8 ?_
    exact E.2.2.1 rfl _ _ _ _ (by decide) d_Text_readItems_9 ⟨_, rfl, (show zr 1 from by decide), zh_1, hv⟩
theorem d_Text_read_0 : decode b_Text_read 0 = .ok (.aload_n 0, 1) := by decide +kernel
theorem d_Text_read_1 : decode b_Text_read 1 = .ok (.iconst 0, 1) := by decide +kernel
theorem d_Text_read_2 : decode b_Text_read 2 = .ok (.putfield 25, 3) := by decide +kernel
theorem d_Text_read_5 : decode b_Text_read 5 = .ok (.aload_n 0, 1) := by decide +kernel
theorem d_Text_read_6 : decode b_Text_read 6 = .ok (.iconst 0, 1) := by decide +kernel
theorem d_Text_read_7 : decode b_Text_read 7 = .ok (.putfield 28, 3) := by decide +kernel
theorem d_Text_read_10 : decode b_Text_read 10 = .ok (.aload_n 0, 1) := by decide +kernel
theorem d_Text_read_11 : decode b_Text_read 11 = .ok (.iconst 0, 1) := by decide +kernel
theorem d_Text_read_12 : decode b_Text_read 12 = .ok (.putfield 31, 3) := by decide +kernel
theorem d_Text_read_15 : decode b_Text_read 15 = .ok (.aload_n 0, 1) := by decide +kernel
theorem d_Text_read_16 : decode b_Text_read 16 = .ok (.iconst 0, 1) := by decide +kernel
theorem d_Text_read_17 : decode b_Text_read 17 = .ok (.putfield 34, 3) := by decide +kernel
theorem d_Text_read_20 : decode b_Text_read 20 = .ok (.iconst 0, 1) := by decide +kernel
theorem d_Text_read_21 : decode b_Text_read 21 = .ok (.istore_n 1, 1) := by decide +kernel
theorem d_Text_read_22 : decode b_Text_read 22 = .ok (.iload_n 1, 1) := by decide +kernel
theorem d_Text_read_23 : decode b_Text_read 23 = .ok (.bipush 24, 2) := by decide +kernel
theorem d_Text_read_25 : decode b_Text_read 25 = .ok (.if_icmp .ge 16, 3) := by decide +kernel
theorem d_Text_read_28 : decode b_Text_read 28 = .ok (.aload_n 0, 1) := by decide +kernel
theorem d_Text_read_29 : decode b_Text_read 29 = .ok (.getfield 15, 3) := by decide +kernel
theorem d_Text_read_32 : decode b_Text_read 32 = .ok (.iload_n 1, 1) := by decide +kernel
theorem d_Text_read_33 : decode b_Text_read 33 = .ok (.iconst 0, 1) := by decide +kernel
theorem d_Text_read_34 : decode b_Text_read 34 = .ok (.iastore, 1) := by decide +kernel
theorem d_Text_read_35 : decode b_Text_read 35 = .ok (.iinc 1 1, 3) := by decide +kernel
theorem d_Text_read_38 : decode b_Text_read 38 = .ok (.goto (-16), 3) := by decide +kernel
theorem d_Text_read_41 : decode b_Text_read 41 = .ok (.aload_n 0, 1) := by decide +kernel
theorem d_Text_read_42 : decode b_Text_read 42 = .ok (.invokevirtual 37, 3) := by decide +kernel
theorem d_Text_read_45 : decode b_Text_read 45 = .ok (.ifCond .eq 22, 3) := by decide +kernel
theorem d_Text_read_48 : decode b_Text_read 48 = .ok (.aload_n 0, 1) := by decide +kernel
theorem d_Text_read_49 : decode b_Text_read 49 = .ok (.invokevirtual 41, 3) := by decide +kernel
theorem d_Text_read_52 : decode b_Text_read 52 = .ok (.ifCond .eq 15, 3) := by decide +kernel
theorem d_Text_read_55 : decode b_Text_read 55 = .ok (.aload_n 0, 1) := by decide +kernel
theorem d_Text_read_56 : decode b_Text_read 56 = .ok (.invokevirtual 44, 3) := by decide +kernel
theorem d_Text_read_59 : decode b_Text_read 59 = .ok (.ifCond .eq 8, 3) := by decide +kernel
theorem d_Text_read_62 : decode b_Text_read 62 = .ok (.bipush (-9), 2) := by decide +kernel
theorem d_Text_read_64 : decode b_Text_read 64 = .ok (.goto 7, 3) := by decide +kernel
theorem d_Text_read_67 : decode b_Text_read 67 = .ok (.aload_n 0, 1) := by decide +kernel
theorem d_Text_read_68 : decode b_Text_read 68 = .ok (.getfield 25, 3) := by decide +kernel
theorem d_Text_read_71 : decode b_Text_read 71 = .ok (.ireturn, 1) := by decide +kernel
def rm_Text_read : Room := { frames := 4, cells := 0, slots := 0, locals := 88 }
theorem mf_Text_read : zMV y_Text_read b_Text_read 2 (some .int) 0 := ⟨q407, qs11, q2, q408, by decide +kernel⟩
def F_Text_read_22 (K : Int → zH → Prop)  (L22 : Int × zH → Prop) (p0 : Nat) (x1 : Int) (h : zH) : Prop :=
  (24 ≤ x1 → (M_Text_readSize p0 h (fun r_2 h_1 => (r_2 = 0 → (K (h_1 p0 7) h_1)) ∧ (r_2 ≠ 0 → (M_Text_readModels p0 h_1 (fun r_4 h_3 => (r_4 = 0 → (K (h_3 p0 7) h_3)) ∧ (r_4 ≠ 0 → (M_Text_readItems p0 h_3 (fun r_6 h_5 => (r_6 = 0 → (K (h_5 p0 7) h_5)) ∧ (r_6 ≠ 0 → (K (-9) h_5))))))))))) ∧ (x1 < 24 → ((0 ≤ x1 ∧ x1 < 24) ∧ (∀ h_8 : zH, h_8 = zs h (p0 + 2) x1.toNat 0 → (zr (x1 + 1) ∧ (L22 (x1 + 1, h_8))))))
set_option maxRecDepth 100000 in
theorem s_Text_read_22 {Wf : Heap → List Loc → JFrame → Prop} {m : MethodId} {g : zG} {n : Nat} {H0 : Heap} (X : zX Wf m rm_Text_read b_Text_read "AliasStreams$Text" 2 g n H0) {K : Int → zH → Prop} (E : zEx Wf m b_Text_read (some .int) 2 g n H0 (zPi K))  {p0 : Nat}  (op0 : zO n p0 9) {q0 : Int × zH} (hv0 : zLoop (fun L q => F_Text_read_22 K  L p0 q.1 q.2) q0) : zr q0.1 → zh (q0.2) → zW Wf m 2 g n H0 22 [(0, .ref (g.2.2 p0)), (1, zi q0.1)] [] (q0.2) := by
  refine zLoop_use (G := fun q => zr q.1 → zh (q.2) → zW Wf m 2 g n H0 22 [(0, .ref (g.2.2 p0)), (1, zi q.1)] [] (q.2)) ?_ hv0
  rintro L22 ⟨x1, h⟩ hL22 hv rx1 hh
  have hv : F_Text_read_22 K  L22 p0 x1 h := hv
  unfold F_Text_read_22 at hv
  show zW Wf m 2 g n H0 22 [(0, .ref (g.2.2 p0)), (1, zi x1)] [] h
  refine z_iload_n (pc := 22) (q := 1) X d_Text_read_22 rfl ?_
  refine z_bipush (pc := 23) X d_Text_read_23 (by decide) ?_
  refine z_icmp_ge (pc := 25) (tgt := 41) X rx1 (show zr 24 from by decide) d_Text_read_25 (by decide) (fun hc => ?_) (fun hc => ?_)
  · replace hv := hv.1 hc
    refine z_aload_n (pc := 41) (q := 0) X d_Text_read_41 rfl ?_
    refine z_callVi (pc := 42) (As := []) (rest := []) X (fun l hl => c_Text_readSize hl op0 hh hv) cf_Text op0 rfl mf_Text_readSize q409 ⟨⟨by decide, by decide⟩, rfl, rfl⟩ rfl d_Text_read_42 rfl (Nat.le_of_ble_eq_true rfl) (fun r_2 h_1 rr_2 zh_1 hv => ?_)
    refine z_if_eq (pc := 45) (tgt := 67) X rr_2 d_Text_read_45 (by decide) (fun hc => ?_) (fun hc => ?_)
    · replace hv := hv.1 hc
      refine z_aload_n (pc := 67) (q := 0) X d_Text_read_67 rfl ?_
      refine z_geti (pc := 68) (j := 7) X cf_Text op0 (by decide) q48 rfl rfl d_Text_read_68 ?_
      exact E.2.1 rfl _ _ _ _ d_Text_read_71 ⟨_, rfl, (zh_1.1 _ _ (zO.ne op0 (by decide))), zh_1, hv⟩
    · replace hv := hv.2 hc
      refine z_aload_n (pc := 48) (q := 0) X d_Text_read_48 rfl ?_
      refine z_callVi (pc := 49) (As := []) (rest := []) X (fun l hl => c_Text_readModels hl op0 zh_1 hv) cf_Text op0 rfl mf_Text_readModels q421 ⟨⟨by decide, by decide⟩, rfl, rfl⟩ rfl d_Text_read_49 rfl (Nat.le_of_ble_eq_true rfl) (fun r_4 h_3 rr_4 zh_3 hv => ?_)
      refine z_if_eq (pc := 52) (tgt := 67) X rr_4 d_Text_read_52 (by decide) (fun hc => ?_) (fun hc => ?_)
      · replace hv := hv.1 hc
        refine z_aload_n (pc := 67) (q := 0) X d_Text_read_67 rfl ?_
        refine z_geti (pc := 68) (j := 7) X cf_Text op0 (by decide) q48 rfl rfl d_Text_read_68 ?_
        exact E.2.1 rfl _ _ _ _ d_Text_read_71 ⟨_, rfl, (zh_3.1 _ _ (zO.ne op0 (by decide))), zh_3, hv⟩
      · replace hv := hv.2 hc
        refine z_aload_n (pc := 55) (q := 0) X d_Text_read_55 rfl ?_
        refine z_callVi (pc := 56) (As := []) (rest := []) X (fun l hl => c_Text_readItems hl op0 zh_3 hv) cf_Text op0 rfl mf_Text_readItems q429 ⟨⟨by decide, by decide⟩, rfl, rfl⟩ rfl d_Text_read_56 rfl (Nat.le_of_ble_eq_true rfl) (fun r_6 h_5 rr_6 zh_5 hv => ?_)
        refine z_if_eq (pc := 59) (tgt := 67) X rr_6 d_Text_read_59 (by decide) (fun hc => ?_) (fun hc => ?_)
        · replace hv := hv.1 hc
          refine z_aload_n (pc := 67) (q := 0) X d_Text_read_67 rfl ?_
          refine z_geti (pc := 68) (j := 7) X cf_Text op0 (by decide) q48 rfl rfl d_Text_read_68 ?_
          exact E.2.1 rfl _ _ _ _ d_Text_read_71 ⟨_, rfl, (zh_5.1 _ _ (zO.ne op0 (by decide))), zh_5, hv⟩
        · replace hv := hv.2 hc
          refine z_bipush (pc := 62) X d_Text_read_62 (by decide) ?_
          refine z_goto (pc := 64) (tgt := 71) X d_Text_read_64 (by decide) ?_
          exact E.2.1 rfl _ _ _ _ d_Text_read_71 ⟨_, rfl, (show zr (-9) from by decide), zh_5, hv⟩
  · replace hv := hv.2 hc
    refine z_aload_n (pc := 28) (q := 0) X d_Text_read_28 rfl ?_
    refine z_getr (pc := 29) (j := 1) (dd := 2) X cf_Text op0 (by decide) q36 rfl rfl d_Text_read_29 ?_
    refine z_iload_n (pc := 32) (q := 1) X d_Text_read_32 rfl ?_
    refine z_iconst (pc := 33) X d_Text_read_33 ?_
    obtain ⟨v_7, hv⟩ := hv
    refine z_iastj (pc := 34) (j := x1.toNat) X (gf_Text_1 op0) (gl_Text_1 op0) rx1 v_7 rfl d_Text_read_34 ?_
    refine z_toph (fun h_8 eh_8 => ?_)
    have zh_8 : zh h_8 := by rw [eh_8]; exact zh_set hh (zO.ne (gf_Text_1 op0) (by decide)) (show zr 0 from by decide)
    replace hv := hv h_8 eh_8
    obtain ⟨v_9, hv⟩ := hv
    refine z_iinc (pc := 35) (q := 1) (lv' := [(1, zi (x1 + 1)), (0, .ref (g.2.2 p0))]) X d_Text_read_35 rfl (by decide) rfl ?_
    refine z_goto (pc := 38) (tgt := 22) X d_Text_read_38 (by decide) ?_
    refine z_perm [1, 0] rfl ?_
    exact hL22 _ hv v_9 zh_8
def M_Text_read (p0 : Nat) (h : zH) (K : Int → zH → Prop) : Prop :=
  (∀ h_1 : zH, h_1 = zs h p0 7 0 → ((∀ h_2 : zH, h_2 = zs h_1 p0 4 0 → ((∀ h_3 : zH, h_3 = zs h_2 p0 5 0 → ((∀ h_4 : zH, h_4 = zs h_3 p0 6 0 → (zLoop (fun L q => F_Text_read_22 K  L p0 q.1 q.2) (0, h_4)))))))))
set_option maxRecDepth 100000 in
theorem c_Text_read {l : Launch} (hfl : l.flags = flags0) {g : zG} {n : Nat} {p0 : Nat} (op0 : zO n p0 9) {h : zH} (hh : zh h) {K : Int → zH → Prop} (hv : M_Text_read p0 h K) : zMet l y_Text_read b_Text_read 2 (some .int) rm_Text_read g n [.ref (g.2.2 p0)] h (zPi K) := by
  refine zMet_of (own := "AliasStreams$Text") hfl (by decide) rfl (Nat.le_of_ble_eq_true rfl) (fun Wf m H0 X E => ?_)
  unfold M_Text_read at hv
  show zW Wf m 2 g n H0 0 [(0, .ref (g.2.2 p0))] [] h
  refine z_aload_n (pc := 0) (q := 0) X d_Text_read_0 rfl ?_
  refine z_iconst (pc := 1) X d_Text_read_1 ?_
  refine z_put (pc := 2) (j := 7) X cf_Text op0 (by decide) q48 rfl rfl rfl rfl d_Text_read_2 ?_
  refine z_toph (fun h_1 eh_1 => ?_)
  have zh_1 : zh h_1 := by rw [eh_1]; exact zh_set hh (zO.ne op0 (by decide)) (show zr 0 from by decide)
  replace hv := hv h_1 eh_1
  refine z_aload_n (pc := 5) (q := 0) X d_Text_read_5 rfl ?_
  refine z_iconst (pc := 6) X d_Text_read_6 ?_
  refine z_put (pc := 7) (j := 4) X cf_Text op0 (by decide) q42 rfl rfl rfl rfl d_Text_read_7 ?_
  refine z_toph (fun h_2 eh_2 => ?_)
  have zh_2 : zh h_2 := by rw [eh_2]; exact zh_set zh_1 (zO.ne op0 (by decide)) (show zr 0 from by decide)
  replace hv := hv h_2 eh_2
  refine z_aload_n (pc := 10) (q := 0) X d_Text_read_10 rfl ?_
  refine z_iconst (pc := 11) X d_Text_read_11 ?_
  refine z_put (pc := 12) (j := 5) X cf_Text op0 (by decide) q44 rfl rfl rfl rfl d_Text_read_12 ?_
  refine z_toph (fun h_3 eh_3 => ?_)
  have zh_3 : zh h_3 := by rw [eh_3]; exact zh_set zh_2 (zO.ne op0 (by decide)) (show zr 0 from by decide)
  replace hv := hv h_3 eh_3
  refine z_aload_n (pc := 15) (q := 0) X d_Text_read_15 rfl ?_
  refine z_iconst (pc := 16) X d_Text_read_16 ?_
  refine z_put (pc := 17) (j := 6) X cf_Text op0 (by decide) q46 rfl rfl rfl rfl d_Text_read_17 ?_
  refine z_toph (fun h_4 eh_4 => ?_)
  have zh_4 : zh h_4 := by rw [eh_4]; exact zh_set zh_3 (zO.ne op0 (by decide)) (show zr 0 from by decide)
  replace hv := hv h_4 eh_4
  refine z_iconst (pc := 20) X d_Text_read_20 ?_
  refine z_istore_n (pc := 21) (lv' := [(1, zi 0), (0, .ref (g.2.2 p0))]) X d_Text_read_21 (by decide) rfl ?_
  refine z_perm [1, 0] rfl ?_
  exact s_Text_read_22 X E  op0 hv (show zr 0 from by decide) zh_4

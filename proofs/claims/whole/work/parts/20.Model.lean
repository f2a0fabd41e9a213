/-! 20.Model (printed by wip/whole/methgen.py) -/
theorem d_Model_frequencyOf_0 : decode b_Model_frequencyOf 0 = .ok (.iload_n 1, 1) := by decide +kernel
theorem d_Model_frequencyOf_1 : decode b_Model_frequencyOf 1 = .ok (.ifCond .lt 18, 3) := by decide +kernel
theorem d_Model_frequencyOf_4 : decode b_Model_frequencyOf 4 = .ok (.iload_n 1, 1) := by decide +kernel
theorem d_Model_frequencyOf_5 : decode b_Model_frequencyOf 5 = .ok (.bipush 8, 2) := by decide +kernel
theorem d_Model_frequencyOf_7 : decode b_Model_frequencyOf 7 = .ok (.if_icmp .ge 12, 3) := by decide +kernel
theorem d_Model_frequencyOf_10 : decode b_Model_frequencyOf 10 = .ok (.aload_n 0, 1) := by decide +kernel
theorem d_Model_frequencyOf_11 : decode b_Model_frequencyOf 11 = .ok (.getfield 9, 3) := by decide +kernel
theorem d_Model_frequencyOf_14 : decode b_Model_frequencyOf 14 = .ok (.iload_n 1, 1) := by decide +kernel
theorem d_Model_frequencyOf_15 : decode b_Model_frequencyOf 15 = .ok (.iaload, 1) := by decide +kernel
theorem d_Model_frequencyOf_16 : decode b_Model_frequencyOf 16 = .ok (.goto 4, 3) := by decide +kernel
theorem d_Model_frequencyOf_19 : decode b_Model_frequencyOf 19 = .ok (.iconst 0, 1) := by decide +kernel
theorem d_Model_frequencyOf_20 : decode b_Model_frequencyOf 20 = .ok (.ireturn, 1) := by decide +kernel
def rm_Model_frequencyOf : Room := { frames := 0, cells := 0, slots := 0, locals := 0 }
theorem mf_Model_frequencyOf : zMV y_Model_frequencyOf b_Model_frequencyOf 2 (some .int) 1 := ⟨q455, qs22, q4, q456, by decide +kernel⟩
def M_Model_frequencyOf (p0 : Nat) (x1 : Int) (h : zH) (K : Int → zH → Prop) : Prop :=
  (x1 < 0 → (K 0 h)) ∧ (0 ≤ x1 → ((8 ≤ x1 → (K 0 h)) ∧ (x1 < 8 → ((0 ≤ x1 ∧ x1 < 8) ∧ (K (h (p0 + 1) x1.toNat) h)))))
set_option maxRecDepth 100000 in
theorem c_Model_frequencyOf {l : Launch} (hfl : l.flags = flags0) {g : zG} {n : Nat} {p0 : Nat} {x1 : Int} (op0 : zO n p0 1) (rx1 : zr x1) {h : zH} (hh : zh h) {K : Int → zH → Prop} (hv : M_Model_frequencyOf p0 x1 h K) : zMet l y_Model_frequencyOf b_Model_frequencyOf 2 (some .int) rm_Model_frequencyOf g n [.ref (g.2.2 p0), zi x1] h (zPi K) := by
  refine zMet_of (own := "AliasStreams$Model") hfl (by decide) rfl (Nat.le_of_ble_eq_true rfl) (fun Wf m H0 X E => ?_)
  unfold M_Model_frequencyOf at hv
  show zW Wf m 2 g n H0 0 [(0, .ref (g.2.2 p0)), (1, zi x1)] [] h
  refine z_iload_n (pc := 0) (q := 1) X d_Model_frequencyOf_0 rfl ?_
  refine z_if_lt (pc := 1) (tgt := 19) X rx1 d_Model_frequencyOf_1 (by decide) (fun hc => ?_) (fun hc => ?_)
  · replace hv := hv.1 hc
    refine z_iconst (pc := 19) X d_Model_frequencyOf_19 ?_
    exact E.2.1 rfl _ _ _ _ d_Model_frequencyOf_20 ⟨_, rfl, (show zr 0 from by decide), hh, hv⟩
  · replace hv := hv.2 hc
    refine z_iload_n (pc := 4) (q := 1) X d_Model_frequencyOf_4 rfl ?_
    refine z_bipush (pc := 5) X d_Model_frequencyOf_5 (by decide) ?_
    refine z_icmp_ge (pc := 7) (tgt := 19) X rx1 (show zr 8 from by decide) d_Model_frequencyOf_7 (by decide) (fun hc => ?_) (fun hc => ?_)
    · replace hv := hv.1 hc
      refine z_iconst (pc := 19) X d_Model_frequencyOf_19 ?_
      exact E.2.1 rfl _ _ _ _ d_Model_frequencyOf_20 ⟨_, rfl, (show zr 0 from by decide), hh, hv⟩
    · replace hv := hv.2 hc
      refine z_aload_n (pc := 10) (q := 0) X d_Model_frequencyOf_10 rfl ?_
      refine z_getr (pc := 11) (j := 0) (dd := 1) X cf_Model op0 (by decide) q80 rfl rfl d_Model_frequencyOf_11 ?_
      refine z_iload_n (pc := 14) (q := 1) X d_Model_frequencyOf_14 rfl ?_
      obtain ⟨v_1, hv⟩ := hv
      refine z_ialdj (pc := 15) (j := x1.toNat) X (gf_Model_0 op0) (gl_Model_0 op0) rx1 v_1 rfl d_Model_frequencyOf_15 ?_
      refine z_goto (pc := 16) (tgt := 20) X d_Model_frequencyOf_16 (by decide) ?_
      exact E.2.1 rfl _ _ _ _ d_Model_frequencyOf_20 ⟨_, rfl, (hh.1 _ _ (zO.ne (gf_Model_0 op0) (by decide))), hh, hv⟩
theorem d_Model_slotOf_0 : decode b_Model_slotOf 0 = .ok (.iload_n 1, 1) := by decide +kernel
theorem d_Model_slotOf_1 : decode b_Model_slotOf 1 = .ok (.ifCond .lt 23, 3) := by decide +kernel
theorem d_Model_slotOf_4 : decode b_Model_slotOf 4 = .ok (.iload_n 1, 1) := by decide +kernel
theorem d_Model_slotOf_5 : decode b_Model_slotOf 5 = .ok (.bipush 8, 2) := by decide +kernel
theorem d_Model_slotOf_7 : decode b_Model_slotOf 7 = .ok (.if_icmp .ge 17, 3) := by decide +kernel
theorem d_Model_slotOf_10 : decode b_Model_slotOf 10 = .ok (.iload_n 2, 1) := by decide +kernel
theorem d_Model_slotOf_11 : decode b_Model_slotOf 11 = .ok (.ifCond .lt 13, 3) := by decide +kernel
theorem d_Model_slotOf_14 : decode b_Model_slotOf 14 = .ok (.iload_n 2, 1) := by decide +kernel
theorem d_Model_slotOf_15 : decode b_Model_slotOf 15 = .ok (.bipush 32, 2) := by decide +kernel
theorem d_Model_slotOf_17 : decode b_Model_slotOf 17 = .ok (.if_icmp .ge 7, 3) := by decide +kernel
theorem d_Model_slotOf_20 : decode b_Model_slotOf 20 = .ok (.iconst 1, 1) := by decide +kernel
theorem d_Model_slotOf_21 : decode b_Model_slotOf 21 = .ok (.goto 4, 3) := by decide +kernel
theorem d_Model_slotOf_24 : decode b_Model_slotOf 24 = .ok (.iconst 0, 1) := by decide +kernel
theorem d_Model_slotOf_25 : decode b_Model_slotOf 25 = .ok (.istore_n 3, 1) := by decide +kernel
theorem d_Model_slotOf_26 : decode b_Model_slotOf 26 = .ok (.iload_n 3, 1) := by decide +kernel
theorem d_Model_slotOf_27 : decode b_Model_slotOf 27 = .ok (.ifCond .eq 17, 3) := by decide +kernel
theorem d_Model_slotOf_30 : decode b_Model_slotOf 30 = .ok (.aload_n 0, 1) := by decide +kernel
theorem d_Model_slotOf_31 : decode b_Model_slotOf 31 = .ok (.getfield 34, 3) := by decide +kernel
theorem d_Model_slotOf_34 : decode b_Model_slotOf 34 = .ok (.iload_n 1, 1) := by decide +kernel
theorem d_Model_slotOf_35 : decode b_Model_slotOf 35 = .ok (.bipush 32, 2) := by decide +kernel
theorem d_Model_slotOf_37 : decode b_Model_slotOf 37 = .ok (.imul, 1) := by decide +kernel
theorem d_Model_slotOf_38 : decode b_Model_slotOf 38 = .ok (.iload_n 2, 1) := by decide +kernel
theorem d_Model_slotOf_39 : decode b_Model_slotOf 39 = .ok (.iadd, 1) := by decide +kernel
theorem d_Model_slotOf_40 : decode b_Model_slotOf 40 = .ok (.iaload, 1) := by decide +kernel
theorem d_Model_slotOf_41 : decode b_Model_slotOf 41 = .ok (.goto 4, 3) := by decide +kernel
theorem d_Model_slotOf_44 : decode b_Model_slotOf 44 = .ok (.iconst 0, 1) := by decide +kernel
theorem d_Model_slotOf_45 : decode b_Model_slotOf 45 = .ok (.ireturn, 1) := by decide +kernel
def rm_Model_slotOf : Room := { frames := 0, cells := 0, slots := 0, locals := 0 }
theorem mf_Model_slotOf : zMV y_Model_slotOf b_Model_slotOf 4 (some .int) 2 := ⟨q799, qs49, q4, q800, by decide +kernel⟩
def B_Model_slotOf_25 (K : Int → zH → Prop)  (p0 : Nat) (x1 : Int) (x2 : Int) (u0 : Int) (h : zH) : Prop :=
  (u0 = 0 → (K 0 h)) ∧ (u0 ≠ 0 → (zr (x1 * 32) ∧ (zr ((x1 * 32) + x2) ∧ ((0 ≤ (x1 * 32) + x2 ∧ (x1 * 32) + x2 < 256) ∧ (K (h (p0 + 8) (((x1 * 32) + x2).toNat)) h)))))
set_option maxRecDepth 100000 in
theorem s_Model_slotOf_25 {Wf : Heap → List Loc → JFrame → Prop} {m : MethodId} {g : zG} {n : Nat} {H0 : Heap} (X : zX Wf m rm_Model_slotOf b_Model_slotOf "AliasStreams$Model" 4 g n H0) {K : Int → zH → Prop} (E : zEx Wf m b_Model_slotOf (some .int) 4 g n H0 (zPi K))  {p0 : Nat} {x1 : Int} {x2 : Int}  (op0 : zO n p0 1) (rx1 : zr x1) (rx2 : zr x2) {u0 : Int} (ru0 : zr u0) {h : zH} (hh : zh h) (hv : B_Model_slotOf_25 K  p0 x1 x2 u0 h) : zW Wf m 4 g n H0 25 [(0, .ref (g.2.2 p0)), (1, zi x1), (2, zi x2)] [zi u0] h := by
  unfold B_Model_slotOf_25 at hv
  refine z_istore_n (pc := 25) (lv' := [(3, zi u0), (0, .ref (g.2.2 p0)), (1, zi x1), (2, zi x2)]) X d_Model_slotOf_25 (by decide) rfl ?_
  refine z_iload_n (pc := 26) (q := 0) X d_Model_slotOf_26 rfl ?_
  refine z_if_eq (pc := 27) (tgt := 44) X ru0 d_Model_slotOf_27 (by decide) (fun hc => ?_) (fun hc => ?_)
  · replace hv := hv.1 hc
    refine z_iconst (pc := 44) X d_Model_slotOf_44 ?_
    exact E.2.1 rfl _ _ _ _ d_Model_slotOf_45 ⟨_, rfl, (show zr 0 from by decide), hh, hv⟩
  · replace hv := hv.2 hc
    refine z_aload_n (pc := 30) (q := 1) X d_Model_slotOf_30 rfl ?_
    refine z_getr (pc := 31) (j := 7) (dd := 8) X cf_Model op0 (by decide) q93 rfl rfl d_Model_slotOf_31 ?_
    refine z_iload_n (pc := 34) (q := 2) X d_Model_slotOf_34 rfl ?_
    refine z_bipush (pc := 35) X d_Model_slotOf_35 (by decide) ?_
    obtain ⟨v_1, hv⟩ := hv
    refine z_imul (pc := 37) X d_Model_slotOf_37 ?_
    refine z_iload_n (pc := 38) (q := 3) X d_Model_slotOf_38 rfl ?_
    obtain ⟨v_2, hv⟩ := hv
    refine z_iadd (pc := 39) X d_Model_slotOf_39 ?_
    obtain ⟨v_3, hv⟩ := hv
    refine z_ialdj (pc := 40) (j := ((x1 * 32) + x2).toNat) X (gf_Model_7 op0) (gl_Model_7 op0) v_2 v_3 rfl d_Model_slotOf_40 ?_
    refine z_goto (pc := 41) (tgt := 45) X d_Model_slotOf_41 (by decide) ?_
    exact E.2.1 rfl _ _ _ _ d_Model_slotOf_45 ⟨_, rfl, (hh.1 _ _ (zO.ne (gf_Model_7 op0) (by decide))), hh, hv⟩
def B_Model_slotOf_24 (K : Int → zH → Prop)  (p0 : Nat) (x1 : Int) (x2 : Int)  (h : zH) : Prop :=
  B_Model_slotOf_25 K  p0 x1 x2 0 h
set_option maxRecDepth 100000 in
theorem s_Model_slotOf_24 {Wf : Heap → List Loc → JFrame → Prop} {m : MethodId} {g : zG} {n : Nat} {H0 : Heap} (X : zX Wf m rm_Model_slotOf b_Model_slotOf "AliasStreams$Model" 4 g n H0) {K : Int → zH → Prop} (E : zEx Wf m b_Model_slotOf (some .int) 4 g n H0 (zPi K))  {p0 : Nat} {x1 : Int} {x2 : Int}  (op0 : zO n p0 1) (rx1 : zr x1) (rx2 : zr x2)   {h : zH} (hh : zh h) (hv : B_Model_slotOf_24 K  p0 x1 x2  h) : zW Wf m 4 g n H0 24 [(0, .ref (g.2.2 p0)), (1, zi x1), (2, zi x2)] [] h := by
  unfold B_Model_slotOf_24 at hv
  refine z_iconst (pc := 24) X d_Model_slotOf_24 ?_
  exact s_Model_slotOf_25 X E  op0 rx1 rx2 (show zr 0 from by decide) hh hv
def M_Model_slotOf (p0 : Nat) (x1 : Int) (x2 : Int) (h : zH) (K : Int → zH → Prop) : Prop :=
  (x1 < 0 → (B_Model_slotOf_24 K  p0 x1 x2  h)) ∧ (0 ≤ x1 → ((8 ≤ x1 → (B_Model_slotOf_24 K  p0 x1 x2  h)) ∧ (x1 < 8 → ((x2 < 0 → (B_Model_slotOf_24 K  p0 x1 x2  h)) ∧ (0 ≤ x2 → ((32 ≤ x2 → (B_Model_slotOf_24 K  p0 x1 x2  h)) ∧ (x2 < 32 → (B_Model_slotOf_25 K  p0 x1 x2 1 h))))))))
set_option maxRecDepth 100000 in
theorem c_Model_slotOf {l : Launch} (hfl : l.flags = flags0) {g : zG} {n : Nat} {p0 : Nat} {x1 : Int} {x2 : Int} (op0 : zO n p0 1) (rx1 : zr x1) (rx2 : zr x2) {h : zH} (hh : zh h) {K : Int → zH → Prop} (hv : M_Model_slotOf p0 x1 x2 h K) : zMet l y_Model_slotOf b_Model_slotOf 4 (some .int) rm_Model_slotOf g n [.ref (g.2.2 p0), zi x1, zi x2] h (zPi K) := by
  refine zMet_of (own := "AliasStreams$Model") hfl (by decide) rfl (Nat.le_of_ble_eq_true rfl) (fun Wf m H0 X E => ?_)
  unfold M_Model_slotOf at hv
  show zW Wf m 4 g n H0 0 [(0, .ref (g.2.2 p0)), (1, zi x1), (2, zi x2)] [] h
  refine z_iload_n (pc := 0) (q := 1) X d_Model_slotOf_0 rfl ?_
  refine z_if_lt (pc := 1) (tgt := 24) X rx1 d_Model_slotOf_1 (by decide) (fun hc => ?_) (fun hc => ?_)
  · replace hv := hv.1 hc
    exact s_Model_slotOf_24 X E  op0 rx1 rx2  hh hv
  · replace hv := hv.2 hc
    refine z_iload_n (pc := 4) (q := 1) X d_Model_slotOf_4 rfl ?_
    refine z_bipush (pc := 5) X d_Model_slotOf_5 (by decide) ?_
    refine z_icmp_ge (pc := 7) (tgt := 24) X rx1 (show zr 8 from by decide) d_Model_slotOf_7 (by decide) (fun hc => ?_) (fun hc => ?_)
    · replace hv := hv.1 hc
      exact s_Model_slotOf_24 X E  op0 rx1 rx2  hh hv
    · replace hv := hv.2 hc
      refine z_iload_n (pc := 10) (q := 2) X d_Model_slotOf_10 rfl ?_
      refine z_if_lt (pc := 11) (tgt := 24) X rx2 d_Model_slotOf_11 (by decide) (fun hc => ?_) (fun hc => ?_)
      · replace hv := hv.1 hc
        exact s_Model_slotOf_24 X E  op0 rx1 rx2  hh hv
      · replace hv := hv.2 hc
        refine z_iload_n (pc := 14) (q := 2) X d_Model_slotOf_14 rfl ?_
        refine z_bipush (pc := 15) X d_Model_slotOf_15 (by decide) ?_
        refine z_icmp_ge (pc := 17) (tgt := 24) X rx2 (show zr 32 from by decide) d_Model_slotOf_17 (by decide) (fun hc => ?_) (fun hc => ?_)
        · replace hv := hv.1 hc
          exact s_Model_slotOf_24 X E  op0 rx1 rx2  hh hv
        · replace hv := hv.2 hc
          refine z_iconst (pc := 20) X d_Model_slotOf_20 ?_
          refine z_goto (pc := 21) (tgt := 25) X d_Model_slotOf_21 (by decide) ?_
          exact s_Model_slotOf_25 X E  op0 rx1 rx2 (show zr 1 from by decide) hh hv
theorem d_Model_giveOne_0 : decode b_Model_giveOne 0 = .ok (.bipush (-9), 2) := by decide +kernel
theorem d_Model_giveOne_2 : decode b_Model_giveOne 2 = .ok (.istore_n 1, 1) := by decide +kernel
theorem d_Model_giveOne_3 : decode b_Model_giveOne 3 = .ok (.bipush (-9), 2) := by decide +kernel
theorem d_Model_giveOne_5 : decode b_Model_giveOne 5 = .ok (.istore_n 2, 1) := by decide +kernel
theorem d_Model_giveOne_6 : decode b_Model_giveOne 6 = .ok (.iconst 0, 1) := by decide +kernel
theorem d_Model_giveOne_7 : decode b_Model_giveOne 7 = .ok (.istore_n 3, 1) := by decide +kernel
theorem d_Model_giveOne_8 : decode b_Model_giveOne 8 = .ok (.iload_n 3, 1) := by decide +kernel
theorem d_Model_giveOne_9 : decode b_Model_giveOne 9 = .ok (.bipush 8, 2) := by decide +kernel
theorem d_Model_giveOne_11 : decode b_Model_giveOne 11 = .ok (.if_icmp .ge 28, 3) := by decide +kernel
theorem d_Model_giveOne_14 : decode b_Model_giveOne 14 = .ok (.aload_n 0, 1) := by decide +kernel
theorem d_Model_giveOne_15 : decode b_Model_giveOne 15 = .ok (.getfield 15, 3) := by decide +kernel
theorem d_Model_giveOne_18 : decode b_Model_giveOne 18 = .ok (.iload_n 3, 1) := by decide +kernel
theorem d_Model_giveOne_19 : decode b_Model_giveOne 19 = .ok (.iaload, 1) := by decide +kernel
theorem d_Model_giveOne_20 : decode b_Model_giveOne 20 = .ok (.iload_n 2, 1) := by decide +kernel
theorem d_Model_giveOne_21 : decode b_Model_giveOne 21 = .ok (.if_icmp .le 12, 3) := by decide +kernel
theorem d_Model_giveOne_24 : decode b_Model_giveOne 24 = .ok (.iload_n 3, 1) := by decide +kernel
theorem d_Model_giveOne_25 : decode b_Model_giveOne 25 = .ok (.istore_n 1, 1) := by decide +kernel
theorem d_Model_giveOne_26 : decode b_Model_giveOne 26 = .ok (.aload_n 0, 1) := by decide +kernel
theorem d_Model_giveOne_27 : decode b_Model_giveOne 27 = .ok (.getfield 15, 3) := by decide +kernel
theorem d_Model_giveOne_30 : decode b_Model_giveOne 30 = .ok (.iload_n 3, 1) := by decide +kernel
theorem d_Model_giveOne_31 : decode b_Model_giveOne 31 = .ok (.iaload, 1) := by decide +kernel
theorem d_Model_giveOne_32 : decode b_Model_giveOne 32 = .ok (.istore_n 2, 1) := by decide +kernel
theorem d_Model_giveOne_33 : decode b_Model_giveOne 33 = .ok (.iinc 3 1, 3) := by decide +kernel
theorem d_Model_giveOne_36 : decode b_Model_giveOne 36 = .ok (.goto (-28), 3) := by decide +kernel
theorem d_Model_giveOne_39 : decode b_Model_giveOne 39 = .ok (.iload_n 1, 1) := by decide +kernel
theorem d_Model_giveOne_40 : decode b_Model_giveOne 40 = .ok (.ifCond .lt 21, 3) := by decide +kernel
theorem d_Model_giveOne_43 : decode b_Model_giveOne 43 = .ok (.aload_n 0, 1) := by decide +kernel
theorem d_Model_giveOne_44 : decode b_Model_giveOne 44 = .ok (.getfield 9, 3) := by decide +kernel
theorem d_Model_giveOne_47 : decode b_Model_giveOne 47 = .ok (.iload_n 1, 1) := by decide +kernel
theorem d_Model_giveOne_48 : decode b_Model_giveOne 48 = .ok (.dup2, 1) := by decide +kernel
theorem d_Model_giveOne_49 : decode b_Model_giveOne 49 = .ok (.iaload, 1) := by decide +kernel
theorem d_Model_giveOne_50 : decode b_Model_giveOne 50 = .ok (.iconst 1, 1) := by decide +kernel
theorem d_Model_giveOne_51 : decode b_Model_giveOne 51 = .ok (.iadd, 1) := by decide +kernel
theorem d_Model_giveOne_52 : decode b_Model_giveOne 52 = .ok (.iastore, 1) := by decide +kernel
theorem d_Model_giveOne_53 : decode b_Model_giveOne 53 = .ok (.aload_n 0, 1) := by decide +kernel
theorem d_Model_giveOne_54 : decode b_Model_giveOne 54 = .ok (.getfield 15, 3) := by decide +kernel
theorem d_Model_giveOne_57 : decode b_Model_giveOne 57 = .ok (.iload_n 1, 1) := by decide +kernel
theorem d_Model_giveOne_58 : decode b_Model_giveOne 58 = .ok (.bipush (-9), 2) := by decide +kernel
theorem d_Model_giveOne_60 : decode b_Model_giveOne 60 = .ok (.iastore, 1) := by decide +kernel
theorem d_Model_giveOne_61 : decode b_Model_giveOne 61 = .ok (.return_, 1) := by decide +kernel
def rm_Model_giveOne : Room := { frames := 0, cells := 0, slots := 0, locals := 0 }
theorem mf_Model_giveOne : zMV y_Model_giveOne b_Model_giveOne 4 none 0 := ⟨q336, qs3, q4, q337, by decide +kernel⟩
def F_Model_giveOne_8 (K : zH → Prop)  (L8 : Int × Int × Int × zH → Prop) (p0 : Nat) (x1 : Int) (x2 : Int) (x3 : Int) (h : zH) : Prop :=
  (8 ≤ x3 → ((x1 < 0 → (K h)) ∧ (0 ≤ x1 → ((0 ≤ x1 ∧ x1 < 8) ∧ (zr ((h (p0 + 1) x1.toNat) + 1) ∧ ((0 ≤ x1 ∧ x1 < 8) ∧ (∀ h_4 : zH, h_4 = zs h (p0 + 1) x1.toNat ((h (p0 + 1) x1.toNat) + 1) → ((0 ≤ x1 ∧ x1 < 8) ∧ (∀ h_6 : zH, h_6 = zs h_4 (p0 + 2) x1.toNat (-9) → (K h_6)))))))))) ∧ (x3 < 8 → ((0 ≤ x3 ∧ x3 < 8) ∧ ((h (p0 + 2) x3.toNat ≤ x2 → (zr (x3 + 1) ∧ (L8 (x1, x2, x3 + 1, h)))) ∧ (x2 < h (p0 + 2) x3.toNat → ((0 ≤ x3 ∧ x3 < 8) ∧ ((∀ x2_10 : Int, x2_10 = h (p0 + 2) x3.toNat → (zr (x3 + 1) ∧ (L8 (x3, x2_10, x3 + 1, h))))))))))
set_option maxRecDepth 100000 in
theorem s_Model_giveOne_8 {Wf : Heap → List Loc → JFrame → Prop} {m : MethodId} {g : zG} {n : Nat} {H0 : Heap} (X : zX Wf m rm_Model_giveOne b_Model_giveOne "AliasStreams$Model" 4 g n H0) {K : zH → Prop} (E : zEx Wf m b_Model_giveOne none 4 g n H0 (zPv K))  {p0 : Nat}  (op0 : zO n p0 1) {q0 : Int × Int × Int × zH} (hv0 : zLoop (fun L q => F_Model_giveOne_8 K  L p0 q.1 q.2.1 q.2.2.1 q.2.2.2) q0) : zr q0.1 → zr q0.2.1 → zr q0.2.2.1 → zh (q0.2.2.2) → zW Wf m 4 g n H0 8 [(0, .ref (g.2.2 p0)), (1, zi q0.1), (2, zi q0.2.1), (3, zi q0.2.2.1)] [] (q0.2.2.2) := by
  refine zLoop_use (G := fun q => zr q.1 → zr q.2.1 → zr q.2.2.1 → zh (q.2.2.2) → zW Wf m 4 g n H0 8 [(0, .ref (g.2.2 p0)), (1, zi q.1), (2, zi q.2.1), (3, zi q.2.2.1)] [] (q.2.2.2)) ?_ hv0
  rintro L8 ⟨x1, x2, x3, h⟩ hL8 hv rx1 rx2 rx3 hh
  have hv : F_Model_giveOne_8 K  L8 p0 x1 x2 x3 h := hv
  unfold F_Model_giveOne_8 at hv
  show zW Wf m 4 g n H0 8 [(0, .ref (g.2.2 p0)), (1, zi x1), (2, zi x2), (3, zi x3)] [] h
  refine z_iload_n (pc := 8) (q := 3) X d_Model_giveOne_8 rfl ?_
  refine z_bipush (pc := 9) X d_Model_giveOne_9 (by decide) ?_
  refine z_icmp_ge (pc := 11) (tgt := 39) X rx3 (show zr 8 from by decide) d_Model_giveOne_11 (by decide) (fun hc => ?_) (fun hc => ?_)
  · replace hv := hv.1 hc
    refine z_iload_n (pc := 39) (q := 1) X d_Model_giveOne_39 rfl ?_
    refine z_if_lt (pc := 40) (tgt := 61) X rx1 d_Model_giveOne_40 (by decide) (fun hc => ?_) (fun hc => ?_)
    · replace hv := hv.1 hc
      exact E.1 rfl _ _ _ d_Model_giveOne_61 ⟨rfl, hh, hv⟩
    · replace hv := hv.2 hc
      refine z_aload_n (pc := 43) (q := 0) X d_Model_giveOne_43 rfl ?_
      refine z_getr (pc := 44) (j := 0) (dd := 1) X cf_Model op0 (by decide) q80 rfl rfl d_Model_giveOne_44 ?_
      refine z_iload_n (pc := 47) (q := 1) X d_Model_giveOne_47 rfl ?_
      refine z_dup2 (pc := 48) X d_Model_giveOne_48 rfl rfl ?_
      obtain ⟨v_1, hv⟩ := hv
      refine z_ialdj (pc := 49) (j := x1.toNat) X (gf_Model_0 op0) (gl_Model_0 op0) rx1 v_1 rfl d_Model_giveOne_49 ?_
      refine z_iconst (pc := 50) X d_Model_giveOne_50 ?_
      obtain ⟨v_2, hv⟩ := hv
      refine z_iadd (pc := 51) X d_Model_giveOne_51 ?_
      obtain ⟨v_3, hv⟩ := hv
      refine z_iastj (pc := 52) (j := x1.toNat) X (gf_Model_0 op0) (gl_Model_0 op0) rx1 v_3 rfl d_Model_giveOne_52 ?_
      refine z_toph (fun h_4 eh_4 => ?_)
      have zh_4 : zh h_4 := by rw [eh_4]; exact zh_set hh (zO.ne (gf_Model_0 op0) (by decide)) v_2
      replace hv := hv h_4 eh_4
      refine z_aload_n (pc := 53) (q := 0) X d_Model_giveOne_53 rfl ?_
      refine z_getr (pc := 54) (j := 1) (dd := 2) X cf_Model op0 (by decide) q81 rfl rfl d_Model_giveOne_54 ?_
      refine z_iload_n (pc := 57) (q := 1) X d_Model_giveOne_57 rfl ?_
      refine z_bipush (pc := 58) X d_Model_giveOne_58 (by decide) ?_
      obtain ⟨v_5, hv⟩ := hv
      refine z_iastj (pc := 60) (j := x1.toNat) X (gf_Model_1 op0) (gl_Model_1 op0) rx1 v_5 rfl d_Model_giveOne_60 ?_
      refine z_toph (fun h_6 eh_6 => ?_)
      have zh_6 : zh h_6 := by rw [eh_6]; exact zh_set zh_4 (zO.ne (gf_Model_1 op0) (by decide)) (show zr (-9) from by decide)
      replace hv := hv h_6 eh_6
      exact E.1 rfl _ _ _ d_Model_giveOne_61 ⟨rfl, zh_6, hv⟩
  · replace hv := hv.2 hc
    refine z_aload_n (pc := 14) (q := 0) X d_Model_giveOne_14 rfl ?_
    refine z_getr (pc := 15) (j := 1) (dd := 2) X cf_Model op0 (by decide) q81 rfl rfl d_Model_giveOne_15 ?_
    refine z_iload_n (pc := 18) (q := 3) X d_Model_giveOne_18 rfl ?_
    obtain ⟨v_7, hv⟩ := hv
    refine z_ialdj (pc := 19) (j := x3.toNat) X (gf_Model_1 op0) (gl_Model_1 op0) rx3 v_7 rfl d_Model_giveOne_19 ?_
    refine z_iload_n (pc := 20) (q := 2) X d_Model_giveOne_20 rfl ?_
    refine z_icmp_le (pc := 21) (tgt := 33) X (hh.1 _ _ (zO.ne (gf_Model_1 op0) (by decide))) rx2 d_Model_giveOne_21 (by decide) (fun hc => ?_) (fun hc => ?_)
    · replace hv := hv.1 hc
      obtain ⟨v_8, hv⟩ := hv
      refine z_iinc (pc := 33) (q := 3) (lv' := [(3, zi (x3 + 1)), (0, .ref (g.2.2 p0)), (1, zi x1), (2, zi x2)]) X d_Model_giveOne_33 rfl (by decide) rfl ?_
      refine z_goto (pc := 36) (tgt := 8) X d_Model_giveOne_36 (by decide) ?_
      refine z_perm [1, 2, 3, 0] rfl ?_
      exact hL8 _ hv rx1 rx2 v_8 hh
    · replace hv := hv.2 hc
      refine z_iload_n (pc := 24) (q := 3) X d_Model_giveOne_24 rfl ?_
      refine z_istore_n (pc := 25) (lv' := [(1, zi x3), (0, .ref (g.2.2 p0)), (2, zi x2), (3, zi x3)]) X d_Model_giveOne_25 (by decide) rfl ?_
      refine z_aload_n (pc := 26) (q := 1) X d_Model_giveOne_26 rfl ?_
      refine z_getr (pc := 27) (j := 1) (dd := 2) X cf_Model op0 (by decide) q81 rfl rfl d_Model_giveOne_27 ?_
      refine z_iload_n (pc := 30) (q := 3) X d_Model_giveOne_30 rfl ?_
      obtain ⟨v_9, hv⟩ := hv
      refine z_ialdj (pc := 31) (j := x3.toNat) X (gf_Model_1 op0) (gl_Model_1 op0) rx3 v_9 rfl d_Model_giveOne_31 ?_
      refine z_topi (fun x2_10 ex2_10 => ?_)
      have rx2_10 : zr x2_10 := by rw [ex2_10]; exact (hh.1 _ _ (zO.ne (gf_Model_1 op0) (by decide)))
      replace hv := hv x2_10 ex2_10
      refine z_istore_n (pc := 32) (lv' := [(2, zi x2_10), (1, zi x3), (0, .ref (g.2.2 p0)), (3, zi x3)]) X d_Model_giveOne_32 (by decide) rfl ?_
      obtain ⟨v_11, hv⟩ := hv
      refine z_iinc (pc := 33) (q := 3) (lv' := [(3, zi (x3 + 1)), (2, zi x2_10), (1, zi x3), (0, .ref (g.2.2 p0))]) X d_Model_giveOne_33 rfl (by decide) rfl ?_
      refine z_goto (pc := 36) (tgt := 8) X d_Model_giveOne_36 (by decide) ?_
      refine z_perm [3, 2, 1, 0] rfl ?_
      exact hL8 _ hv rx3 rx2_10 v_11 hh
def M_Model_giveOne (p0 : Nat) (h : zH) (K : zH → Prop) : Prop :=
  zLoop (fun L q => F_Model_giveOne_8 K  L p0 q.1 q.2.1 q.2.2.1 q.2.2.2) ((-9), (-9), 0, h)
set_option maxRecDepth 100000 in
theorem c_Model_giveOne {l : Launch} (hfl : l.flags = flags0) {g : zG} {n : Nat} {p0 : Nat} (op0 : zO n p0 1) {h : zH} (hh : zh h) {K : zH → Prop} (hv : M_Model_giveOne p0 h K) : zMet l y_Model_giveOne b_Model_giveOne 4 none rm_Model_giveOne g n [.ref (g.2.2 p0)] h (zPv K) := by
  refine zMet_of (own := "AliasStreams$Model") hfl (by decide) rfl (Nat.le_of_ble_eq_true rfl) (fun Wf m H0 X E => ?_)
  unfold M_Model_giveOne at hv
  show zW Wf m 4 g n H0 0 [(0, .ref (g.2.2 p0))] [] h
  refine z_bipush (pc := 0) X d_Model_giveOne_0 (by decide) ?_
  refine z_istore_n (pc := 2) (lv' := [(1, zi (-9)), (0, .ref (g.2.2 p0))]) X d_Model_giveOne_2 (by decide) rfl ?_
  refine z_bipush (pc := 3) X d_Model_giveOne_3 (by decide) ?_
  refine z_istore_n (pc := 5) (lv' := [(2, zi (-9)), (1, zi (-9)), (0, .ref (g.2.2 p0))]) X d_Model_giveOne_5 (by decide) rfl ?_
  refine z_iconst (pc := 6) X d_Model_giveOne_6 ?_
  refine z_istore_n (pc := 7) (lv' := [(3, zi 0), (2, zi (-9)), (1, zi (-9)), (0, .ref (g.2.2 p0))]) X d_Model_giveOne_7 (by decide) rfl ?_
  refine z_perm [3, 2, 1, 0] rfl ?_
  exact s_Model_giveOne_8 X E  op0 hv (show zr (-9) from by decide) (show zr (-9) from by decide) (show zr 0 from by decide) hh
theorem d_Model_takeOne_0 : decode b_Model_takeOne 0 = .ok (.iconst 0, 1) := by decide +kernel
theorem d_Model_takeOne_1 : decode b_Model_takeOne 1 = .ok (.istore_n 1, 1) := by decide +kernel
theorem d_Model_takeOne_2 : decode b_Model_takeOne 2 = .ok (.iconst 1, 1) := by decide +kernel
theorem d_Model_takeOne_3 : decode b_Model_takeOne 3 = .ok (.istore_n 2, 1) := by decide +kernel
theorem d_Model_takeOne_4 : decode b_Model_takeOne 4 = .ok (.iload_n 2, 1) := by decide +kernel
theorem d_Model_takeOne_5 : decode b_Model_takeOne 5 = .ok (.bipush 8, 2) := by decide +kernel
theorem d_Model_takeOne_7 : decode b_Model_takeOne 7 = .ok (.if_icmp .ge 26, 3) := by decide +kernel
theorem d_Model_takeOne_10 : decode b_Model_takeOne 10 = .ok (.aload_n 0, 1) := by decide +kernel
theorem d_Model_takeOne_11 : decode b_Model_takeOne 11 = .ok (.getfield 9, 3) := by decide +kernel
theorem d_Model_takeOne_14 : decode b_Model_takeOne 14 = .ok (.iload_n 2, 1) := by decide +kernel
theorem d_Model_takeOne_15 : decode b_Model_takeOne 15 = .ok (.iaload, 1) := by decide +kernel
theorem d_Model_takeOne_16 : decode b_Model_takeOne 16 = .ok (.aload_n 0, 1) := by decide +kernel
theorem d_Model_takeOne_17 : decode b_Model_takeOne 17 = .ok (.getfield 9, 3) := by decide +kernel
theorem d_Model_takeOne_20 : decode b_Model_takeOne 20 = .ok (.iload_n 1, 1) := by decide +kernel
theorem d_Model_takeOne_21 : decode b_Model_takeOne 21 = .ok (.iaload, 1) := by decide +kernel
theorem d_Model_takeOne_22 : decode b_Model_takeOne 22 = .ok (.if_icmp .lt 5, 3) := by decide +kernel
theorem d_Model_takeOne_25 : decode b_Model_takeOne 25 = .ok (.iload_n 2, 1) := by decide +kernel
theorem d_Model_takeOne_26 : decode b_Model_takeOne 26 = .ok (.istore_n 1, 1) := by decide +kernel
theorem d_Model_takeOne_27 : decode b_Model_takeOne 27 = .ok (.iinc 2 1, 3) := by decide +kernel
theorem d_Model_takeOne_30 : decode b_Model_takeOne 30 = .ok (.goto (-26), 3) := by decide +kernel
theorem d_Model_takeOne_33 : decode b_Model_takeOne 33 = .ok (.aload_n 0, 1) := by decide +kernel
theorem d_Model_takeOne_34 : decode b_Model_takeOne 34 = .ok (.getfield 9, 3) := by decide +kernel
theorem d_Model_takeOne_37 : decode b_Model_takeOne 37 = .ok (.iload_n 1, 1) := by decide +kernel
theorem d_Model_takeOne_38 : decode b_Model_takeOne 38 = .ok (.dup2, 1) := by decide +kernel
theorem d_Model_takeOne_39 : decode b_Model_takeOne 39 = .ok (.iaload, 1) := by decide +kernel
theorem d_Model_takeOne_40 : decode b_Model_takeOne 40 = .ok (.iconst 1, 1) := by decide +kernel
theorem d_Model_takeOne_41 : decode b_Model_takeOne 41 = .ok (.isub, 1) := by decide +kernel
theorem d_Model_takeOne_42 : decode b_Model_takeOne 42 = .ok (.iastore, 1) := by decide +kernel
theorem d_Model_takeOne_43 : decode b_Model_takeOne 43 = .ok (.return_, 1) := by decide +kernel
def rm_Model_takeOne : Room := { frames := 0, cells := 0, slots := 0, locals := 0 }
theorem mf_Model_takeOne : zMV y_Model_takeOne b_Model_takeOne 3 none 0 := ⟨q340, qs4, q4, q341, by decide +kernel⟩
def F_Model_takeOne_4 (K : zH → Prop)  (L4 : Int × Int × zH → Prop) (p0 : Nat) (x1 : Int) (x2 : Int) (h : zH) : Prop :=
  (8 ≤ x2 → ((0 ≤ x1 ∧ x1 < 8) ∧ (zr ((h (p0 + 1) x1.toNat) - 1) ∧ ((0 ≤ x1 ∧ x1 < 8) ∧ (∀ h_4 : zH, h_4 = zs h (p0 + 1) x1.toNat ((h (p0 + 1) x1.toNat) - 1) → (K h_4)))))) ∧ (x2 < 8 → ((0 ≤ x2 ∧ x2 < 8) ∧ ((0 ≤ x1 ∧ x1 < 8) ∧ ((h (p0 + 1) x2.toNat < h (p0 + 1) x1.toNat → (zr (x2 + 1) ∧ (L4 (x1, x2 + 1, h)))) ∧ (h (p0 + 1) x1.toNat ≤ h (p0 + 1) x2.toNat → (zr (x2 + 1) ∧ (L4 (x2, x2 + 1, h))))))))
set_option maxRecDepth 100000 in
theorem s_Model_takeOne_4 {Wf : Heap → List Loc → JFrame → Prop} {m : MethodId} {g : zG} {n : Nat} {H0 : Heap} (X : zX Wf m rm_Model_takeOne b_Model_takeOne "AliasStreams$Model" 3 g n H0) {K : zH → Prop} (E : zEx Wf m b_Model_takeOne none 3 g n H0 (zPv K))  {p0 : Nat}  (op0 : zO n p0 1) {q0 : Int × Int × zH} (hv0 : zLoop (fun L q => F_Model_takeOne_4 K  L p0 q.1 q.2.1 q.2.2) q0) : zr q0.1 → zr q0.2.1 → zh (q0.2.2) → zW Wf m 3 g n H0 4 [(0, .ref (g.2.2 p0)), (1, zi q0.1), (2, zi q0.2.1)] [] (q0.2.2) := by
  refine zLoop_use (G := fun q => zr q.1 → zr q.2.1 → zh (q.2.2) → zW Wf m 3 g n H0 4 [(0, .ref (g.2.2 p0)), (1, zi q.1), (2, zi q.2.1)] [] (q.2.2)) ?_ hv0
  rintro L4 ⟨x1, x2, h⟩ hL4 hv rx1 rx2 hh
  have hv : F_Model_takeOne_4 K  L4 p0 x1 x2 h := hv
  unfold F_Model_takeOne_4 at hv
  show zW Wf m 3 g n H0 4 [(0, .ref (g.2.2 p0)), (1, zi x1), (2, zi x2)] [] h
  refine z_iload_n (pc := 4) (q := 2) X d_Model_takeOne_4 rfl ?_
  refine z_bipush (pc := 5) X d_Model_takeOne_5 (by decide) ?_
  refine z_icmp_ge (pc := 7) (tgt := 33) X rx2 (show zr 8 from by decide) d_Model_takeOne_7 (by decide) (fun hc => ?_) (fun hc => ?_)
  · replace hv := hv.1 hc
    refine z_aload_n (pc := 33) (q := 0) X d_Model_takeOne_33 rfl ?_
    refine z_getr (pc := 34) (j := 0) (dd := 1) X cf_Model op0 (by decide) q80 rfl rfl d_Model_takeOne_34 ?_
    refine z_iload_n (pc := 37) (q := 1) X d_Model_takeOne_37 rfl ?_
    refine z_dup2 (pc := 38) X d_Model_takeOne_38 rfl rfl ?_
    obtain ⟨v_1, hv⟩ := hv
    refine z_ialdj (pc := 39) (j := x1.toNat) X (gf_Model_0 op0) (gl_Model_0 op0) rx1 v_1 rfl d_Model_takeOne_39 ?_
    refine z_iconst (pc := 40) X d_Model_takeOne_40 ?_
    obtain ⟨v_2, hv⟩ := hv
    refine z_isub (pc := 41) X d_Model_takeOne_41 ?_
    obtain ⟨v_3, hv⟩ := hv
    refine z_iastj (pc := 42) (j := x1.toNat) X (gf_Model_0 op0) (gl_Model_0 op0) rx1 v_3 rfl d_Model_takeOne_42 ?_
    refine z_toph (fun h_4 eh_4 => ?_)
    have zh_4 : zh h_4 := by rw [eh_4]; exact zh_set hh (zO.ne (gf_Model_0 op0) (by decide)) v_2
    replace hv := hv h_4 eh_4
    exact E.1 rfl _ _ _ d_Model_takeOne_43 ⟨rfl, zh_4, hv⟩
  · replace hv := hv.2 hc
    refine z_aload_n (pc := 10) (q := 0) X d_Model_takeOne_10 rfl ?_
    refine z_getr (pc := 11) (j := 0) (dd := 1) X cf_Model op0 (by decide) q80 rfl rfl d_Model_takeOne_11 ?_
    refine z_iload_n (pc := 14) (q := 2) X d_Model_takeOne_14 rfl ?_
    obtain ⟨v_5, hv⟩ := hv
    refine z_ialdj (pc := 15) (j := x2.toNat) X (gf_Model_0 op0) (gl_Model_0 op0) rx2 v_5 rfl d_Model_takeOne_15 ?_
    refine z_aload_n (pc := 16) (q := 0) X d_Model_takeOne_16 rfl ?_
    refine z_getr (pc := 17) (j := 0) (dd := 1) X cf_Model op0 (by decide) q80 rfl rfl d_Model_takeOne_17 ?_
    refine z_iload_n (pc := 20) (q := 1) X d_Model_takeOne_20 rfl ?_
    obtain ⟨v_6, hv⟩ := hv
    refine z_ialdj (pc := 21) (j := x1.toNat) X (gf_Model_0 op0) (gl_Model_0 op0) rx1 v_6 rfl d_Model_takeOne_21 ?_
    refine z_icmp_lt (pc := 22) (tgt := 27) X (hh.1 _ _ (zO.ne (gf_Model_0 op0) (by decide))) (hh.1 _ _ (zO.ne (gf_Model_0 op0) (by decide))) d_Model_takeOne_22 (by decide) (fun hc => ?_) (fun hc => ?_)
    · replace hv := hv.1 hc
      obtain ⟨v_7, hv⟩ := hv
      refine z_iinc (pc := 27) (q := 2) (lv' := [(2, zi (x2 + 1)), (0, .ref (g.2.2 p0)), (1, zi x1)]) X d_Model_takeOne_27 rfl (by decide) rfl ?_
      refine z_goto (pc := 30) (tgt := 4) X d_Model_takeOne_30 (by decide) ?_
      refine z_perm [1, 2, 0] rfl ?_
      exact hL4 _ hv rx1 v_7 hh
    · replace hv := hv.2 hc
      refine z_iload_n (pc := 25) (q := 2) X d_Model_takeOne_25 rfl ?_
      refine z_istore_n (pc := 26) (lv' := [(1, zi x2), (0, .ref (g.2.2 p0)), (2, zi x2)]) X d_Model_takeOne_26 (by decide) rfl ?_
      obtain ⟨v_8, hv⟩ := hv
      refine z_iinc (pc := 27) (q := 2) (lv' := [(2, zi (x2 + 1)), (1, zi x2), (0, .ref (g.2.2 p0))]) X d_Model_takeOne_27 rfl (by decide) rfl ?_
      refine z_goto (pc := 30) (tgt := 4) X d_Model_takeOne_30 (by decide) ?_
      refine z_perm [2, 1, 0] rfl ?_
      exact hL4 _ hv rx2 v_8 hh
def M_Model_takeOne (p0 : Nat) (h : zH) (K : zH → Prop) : Prop :=
  zLoop (fun L q => F_Model_takeOne_4 K  L p0 q.1 q.2.1 q.2.2) (0, 1, h)
set_option maxRecDepth 100000 in
theorem c_Model_takeOne {l : Launch} (hfl : l.flags = flags0) {g : zG} {n : Nat} {p0 : Nat} (op0 : zO n p0 1) {h : zH} (hh : zh h) {K : zH → Prop} (hv : M_Model_takeOne p0 h K) : zMet l y_Model_takeOne b_Model_takeOne 3 none rm_Model_takeOne g n [.ref (g.2.2 p0)] h (zPv K) := by
  refine zMet_of (own := "AliasStreams$Model") hfl (by decide) rfl (Nat.le_of_ble_eq_true rfl) (fun Wf m H0 X E => ?_)
  unfold M_Model_takeOne at hv
  show zW Wf m 3 g n H0 0 [(0, .ref (g.2.2 p0))] [] h
  refine z_iconst (pc := 0) X d_Model_takeOne_0 ?_
  refine z_istore_n (pc := 1) (lv' := [(1, zi 0), (0, .ref (g.2.2 p0))]) X d_Model_takeOne_1 (by decide) rfl ?_
  refine z_iconst (pc := 2) X d_Model_takeOne_2 ?_
  refine z_istore_n (pc := 3) (lv' := [(2, zi 1), (1, zi 0), (0, .ref (g.2.2 p0))]) X d_Model_takeOne_3 (by decide) rfl ?_
  refine z_perm [2, 1, 0] rfl ?_
  exact s_Model_takeOne_4 X E  op0 hv (show zr 0 from by decide) (show zr 1 from by decide) hh
theorem d_Model_firstToClose_0 : decode b_Model_firstToClose 0 = .ok (.iconst 0, 1) := by decide +kernel
theorem d_Model_firstToClose_1 : decode b_Model_firstToClose 1 = .ok (.istore_n 1, 1) := by decide +kernel
theorem d_Model_firstToClose_2 : decode b_Model_firstToClose 2 = .ok (.iload_n 1, 1) := by decide +kernel
theorem d_Model_firstToClose_3 : decode b_Model_firstToClose 3 = .ok (.bipush 8, 2) := by decide +kernel
theorem d_Model_firstToClose_5 : decode b_Model_firstToClose 5 = .ok (.if_icmp .ge 30, 3) := by decide +kernel
theorem d_Model_firstToClose_8 : decode b_Model_firstToClose 8 = .ok (.aload_n 0, 1) := by decide +kernel
theorem d_Model_firstToClose_9 : decode b_Model_firstToClose 9 = .ok (.getfield 24, 3) := by decide +kernel
theorem d_Model_firstToClose_12 : decode b_Model_firstToClose 12 = .ok (.iload_n 1, 1) := by decide +kernel
theorem d_Model_firstToClose_13 : decode b_Model_firstToClose 13 = .ok (.baload, 1) := by decide +kernel
theorem d_Model_firstToClose_14 : decode b_Model_firstToClose 14 = .ok (.ifCond .eq 15, 3) := by decide +kernel
theorem d_Model_firstToClose_17 : decode b_Model_firstToClose 17 = .ok (.aload_n 0, 1) := by decide +kernel
theorem d_Model_firstToClose_18 : decode b_Model_firstToClose 18 = .ok (.getfield 18, 3) := by decide +kernel
theorem d_Model_firstToClose_21 : decode b_Model_firstToClose 21 = .ok (.iload_n 1, 1) := by decide +kernel
theorem d_Model_firstToClose_22 : decode b_Model_firstToClose 22 = .ok (.iaload, 1) := by decide +kernel
theorem d_Model_firstToClose_23 : decode b_Model_firstToClose 23 = .ok (.iconst 4, 1) := by decide +kernel
theorem d_Model_firstToClose_24 : decode b_Model_firstToClose 24 = .ok (.if_icmp .gt 5, 3) := by decide +kernel
theorem d_Model_firstToClose_27 : decode b_Model_firstToClose 27 = .ok (.iload_n 1, 1) := by decide +kernel
theorem d_Model_firstToClose_28 : decode b_Model_firstToClose 28 = .ok (.ireturn, 1) := by decide +kernel
theorem d_Model_firstToClose_29 : decode b_Model_firstToClose 29 = .ok (.iinc 1 1, 3) := by decide +kernel
theorem d_Model_firstToClose_32 : decode b_Model_firstToClose 32 = .ok (.goto (-30), 3) := by decide +kernel
theorem d_Model_firstToClose_35 : decode b_Model_firstToClose 35 = .ok (.bipush (-9), 2) := by decide +kernel
theorem d_Model_firstToClose_37 : decode b_Model_firstToClose 37 = .ok (.ireturn, 1) := by decide +kernel
def rm_Model_firstToClose : Room := { frames := 0, cells := 0, slots := 0, locals := 0 }
theorem mf_Model_firstToClose : zMV y_Model_firstToClose b_Model_firstToClose 2 (some .int) 0 := ⟨q352, qs7, q4, q353, by decide +kernel⟩
def F_Model_firstToClose_2 (K : Int → zH → Prop)  (L2 : Int × zH → Prop) (p0 : Nat) (x1 : Int) (h : zH) : Prop :=
  (8 ≤ x1 → (K (-9) h)) ∧ (x1 < 8 → ((0 ≤ x1 ∧ x1 < 8) ∧ ((h (p0 + 5) x1.toNat = 0 → (zr (x1 + 1) ∧ (L2 (x1 + 1, h)))) ∧ (h (p0 + 5) x1.toNat ≠ 0 → ((0 ≤ x1 ∧ x1 < 8) ∧ ((4 < h (p0 + 3) x1.toNat → (zr (x1 + 1) ∧ (L2 (x1 + 1, h)))) ∧ (h (p0 + 3) x1.toNat ≤ 4 → (K x1 h))))))))
set_option maxRecDepth 100000 in
theorem s_Model_firstToClose_2 {Wf : Heap → List Loc → JFrame → Prop} {m : MethodId} {g : zG} {n : Nat} {H0 : Heap} (X : zX Wf m rm_Model_firstToClose b_Model_firstToClose "AliasStreams$Model" 2 g n H0) {K : Int → zH → Prop} (E : zEx Wf m b_Model_firstToClose (some .int) 2 g n H0 (zPi K))  {p0 : Nat}  (op0 : zO n p0 1) {q0 : Int × zH} (hv0 : zLoop (fun L q => F_Model_firstToClose_2 K  L p0 q.1 q.2) q0) : zr q0.1 → zh (q0.2) → zW Wf m 2 g n H0 2 [(0, .ref (g.2.2 p0)), (1, zi q0.1)] [] (q0.2) := by
  refine zLoop_use (G := fun q => zr q.1 → zh (q.2) → zW Wf m 2 g n H0 2 [(0, .ref (g.2.2 p0)), (1, zi q.1)] [] (q.2)) ?_ hv0
  rintro L2 ⟨x1, h⟩ hL2 hv rx1 hh
  have hv : F_Model_firstToClose_2 K  L2 p0 x1 h := hv
  unfold F_Model_firstToClose_2 at hv
  show zW Wf m 2 g n H0 2 [(0, .ref (g.2.2 p0)), (1, zi x1)] [] h
  refine z_iload_n (pc := 2) (q := 1) X d_Model_firstToClose_2 rfl ?_
  refine z_bipush (pc := 3) X d_Model_firstToClose_3 (by decide) ?_
  refine z_icmp_ge (pc := 5) (tgt := 35) X rx1 (show zr 8 from by decide) d_Model_firstToClose_5 (by decide) (fun hc => ?_) (fun hc => ?_)
  · replace hv := hv.1 hc
    refine z_bipush (pc := 35) X d_Model_firstToClose_35 (by decide) ?_
    exact E.2.1 rfl _ _ _ _ d_Model_firstToClose_37 ⟨_, rfl, (show zr (-9) from by decide), hh, hv⟩
  · replace hv := hv.2 hc
    refine z_aload_n (pc := 8) (q := 0) X d_Model_firstToClose_8 rfl ?_
    refine z_getr (pc := 9) (j := 4) (dd := 5) X cf_Model op0 (by decide) q86 rfl rfl d_Model_firstToClose_9 ?_
    refine z_iload_n (pc := 12) (q := 1) X d_Model_firstToClose_12 rfl ?_
    obtain ⟨v_1, hv⟩ := hv
    refine z_zaldj (pc := 13) (j := x1.toNat) X (gf_Model_4 op0) (gl_Model_4 op0) rx1 v_1 rfl d_Model_firstToClose_13 ?_
    refine z_if_eq (pc := 14) (tgt := 29) X (hh.1 _ _ (zO.ne (gf_Model_4 op0) (by decide))) d_Model_firstToClose_14 (by decide) (fun hc => ?_) (fun hc => ?_)
    · replace hv := hv.1 hc
      obtain ⟨v_2, hv⟩ := hv
      refine z_iinc (pc := 29) (q := 1) (lv' := [(1, zi (x1 + 1)), (0, .ref (g.2.2 p0))]) X d_Model_firstToClose_29 rfl (by decide) rfl ?_
      refine z_goto (pc := 32) (tgt := 2) X d_Model_firstToClose_32 (by decide) ?_
      refine z_perm [1, 0] rfl ?_
      exact hL2 _ hv v_2 hh
    · replace hv := hv.2 hc
      refine z_aload_n (pc := 17) (q := 0) X d_Model_firstToClose_17 rfl ?_
      refine z_getr (pc := 18) (j := 2) (dd := 3) X cf_Model op0 (by decide) q82 rfl rfl d_Model_firstToClose_18 ?_
      refine z_iload_n (pc := 21) (q := 1) X d_Model_firstToClose_21 rfl ?_
      obtain ⟨v_3, hv⟩ := hv
      refine z_ialdj (pc := 22) (j := x1.toNat) X (gf_Model_2 op0) (gl_Model_2 op0) rx1 v_3 rfl d_Model_firstToClose_22 ?_
      refine z_iconst (pc := 23) X d_Model_firstToClose_23 ?_
      refine z_icmp_gt (pc := 24) (tgt := 29) X (hh.1 _ _ (zO.ne (gf_Model_2 op0) (by decide))) (show zr 4 from by decide) d_Model_firstToClose_24 (by decide) (fun hc => ?_) (fun hc => ?_)
      · replace hv := hv.1 hc
        obtain ⟨v_4, hv⟩ := hv
        refine z_iinc (pc := 29) (q := 1) (lv' := [(1, zi (x1 + 1)), (0, .ref (g.2.2 p0))]) X d_Model_firstToClose_29 rfl (by decide) rfl ?_
        refine z_goto (pc := 32) (tgt := 2) X d_Model_firstToClose_32 (by decide) ?_
        refine z_perm [1, 0] rfl ?_
        exact hL2 _ hv v_4 hh
      · replace hv := hv.2 hc
        refine z_iload_n (pc := 27) (q := 1) X d_Model_firstToClose_27 rfl ?_
        exact E.2.1 rfl _ _ _ _ d_Model_firstToClose_28 ⟨_, rfl, rx1, hh, hv⟩
def M_Model_firstToClose (p0 : Nat) (h : zH) (K : Int → zH → Prop) : Prop :=
  zLoop (fun L q => F_Model_firstToClose_2 K  L p0 q.1 q.2) (0, h)
set_option maxRecDepth 100000 in
theorem c_Model_firstToClose {l : Launch} (hfl : l.flags = flags0) {g : zG} {n : Nat} {p0 : Nat} (op0 : zO n p0 1) {h : zH} (hh : zh h) {K : Int → zH → Prop} (hv : M_Model_firstToClose p0 h K) : zMet l y_Model_firstToClose b_Model_firstToClose 2 (some .int) rm_Model_firstToClose g n [.ref (g.2.2 p0)] h (zPi K) := by
  refine zMet_of (own := "AliasStreams$Model") hfl (by decide) rfl (Nat.le_of_ble_eq_true rfl) (fun Wf m H0 X E => ?_)
  unfold M_Model_firstToClose at hv
  show zW Wf m 2 g n H0 0 [(0, .ref (g.2.2 p0))] [] h
  refine z_iconst (pc := 0) X d_Model_firstToClose_0 ?_
  refine z_istore_n (pc := 1) (lv' := [(1, zi 0), (0, .ref (g.2.2 p0))]) X d_Model_firstToClose_1 (by decide) rfl ?_
  refine z_perm [1, 0] rfl ?_
  exact s_Model_firstToClose_2 X E  op0 hv (show zr 0 from by decide) hh
theorem d_Model_fullestOpen_0 : decode b_Model_fullestOpen 0 = .ok (.bipush (-9), 2) := by decide +kernel
theorem d_Model_fullestOpen_2 : decode b_Model_fullestOpen 2 = .ok (.istore_n 1, 1) := by decide +kernel
theorem d_Model_fullestOpen_3 : decode b_Model_fullestOpen 3 = .ok (.bipush (-9), 2) := by decide +kernel
theorem d_Model_fullestOpen_5 : decode b_Model_fullestOpen 5 = .ok (.istore_n 2, 1) := by decide +kernel
theorem d_Model_fullestOpen_6 : decode b_Model_fullestOpen 6 = .ok (.iconst 0, 1) := by decide +kernel
theorem d_Model_fullestOpen_7 : decode b_Model_fullestOpen 7 = .ok (.istore_n 3, 1) := by decide +kernel
theorem d_Model_fullestOpen_8 : decode b_Model_fullestOpen 8 = .ok (.iload_n 3, 1) := by decide +kernel
theorem d_Model_fullestOpen_9 : decode b_Model_fullestOpen 9 = .ok (.bipush 8, 2) := by decide +kernel
theorem d_Model_fullestOpen_11 : decode b_Model_fullestOpen 11 = .ok (.if_icmp .ge 37, 3) := by decide +kernel
theorem d_Model_fullestOpen_14 : decode b_Model_fullestOpen 14 = .ok (.aload_n 0, 1) := by decide +kernel
theorem d_Model_fullestOpen_15 : decode b_Model_fullestOpen 15 = .ok (.getfield 24, 3) := by decide +kernel
theorem d_Model_fullestOpen_18 : decode b_Model_fullestOpen 18 = .ok (.iload_n 3, 1) := by decide +kernel
theorem d_Model_fullestOpen_19 : decode b_Model_fullestOpen 19 = .ok (.baload, 1) := by decide +kernel
theorem d_Model_fullestOpen_20 : decode b_Model_fullestOpen 20 = .ok (.ifCond .eq 22, 3) := by decide +kernel
theorem d_Model_fullestOpen_23 : decode b_Model_fullestOpen 23 = .ok (.aload_n 0, 1) := by decide +kernel
theorem d_Model_fullestOpen_24 : decode b_Model_fullestOpen 24 = .ok (.getfield 18, 3) := by decide +kernel
theorem d_Model_fullestOpen_27 : decode b_Model_fullestOpen 27 = .ok (.iload_n 3, 1) := by decide +kernel
theorem d_Model_fullestOpen_28 : decode b_Model_fullestOpen 28 = .ok (.iaload, 1) := by decide +kernel
theorem d_Model_fullestOpen_29 : decode b_Model_fullestOpen 29 = .ok (.iload_n 2, 1) := by decide +kernel
theorem d_Model_fullestOpen_30 : decode b_Model_fullestOpen 30 = .ok (.if_icmp .le 12, 3) := by decide +kernel
theorem d_Model_fullestOpen_33 : decode b_Model_fullestOpen 33 = .ok (.iload_n 3, 1) := by decide +kernel
theorem d_Model_fullestOpen_34 : decode b_Model_fullestOpen 34 = .ok (.istore_n 1, 1) := by decide +kernel
theorem d_Model_fullestOpen_35 : decode b_Model_fullestOpen 35 = .ok (.aload_n 0, 1) := by decide +kernel
theorem d_Model_fullestOpen_36 : decode b_Model_fullestOpen 36 = .ok (.getfield 18, 3) := by decide +kernel
theorem d_Model_fullestOpen_39 : decode b_Model_fullestOpen 39 = .ok (.iload_n 3, 1) := by decide +kernel
theorem d_Model_fullestOpen_40 : decode b_Model_fullestOpen 40 = .ok (.iaload, 1) := by decide +kernel
theorem d_Model_fullestOpen_41 : decode b_Model_fullestOpen 41 = .ok (.istore_n 2, 1) := by decide +kernel
theorem d_Model_fullestOpen_42 : decode b_Model_fullestOpen 42 = .ok (.iinc 3 1, 3) := by decide +kernel
theorem d_Model_fullestOpen_45 : decode b_Model_fullestOpen 45 = .ok (.goto (-37), 3) := by decide +kernel
theorem d_Model_fullestOpen_48 : decode b_Model_fullestOpen 48 = .ok (.iload_n 1, 1) := by decide +kernel
theorem d_Model_fullestOpen_49 : decode b_Model_fullestOpen 49 = .ok (.ireturn, 1) := by decide +kernel
def rm_Model_fullestOpen : Room := { frames := 0, cells := 0, slots := 0, locals := 0 }
theorem mf_Model_fullestOpen : zMV y_Model_fullestOpen b_Model_fullestOpen 4 (some .int) 0 := ⟨q356, qs8, q4, q357, by decide +kernel⟩
def F_Model_fullestOpen_8 (K : Int → zH → Prop)  (L8 : Int × Int × Int × zH → Prop) (p0 : Nat) (x1 : Int) (x2 : Int) (x3 : Int) (h : zH) : Prop :=
  (8 ≤ x3 → (K x1 h)) ∧ (x3 < 8 → ((0 ≤ x3 ∧ x3 < 8) ∧ ((h (p0 + 5) x3.toNat = 0 → (zr (x3 + 1) ∧ (L8 (x1, x2, x3 + 1, h)))) ∧ (h (p0 + 5) x3.toNat ≠ 0 → ((0 ≤ x3 ∧ x3 < 8) ∧ ((h (p0 + 3) x3.toNat ≤ x2 → (zr (x3 + 1) ∧ (L8 (x1, x2, x3 + 1, h)))) ∧ (x2 < h (p0 + 3) x3.toNat → ((0 ≤ x3 ∧ x3 < 8) ∧ ((∀ x2_6 : Int, x2_6 = h (p0 + 3) x3.toNat → (zr (x3 + 1) ∧ (L8 (x3, x2_6, x3 + 1, h)))))))))))))
set_option maxRecDepth 100000 in
theorem s_Model_fullestOpen_8 {Wf : Heap → List Loc → JFrame → Prop} {m : MethodId} {g : zG} {n : Nat} {H0 : Heap} (X : zX Wf m rm_Model_fullestOpen b_Model_fullestOpen "AliasStreams$Model" 4 g n H0) {K : Int → zH → Prop} (E : zEx Wf m b_Model_fullestOpen (some .int) 4 g n H0 (zPi K))  {p0 : Nat}  (op0 : zO n p0 1) {q0 : Int × Int × Int × zH} (hv0 : zLoop (fun L q => F_Model_fullestOpen_8 K  L p0 q.1 q.2.1 q.2.2.1 q.2.2.2) q0) : zr q0.1 → zr q0.2.1 → zr q0.2.2.1 → zh (q0.2.2.2) → zW Wf m 4 g n H0 8 [(0, .ref (g.2.2 p0)), (1, zi q0.1), (2, zi q0.2.1), (3, zi q0.2.2.1)] [] (q0.2.2.2) := by
  refine zLoop_use (G := fun q => zr q.1 → zr q.2.1 → zr q.2.2.1 → zh (q.2.2.2) → zW Wf m 4 g n H0 8 [(0, .ref (g.2.2 p0)), (1, zi q.1), (2, zi q.2.1), (3, zi q.2.2.1)] [] (q.2.2.2)) ?_ hv0
  rintro L8 ⟨x1, x2, x3, h⟩ hL8 hv rx1 rx2 rx3 hh
  have hv : F_Model_fullestOpen_8 K  L8 p0 x1 x2 x3 h := hv
  unfold F_Model_fullestOpen_8 at hv
  show zW Wf m 4 g n H0 8 [(0, .ref (g.2.2 p0)), (1, zi x1), (2, zi x2), (3, zi x3)] [] h
  refine z_iload_n (pc := 8) (q := 3) X d_Model_fullestOpen_8 rfl ?_
  refine z_bipush (pc := 9) X d_Model_fullestOpen_9 (by decide) ?_
  refine z_icmp_ge (pc := 11) (tgt := 48) X rx3 (show zr 8 from by decide) d_Model_fullestOpen_11 (by decide) (fun hc => ?_) (fun hc => ?_)
  · replace hv := hv.1 hc
    refine z_iload_n (pc := 48) (q := 1) X d_Model_fullestOpen_48 rfl ?_
    exact E.2.1 rfl _ _ _ _ d_Model_fullestOpen_49 ⟨_, rfl, rx1, hh, hv⟩
  · replace hv := hv.2 hc
    refine z_aload_n (pc := 14) (q := 0) X d_Model_fullestOpen_14 rfl ?_
    refine z_getr (pc := 15) (j := 4) (dd := 5) X cf_Model op0 (by decide) q86 rfl rfl d_Model_fullestOpen_15 ?_
    refine z_iload_n (pc := 18) (q := 3) X d_Model_fullestOpen_18 rfl ?_
    obtain ⟨v_1, hv⟩ := hv
    refine z_zaldj (pc := 19) (j := x3.toNat) X (gf_Model_4 op0) (gl_Model_4 op0) rx3 v_1 rfl d_Model_fullestOpen_19 ?_
    refine z_if_eq (pc := 20) (tgt := 42) X (hh.1 _ _ (zO.ne (gf_Model_4 op0) (by decide))) d_Model_fullestOpen_20 (by decide) (fun hc => ?_) (fun hc => ?_)
    · replace hv := hv.1 hc
      obtain ⟨v_2, hv⟩ := hv
      refine z_iinc (pc := 42) (q := 3) (lv' := [(3, zi (x3 + 1)), (0, .ref (g.2.2 p0)), (1, zi x1), (2, zi x2)]) X d_Model_fullestOpen_42 rfl (by decide) rfl ?_
      refine z_goto (pc := 45) (tgt := 8) X d_Model_fullestOpen_45 (by decide) ?_
      refine z_perm [1, 2, 3, 0] rfl ?_
      exact hL8 _ hv rx1 rx2 v_2 hh
    · replace hv := hv.2 hc
      refine z_aload_n (pc := 23) (q := 0) X d_Model_fullestOpen_23 rfl ?_
      refine z_getr (pc := 24) (j := 2) (dd := 3) X cf_Model op0 (by decide) q82 rfl rfl d_Model_fullestOpen_24 ?_
      refine z_iload_n (pc := 27) (q := 3) X d_Model_fullestOpen_27 rfl ?_
      obtain ⟨v_3, hv⟩ := hv
      refine z_ialdj (pc := 28) (j := x3.toNat) X (gf_Model_2 op0) (gl_Model_2 op0) rx3 v_3 rfl d_Model_fullestOpen_28 ?_
      refine z_iload_n (pc := 29) (q := 2) X d_Model_fullestOpen_29 rfl ?_
      refine z_icmp_le (pc := 30) (tgt := 42) X (hh.1 _ _ (zO.ne (gf_Model_2 op0) (by decide))) rx2 d_Model_fullestOpen_30 (by decide) (fun hc => ?_) (fun hc => ?_)
      · replace hv := hv.1 hc
        obtain ⟨v_4, hv⟩ := hv
        refine z_iinc (pc := 42) (q := 3) (lv' := [(3, zi (x3 + 1)), (0, .ref (g.2.2 p0)), (1, zi x1), (2, zi x2)]) X d_Model_fullestOpen_42 rfl (by decide) rfl ?_
        refine z_goto (pc := 45) (tgt := 8) X d_Model_fullestOpen_45 (by decide) ?_
        refine z_perm [1, 2, 3, 0] rfl ?_
        exact hL8 _ hv rx1 rx2 v_4 hh
      · replace hv := hv.2 hc
        refine z_iload_n (pc := 33) (q := 3) X d_Model_fullestOpen_33 rfl ?_
        refine z_istore_n (pc := 34) (lv' := [(1, zi x3), (0, .ref (g.2.2 p0)), (2, zi x2), (3, zi x3)]) X d_Model_fullestOpen_34 (by decide) rfl ?_
        refine z_aload_n (pc := 35) (q := 1) X d_Model_fullestOpen_35 rfl ?_
        refine z_getr (pc := 36) (j := 2) (dd := 3) X cf_Model op0 (by decide) q82 rfl rfl d_Model_fullestOpen_36 ?_
        refine z_iload_n (pc := 39) (q := 3) X d_Model_fullestOpen_39 rfl ?_
        obtain ⟨v_5, hv⟩ := hv
        refine z_ialdj (pc := 40) (j := x3.toNat) X (gf_Model_2 op0) (gl_Model_2 op0) rx3 v_5 rfl d_Model_fullestOpen_40 ?_
        refine z_topi (fun x2_6 ex2_6 => ?_)
        have rx2_6 : zr x2_6 := by rw [ex2_6]; exact (hh.1 _ _ (zO.ne (gf_Model_2 op0) (by decide)))
        replace hv := hv x2_6 ex2_6
        refine z_istore_n (pc := 41) (lv' := [(2, zi x2_6), (1, zi x3), (0, .ref (g.2.2 p0)), (3, zi x3)]) X d_Model_fullestOpen_41 (by decide) rfl ?_
        obtain ⟨v_7, hv⟩ := hv
        refine z_iinc (pc := 42) (q := 3) (lv' := [(3, zi (x3 + 1)), (2, zi x2_6), (1, zi x3), (0, .ref (g.2.2 p0))]) X d_Model_fullestOpen_42 rfl (by decide) rfl ?_
        refine z_goto (pc := 45) (tgt := 8) X d_Model_fullestOpen_45 (by decide) ?_
        refine z_perm [3, 2, 1, 0] rfl ?_
        exact hL8 _ hv rx3 rx2_6 v_7 hh
def M_Model_fullestOpen (p0 : Nat) (h : zH) (K : Int → zH → Prop) : Prop :=
  zLoop (fun L q => F_Model_fullestOpen_8 K  L p0 q.1 q.2.1 q.2.2.1 q.2.2.2) ((-9), (-9), 0, h)
set_option maxRecDepth 100000 in
theorem c_Model_fullestOpen {l : Launch} (hfl : l.flags = flags0) {g : zG} {n : Nat} {p0 : Nat} (op0 : zO n p0 1) {h : zH} (hh : zh h) {K : Int → zH → Prop} (hv : M_Model_fullestOpen p0 h K) : zMet l y_Model_fullestOpen b_Model_fullestOpen 4 (some .int) rm_Model_fullestOpen g n [.ref (g.2.2 p0)] h (zPi K) := by
  refine zMet_of (own := "AliasStreams$Model") hfl (by decide) rfl (Nat.le_of_ble_eq_true rfl) (fun Wf m H0 X E => ?_)
  unfold M_Model_fullestOpen at hv
  show zW Wf m 4 g n H0 0 [(0, .ref (g.2.2 p0))] [] h
  refine z_bipush (pc := 0) X d_Model_fullestOpen_0 (by decide) ?_
  refine z_istore_n (pc := 2) (lv' := [(1, zi (-9)), (0, .ref (g.2.2 p0))]) X d_Model_fullestOpen_2 (by decide) rfl ?_
  refine z_bipush (pc := 3) X d_Model_fullestOpen_3 (by decide) ?_
  refine z_istore_n (pc := 5) (lv' := [(2, zi (-9)), (1, zi (-9)), (0, .ref (g.2.2 p0))]) X d_Model_fullestOpen_5 (by decide) rfl ?_
  refine z_iconst (pc := 6) X d_Model_fullestOpen_6 ?_
  refine z_istore_n (pc := 7) (lv' := [(3, zi 0), (2, zi (-9)), (1, zi (-9)), (0, .ref (g.2.2 p0))]) X d_Model_fullestOpen_7 (by decide) rfl ?_
  refine z_perm [3, 2, 1, 0] rfl ?_
  exact s_Model_fullestOpen_8 X E  op0 hv (show zr (-9) from by decide) (show zr (-9) from by decide) (show zr 0 from by decide) hh
theorem d_Model_closeOne_0 : decode b_Model_closeOne 0 = .ok (.aload_n 0, 1) := by decide +kernel
theorem d_Model_closeOne_1 : decode b_Model_closeOne 1 = .ok (.invokevirtual 68, 3) := by decide +kernel
theorem d_Model_closeOne_4 : decode b_Model_closeOne 4 = .ok (.istore_n 1, 1) := by decide +kernel
theorem d_Model_closeOne_5 : decode b_Model_closeOne 5 = .ok (.iload_n 1, 1) := by decide +kernel
theorem d_Model_closeOne_6 : decode b_Model_closeOne 6 = .ok (.ifCond .ge 4, 3) := by decide +kernel
theorem d_Model_closeOne_9 : decode b_Model_closeOne 9 = .ok (.return_, 1) := by decide +kernel
theorem d_Model_closeOne_10 : decode b_Model_closeOne 10 = .ok (.aload_n 0, 1) := by decide +kernel
theorem d_Model_closeOne_11 : decode b_Model_closeOne 11 = .ok (.getfield 24, 3) := by decide +kernel
theorem d_Model_closeOne_14 : decode b_Model_closeOne 14 = .ok (.iload_n 1, 1) := by decide +kernel
theorem d_Model_closeOne_15 : decode b_Model_closeOne 15 = .ok (.iconst 0, 1) := by decide +kernel
theorem d_Model_closeOne_16 : decode b_Model_closeOne 16 = .ok (.bastore, 1) := by decide +kernel
theorem d_Model_closeOne_17 : decode b_Model_closeOne 17 = .ok (.iconst 4, 1) := by decide +kernel
theorem d_Model_closeOne_18 : decode b_Model_closeOne 18 = .ok (.aload_n 0, 1) := by decide +kernel
theorem d_Model_closeOne_19 : decode b_Model_closeOne 19 = .ok (.getfield 18, 3) := by decide +kernel
theorem d_Model_closeOne_22 : decode b_Model_closeOne 22 = .ok (.iload_n 1, 1) := by decide +kernel
theorem d_Model_closeOne_23 : decode b_Model_closeOne 23 = .ok (.iaload, 1) := by decide +kernel
theorem d_Model_closeOne_24 : decode b_Model_closeOne 24 = .ok (.isub, 1) := by decide +kernel
theorem d_Model_closeOne_25 : decode b_Model_closeOne 25 = .ok (.istore_n 2, 1) := by decide +kernel
theorem d_Model_closeOne_26 : decode b_Model_closeOne 26 = .ok (.aload_n 0, 1) := by decide +kernel
theorem d_Model_closeOne_27 : decode b_Model_closeOne 27 = .ok (.invokevirtual 72, 3) := by decide +kernel
theorem d_Model_closeOne_30 : decode b_Model_closeOne 30 = .ok (.istore_n 3, 1) := by decide +kernel
theorem d_Model_closeOne_31 : decode b_Model_closeOne 31 = .ok (.iload_n 2, 1) := by decide +kernel
theorem d_Model_closeOne_32 : decode b_Model_closeOne 32 = .ok (.ifCond .le 24, 3) := by decide +kernel
theorem d_Model_closeOne_35 : decode b_Model_closeOne 35 = .ok (.iload_n 3, 1) := by decide +kernel
theorem d_Model_closeOne_36 : decode b_Model_closeOne 36 = .ok (.ifCond .lt 20, 3) := by decide +kernel
theorem d_Model_closeOne_39 : decode b_Model_closeOne 39 = .ok (.aload_n 0, 1) := by decide +kernel
theorem d_Model_closeOne_40 : decode b_Model_closeOne 40 = .ok (.getfield 21, 3) := by decide +kernel
theorem d_Model_closeOne_43 : decode b_Model_closeOne 43 = .ok (.iload_n 1, 1) := by decide +kernel
theorem d_Model_closeOne_44 : decode b_Model_closeOne 44 = .ok (.iload_n 3, 1) := by decide +kernel
theorem d_Model_closeOne_45 : decode b_Model_closeOne 45 = .ok (.iastore, 1) := by decide +kernel
theorem d_Model_closeOne_46 : decode b_Model_closeOne 46 = .ok (.aload_n 0, 1) := by decide +kernel
theorem d_Model_closeOne_47 : decode b_Model_closeOne 47 = .ok (.getfield 18, 3) := by decide +kernel
theorem d_Model_closeOne_50 : decode b_Model_closeOne 50 = .ok (.iload_n 3, 1) := by decide +kernel
theorem d_Model_closeOne_51 : decode b_Model_closeOne 51 = .ok (.dup2, 1) := by decide +kernel
theorem d_Model_closeOne_52 : decode b_Model_closeOne 52 = .ok (.iaload, 1) := by decide +kernel
theorem d_Model_closeOne_53 : decode b_Model_closeOne 53 = .ok (.iload_n 2, 1) := by decide +kernel
theorem d_Model_closeOne_54 : decode b_Model_closeOne 54 = .ok (.isub, 1) := by decide +kernel
theorem d_Model_closeOne_55 : decode b_Model_closeOne 55 = .ok (.iastore, 1) := by decide +kernel
theorem d_Model_closeOne_56 : decode b_Model_closeOne 56 = .ok (.return_, 1) := by decide +kernel
def rm_Model_closeOne : Room := { frames := 1, cells := 0, slots := 0, locals := 23 }
theorem mf_Model_closeOne : zMV y_Model_closeOne b_Model_closeOne 4 none 0 := ⟨q348, qs6, q4, q349, by decide +kernel⟩
def M_Model_closeOne (p0 : Nat) (h : zH) (K : zH → Prop) : Prop :=
  M_Model_firstToClose p0 h (fun r_2 h_1 => (0 ≤ r_2 → ((0 ≤ r_2 ∧ r_2 < 8) ∧ (∀ h_4 : zH, h_4 = zs h_1 (p0 + 5) r_2.toNat 0 → ((0 ≤ r_2 ∧ r_2 < 8) ∧ (zr (4 - (h_4 (p0 + 3) r_2.toNat)) ∧ ((∀ x2_7 : Int, x2_7 = 4 - (h_4 (p0 + 3) r_2.toNat) → (M_Model_fullestOpen p0 h_4 (fun r_9 h_8 => (x2_7 ≤ 0 → (K h_8)) ∧ (0 < x2_7 → ((r_9 < 0 → (K h_8)) ∧ (0 ≤ r_9 → ((0 ≤ r_2 ∧ r_2 < 8) ∧ (∀ h_11 : zH, h_11 = zs h_8 (p0 + 4) r_2.toNat r_9 → ((0 ≤ r_9 ∧ r_9 < 8) ∧ (zr ((h_11 (p0 + 3) r_9.toNat) - x2_7) ∧ ((0 ≤ r_9 ∧ r_9 < 8) ∧ (∀ h_15 : zH, h_15 = zs h_11 (p0 + 3) r_9.toNat ((h_11 (p0 + 3) r_9.toNat) - x2_7) → (K h_15))))))))))))))))))) ∧ (r_2 < 0 → (K h_1)))
set_option maxRecDepth 100000 in
theorem c_Model_closeOne {l : Launch} (hfl : l.flags = flags0) {g : zG} {n : Nat} {p0 : Nat} (op0 : zO n p0 1) {h : zH} (hh : zh h) {K : zH → Prop} (hv : M_Model_closeOne p0 h K) : zMet l y_Model_closeOne b_Model_closeOne 4 none rm_Model_closeOne g n [.ref (g.2.2 p0)] h (zPv K) := by
  refine zMet_of (own := "AliasStreams$Model") hfl (by decide) rfl (Nat.le_of_ble_eq_true rfl) (fun Wf m H0 X E => ?_)
  unfold M_Model_closeOne at hv
  show zW Wf m 4 g n H0 0 [(0, .ref (g.2.2 p0))] [] h
  refine z_aload_n (pc := 0) (q := 0) X d_Model_closeOne_0 rfl ?_
  refine z_callVi (pc := 1) (As := []) (rest := []) X (fun l hl => c_Model_firstToClose hl op0 hh hv) cf_Model op0 rfl mf_Model_firstToClose q350 ⟨⟨by decide, by decide⟩, rfl, rfl⟩ rfl d_Model_closeOne_1 rfl (Nat.le_of_ble_eq_true rfl) (fun r_2 h_1 rr_2 zh_1 hv => ?_)
  refine z_istore_n (pc := 4) (lv' := [(1, zi r_2), (0, .ref (g.2.2 p0))]) X d_Model_closeOne_4 (by decide) rfl ?_
  refine z_iload_n (pc := 5) (q := 0) X d_Model_closeOne_5 rfl ?_
  refine z_if_ge (pc := 6) (tgt := 10) X rr_2 d_Model_closeOne_6 (by decide) (fun hc => ?_) (fun hc => ?_)
  · replace hv := hv.1 hc
    refine z_aload_n (pc := 10) (q := 1) X d_Model_closeOne_10 rfl ?_
    refine z_getr (pc := 11) (j := 4) (dd := 5) X cf_Model op0 (by decide) q86 rfl rfl d_Model_closeOne_11 ?_
    refine z_iload_n (pc := 14) (q := 0) X d_Model_closeOne_14 rfl ?_
    refine z_iconst (pc := 15) X d_Model_closeOne_15 ?_
    obtain ⟨v_3, hv⟩ := hv
    refine z_zastj (pc := 16) (j := r_2.toNat) X (gf_Model_4 op0) (gl_Model_4 op0) rr_2 v_3 rfl (by decide) d_Model_closeOne_16 ?_
    refine z_toph (fun h_4 eh_4 => ?_)
    have zh_4 : zh h_4 := by rw [eh_4]; exact zh_set zh_1 (zO.ne (gf_Model_4 op0) (by decide)) (show zr 0 from by decide)
    replace hv := hv h_4 eh_4
    refine z_iconst (pc := 17) X d_Model_closeOne_17 ?_
    refine z_aload_n (pc := 18) (q := 1) X d_Model_closeOne_18 rfl ?_
    refine z_getr (pc := 19) (j := 2) (dd := 3) X cf_Model op0 (by decide) q82 rfl rfl d_Model_closeOne_19 ?_
    refine z_iload_n (pc := 22) (q := 0) X d_Model_closeOne_22 rfl ?_
    obtain ⟨v_5, hv⟩ := hv
    refine z_ialdj (pc := 23) (j := r_2.toNat) X (gf_Model_2 op0) (gl_Model_2 op0) rr_2 v_5 rfl d_Model_closeOne_23 ?_
    obtain ⟨v_6, hv⟩ := hv
    refine z_isub (pc := 24) X d_Model_closeOne_24 ?_
    refine z_topi (fun x2_7 ex2_7 => ?_)
    have rx2_7 : zr x2_7 := by rw [ex2_7]; exact v_6
    replace hv := hv x2_7 ex2_7
    refine z_istore_n (pc := 25) (lv' := [(2, zi x2_7), (1, zi r_2), (0, .ref (g.2.2 p0))]) X d_Model_closeOne_25 (by decide) rfl ?_
    refine z_aload_n (pc := 26) (q := 2) X d_Model_closeOne_26 rfl ?_
    refine z_callVi (pc := 27) (As := []) (rest := []) X (fun l hl => c_Model_fullestOpen hl op0 zh_4 hv) cf_Model op0 rfl mf_Model_fullestOpen q354 ⟨⟨by decide, by decide⟩, rfl, rfl⟩ rfl d_Model_closeOne_27 rfl (Nat.le_of_ble_eq_true rfl) (fun r_9 h_8 rr_9 zh_8 hv => ?_)
    refine z_istore_n (pc := 30) (lv' := [(3, zi r_9), (2, zi x2_7), (1, zi r_2), (0, .ref (g.2.2 p0))]) X d_Model_closeOne_30 (by decide) rfl ?_
    refine z_iload_n (pc := 31) (q := 1) X d_Model_closeOne_31 rfl ?_
    refine z_if_le (pc := 32) (tgt := 56) X rx2_7 d_Model_closeOne_32 (by decide) (fun hc => ?_) (fun hc => ?_)
    · replace hv := hv.1 hc
      exact E.1 rfl _ _ _ d_Model_closeOne_56 ⟨rfl, zh_8, hv⟩
    · replace hv := hv.2 hc
      refine z_iload_n (pc := 35) (q := 0) X d_Model_closeOne_35 rfl ?_
      refine z_if_lt (pc := 36) (tgt := 56) X rr_9 d_Model_closeOne_36 (by decide) (fun hc => ?_) (fun hc => ?_)
      · replace hv := hv.1 hc
        exact E.1 rfl _ _ _ d_Model_closeOne_56 ⟨rfl, zh_8, hv⟩
      · replace hv := hv.2 hc
        refine z_aload_n (pc := 39) (q := 3) X d_Model_closeOne_39 rfl ?_
        refine z_getr (pc := 40) (j := 3) (dd := 4) X cf_Model op0 (by decide) q84 rfl rfl d_Model_closeOne_40 ?_
        refine z_iload_n (pc := 43) (q := 2) X d_Model_closeOne_43 rfl ?_
        refine z_iload_n (pc := 44) (q := 0) X d_Model_closeOne_44 rfl ?_
        obtain ⟨v_10, hv⟩ := hv
        refine z_iastj (pc := 45) (j := r_2.toNat) X (gf_Model_3 op0) (gl_Model_3 op0) rr_2 v_10 rfl d_Model_closeOne_45 ?_
        refine z_toph (fun h_11 eh_11 => ?_)
        have zh_11 : zh h_11 := by rw [eh_11]; exact zh_set zh_8 (zO.ne (gf_Model_3 op0) (by decide)) rr_9
        replace hv := hv h_11 eh_11
        refine z_aload_n (pc := 46) (q := 3) X d_Model_closeOne_46 rfl ?_
        refine z_getr (pc := 47) (j := 2) (dd := 3) X cf_Model op0 (by decide) q82 rfl rfl d_Model_closeOne_47 ?_
        refine z_iload_n (pc := 50) (q := 0) X d_Model_closeOne_50 rfl ?_
        refine z_dup2 (pc := 51) X d_Model_closeOne_51 rfl rfl ?_
        obtain ⟨v_12, hv⟩ := hv
        refine z_ialdj (pc := 52) (j := r_9.toNat) X (gf_Model_2 op0) (gl_Model_2 op0) rr_9 v_12 rfl d_Model_closeOne_52 ?_
        refine z_iload_n (pc := 53) (q := 1) X d_Model_closeOne_53 rfl ?_
        obtain ⟨v_13, hv⟩ := hv
        refine z_isub (pc := 54) X d_Model_closeOne_54 ?_
        obtain ⟨v_14, hv⟩ := hv
        refine z_iastj (pc := 55) (j := r_9.toNat) X (gf_Model_2 op0) (gl_Model_2 op0) rr_9 v_14 rfl d_Model_closeOne_55 ?_
        refine z_toph (fun h_15 eh_15 => ?_)
        have zh_15 : zh h_15 := by rw [eh_15]; exact zh_set zh_11 (zO.ne (gf_Model_2 op0) (by decide)) v_13
        replace hv := hv h_15 eh_15
        exact E.1 rfl _ _ _ d_Model_closeOne_56 ⟨rfl, zh_15, hv⟩
  · replace hv := hv.2 hc
    exact E.1 rfl _ _ _ d_Model_closeOne_9 ⟨rfl, zh_1, hv⟩
theorem d_Model_closeBuckets_0 : decode b_Model_closeBuckets 0 = .ok (.iconst 0, 1) := by decide +kernel
theorem d_Model_closeBuckets_1 : decode b_Model_closeBuckets 1 = .ok (.istore_n 1, 1) := by decide +kernel
theorem d_Model_closeBuckets_2 : decode b_Model_closeBuckets 2 = .ok (.iload_n 1, 1) := by decide +kernel
theorem d_Model_closeBuckets_3 : decode b_Model_closeBuckets 3 = .ok (.bipush 8, 2) := by decide +kernel
theorem d_Model_closeBuckets_5 : decode b_Model_closeBuckets 5 = .ok (.if_icmp .ge 36, 3) := by decide +kernel
theorem d_Model_closeBuckets_8 : decode b_Model_closeBuckets 8 = .ok (.aload_n 0, 1) := by decide +kernel
theorem d_Model_closeBuckets_9 : decode b_Model_closeBuckets 9 = .ok (.getfield 18, 3) := by decide +kernel
theorem d_Model_closeBuckets_12 : decode b_Model_closeBuckets 12 = .ok (.iload_n 1, 1) := by decide +kernel
theorem d_Model_closeBuckets_13 : decode b_Model_closeBuckets 13 = .ok (.aload_n 0, 1) := by decide +kernel
theorem d_Model_closeBuckets_14 : decode b_Model_closeBuckets 14 = .ok (.getfield 9, 3) := by decide +kernel
theorem d_Model_closeBuckets_17 : decode b_Model_closeBuckets 17 = .ok (.iload_n 1, 1) := by decide +kernel
theorem d_Model_closeBuckets_18 : decode b_Model_closeBuckets 18 = .ok (.iaload, 1) := by decide +kernel
theorem d_Model_closeBuckets_19 : decode b_Model_closeBuckets 19 = .ok (.iastore, 1) := by decide +kernel
theorem d_Model_closeBuckets_20 : decode b_Model_closeBuckets 20 = .ok (.aload_n 0, 1) := by decide +kernel
theorem d_Model_closeBuckets_21 : decode b_Model_closeBuckets 21 = .ok (.getfield 21, 3) := by decide +kernel
theorem d_Model_closeBuckets_24 : decode b_Model_closeBuckets 24 = .ok (.iload_n 1, 1) := by decide +kernel
theorem d_Model_closeBuckets_25 : decode b_Model_closeBuckets 25 = .ok (.bipush (-9), 2) := by decide +kernel
theorem d_Model_closeBuckets_27 : decode b_Model_closeBuckets 27 = .ok (.iastore, 1) := by decide +kernel
theorem d_Model_closeBuckets_28 : decode b_Model_closeBuckets 28 = .ok (.aload_n 0, 1) := by decide +kernel
theorem d_Model_closeBuckets_29 : decode b_Model_closeBuckets 29 = .ok (.getfield 24, 3) := by decide +kernel
theorem d_Model_closeBuckets_32 : decode b_Model_closeBuckets 32 = .ok (.iload_n 1, 1) := by decide +kernel
theorem d_Model_closeBuckets_33 : decode b_Model_closeBuckets 33 = .ok (.iconst 1, 1) := by decide +kernel
theorem d_Model_closeBuckets_34 : decode b_Model_closeBuckets 34 = .ok (.bastore, 1) := by decide +kernel
theorem d_Model_closeBuckets_35 : decode b_Model_closeBuckets 35 = .ok (.iinc 1 1, 3) := by decide +kernel
theorem d_Model_closeBuckets_38 : decode b_Model_closeBuckets 38 = .ok (.goto (-36), 3) := by decide +kernel
theorem d_Model_closeBuckets_41 : decode b_Model_closeBuckets 41 = .ok (.iconst 0, 1) := by decide +kernel
theorem d_Model_closeBuckets_42 : decode b_Model_closeBuckets 42 = .ok (.istore_n 1, 1) := by decide +kernel
theorem d_Model_closeBuckets_43 : decode b_Model_closeBuckets 43 = .ok (.iload_n 1, 1) := by decide +kernel
theorem d_Model_closeBuckets_44 : decode b_Model_closeBuckets 44 = .ok (.bipush 8, 2) := by decide +kernel
theorem d_Model_closeBuckets_46 : decode b_Model_closeBuckets 46 = .ok (.if_icmp .ge 13, 3) := by decide +kernel
theorem d_Model_closeBuckets_49 : decode b_Model_closeBuckets 49 = .ok (.aload_n 0, 1) := by decide +kernel
theorem d_Model_closeBuckets_50 : decode b_Model_closeBuckets 50 = .ok (.invokevirtual 65, 3) := by decide +kernel
theorem d_Model_closeBuckets_53 : decode b_Model_closeBuckets 53 = .ok (.iinc 1 1, 3) := by decide +kernel
theorem d_Model_closeBuckets_56 : decode b_Model_closeBuckets 56 = .ok (.goto (-13), 3) := by decide +kernel
theorem d_Model_closeBuckets_59 : decode b_Model_closeBuckets 59 = .ok (.return_, 1) := by decide +kernel
def rm_Model_closeBuckets : Room := { frames := 2, cells := 0, slots := 0, locals := 46 }
theorem mf_Model_closeBuckets : zMV y_Model_closeBuckets b_Model_closeBuckets 2 none 0 := ⟨q344, qs5, q4, q345, by decide +kernel⟩
def F_Model_closeBuckets_43 (K : zH → Prop)  (L43 : Int × zH → Prop) (p0 : Nat) (x1 : Int) (h : zH) : Prop :=
  (8 ≤ x1 → (K h)) ∧ (x1 < 8 → (M_Model_closeOne p0 h (fun h_1 => zr (x1 + 1) ∧ (L43 (x1 + 1, h_1)))))
set_option maxRecDepth 100000 in
theorem s_Model_closeBuckets_43 {Wf : Heap → List Loc → JFrame → Prop} {m : MethodId} {g : zG} {n : Nat} {H0 : Heap} (X : zX Wf m rm_Model_closeBuckets b_Model_closeBuckets "AliasStreams$Model" 2 g n H0) {K : zH → Prop} (E : zEx Wf m b_Model_closeBuckets none 2 g n H0 (zPv K))  {p0 : Nat}  (op0 : zO n p0 1) {q0 : Int × zH} (hv0 : zLoop (fun L q => F_Model_closeBuckets_43 K  L p0 q.1 q.2) q0) : zr q0.1 → zh (q0.2) → zW Wf m 2 g n H0 43 [(0, .ref (g.2.2 p0)), (1, zi q0.1)] [] (q0.2) := by
  refine zLoop_use (G := fun q => zr q.1 → zh (q.2) → zW Wf m 2 g n H0 43 [(0, .ref (g.2.2 p0)), (1, zi q.1)] [] (q.2)) ?_ hv0
  rintro L43 ⟨x1, h⟩ hL43 hv rx1 hh
  have hv : F_Model_closeBuckets_43 K  L43 p0 x1 h := hv
  unfold F_Model_closeBuckets_43 at hv
  show zW Wf m 2 g n H0 43 [(0, .ref (g.2.2 p0)), (1, zi x1)] [] h
  refine z_iload_n (pc := 43) (q := 1) X d_Model_closeBuckets_43 rfl ?_
  refine z_bipush (pc := 44) X d_Model_closeBuckets_44 (by decide) ?_
  refine z_icmp_ge (pc := 46) (tgt := 59) X rx1 (show zr 8 from by decide) d_Model_closeBuckets_46 (by decide) (fun hc => ?_) (fun hc => ?_)
  · replace hv := hv.1 hc
    exact E.1 rfl _ _ _ d_Model_closeBuckets_59 ⟨rfl, hh, hv⟩
  · replace hv := hv.2 hc
    refine z_aload_n (pc := 49) (q := 0) X d_Model_closeBuckets_49 rfl ?_
    refine z_callVv (pc := 50) (As := []) (rest := []) X (fun l hl => c_Model_closeOne hl op0 hh hv) cf_Model op0 rfl mf_Model_closeOne q346 ⟨⟨by decide, by decide⟩, rfl, rfl⟩ rfl d_Model_closeBuckets_50 rfl (Nat.le_of_ble_eq_true rfl) (fun h_1 zh_1 hv => ?_)
    obtain ⟨v_3, hv⟩ := hv
    refine z_iinc (pc := 53) (q := 1) (lv' := [(1, zi (x1 + 1)), (0, .ref (g.2.2 p0))]) X d_Model_closeBuckets_53 rfl (by decide) rfl ?_
    refine z_goto (pc := 56) (tgt := 43) X d_Model_closeBuckets_56 (by decide) ?_
    refine z_perm [1, 0] rfl ?_
    exact hL43 _ hv v_3 zh_1
def F_Model_closeBuckets_2 (K : zH → Prop)  (L2 : Int × zH → Prop) (p0 : Nat) (x1 : Int) (h : zH) : Prop :=
  (8 ≤ x1 → (zLoop (fun L q => F_Model_closeBuckets_43 K  L p0 q.1 q.2) (0, h))) ∧ (x1 < 8 → ((0 ≤ x1 ∧ x1 < 8) ∧ ((0 ≤ x1 ∧ x1 < 8) ∧ (∀ h_3 : zH, h_3 = zs h (p0 + 3) x1.toNat (h (p0 + 1) x1.toNat) → ((0 ≤ x1 ∧ x1 < 8) ∧ (∀ h_5 : zH, h_5 = zs h_3 (p0 + 4) x1.toNat (-9) → ((0 ≤ x1 ∧ x1 < 8) ∧ (∀ h_7 : zH, h_7 = zs h_5 (p0 + 5) x1.toNat 1 → (zr (x1 + 1) ∧ (L2 (x1 + 1, h_7)))))))))))
set_option maxRecDepth 100000 in
theorem s_Model_closeBuckets_2 {Wf : Heap → List Loc → JFrame → Prop} {m : MethodId} {g : zG} {n : Nat} {H0 : Heap} (X : zX Wf m rm_Model_closeBuckets b_Model_closeBuckets "AliasStreams$Model" 2 g n H0) {K : zH → Prop} (E : zEx Wf m b_Model_closeBuckets none 2 g n H0 (zPv K))  {p0 : Nat}  (op0 : zO n p0 1) {q0 : Int × zH} (hv0 : zLoop (fun L q => F_Model_closeBuckets_2 K  L p0 q.1 q.2) q0) : zr q0.1 → zh (q0.2) → zW Wf m 2 g n H0 2 [(0, .ref (g.2.2 p0)), (1, zi q0.1)] [] (q0.2) := by
  refine zLoop_use (G := fun q => zr q.1 → zh (q.2) → zW Wf m 2 g n H0 2 [(0, .ref (g.2.2 p0)), (1, zi q.1)] [] (q.2)) ?_ hv0
  rintro L2 ⟨x1, h⟩ hL2 hv rx1 hh
  have hv : F_Model_closeBuckets_2 K  L2 p0 x1 h := hv
  unfold F_Model_closeBuckets_2 at hv
  show zW Wf m 2 g n H0 2 [(0, .ref (g.2.2 p0)), (1, zi x1)] [] h
  refine z_iload_n (pc := 2) (q := 1) X d_Model_closeBuckets_2 rfl ?_
  refine z_bipush (pc := 3) X d_Model_closeBuckets_3 (by decide) ?_
  refine z_icmp_ge (pc := 5) (tgt := 41) X rx1 (show zr 8 from by decide) d_Model_closeBuckets_5 (by decide) (fun hc => ?_) (fun hc => ?_)
  · replace hv := hv.1 hc
    refine z_iconst (pc := 41) X d_Model_closeBuckets_41 ?_
    refine z_istore_n (pc := 42) (lv' := [(1, zi 0), (0, .ref (g.2.2 p0))]) X d_Model_closeBuckets_42 (by decide) rfl ?_
    refine z_perm [1, 0] rfl ?_
    exact s_Model_closeBuckets_43 X E  op0 hv (show zr 0 from by decide) hh
  · replace hv := hv.2 hc
    refine z_aload_n (pc := 8) (q := 0) X d_Model_closeBuckets_8 rfl ?_
    refine z_getr (pc := 9) (j := 2) (dd := 3) X cf_Model op0 (by decide) q82 rfl rfl d_Model_closeBuckets_9 ?_
    refine z_iload_n (pc := 12) (q := 1) X d_Model_closeBuckets_12 rfl ?_
    refine z_aload_n (pc := 13) (q := 0) X d_Model_closeBuckets_13 rfl ?_
    refine z_getr (pc := 14) (j := 0) (dd := 1) X cf_Model op0 (by decide) q80 rfl rfl d_Model_closeBuckets_14 ?_
    refine z_iload_n (pc := 17) (q := 1) X d_Model_closeBuckets_17 rfl ?_
    obtain ⟨v_1, hv⟩ := hv
    refine z_ialdj (pc := 18) (j := x1.toNat) X (gf_Model_0 op0) (gl_Model_0 op0) rx1 v_1 rfl d_Model_closeBuckets_18 ?_
    obtain ⟨v_2, hv⟩ := hv
    refine z_iastj (pc := 19) (j := x1.toNat) X (gf_Model_2 op0) (gl_Model_2 op0) rx1 v_2 rfl d_Model_closeBuckets_19 ?_
    refine z_toph (fun h_3 eh_3 => ?_)
    have zh_3 : zh h_3 := by rw [eh_3]; exact zh_set hh (zO.ne (gf_Model_2 op0) (by decide)) (hh.1 _ _ (zO.ne (gf_Model_0 op0) (by decide)))
    replace hv := hv h_3 eh_3
    refine z_aload_n (pc := 20) (q := 0) X d_Model_closeBuckets_20 rfl ?_
    refine z_getr (pc := 21) (j := 3) (dd := 4) X cf_Model op0 (by decide) q84 rfl rfl d_Model_closeBuckets_21 ?_
    refine z_iload_n (pc := 24) (q := 1) X d_Model_closeBuckets_24 rfl ?_
    refine z_bipush (pc := 25) X d_Model_closeBuckets_25 (by decide) ?_
    obtain ⟨v_4, hv⟩ := hv
    refine z_iastj (pc := 27) (j := x1.toNat) X (gf_Model_3 op0) (gl_Model_3 op0) rx1 v_4 rfl d_Model_closeBuckets_27 ?_
    refine z_toph (fun h_5 eh_5 => ?_)
    have zh_5 : zh h_5 := by rw [eh_5]; exact zh_set zh_3 (zO.ne (gf_Model_3 op0) (by decide)) (show zr (-9) from by decide)
    replace hv := hv h_5 eh_5
    refine z_aload_n (pc := 28) (q := 0) X d_Model_closeBuckets_28 rfl ?_
    refine z_getr (pc := 29) (j := 4) (dd := 5) X cf_Model op0 (by decide) q86 rfl rfl d_Model_closeBuckets_29 ?_
    refine z_iload_n (pc := 32) (q := 1) X d_Model_closeBuckets_32 rfl ?_
    refine z_iconst (pc := 33) X d_Model_closeBuckets_33 ?_
    obtain ⟨v_6, hv⟩ := hv
    refine z_zastj (pc := 34) (j := x1.toNat) X (gf_Model_4 op0) (gl_Model_4 op0) rx1 v_6 rfl (by decide) d_Model_closeBuckets_34 ?_
    refine z_toph (fun h_7 eh_7 => ?_)
    have zh_7 : zh h_7 := by rw [eh_7]; exact zh_set zh_5 (zO.ne (gf_Model_4 op0) (by decide)) (show zr 1 from by decide)
    replace hv := hv h_7 eh_7
    obtain ⟨v_8, hv⟩ := hv
    refine z_iinc (pc := 35) (q := 1) (lv' := [(1, zi (x1 + 1)), (0, .ref (g.2.2 p0))]) X d_Model_closeBuckets_35 rfl (by decide) rfl ?_
    refine z_goto (pc := 38) (tgt := 2) X d_Model_closeBuckets_38 (by decide) ?_
    refine z_perm [1, 0] rfl ?_
    exact hL2 _ hv v_8 zh_7
def M_Model_closeBuckets (p0 : Nat) (h : zH) (K : zH → Prop) : Prop :=
  zLoop (fun L q => F_Model_closeBuckets_2 K  L p0 q.1 q.2) (0, h)
set_option maxRecDepth 100000 in
theorem c_Model_closeBuckets {l : Launch} (hfl : l.flags = flags0) {g : zG} {n : Nat} {p0 : Nat} (op0 : zO n p0 1) {h : zH} (hh : zh h) {K : zH → Prop} (hv : M_Model_closeBuckets p0 h K) : zMet l y_Model_closeBuckets b_Model_closeBuckets 2 none rm_Model_closeBuckets g n [.ref (g.2.2 p0)] h (zPv K) := by
  refine zMet_of (own := "AliasStreams$Model") hfl (by decide) rfl (Nat.le_of_ble_eq_true rfl) (fun Wf m H0 X E => ?_)
  unfold M_Model_closeBuckets at hv
  show zW Wf m 2 g n H0 0 [(0, .ref (g.2.2 p0))] [] h
  refine z_iconst (pc := 0) X d_Model_closeBuckets_0 ?_
  refine z_istore_n (pc := 1) (lv' := [(1, zi 0), (0, .ref (g.2.2 p0))]) X d_Model_closeBuckets_1 (by decide) rfl ?_
  refine z_perm [1, 0] rfl ?_
  exact s_Model_closeBuckets_2 X E  op0 hv (show zr 0 from by decide) hh
theorem d_Model_enterSlot_0 : decode b_Model_enterSlot 0 = .ok (.iload_n 1, 1) := by decide +kernel
theorem d_Model_enterSlot_1 : decode b_Model_enterSlot 1 = .ok (.ifCond .lt 31, 3) := by decide +kernel
theorem d_Model_enterSlot_4 : decode b_Model_enterSlot 4 = .ok (.iload_n 1, 1) := by decide +kernel
theorem d_Model_enterSlot_5 : decode b_Model_enterSlot 5 = .ok (.bipush 8, 2) := by decide +kernel
theorem d_Model_enterSlot_7 : decode b_Model_enterSlot 7 = .ok (.if_icmp .ge 25, 3) := by decide +kernel
theorem d_Model_enterSlot_10 : decode b_Model_enterSlot 10 = .ok (.iload_n 2, 1) := by decide +kernel
theorem d_Model_enterSlot_11 : decode b_Model_enterSlot 11 = .ok (.ifCond .lt 21, 3) := by decide +kernel
theorem d_Model_enterSlot_14 : decode b_Model_enterSlot 14 = .ok (.iload_n 2, 1) := by decide +kernel
theorem d_Model_enterSlot_15 : decode b_Model_enterSlot 15 = .ok (.bipush 32, 2) := by decide +kernel
theorem d_Model_enterSlot_17 : decode b_Model_enterSlot 17 = .ok (.if_icmp .ge 15, 3) := by decide +kernel
theorem d_Model_enterSlot_20 : decode b_Model_enterSlot 20 = .ok (.aload_n 0, 1) := by decide +kernel
theorem d_Model_enterSlot_21 : decode b_Model_enterSlot 21 = .ok (.getfield 34, 3) := by decide +kernel
theorem d_Model_enterSlot_24 : decode b_Model_enterSlot 24 = .ok (.iload_n 1, 1) := by decide +kernel
theorem d_Model_enterSlot_25 : decode b_Model_enterSlot 25 = .ok (.bipush 32, 2) := by decide +kernel
theorem d_Model_enterSlot_27 : decode b_Model_enterSlot 27 = .ok (.imul, 1) := by decide +kernel
theorem d_Model_enterSlot_28 : decode b_Model_enterSlot 28 = .ok (.iload_n 2, 1) := by decide +kernel
theorem d_Model_enterSlot_29 : decode b_Model_enterSlot 29 = .ok (.iadd, 1) := by decide +kernel
theorem d_Model_enterSlot_30 : decode b_Model_enterSlot 30 = .ok (.iload_n 3, 1) := by decide +kernel
theorem d_Model_enterSlot_31 : decode b_Model_enterSlot 31 = .ok (.iastore, 1) := by decide +kernel
theorem d_Model_enterSlot_32 : decode b_Model_enterSlot 32 = .ok (.return_, 1) := by decide +kernel
def rm_Model_enterSlot : Room := { frames := 0, cells := 0, slots := 0, locals := 0 }
theorem mf_Model_enterSlot : zMV y_Model_enterSlot b_Model_enterSlot 4 none 3 := ⟨q364, qs10, q4, q365, by decide +kernel⟩
def M_Model_enterSlot (p0 : Nat) (x1 : Int) (x2 : Int) (x3 : Int) (h : zH) (K : zH → Prop) : Prop :=
  (x1 < 0 → (K h)) ∧ (0 ≤ x1 → ((8 ≤ x1 → (K h)) ∧ (x1 < 8 → ((x2 < 0 → (K h)) ∧ (0 ≤ x2 → ((32 ≤ x2 → (K h)) ∧ (x2 < 32 → (zr (x1 * 32) ∧ (zr ((x1 * 32) + x2) ∧ ((0 ≤ (x1 * 32) + x2 ∧ (x1 * 32) + x2 < 256) ∧ (∀ h_4 : zH, h_4 = zs h (p0 + 8) (((x1 * 32) + x2).toNat) x3 → (K h_4))))))))))))
set_option maxRecDepth 100000 in
theorem c_Model_enterSlot {l : Launch} (hfl : l.flags = flags0) {g : zG} {n : Nat} {p0 : Nat} {x1 : Int} {x2 : Int} {x3 : Int} (op0 : zO n p0 1) (rx1 : zr x1) (rx2 : zr x2) (rx3 : zr x3) {h : zH} (hh : zh h) {K : zH → Prop} (hv : M_Model_enterSlot p0 x1 x2 x3 h K) : zMet l y_Model_enterSlot b_Model_enterSlot 4 none rm_Model_enterSlot g n [.ref (g.2.2 p0), zi x1, zi x2, zi x3] h (zPv K) := by
  refine zMet_of (own := "AliasStreams$Model") hfl (by decide) rfl (Nat.le_of_ble_eq_true rfl) (fun Wf m H0 X E => ?_)
  unfold M_Model_enterSlot at hv
  show zW Wf m 4 g n H0 0 [(0, .ref (g.2.2 p0)), (1, zi x1), (2, zi x2), (3, zi x3)] [] h
  refine z_iload_n (pc := 0) (q := 1) X d_Model_enterSlot_0 rfl ?_
  refine z_if_lt (pc := 1) (tgt := 32) X rx1 d_Model_enterSlot_1 (by decide) (fun hc => ?_) (fun hc => ?_)
  · replace hv := hv.1 hc
    exact E.1 rfl _ _ _ d_Model_enterSlot_32 ⟨rfl, hh, hv⟩
  · replace hv := hv.2 hc
    refine z_iload_n (pc := 4) (q := 1) X d_Model_enterSlot_4 rfl ?_
    refine z_bipush (pc := 5) X d_Model_enterSlot_5 (by decide) ?_
    refine z_icmp_ge (pc := 7) (tgt := 32) X rx1 (show zr 8 from by decide) d_Model_enterSlot_7 (by decide) (fun hc => ?_) (fun hc => ?_)
    · replace hv := hv.1 hc
      exact E.1 rfl _ _ _ d_Model_enterSlot_32 ⟨rfl, hh, hv⟩
    · replace hv := hv.2 hc
      refine z_iload_n (pc := 10) (q := 2) X d_Model_enterSlot_10 rfl ?_
      refine z_if_lt (pc := 11) (tgt := 32) X rx2 d_Model_enterSlot_11 (by decide) (fun hc => ?_) (fun hc => ?_)
      · replace hv := hv.1 hc
        exact E.1 rfl _ _ _ d_Model_enterSlot_32 ⟨rfl, hh, hv⟩
      · replace hv := hv.2 hc
        refine z_iload_n (pc := 14) (q := 2) X d_Model_enterSlot_14 rfl ?_
        refine z_bipush (pc := 15) X d_Model_enterSlot_15 (by decide) ?_
        refine z_icmp_ge (pc := 17) (tgt := 32) X rx2 (show zr 32 from by decide) d_Model_enterSlot_17 (by decide) (fun hc => ?_) (fun hc => ?_)
        · replace hv := hv.1 hc
          exact E.1 rfl _ _ _ d_Model_enterSlot_32 ⟨rfl, hh, hv⟩
        · replace hv := hv.2 hc
          refine z_aload_n (pc := 20) (q := 0) X d_Model_enterSlot_20 rfl ?_
          refine z_getr (pc := 21) (j := 7) (dd := 8) X cf_Model op0 (by decide) q93 rfl rfl d_Model_enterSlot_21 ?_
          refine z_iload_n (pc := 24) (q := 1) X d_Model_enterSlot_24 rfl ?_
          refine z_bipush (pc := 25) X d_Model_enterSlot_25 (by decide) ?_
          obtain ⟨v_1, hv⟩ := hv
          refine z_imul (pc := 27) X d_Model_enterSlot_27 ?_
          refine z_iload_n (pc := 28) (q := 2) X d_Model_enterSlot_28 rfl ?_
          obtain ⟨v_2, hv⟩ := hv
          refine z_iadd (pc := 29) X d_Model_enterSlot_29 ?_
          refine z_iload_n (pc := 30) (q := 3) X d_Model_enterSlot_30 rfl ?_
          obtain ⟨v_3, hv⟩ := hv
          refine z_iastj (pc := 31) (j := ((x1 * 32) + x2).toNat) X (gf_Model_7 op0) (gl_Model_7 op0) v_2 v_3 rfl d_Model_enterSlot_31 ?_
          refine z_toph (fun h_4 eh_4 => ?_)
          have zh_4 : zh h_4 := by rw [eh_4]; exact zh_set hh (zO.ne (gf_Model_7 op0) (by decide)) rx3
          replace hv := hv h_4 eh_4
          exact E.1 rfl _ _ _ d_Model_enterSlot_32 ⟨rfl, zh_4, hv⟩
theorem d_Model_numberSlots_0 : decode b_Model_numberSlots 0 = .ok (.iconst 0, 1) := by decide +kernel
theorem d_Model_numberSlots_1 : decode b_Model_numberSlots 1 = .ok (.istore_n 1, 1) := by decide +kernel
theorem d_Model_numberSlots_2 : decode b_Model_numberSlots 2 = .ok (.iload_n 1, 1) := by decide +kernel
theorem d_Model_numberSlots_3 : decode b_Model_numberSlots 3 = .ok (.bipush 8, 2) := by decide +kernel
theorem d_Model_numberSlots_5 : decode b_Model_numberSlots 5 = .ok (.if_icmp .ge 16, 3) := by decide +kernel
theorem d_Model_numberSlots_8 : decode b_Model_numberSlots 8 = .ok (.aload_n 0, 1) := by decide +kernel
theorem d_Model_numberSlots_9 : decode b_Model_numberSlots 9 = .ok (.getfield 37, 3) := by decide +kernel
theorem d_Model_numberSlots_12 : decode b_Model_numberSlots 12 = .ok (.iload_n 1, 1) := by decide +kernel
theorem d_Model_numberSlots_13 : decode b_Model_numberSlots 13 = .ok (.iconst 0, 1) := by decide +kernel
theorem d_Model_numberSlots_14 : decode b_Model_numberSlots 14 = .ok (.iastore, 1) := by decide +kernel
theorem d_Model_numberSlots_15 : decode b_Model_numberSlots 15 = .ok (.iinc 1 1, 3) := by decide +kernel
theorem d_Model_numberSlots_18 : decode b_Model_numberSlots 18 = .ok (.goto (-16), 3) := by decide +kernel
theorem d_Model_numberSlots_21 : decode b_Model_numberSlots 21 = .ok (.iconst 0, 1) := by decide +kernel
theorem d_Model_numberSlots_22 : decode b_Model_numberSlots 22 = .ok (.istore_n 1, 1) := by decide +kernel
theorem d_Model_numberSlots_23 : decode b_Model_numberSlots 23 = .ok (.iload_n 1, 1) := by decide +kernel
theorem d_Model_numberSlots_24 : decode b_Model_numberSlots 24 = .ok (.bipush 32, 2) := by decide +kernel
theorem d_Model_numberSlots_26 : decode b_Model_numberSlots 26 = .ok (.if_icmp .ge 87, 3) := by decide +kernel
theorem d_Model_numberSlots_29 : decode b_Model_numberSlots 29 = .ok (.iload_n 1, 1) := by decide +kernel
theorem d_Model_numberSlots_30 : decode b_Model_numberSlots 30 = .ok (.iconst 4, 1) := by decide +kernel
theorem d_Model_numberSlots_31 : decode b_Model_numberSlots 31 = .ok (.idiv, 1) := by decide +kernel
theorem d_Model_numberSlots_32 : decode b_Model_numberSlots 32 = .ok (.istore_n 2, 1) := by decide +kernel
theorem d_Model_numberSlots_33 : decode b_Model_numberSlots 33 = .ok (.iload_n 1, 1) := by decide +kernel
theorem d_Model_numberSlots_34 : decode b_Model_numberSlots 34 = .ok (.iconst 4, 1) := by decide +kernel
theorem d_Model_numberSlots_35 : decode b_Model_numberSlots 35 = .ok (.irem, 1) := by decide +kernel
theorem d_Model_numberSlots_36 : decode b_Model_numberSlots 36 = .ok (.aload_n 0, 1) := by decide +kernel
theorem d_Model_numberSlots_37 : decode b_Model_numberSlots 37 = .ok (.getfield 18, 3) := by decide +kernel
theorem d_Model_numberSlots_40 : decode b_Model_numberSlots 40 = .ok (.iload_n 2, 1) := by decide +kernel
theorem d_Model_numberSlots_41 : decode b_Model_numberSlots 41 = .ok (.iaload, 1) := by decide +kernel
theorem d_Model_numberSlots_42 : decode b_Model_numberSlots 42 = .ok (.if_icmp .ge 7, 3) := by decide +kernel
theorem d_Model_numberSlots_45 : decode b_Model_numberSlots 45 = .ok (.iload_n 2, 1) := by decide +kernel
theorem d_Model_numberSlots_46 : decode b_Model_numberSlots 46 = .ok (.goto 9, 3) := by decide +kernel
theorem d_Model_numberSlots_49 : decode b_Model_numberSlots 49 = .ok (.aload_n 0, 1) := by decide +kernel
theorem d_Model_numberSlots_50 : decode b_Model_numberSlots 50 = .ok (.getfield 21, 3) := by decide +kernel
theorem d_Model_numberSlots_53 : decode b_Model_numberSlots 53 = .ok (.iload_n 2, 1) := by decide +kernel
theorem d_Model_numberSlots_54 : decode b_Model_numberSlots 54 = .ok (.iaload, 1) := by decide +kernel
theorem d_Model_numberSlots_55 : decode b_Model_numberSlots 55 = .ok (.istore_n 3, 1) := by decide +kernel
theorem d_Model_numberSlots_56 : decode b_Model_numberSlots 56 = .ok (.iload_n 3, 1) := by decide +kernel
theorem d_Model_numberSlots_57 : decode b_Model_numberSlots 57 = .ok (.ifCond .lt 50, 3) := by decide +kernel
theorem d_Model_numberSlots_60 : decode b_Model_numberSlots 60 = .ok (.iload_n 3, 1) := by decide +kernel
theorem d_Model_numberSlots_61 : decode b_Model_numberSlots 61 = .ok (.bipush 8, 2) := by decide +kernel
theorem d_Model_numberSlots_63 : decode b_Model_numberSlots 63 = .ok (.if_icmp .ge 44, 3) := by decide +kernel
theorem d_Model_numberSlots_66 : decode b_Model_numberSlots 66 = .ok (.aload_n 0, 1) := by decide +kernel
theorem d_Model_numberSlots_67 : decode b_Model_numberSlots 67 = .ok (.getfield 37, 3) := by decide +kernel
theorem d_Model_numberSlots_70 : decode b_Model_numberSlots 70 = .ok (.iload_n 3, 1) := by decide +kernel
theorem d_Model_numberSlots_71 : decode b_Model_numberSlots 71 = .ok (.iaload, 1) := by decide +kernel
theorem d_Model_numberSlots_72 : decode b_Model_numberSlots 72 = .ok (.istore 4, 2) := by decide +kernel
theorem d_Model_numberSlots_74 : decode b_Model_numberSlots 74 = .ok (.aload_n 0, 1) := by decide +kernel
theorem d_Model_numberSlots_75 : decode b_Model_numberSlots 75 = .ok (.getfield 28, 3) := by decide +kernel
theorem d_Model_numberSlots_78 : decode b_Model_numberSlots 78 = .ok (.iload_n 1, 1) := by decide +kernel
theorem d_Model_numberSlots_79 : decode b_Model_numberSlots 79 = .ok (.iload_n 3, 1) := by decide +kernel
theorem d_Model_numberSlots_80 : decode b_Model_numberSlots 80 = .ok (.iastore, 1) := by decide +kernel
theorem d_Model_numberSlots_81 : decode b_Model_numberSlots 81 = .ok (.aload_n 0, 1) := by decide +kernel
theorem d_Model_numberSlots_82 : decode b_Model_numberSlots 82 = .ok (.getfield 31, 3) := by decide +kernel
theorem d_Model_numberSlots_85 : decode b_Model_numberSlots 85 = .ok (.iload_n 1, 1) := by decide +kernel
theorem d_Model_numberSlots_86 : decode b_Model_numberSlots 86 = .ok (.iload 4, 2) := by decide +kernel
theorem d_Model_numberSlots_88 : decode b_Model_numberSlots 88 = .ok (.iastore, 1) := by decide +kernel
theorem d_Model_numberSlots_89 : decode b_Model_numberSlots 89 = .ok (.aload_n 0, 1) := by decide +kernel
theorem d_Model_numberSlots_90 : decode b_Model_numberSlots 90 = .ok (.getfield 37, 3) := by decide +kernel
theorem d_Model_numberSlots_93 : decode b_Model_numberSlots 93 = .ok (.iload_n 3, 1) := by decide +kernel
theorem d_Model_numberSlots_94 : decode b_Model_numberSlots 94 = .ok (.dup2, 1) := by decide +kernel
theorem d_Model_numberSlots_95 : decode b_Model_numberSlots 95 = .ok (.iaload, 1) := by decide +kernel
theorem d_Model_numberSlots_96 : decode b_Model_numberSlots 96 = .ok (.iconst 1, 1) := by decide +kernel
theorem d_Model_numberSlots_97 : decode b_Model_numberSlots 97 = .ok (.iadd, 1) := by decide +kernel
theorem d_Model_numberSlots_98 : decode b_Model_numberSlots 98 = .ok (.iastore, 1) := by decide +kernel
theorem d_Model_numberSlots_99 : decode b_Model_numberSlots 99 = .ok (.aload_n 0, 1) := by decide +kernel
theorem d_Model_numberSlots_100 : decode b_Model_numberSlots 100 = .ok (.iload_n 3, 1) := by decide +kernel
theorem d_Model_numberSlots_101 : decode b_Model_numberSlots 101 = .ok (.iload 4, 2) := by decide +kernel
theorem d_Model_numberSlots_103 : decode b_Model_numberSlots 103 = .ok (.iload_n 1, 1) := by decide +kernel
theorem d_Model_numberSlots_104 : decode b_Model_numberSlots 104 = .ok (.invokevirtual 75, 3) := by decide +kernel
theorem d_Model_numberSlots_107 : decode b_Model_numberSlots 107 = .ok (.iinc 1 1, 3) := by decide +kernel
theorem d_Model_numberSlots_110 : decode b_Model_numberSlots 110 = .ok (.goto (-87), 3) := by decide +kernel
theorem d_Model_numberSlots_113 : decode b_Model_numberSlots 113 = .ok (.return_, 1) := by decide +kernel
def rm_Model_numberSlots : Room := { frames := 1, cells := 0, slots := 0, locals := 23 }
theorem mf_Model_numberSlots : zMV y_Model_numberSlots b_Model_numberSlots 5 none 0 := ⟨q360, qs9, q4, q361, by decide +kernel⟩
def B_Model_numberSlots_55 (K : zH → Prop) (L23 : Int × zH → Prop) (p0 : Nat) (x1 : Int) (u0 : Int) (h : zH) : Prop :=
  (u0 < 0 → (zr (x1 + 1) ∧ (L23 (x1 + 1, h)))) ∧ (0 ≤ u0 → ((8 ≤ u0 → (zr (x1 + 1) ∧ (L23 (x1 + 1, h)))) ∧ (u0 < 8 → ((0 ≤ u0 ∧ u0 < 8) ∧ ((∀ x4_4 : Int, x4_4 = h (p0 + 9) u0.toNat → ((0 ≤ x1 ∧ x1 < 32) ∧ (∀ h_6 : zH, h_6 = zs h (p0 + 6) x1.toNat u0 → ((0 ≤ x1 ∧ x1 < 32) ∧ (∀ h_8 : zH, h_8 = zs h_6 (p0 + 7) x1.toNat x4_4 → ((0 ≤ u0 ∧ u0 < 8) ∧ (zr ((h_8 (p0 + 9) u0.toNat) + 1) ∧ ((0 ≤ u0 ∧ u0 < 8) ∧ (∀ h_12 : zH, h_12 = zs h_8 (p0 + 9) u0.toNat ((h_8 (p0 + 9) u0.toNat) + 1) → (M_Model_enterSlot p0 u0 x4_4 x1 h_12 (fun h_13 => zr (x1 + 1) ∧ (L23 (x1 + 1, h_13))))))))))))))))))
set_option maxRecDepth 100000 in
theorem s_Model_numberSlots_55 {Wf : Heap → List Loc → JFrame → Prop} {m : MethodId} {g : zG} {n : Nat} {H0 : Heap} (X : zX Wf m rm_Model_numberSlots b_Model_numberSlots "AliasStreams$Model" 5 g n H0) {K : zH → Prop} (E : zEx Wf m b_Model_numberSlots none 5 g n H0 (zPv K)) {L23 : Int × zH → Prop} {p0 : Nat} {x1 : Int} (hL23 : ∀ q : Int × zH, L23 q → zr q.1 → zh (q.2) → zW Wf m 5 g n H0 23 [(0, .ref (g.2.2 p0)), (1, zi q.1)] [] (q.2)) (op0 : zO n p0 1) (rx1 : zr x1) {u0 : Int} (ru0 : zr u0) {h : zH} (hh : zh h) (hv : B_Model_numberSlots_55 K L23 p0 x1 u0 h) : zW Wf m 5 g n H0 55 [(0, .ref (g.2.2 p0)), (1, zi x1)] [zi u0] h := by
  unfold B_Model_numberSlots_55 at hv
  refine z_istore_n (pc := 55) (lv' := [(3, zi u0), (0, .ref (g.2.2 p0)), (1, zi x1)]) X d_Model_numberSlots_55 (by decide) rfl ?_
  refine z_iload_n (pc := 56) (q := 0) X d_Model_numberSlots_56 rfl ?_
  refine z_if_lt (pc := 57) (tgt := 107) X ru0 d_Model_numberSlots_57 (by decide) (fun hc => ?_) (fun hc => ?_)
  · replace hv := hv.1 hc
    obtain ⟨v_1, hv⟩ := hv
    refine z_iinc (pc := 107) (q := 2) (lv' := [(1, zi (x1 + 1)), (3, zi u0), (0, .ref (g.2.2 p0))]) X d_Model_numberSlots_107 rfl (by decide) rfl ?_
    refine z_goto (pc := 110) (tgt := 23) X d_Model_numberSlots_110 (by decide) ?_
    refine z_perm [2, 0] rfl ?_
    exact hL23 _ hv v_1 hh
  · replace hv := hv.2 hc
    refine z_iload_n (pc := 60) (q := 0) X d_Model_numberSlots_60 rfl ?_
    refine z_bipush (pc := 61) X d_Model_numberSlots_61 (by decide) ?_
    refine z_icmp_ge (pc := 63) (tgt := 107) X ru0 (show zr 8 from by decide) d_Model_numberSlots_63 (by decide) (fun hc => ?_) (fun hc => ?_)
    · replace hv := hv.1 hc
      obtain ⟨v_2, hv⟩ := hv
      refine z_iinc (pc := 107) (q := 2) (lv' := [(1, zi (x1 + 1)), (3, zi u0), (0, .ref (g.2.2 p0))]) X d_Model_numberSlots_107 rfl (by decide) rfl ?_
      refine z_goto (pc := 110) (tgt := 23) X d_Model_numberSlots_110 (by decide) ?_
      refine z_perm [2, 0] rfl ?_
      exact hL23 _ hv v_2 hh
    · replace hv := hv.2 hc
      refine z_aload_n (pc := 66) (q := 1) X d_Model_numberSlots_66 rfl ?_
      refine z_getr (pc := 67) (j := 8) (dd := 9) X cf_Model op0 (by decide) q94 rfl rfl d_Model_numberSlots_67 ?_
      refine z_iload_n (pc := 70) (q := 0) X d_Model_numberSlots_70 rfl ?_
      obtain ⟨v_3, hv⟩ := hv
      refine z_ialdj (pc := 71) (j := u0.toNat) X (gf_Model_8 op0) (gl_Model_8 op0) ru0 v_3 rfl d_Model_numberSlots_71 ?_
      refine z_topi (fun x4_4 ex4_4 => ?_)
      have rx4_4 : zr x4_4 := by rw [ex4_4]; exact (hh.1 _ _ (zO.ne (gf_Model_8 op0) (by decide)))
      replace hv := hv x4_4 ex4_4
      refine z_istore (pc := 72) (lv' := [(4, zi x4_4), (3, zi u0), (0, .ref (g.2.2 p0)), (1, zi x1)]) X d_Model_numberSlots_72 (by decide) rfl ?_
      refine z_aload_n (pc := 74) (q := 2) X d_Model_numberSlots_74 rfl ?_
      refine z_getr (pc := 75) (j := 5) (dd := 6) X cf_Model op0 (by decide) q87 rfl rfl d_Model_numberSlots_75 ?_
      refine z_iload_n (pc := 78) (q := 3) X d_Model_numberSlots_78 rfl ?_
      refine z_iload_n (pc := 79) (q := 1) X d_Model_numberSlots_79 rfl ?_
      obtain ⟨v_5, hv⟩ := hv
      refine z_iastj (pc := 80) (j := x1.toNat) X (gf_Model_5 op0) (gl_Model_5 op0) rx1 v_5 rfl d_Model_numberSlots_80 ?_
      refine z_toph (fun h_6 eh_6 => ?_)
      have zh_6 : zh h_6 := by rw [eh_6]; exact zh_set hh (zO.ne (gf_Model_5 op0) (by decide)) ru0
      replace hv := hv h_6 eh_6
      refine z_aload_n (pc := 81) (q := 2) X d_Model_numberSlots_81 rfl ?_
      refine z_getr (pc := 82) (j := 6) (dd := 7) X cf_Model op0 (by decide) q90 rfl rfl d_Model_numberSlots_82 ?_
      refine z_iload_n (pc := 85) (q := 3) X d_Model_numberSlots_85 rfl ?_
      refine z_iload (pc := 86) (q := 0) X d_Model_numberSlots_86 rfl ?_
      obtain ⟨v_7, hv⟩ := hv
      refine z_iastj (pc := 88) (j := x1.toNat) X (gf_Model_6 op0) (gl_Model_6 op0) rx1 v_7 rfl d_Model_numberSlots_88 ?_
      refine z_toph (fun h_8 eh_8 => ?_)
      have zh_8 : zh h_8 := by rw [eh_8]; exact zh_set zh_6 (zO.ne (gf_Model_6 op0) (by decide)) rx4_4
      replace hv := hv h_8 eh_8
      refine z_aload_n (pc := 89) (q := 2) X d_Model_numberSlots_89 rfl ?_
      refine z_getr (pc := 90) (j := 8) (dd := 9) X cf_Model op0 (by decide) q94 rfl rfl d_Model_numberSlots_90 ?_
      refine z_iload_n (pc := 93) (q := 1) X d_Model_numberSlots_93 rfl ?_
      refine z_dup2 (pc := 94) X d_Model_numberSlots_94 rfl rfl ?_
      obtain ⟨v_9, hv⟩ := hv
      refine z_ialdj (pc := 95) (j := u0.toNat) X (gf_Model_8 op0) (gl_Model_8 op0) ru0 v_9 rfl d_Model_numberSlots_95 ?_
      refine z_iconst (pc := 96) X d_Model_numberSlots_96 ?_
      obtain ⟨v_10, hv⟩ := hv
      refine z_iadd (pc := 97) X d_Model_numberSlots_97 ?_
      obtain ⟨v_11, hv⟩ := hv
      refine z_iastj (pc := 98) (j := u0.toNat) X (gf_Model_8 op0) (gl_Model_8 op0) ru0 v_11 rfl d_Model_numberSlots_98 ?_
      refine z_toph (fun h_12 eh_12 => ?_)
      have zh_12 : zh h_12 := by rw [eh_12]; exact zh_set zh_8 (zO.ne (gf_Model_8 op0) (by decide)) v_10
      replace hv := hv h_12 eh_12
      refine z_aload_n (pc := 99) (q := 2) X d_Model_numberSlots_99 rfl ?_
      refine z_iload_n (pc := 100) (q := 1) X d_Model_numberSlots_100 rfl ?_
      refine z_iload (pc := 101) (q := 0) X d_Model_numberSlots_101 rfl ?_
      refine z_iload_n (pc := 103) (q := 3) X d_Model_numberSlots_103 rfl ?_
      refine z_callVv (pc := 104) (As := [zi u0, zi x4_4, zi x1]) (rest := []) X (fun l hl => c_Model_enterSlot hl op0 ru0 rx4_4 rx1 zh_12 hv) cf_Model op0 rfl mf_Model_enterSlot q362 ⟨⟨by decide, by decide⟩, rfl, rfl⟩ rfl d_Model_numberSlots_104 rfl (Nat.le_of_ble_eq_true rfl) (fun h_13 zh_13 hv => ?_)
      obtain ⟨v_15, hv⟩ := hv
      refine z_iinc (pc := 107) (q := 3) (lv' := [(1, zi (x1 + 1)), (4, zi x4_4), (3, zi u0), (0, .ref (g.2.2 p0))]) X d_Model_numberSlots_107 rfl (by decide) rfl ?_
      refine z_goto (pc := 110) (tgt := 23) X d_Model_numberSlots_110 (by decide) ?_
      refine z_perm [3, 0] rfl ?_
      exact hL23 _ hv v_15 zh_13
def F_Model_numberSlots_23 (K : zH → Prop)  (L23 : Int × zH → Prop) (p0 : Nat) (x1 : Int) (h : zH) : Prop :=
  (32 ≤ x1 → (K h)) ∧ (x1 < 32 → (0 ≤ x1 ∧ ((∀ x2_2 : Int, x2_2 = x1 / 4 → (0 ≤ x1 ∧ ((0 ≤ x2_2 ∧ x2_2 < 8) ∧ ((h (p0 + 3) x2_2.toNat ≤ x1 % 4 → ((0 ≤ x2_2 ∧ x2_2 < 8) ∧ (B_Model_numberSlots_55 K L23 p0 x1 (h (p0 + 4) x2_2.toNat) h))) ∧ (x1 % 4 < h (p0 + 3) x2_2.toNat → (B_Model_numberSlots_55 K L23 p0 x1 x2_2 h)))))))))
set_option maxRecDepth 100000 in
theorem s_Model_numberSlots_23 {Wf : Heap → List Loc → JFrame → Prop} {m : MethodId} {g : zG} {n : Nat} {H0 : Heap} (X : zX Wf m rm_Model_numberSlots b_Model_numberSlots "AliasStreams$Model" 5 g n H0) {K : zH → Prop} (E : zEx Wf m b_Model_numberSlots none 5 g n H0 (zPv K))  {p0 : Nat}  (op0 : zO n p0 1) {q0 : Int × zH} (hv0 : zLoop (fun L q => F_Model_numberSlots_23 K  L p0 q.1 q.2) q0) : zr q0.1 → zh (q0.2) → zW Wf m 5 g n H0 23 [(0, .ref (g.2.2 p0)), (1, zi q0.1)] [] (q0.2) := by
  refine zLoop_use (G := fun q => zr q.1 → zh (q.2) → zW Wf m 5 g n H0 23 [(0, .ref (g.2.2 p0)), (1, zi q.1)] [] (q.2)) ?_ hv0
  rintro L23 ⟨x1, h⟩ hL23 hv rx1 hh
  have hv : F_Model_numberSlots_23 K  L23 p0 x1 h := hv
  unfold F_Model_numberSlots_23 at hv
  show zW Wf m 5 g n H0 23 [(0, .ref (g.2.2 p0)), (1, zi x1)] [] h
  refine z_iload_n (pc := 23) (q := 1) X d_Model_numberSlots_23 rfl ?_
  refine z_bipush (pc := 24) X d_Model_numberSlots_24 (by decide) ?_
  refine z_icmp_ge (pc := 26) (tgt := 113) X rx1 (show zr 32 from by decide) d_Model_numberSlots_26 (by decide) (fun hc => ?_) (fun hc => ?_)
  · replace hv := hv.1 hc
    exact E.1 rfl _ _ _ d_Model_numberSlots_113 ⟨rfl, hh, hv⟩
  · replace hv := hv.2 hc
    refine z_iload_n (pc := 29) (q := 1) X d_Model_numberSlots_29 rfl ?_
    refine z_iconst (pc := 30) X d_Model_numberSlots_30 ?_
    obtain ⟨v_1, hv⟩ := hv
    refine z_idiv (pc := 31) X rx1 (show zr 4 from by decide) v_1 (by decide) d_Model_numberSlots_31 ?_
    refine z_topi (fun x2_2 ex2_2 => ?_)
    have rx2_2 : zr x2_2 := by rw [ex2_2]; exact (zr_div rx1 v_1 (by decide))
    replace hv := hv x2_2 ex2_2
    refine z_istore_n (pc := 32) (lv' := [(2, zi x2_2), (0, .ref (g.2.2 p0)), (1, zi x1)]) X d_Model_numberSlots_32 (by decide) rfl ?_
    refine z_iload_n (pc := 33) (q := 2) X d_Model_numberSlots_33 rfl ?_
    refine z_iconst (pc := 34) X d_Model_numberSlots_34 ?_
    obtain ⟨v_3, hv⟩ := hv
    refine z_irem (pc := 35) X rx1 (show zr 4 from by decide) v_3 (by decide) d_Model_numberSlots_35 ?_
    refine z_aload_n (pc := 36) (q := 1) X d_Model_numberSlots_36 rfl ?_
    refine z_getr (pc := 37) (j := 2) (dd := 3) X cf_Model op0 (by decide) q82 rfl rfl d_Model_numberSlots_37 ?_
    refine z_iload_n (pc := 40) (q := 0) X d_Model_numberSlots_40 rfl ?_
    obtain ⟨v_4, hv⟩ := hv
    refine z_ialdj (pc := 41) (j := x2_2.toNat) X (gf_Model_2 op0) (gl_Model_2 op0) rx2_2 v_4 rfl d_Model_numberSlots_41 ?_
    refine z_icmp_ge (pc := 42) (tgt := 49) X (zr_rem (show zr 4 from by decide) (by decide)) (hh.1 _ _ (zO.ne (gf_Model_2 op0) (by decide))) d_Model_numberSlots_42 (by decide) (fun hc => ?_) (fun hc => ?_)
    · replace hv := hv.1 hc
      refine z_aload_n (pc := 49) (q := 1) X d_Model_numberSlots_49 rfl ?_
      refine z_getr (pc := 50) (j := 3) (dd := 4) X cf_Model op0 (by decide) q84 rfl rfl d_Model_numberSlots_50 ?_
      refine z_iload_n (pc := 53) (q := 0) X d_Model_numberSlots_53 rfl ?_
      obtain ⟨v_5, hv⟩ := hv
      refine z_ialdj (pc := 54) (j := x2_2.toNat) X (gf_Model_3 op0) (gl_Model_3 op0) rx2_2 v_5 rfl d_Model_numberSlots_54 ?_
      refine z_perm [1, 2] rfl ?_
      exact s_Model_numberSlots_55 X E hL23 op0 rx1 (hh.1 _ _ (zO.ne (gf_Model_3 op0) (by decide))) hh hv
    · replace hv := hv.2 hc
      refine z_iload_n (pc := 45) (q := 0) X d_Model_numberSlots_45 rfl ?_
      refine z_goto (pc := 46) (tgt := 55) X d_Model_numberSlots_46 (by decide) ?_
      refine z_perm [1, 2] rfl ?_
      exact s_Model_numberSlots_55 X E hL23 op0 rx1 rx2_2 hh hv
def F_Model_numberSlots_2 (K : zH → Prop)  (L2 : Int × zH → Prop) (p0 : Nat) (x1 : Int) (h : zH) : Prop :=
  (8 ≤ x1 → (zLoop (fun L q => F_Model_numberSlots_23 K  L p0 q.1 q.2) (0, h))) ∧ (x1 < 8 → ((0 ≤ x1 ∧ x1 < 8) ∧ (∀ h_2 : zH, h_2 = zs h (p0 + 9) x1.toNat 0 → (zr (x1 + 1) ∧ (L2 (x1 + 1, h_2))))))
set_option maxRecDepth 100000 in
theorem s_Model_numberSlots_2 {Wf : Heap → List Loc → JFrame → Prop} {m : MethodId} {g : zG} {n : Nat} {H0 : Heap} (X : zX Wf m rm_Model_numberSlots b_Model_numberSlots "AliasStreams$Model" 5 g n H0) {K : zH → Prop} (E : zEx Wf m b_Model_numberSlots none 5 g n H0 (zPv K))  {p0 : Nat}  (op0 : zO n p0 1) {q0 : Int × zH} (hv0 : zLoop (fun L q => F_Model_numberSlots_2 K  L p0 q.1 q.2) q0) : zr q0.1 → zh (q0.2) → zW Wf m 5 g n H0 2 [(0, .ref (g.2.2 p0)), (1, zi q0.1)] [] (q0.2) := by
  refine zLoop_use (G := fun q => zr q.1 → zh (q.2) → zW Wf m 5 g n H0 2 [(0, .ref (g.2.2 p0)), (1, zi q.1)] [] (q.2)) ?_ hv0
  rintro L2 ⟨x1, h⟩ hL2 hv rx1 hh
  have hv : F_Model_numberSlots_2 K  L2 p0 x1 h := hv
  unfold F_Model_numberSlots_2 at hv
  show zW Wf m 5 g n H0 2 [(0, .ref (g.2.2 p0)), (1, zi x1)] [] h
  refine z_iload_n (pc := 2) (q := 1) X d_Model_numberSlots_2 rfl ?_
  refine z_bipush (pc := 3) X d_Model_numberSlots_3 (by decide) ?_
  refine z_icmp_ge (pc := 5) (tgt := 21) X rx1 (show zr 8 from by decide) d_Model_numberSlots_5 (by decide) (fun hc => ?_) (fun hc => ?_)
  · replace hv := hv.1 hc
    refine z_iconst (pc := 21) X d_Model_numberSlots_21 ?_
    refine z_istore_n (pc := 22) (lv' := [(1, zi 0), (0, .ref (g.2.2 p0))]) X d_Model_numberSlots_22 (by decide) rfl ?_
    refine z_perm [1, 0] rfl ?_
    exact s_Model_numberSlots_23 X E  op0 hv (show zr 0 from by decide) hh
  · replace hv := hv.2 hc
    refine z_aload_n (pc := 8) (q := 0) X d_Model_numberSlots_8 rfl ?_
    refine z_getr (pc := 9) (j := 8) (dd := 9) X cf_Model op0 (by decide) q94 rfl rfl d_Model_numberSlots_9 ?_
    refine z_iload_n (pc := 12) (q := 1) X d_Model_numberSlots_12 rfl ?_
    refine z_iconst (pc := 13) X d_Model_numberSlots_13 ?_
    obtain ⟨v_1, hv⟩ := hv
    refine z_iastj (pc := 14) (j := x1.toNat) X (gf_Model_8 op0) (gl_Model_8 op0) rx1 v_1 rfl d_Model_numberSlots_14 ?_
    refine z_toph (fun h_2 eh_2 => ?_)
    have zh_2 : zh h_2 := by rw [eh_2]; exact zh_set hh (zO.ne (gf_Model_8 op0) (by decide)) (show zr 0 from by decide)
    replace hv := hv h_2 eh_2
    obtain ⟨v_3, hv⟩ := hv
    refine z_iinc (pc := 15) (q := 1) (lv' := [(1, zi (x1 + 1)), (0, .ref (g.2.2 p0))]) X d_Model_numberSlots_15 rfl (by decide) rfl ?_
    refine z_goto (pc := 18) (tgt := 2) X d_Model_numberSlots_18 (by decide) ?_
    refine z_perm [1, 0] rfl ?_
    exact hL2 _ hv v_3 zh_2
def M_Model_numberSlots (p0 : Nat) (h : zH) (K : zH → Prop) : Prop :=
  zLoop (fun L q => F_Model_numberSlots_2 K  L p0 q.1 q.2) (0, h)
set_option maxRecDepth 100000 in
theorem c_Model_numberSlots {l : Launch} (hfl : l.flags = flags0) {g : zG} {n : Nat} {p0 : Nat} (op0 : zO n p0 1) {h : zH} (hh : zh h) {K : zH → Prop} (hv : M_Model_numberSlots p0 h K) : zMet l y_Model_numberSlots b_Model_numberSlots 5 none rm_Model_numberSlots g n [.ref (g.2.2 p0)] h (zPv K) := by
  refine zMet_of (own := "AliasStreams$Model") hfl (by decide) rfl (Nat.le_of_ble_eq_true rfl) (fun Wf m H0 X E => ?_)
  unfold M_Model_numberSlots at hv
  show zW Wf m 5 g n H0 0 [(0, .ref (g.2.2 p0))] [] h
  refine z_iconst (pc := 0) X d_Model_numberSlots_0 ?_
  refine z_istore_n (pc := 1) (lv' := [(1, zi 0), (0, .ref (g.2.2 p0))]) X d_Model_numberSlots_1 (by decide) rfl ?_
  refine z_perm [1, 0] rfl ?_
  exact s_Model_numberSlots_2 X E  op0 hv (show zr 0 from by decide) hh

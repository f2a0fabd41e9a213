/-! 19.AS0 (printed by wip/whole/methgen.py) -/
theorem d_AS_isHead_0 : decode b_AS_isHead 0 = .ok (.iload_n 0, 1) := by decide +kernel
theorem d_AS_isHead_1 : decode b_AS_isHead 1 = .ok (.ifCond .lt 12, 3) := by decide +kernel
theorem d_AS_isHead_4 : decode b_AS_isHead 4 = .ok (.iload_n 0, 1) := by decide +kernel
theorem d_AS_isHead_5 : decode b_AS_isHead 5 = .ok (.iconst 2, 1) := by decide +kernel
theorem d_AS_isHead_6 : decode b_AS_isHead 6 = .ok (.if_icmp .ge 7, 3) := by decide +kernel
theorem d_AS_isHead_9 : decode b_AS_isHead 9 = .ok (.iconst 1, 1) := by decide +kernel
theorem d_AS_isHead_10 : decode b_AS_isHead 10 = .ok (.goto 4, 3) := by decide +kernel
theorem d_AS_isHead_13 : decode b_AS_isHead 13 = .ok (.iconst 0, 1) := by decide +kernel
theorem d_AS_isHead_14 : decode b_AS_isHead 14 = .ok (.ireturn, 1) := by decide +kernel
def rm_AS_isHead : Room := { frames := 0, cells := 0, slots := 0, locals := 0 }
theorem mf_AS_isHead : zMS y_AS_isHead b_AS_isHead 1 (some .boolean) 1 := ⟨q697, q1, q698, by decide +kernel⟩
def M_AS_isHead (x0 : Int) (h : zH) (K : Int → zH → Prop) : Prop :=
  (x0 < 0 → (K 0 h)) ∧ (0 ≤ x0 → ((2 ≤ x0 → (K 0 h)) ∧ (x0 < 2 → (K 1 h))))
set_option maxRecDepth 100000 in
theorem c_AS_isHead {l : Launch} (hfl : l.flags = flags0) {g : zG} {n : Nat} {x0 : Int} (rx0 : zr x0) {h : zH} (hh : zh h) {K : Int → zH → Prop} (hv : M_AS_isHead x0 h K) : zMet l y_AS_isHead b_AS_isHead 1 (some .boolean) rm_AS_isHead g n [zi x0] h (zPi K) := by
  refine zMet_of (own := "AliasStreams") hfl (by decide) rfl (Nat.le_of_ble_eq_true rfl) (fun Wf m H0 X E => ?_)
  unfold M_AS_isHead at hv
  show zW Wf m 1 g n H0 0 [(0, zi x0)] [] h
  refine z_iload_n (pc := 0) (q := 0) X d_AS_isHead_0 rfl ?_
  refine z_if_lt (pc := 1) (tgt := 13) X rx0 d_AS_isHead_1 (by decide) (fun hc => ?_) (fun hc => ?_)
  · replace hv := hv.1 hc
    refine z_iconst (pc := 13) X d_AS_isHead_13 ?_
    exact E.2.2.1 rfl _ _ _ _ (by decide) d_AS_isHead_14 ⟨_, rfl, (show zr 0 from by decide), hh, hv⟩
  · replace hv := hv.2 hc
    refine z_iload_n (pc := 4) (q := 0) X d_AS_isHead_4 rfl ?_
    refine z_iconst (pc := 5) X d_AS_isHead_5 ?_
    refine z_icmp_ge (pc := 6) (tgt := 13) X rx0 (show zr 2 from by decide) d_AS_isHead_6 (by decide) (fun hc => ?_) (fun hc => ?_)
    · replace hv := hv.1 hc
      refine z_iconst (pc := 13) X d_AS_isHead_13 ?_
      exact E.2.2.1 rfl _ _ _ _ (by decide) d_AS_isHead_14 ⟨_, rfl, (show zr 0 from by decide), hh, hv⟩
    · replace hv := hv.2 hc
      refine z_iconst (pc := 9) X d_AS_isHead_9 ?_
      refine z_goto (pc := 10) (tgt := 14) X d_AS_isHead_10 (by decide) ?_
      exact E.2.2.1 rfl _ _ _ _ (by decide) d_AS_isHead_14 ⟨_, rfl, (show zr 1 from by decide), hh, hv⟩
theorem d_AS_isDigit_0 : decode b_AS_isDigit 0 = .ok (.iload_n 0, 1) := by decide +kernel
theorem d_AS_isDigit_1 : decode b_AS_isDigit 1 = .ok (.ifCond .lt 13, 3) := by decide +kernel
theorem d_AS_isDigit_4 : decode b_AS_isDigit 4 = .ok (.iload_n 0, 1) := by decide +kernel
theorem d_AS_isDigit_5 : decode b_AS_isDigit 5 = .ok (.bipush 16, 2) := by decide +kernel
theorem d_AS_isDigit_7 : decode b_AS_isDigit 7 = .ok (.if_icmp .ge 7, 3) := by decide +kernel
theorem d_AS_isDigit_10 : decode b_AS_isDigit 10 = .ok (.iconst 1, 1) := by decide +kernel
theorem d_AS_isDigit_11 : decode b_AS_isDigit 11 = .ok (.goto 4, 3) := by decide +kernel
theorem d_AS_isDigit_14 : decode b_AS_isDigit 14 = .ok (.iconst 0, 1) := by decide +kernel
theorem d_AS_isDigit_15 : decode b_AS_isDigit 15 = .ok (.ireturn, 1) := by decide +kernel
def rm_AS_isDigit : Room := { frames := 0, cells := 0, slots := 0, locals := 0 }
theorem mf_AS_isDigit : zMS y_AS_isDigit b_AS_isDigit 1 (some .boolean) 1 := ⟨q827, q1, q828, by decide +kernel⟩
def M_AS_isDigit (x0 : Int) (h : zH) (K : Int → zH → Prop) : Prop :=
  (x0 < 0 → (K 0 h)) ∧ (0 ≤ x0 → ((16 ≤ x0 → (K 0 h)) ∧ (x0 < 16 → (K 1 h))))
set_option maxRecDepth 100000 in
theorem c_AS_isDigit {l : Launch} (hfl : l.flags = flags0) {g : zG} {n : Nat} {x0 : Int} (rx0 : zr x0) {h : zH} (hh : zh h) {K : Int → zH → Prop} (hv : M_AS_isDigit x0 h K) : zMet l y_AS_isDigit b_AS_isDigit 1 (some .boolean) rm_AS_isDigit g n [zi x0] h (zPi K) := by
  refine zMet_of (own := "AliasStreams") hfl (by decide) rfl (Nat.le_of_ble_eq_true rfl) (fun Wf m H0 X E => ?_)
  unfold M_AS_isDigit at hv
  show zW Wf m 1 g n H0 0 [(0, zi x0)] [] h
  refine z_iload_n (pc := 0) (q := 0) X d_AS_isDigit_0 rfl ?_
  refine z_if_lt (pc := 1) (tgt := 14) X rx0 d_AS_isDigit_1 (by decide) (fun hc => ?_) (fun hc => ?_)
  · replace hv := hv.1 hc
    refine z_iconst (pc := 14) X d_AS_isDigit_14 ?_
    exact E.2.2.1 rfl _ _ _ _ (by decide) d_AS_isDigit_15 ⟨_, rfl, (show zr 0 from by decide), hh, hv⟩
  · replace hv := hv.2 hc
    refine z_iload_n (pc := 4) (q := 0) X d_AS_isDigit_4 rfl ?_
    refine z_bipush (pc := 5) X d_AS_isDigit_5 (by decide) ?_
    refine z_icmp_ge (pc := 7) (tgt := 14) X rx0 (show zr 16 from by decide) d_AS_isDigit_7 (by decide) (fun hc => ?_) (fun hc => ?_)
    · replace hv := hv.1 hc
      refine z_iconst (pc := 14) X d_AS_isDigit_14 ?_
      exact E.2.2.1 rfl _ _ _ _ (by decide) d_AS_isDigit_15 ⟨_, rfl, (show zr 0 from by decide), hh, hv⟩
    · replace hv := hv.2 hc
      refine z_iconst (pc := 10) X d_AS_isDigit_10 ?_
      refine z_goto (pc := 11) (tgt := 15) X d_AS_isDigit_11 (by decide) ?_
      exact E.2.2.1 rfl _ _ _ _ (by decide) d_AS_isDigit_15 ⟨_, rfl, (show zr 1 from by decide), hh, hv⟩
theorem d_AS_isSaveSlot_0 : decode b_AS_isSaveSlot 0 = .ok (.iload_n 0, 1) := by decide +kernel
theorem d_AS_isSaveSlot_1 : decode b_AS_isSaveSlot 1 = .ok (.ifCond .lt 12, 3) := by decide +kernel
theorem d_AS_isSaveSlot_4 : decode b_AS_isSaveSlot 4 = .ok (.iload_n 0, 1) := by decide +kernel
theorem d_AS_isSaveSlot_5 : decode b_AS_isSaveSlot 5 = .ok (.iconst 2, 1) := by decide +kernel
theorem d_AS_isSaveSlot_6 : decode b_AS_isSaveSlot 6 = .ok (.if_icmp .ge 7, 3) := by decide +kernel
theorem d_AS_isSaveSlot_9 : decode b_AS_isSaveSlot 9 = .ok (.iconst 1, 1) := by decide +kernel
theorem d_AS_isSaveSlot_10 : decode b_AS_isSaveSlot 10 = .ok (.goto 4, 3) := by decide +kernel
theorem d_AS_isSaveSlot_13 : decode b_AS_isSaveSlot 13 = .ok (.iconst 0, 1) := by decide +kernel
theorem d_AS_isSaveSlot_14 : decode b_AS_isSaveSlot 14 = .ok (.ireturn, 1) := by decide +kernel
def rm_AS_isSaveSlot : Room := { frames := 0, cells := 0, slots := 0, locals := 0 }
theorem mf_AS_isSaveSlot : zMS y_AS_isSaveSlot b_AS_isSaveSlot 1 (some .boolean) 1 := ⟨q1003, q1, q1004, by decide +kernel⟩
def M_AS_isSaveSlot (x0 : Int) (h : zH) (K : Int → zH → Prop) : Prop :=
  (x0 < 0 → (K 0 h)) ∧ (0 ≤ x0 → ((2 ≤ x0 → (K 0 h)) ∧ (x0 < 2 → (K 1 h))))
set_option maxRecDepth 100000 in
theorem c_AS_isSaveSlot {l : Launch} (hfl : l.flags = flags0) {g : zG} {n : Nat} {x0 : Int} (rx0 : zr x0) {h : zH} (hh : zh h) {K : Int → zH → Prop} (hv : M_AS_isSaveSlot x0 h K) : zMet l y_AS_isSaveSlot b_AS_isSaveSlot 1 (some .boolean) rm_AS_isSaveSlot g n [zi x0] h (zPi K) := by
  refine zMet_of (own := "AliasStreams") hfl (by decide) rfl (Nat.le_of_ble_eq_true rfl) (fun Wf m H0 X E => ?_)
  unfold M_AS_isSaveSlot at hv
  show zW Wf m 1 g n H0 0 [(0, zi x0)] [] h
  refine z_iload_n (pc := 0) (q := 0) X d_AS_isSaveSlot_0 rfl ?_
  refine z_if_lt (pc := 1) (tgt := 13) X rx0 d_AS_isSaveSlot_1 (by decide) (fun hc => ?_) (fun hc => ?_)
  · replace hv := hv.1 hc
    refine z_iconst (pc := 13) X d_AS_isSaveSlot_13 ?_
    exact E.2.2.1 rfl _ _ _ _ (by decide) d_AS_isSaveSlot_14 ⟨_, rfl, (show zr 0 from by decide), hh, hv⟩
  · replace hv := hv.2 hc
    refine z_iload_n (pc := 4) (q := 0) X d_AS_isSaveSlot_4 rfl ?_
    refine z_iconst (pc := 5) X d_AS_isSaveSlot_5 ?_
    refine z_icmp_ge (pc := 6) (tgt := 13) X rx0 (show zr 2 from by decide) d_AS_isSaveSlot_6 (by decide) (fun hc => ?_) (fun hc => ?_)
    · replace hv := hv.1 hc
      refine z_iconst (pc := 13) X d_AS_isSaveSlot_13 ?_
      exact E.2.2.1 rfl _ _ _ _ (by decide) d_AS_isSaveSlot_14 ⟨_, rfl, (show zr 0 from by decide), hh, hv⟩
    · replace hv := hv.2 hc
      refine z_iconst (pc := 9) X d_AS_isSaveSlot_9 ?_
      refine z_goto (pc := 10) (tgt := 14) X d_AS_isSaveSlot_10 (by decide) ?_
      exact E.2.2.1 rfl _ _ _ _ (by decide) d_AS_isSaveSlot_14 ⟨_, rfl, (show zr 1 from by decide), hh, hv⟩
theorem d_AS_isCountPlace_0 : decode b_AS_isCountPlace 0 = .ok (.iload_n 0, 1) := by decide +kernel
theorem d_AS_isCountPlace_1 : decode b_AS_isCountPlace 1 = .ok (.ifCond .lt 22, 3) := by decide +kernel
theorem d_AS_isCountPlace_4 : decode b_AS_isCountPlace 4 = .ok (.iload_n 0, 1) := by decide +kernel
theorem d_AS_isCountPlace_5 : decode b_AS_isCountPlace 5 = .ok (.iconst 3, 1) := by decide +kernel
theorem d_AS_isCountPlace_6 : decode b_AS_isCountPlace 6 = .ok (.if_icmp .ge 17, 3) := by decide +kernel
theorem d_AS_isCountPlace_9 : decode b_AS_isCountPlace 9 = .ok (.iload_n 1, 1) := by decide +kernel
theorem d_AS_isCountPlace_10 : decode b_AS_isCountPlace 10 = .ok (.ifCond .lt 13, 3) := by decide +kernel
theorem d_AS_isCountPlace_13 : decode b_AS_isCountPlace 13 = .ok (.iload_n 1, 1) := by decide +kernel
theorem d_AS_isCountPlace_14 : decode b_AS_isCountPlace 14 = .ok (.bipush 8, 2) := by decide +kernel
theorem d_AS_isCountPlace_16 : decode b_AS_isCountPlace 16 = .ok (.if_icmp .ge 7, 3) := by decide +kernel
theorem d_AS_isCountPlace_19 : decode b_AS_isCountPlace 19 = .ok (.iconst 1, 1) := by decide +kernel
theorem d_AS_isCountPlace_20 : decode b_AS_isCountPlace 20 = .ok (.goto 4, 3) := by decide +kernel
theorem d_AS_isCountPlace_23 : decode b_AS_isCountPlace 23 = .ok (.iconst 0, 1) := by decide +kernel
theorem d_AS_isCountPlace_24 : decode b_AS_isCountPlace 24 = .ok (.ireturn, 1) := by decide +kernel
def rm_AS_isCountPlace : Room := { frames := 0, cells := 0, slots := 0, locals := 0 }
theorem mf_AS_isCountPlace : zMS y_AS_isCountPlace b_AS_isCountPlace 2 (some .boolean) 2 := ⟨q325, q1, q326, by decide +kernel⟩
def M_AS_isCountPlace (x0 : Int) (x1 : Int) (h : zH) (K : Int → zH → Prop) : Prop :=
  (x0 < 0 → (K 0 h)) ∧ (0 ≤ x0 → ((3 ≤ x0 → (K 0 h)) ∧ (x0 < 3 → ((x1 < 0 → (K 0 h)) ∧ (0 ≤ x1 → ((8 ≤ x1 → (K 0 h)) ∧ (x1 < 8 → (K 1 h))))))))
set_option maxRecDepth 100000 in
theorem c_AS_isCountPlace {l : Launch} (hfl : l.flags = flags0) {g : zG} {n : Nat} {x0 : Int} {x1 : Int} (rx0 : zr x0) (rx1 : zr x1) {h : zH} (hh : zh h) {K : Int → zH → Prop} (hv : M_AS_isCountPlace x0 x1 h K) : zMet l y_AS_isCountPlace b_AS_isCountPlace 2 (some .boolean) rm_AS_isCountPlace g n [zi x0, zi x1] h (zPi K) := by
  refine zMet_of (own := "AliasStreams") hfl (by decide) rfl (Nat.le_of_ble_eq_true rfl) (fun Wf m H0 X E => ?_)
  unfold M_AS_isCountPlace at hv
  show zW Wf m 2 g n H0 0 [(0, zi x0), (1, zi x1)] [] h
  refine z_iload_n (pc := 0) (q := 0) X d_AS_isCountPlace_0 rfl ?_
  refine z_if_lt (pc := 1) (tgt := 23) X rx0 d_AS_isCountPlace_1 (by decide) (fun hc => ?_) (fun hc => ?_)
  · replace hv := hv.1 hc
    refine z_iconst (pc := 23) X d_AS_isCountPlace_23 ?_
    exact E.2.2.1 rfl _ _ _ _ (by decide) d_AS_isCountPlace_24 ⟨_, rfl, (show zr 0 from by decide), hh, hv⟩
  · replace hv := hv.2 hc
    refine z_iload_n (pc := 4) (q := 0) X d_AS_isCountPlace_4 rfl ?_
    refine z_iconst (pc := 5) X d_AS_isCountPlace_5 ?_
    refine z_icmp_ge (pc := 6) (tgt := 23) X rx0 (show zr 3 from by decide) d_AS_isCountPlace_6 (by decide) (fun hc => ?_) (fun hc => ?_)
    · replace hv := hv.1 hc
      refine z_iconst (pc := 23) X d_AS_isCountPlace_23 ?_
      exact E.2.2.1 rfl _ _ _ _ (by decide) d_AS_isCountPlace_24 ⟨_, rfl, (show zr 0 from by decide), hh, hv⟩
    · replace hv := hv.2 hc
      refine z_iload_n (pc := 9) (q := 1) X d_AS_isCountPlace_9 rfl ?_
      refine z_if_lt (pc := 10) (tgt := 23) X rx1 d_AS_isCountPlace_10 (by decide) (fun hc => ?_) (fun hc => ?_)
      · replace hv := hv.1 hc
        refine z_iconst (pc := 23) X d_AS_isCountPlace_23 ?_
        exact E.2.2.1 rfl _ _ _ _ (by decide) d_AS_isCountPlace_24 ⟨_, rfl, (show zr 0 from by decide), hh, hv⟩
      · replace hv := hv.2 hc
        refine z_iload_n (pc := 13) (q := 1) X d_AS_isCountPlace_13 rfl ?_
        refine z_bipush (pc := 14) X d_AS_isCountPlace_14 (by decide) ?_
        refine z_icmp_ge (pc := 16) (tgt := 23) X rx1 (show zr 8 from by decide) d_AS_isCountPlace_16 (by decide) (fun hc => ?_) (fun hc => ?_)
        · replace hv := hv.1 hc
          refine z_iconst (pc := 23) X d_AS_isCountPlace_23 ?_
          exact E.2.2.1 rfl _ _ _ _ (by decide) d_AS_isCountPlace_24 ⟨_, rfl, (show zr 0 from by decide), hh, hv⟩
        · replace hv := hv.2 hc
          refine z_iconst (pc := 19) X d_AS_isCountPlace_19 ?_
          refine z_goto (pc := 20) (tgt := 24) X d_AS_isCountPlace_20 (by decide) ?_
          exact E.2.2.1 rfl _ _ _ _ (by decide) d_AS_isCountPlace_24 ⟨_, rfl, (show zr 1 from by decide), hh, hv⟩
theorem d_AS_countIn_0 : decode b_AS_countIn 0 = .ok (.iload_n 1, 1) := by decide +kernel
theorem d_AS_countIn_1 : decode b_AS_countIn 1 = .ok (.bipush 8, 2) := by decide +kernel
theorem d_AS_countIn_3 : decode b_AS_countIn 3 = .ok (.imul, 1) := by decide +kernel
theorem d_AS_countIn_4 : decode b_AS_countIn 4 = .ok (.iload_n 2, 1) := by decide +kernel
theorem d_AS_countIn_5 : decode b_AS_countIn 5 = .ok (.iadd, 1) := by decide +kernel
theorem d_AS_countIn_6 : decode b_AS_countIn 6 = .ok (.istore_n 3, 1) := by decide +kernel
theorem d_AS_countIn_7 : decode b_AS_countIn 7 = .ok (.iload_n 1, 1) := by decide +kernel
theorem d_AS_countIn_8 : decode b_AS_countIn 8 = .ok (.iload_n 2, 1) := by decide +kernel
theorem d_AS_countIn_9 : decode b_AS_countIn 9 = .ok (.invokestatic 383, 3) := by decide +kernel
theorem d_AS_countIn_12 : decode b_AS_countIn 12 = .ok (.ifCond .eq 15, 3) := by decide +kernel
theorem d_AS_countIn_15 : decode b_AS_countIn 15 = .ok (.iload_n 3, 1) := by decide +kernel
theorem d_AS_countIn_16 : decode b_AS_countIn 16 = .ok (.aload_n 0, 1) := by decide +kernel
theorem d_AS_countIn_17 : decode b_AS_countIn 17 = .ok (.arraylength, 1) := by decide +kernel
theorem d_AS_countIn_18 : decode b_AS_countIn 18 = .ok (.if_icmp .ge 9, 3) := by decide +kernel
theorem d_AS_countIn_21 : decode b_AS_countIn 21 = .ok (.aload_n 0, 1) := by decide +kernel
theorem d_AS_countIn_22 : decode b_AS_countIn 22 = .ok (.iload_n 3, 1) := by decide +kernel
theorem d_AS_countIn_23 : decode b_AS_countIn 23 = .ok (.iaload, 1) := by decide +kernel
theorem d_AS_countIn_24 : decode b_AS_countIn 24 = .ok (.goto 4, 3) := by decide +kernel
theorem d_AS_countIn_27 : decode b_AS_countIn 27 = .ok (.iconst 0, 1) := by decide +kernel
theorem d_AS_countIn_28 : decode b_AS_countIn 28 = .ok (.ireturn, 1) := by decide +kernel
def rm_AS_countIn : Room := { frames := 1, cells := 0, slots := 0, locals := 21 }
theorem mf_AS_countIn : zMS y_AS_countIn b_AS_countIn 4 (some .int) 3 := ⟨q322, q1, q323, by decide +kernel⟩
def M_AS_countIn (p0 : Nat) (x1 : Int) (x2 : Int) (h : zH) (K : Int → zH → Prop) : Prop :=
  zr (x1 * 8) ∧ (zr ((x1 * 8) + x2) ∧ ((∀ x3_3 : Int, x3_3 = (x1 * 8) + x2 → (M_AS_isCountPlace x1 x2 h (fun r_5 h_4 => (r_5 = 0 → (K 0 h_4)) ∧ (r_5 ≠ 0 → ((((zln p0 : Nat) : Int) ≤ x3_3 → (K 0 h_4)) ∧ (x3_3 < ((zln p0 : Nat) : Int) → ((0 ≤ x3_3 ∧ x3_3 < ((zln p0 : Nat) : Int)) ∧ (K (h_4 p0 x3_3.toNat) h_4))))))))))
set_option maxRecDepth 100000 in
theorem c_AS_countIn {l : Launch} (hfl : l.flags = flags0) {g : zG} {n : Nat} {p0 : Nat} {x1 : Int} {x2 : Int} (op0 : zO n p0 12) (rx1 : zr x1) (rx2 : zr x2) {h : zH} (hh : zh h) {K : Int → zH → Prop} (hv : M_AS_countIn p0 x1 x2 h K) : zMet l y_AS_countIn b_AS_countIn 4 (some .int) rm_AS_countIn g n [.ref (g.2.2 p0), zi x1, zi x2] h (zPi K) := by
  refine zMet_of (own := "AliasStreams") hfl (by decide) rfl (Nat.le_of_ble_eq_true rfl) (fun Wf m H0 X E => ?_)
  unfold M_AS_countIn at hv
  show zW Wf m 4 g n H0 0 [(0, .ref (g.2.2 p0)), (1, zi x1), (2, zi x2)] [] h
  refine z_iload_n (pc := 0) (q := 1) X d_AS_countIn_0 rfl ?_
  refine z_bipush (pc := 1) X d_AS_countIn_1 (by decide) ?_
  obtain ⟨v_1, hv⟩ := hv
  refine z_imul (pc := 3) X d_AS_countIn_3 ?_
  refine z_iload_n (pc := 4) (q := 2) X d_AS_countIn_4 rfl ?_
  obtain ⟨v_2, hv⟩ := hv
  refine z_iadd (pc := 5) X d_AS_countIn_5 ?_
  refine z_topi (fun x3_3 ex3_3 => ?_)
  have rx3_3 : zr x3_3 := by rw [ex3_3]; exact v_2
  replace hv := hv x3_3 ex3_3
  refine z_istore_n (pc := 6) (lv' := [(3, zi x3_3), (0, .ref (g.2.2 p0)), (1, zi x1), (2, zi x2)]) X d_AS_countIn_6 (by decide) rfl ?_
  refine z_iload_n (pc := 7) (q := 2) X d_AS_countIn_7 rfl ?_
  refine z_iload_n (pc := 8) (q := 3) X d_AS_countIn_8 rfl ?_
  refine z_callSi (pc := 9) (As := [zi x1, zi x2]) (rest := []) X (fun l hl => c_AS_isCountPlace hl rx1 rx2 hh hv) mf_AS_isCountPlace q324 ⟨⟨by decide, by decide⟩, rfl, rfl⟩ rfl d_AS_countIn_9 rfl (Nat.le_of_ble_eq_true rfl) (fun r_5 h_4 rr_5 zh_4 hv => ?_)
  refine z_if_eq (pc := 12) (tgt := 27) X rr_5 d_AS_countIn_12 (by decide) (fun hc => ?_) (fun hc => ?_)
  · replace hv := hv.1 hc
    refine z_iconst (pc := 27) X d_AS_countIn_27 ?_
    exact E.2.1 rfl _ _ _ _ d_AS_countIn_28 ⟨_, rfl, (show zr 0 from by decide), zh_4, hv⟩
  · replace hv := hv.2 hc
    refine z_iload_n (pc := 15) (q := 0) X d_AS_countIn_15 rfl ?_
    refine z_aload_n (pc := 16) (q := 1) X d_AS_countIn_16 rfl ?_
    refine z_alen (pc := 17) X op0 rfl d_AS_countIn_17 ?_
    refine z_icmp_ge (pc := 18) (tgt := 27) X rx3_3 (zr_len _) d_AS_countIn_18 (by decide) (fun hc => ?_) (fun hc => ?_)
    · replace hv := hv.1 hc
      refine z_iconst (pc := 27) X d_AS_countIn_27 ?_
      exact E.2.1 rfl _ _ _ _ d_AS_countIn_28 ⟨_, rfl, (show zr 0 from by decide), zh_4, hv⟩
    · replace hv := hv.2 hc
      refine z_aload_n (pc := 21) (q := 1) X d_AS_countIn_21 rfl ?_
      refine z_iload_n (pc := 22) (q := 0) X d_AS_countIn_22 rfl ?_
      obtain ⟨v_6, hv⟩ := hv
      refine z_ialdj (pc := 23) (j := x3_3.toNat) X op0 rfl rx3_3 v_6 rfl d_AS_countIn_23 ?_
      refine z_goto (pc := 24) (tgt := 28) X d_AS_countIn_24 (by decide) ?_
      exact E.2.1 rfl _ _ _ _ d_AS_countIn_28 ⟨_, rfl, (zh_4.1 _ _ (zO.ne op0 (by decide))), zh_4, hv⟩

/-! 21.Model2 (printed by wip/whole/methgen.py) -/
theorem d_Model_shareOut_0 : decode b_Model_shareOut 0 = .ok (.iconst 0, 1) := by decide +kernel
theorem d_Model_shareOut_1 : decode b_Model_shareOut 1 = .ok (.istore 4, 2) := by decide +kernel
theorem d_Model_shareOut_3 : decode b_Model_shareOut 3 = .ok (.iconst 0, 1) := by decide +kernel
theorem d_Model_shareOut_4 : decode b_Model_shareOut 4 = .ok (.istore 5, 2) := by decide +kernel
theorem d_Model_shareOut_6 : decode b_Model_shareOut 6 = .ok (.iload 5, 2) := by decide +kernel
theorem d_Model_shareOut_8 : decode b_Model_shareOut 8 = .ok (.bipush 8, 2) := by decide +kernel
theorem d_Model_shareOut_10 : decode b_Model_shareOut 10 = .ok (.if_icmp .ge 85, 3) := by decide +kernel
theorem d_Model_shareOut_13 : decode b_Model_shareOut 13 = .ok (.aload_n 0, 1) := by decide +kernel
theorem d_Model_shareOut_14 : decode b_Model_shareOut 14 = .ok (.getfield 9, 3) := by decide +kernel
theorem d_Model_shareOut_17 : decode b_Model_shareOut 17 = .ok (.iload 5, 2) := by decide +kernel
theorem d_Model_shareOut_19 : decode b_Model_shareOut 19 = .ok (.iconst 0, 1) := by decide +kernel
theorem d_Model_shareOut_20 : decode b_Model_shareOut 20 = .ok (.iastore, 1) := by decide +kernel
theorem d_Model_shareOut_21 : decode b_Model_shareOut 21 = .ok (.aload_n 0, 1) := by decide +kernel
theorem d_Model_shareOut_22 : decode b_Model_shareOut 22 = .ok (.getfield 15, 3) := by decide +kernel
theorem d_Model_shareOut_25 : decode b_Model_shareOut 25 = .ok (.iload 5, 2) := by decide +kernel
theorem d_Model_shareOut_27 : decode b_Model_shareOut 27 = .ok (.bipush (-9), 2) := by decide +kernel
theorem d_Model_shareOut_29 : decode b_Model_shareOut 29 = .ok (.iastore, 1) := by decide +kernel
theorem d_Model_shareOut_30 : decode b_Model_shareOut 30 = .ok (.bipush 32, 2) := by decide +kernel
theorem d_Model_shareOut_32 : decode b_Model_shareOut 32 = .ok (.aload_n 1, 1) := by decide +kernel
theorem d_Model_shareOut_33 : decode b_Model_shareOut 33 = .ok (.iload_n 2, 1) := by decide +kernel
theorem d_Model_shareOut_34 : decode b_Model_shareOut 34 = .ok (.iload 5, 2) := by decide +kernel
theorem d_Model_shareOut_36 : decode b_Model_shareOut 36 = .ok (.invokestatic 40, 3) := by decide +kernel
theorem d_Model_shareOut_39 : decode b_Model_shareOut 39 = .ok (.imul, 1) := by decide +kernel
theorem d_Model_shareOut_40 : decode b_Model_shareOut 40 = .ok (.istore 6, 2) := by decide +kernel
theorem d_Model_shareOut_42 : decode b_Model_shareOut 42 = .ok (.iload 6, 2) := by decide +kernel
theorem d_Model_shareOut_44 : decode b_Model_shareOut 44 = .ok (.ifCond .le 33, 3) := by decide +kernel
theorem d_Model_shareOut_47 : decode b_Model_shareOut 47 = .ok (.iload_n 3, 1) := by decide +kernel
theorem d_Model_shareOut_48 : decode b_Model_shareOut 48 = .ok (.ifCond .le 29, 3) := by decide +kernel
theorem d_Model_shareOut_51 : decode b_Model_shareOut 51 = .ok (.aload_n 0, 1) := by decide +kernel
theorem d_Model_shareOut_52 : decode b_Model_shareOut 52 = .ok (.getfield 9, 3) := by decide +kernel
theorem d_Model_shareOut_55 : decode b_Model_shareOut 55 = .ok (.iload 5, 2) := by decide +kernel
theorem d_Model_shareOut_57 : decode b_Model_shareOut 57 = .ok (.iconst 1, 1) := by decide +kernel
theorem d_Model_shareOut_58 : decode b_Model_shareOut 58 = .ok (.iload 6, 2) := by decide +kernel
theorem d_Model_shareOut_60 : decode b_Model_shareOut 60 = .ok (.iload_n 3, 1) := by decide +kernel
theorem d_Model_shareOut_61 : decode b_Model_shareOut 61 = .ok (.idiv, 1) := by decide +kernel
theorem d_Model_shareOut_62 : decode b_Model_shareOut 62 = .ok (.invokestatic 59, 3) := by decide +kernel
theorem d_Model_shareOut_65 : decode b_Model_shareOut 65 = .ok (.iastore, 1) := by decide +kernel
theorem d_Model_shareOut_66 : decode b_Model_shareOut 66 = .ok (.aload_n 0, 1) := by decide +kernel
theorem d_Model_shareOut_67 : decode b_Model_shareOut 67 = .ok (.getfield 15, 3) := by decide +kernel
theorem d_Model_shareOut_70 : decode b_Model_shareOut 70 = .ok (.iload 5, 2) := by decide +kernel
theorem d_Model_shareOut_72 : decode b_Model_shareOut 72 = .ok (.iload 6, 2) := by decide +kernel
theorem d_Model_shareOut_74 : decode b_Model_shareOut 74 = .ok (.iload_n 3, 1) := by decide +kernel
theorem d_Model_shareOut_75 : decode b_Model_shareOut 75 = .ok (.irem, 1) := by decide +kernel
theorem d_Model_shareOut_76 : decode b_Model_shareOut 76 = .ok (.iastore, 1) := by decide +kernel
theorem d_Model_shareOut_77 : decode b_Model_shareOut 77 = .ok (.iload 4, 2) := by decide +kernel
theorem d_Model_shareOut_79 : decode b_Model_shareOut 79 = .ok (.aload_n 0, 1) := by decide +kernel
theorem d_Model_shareOut_80 : decode b_Model_shareOut 80 = .ok (.getfield 9, 3) := by decide +kernel
theorem d_Model_shareOut_83 : decode b_Model_shareOut 83 = .ok (.iload 5, 2) := by decide +kernel
theorem d_Model_shareOut_85 : decode b_Model_shareOut 85 = .ok (.iaload, 1) := by decide +kernel
theorem d_Model_shareOut_86 : decode b_Model_shareOut 86 = .ok (.iadd, 1) := by decide +kernel
theorem d_Model_shareOut_87 : decode b_Model_shareOut 87 = .ok (.istore 4, 2) := by decide +kernel
theorem d_Model_shareOut_89 : decode b_Model_shareOut 89 = .ok (.iinc 5 1, 3) := by decide +kernel
theorem d_Model_shareOut_92 : decode b_Model_shareOut 92 = .ok (.goto (-86), 3) := by decide +kernel
theorem d_Model_shareOut_95 : decode b_Model_shareOut 95 = .ok (.iload 4, 2) := by decide +kernel
theorem d_Model_shareOut_97 : decode b_Model_shareOut 97 = .ok (.ireturn, 1) := by decide +kernel
def rm_Model_shareOut : Room := { frames := 2, cells := 0, slots := 0, locals := 44 }
theorem mf_Model_shareOut : zMV y_Model_shareOut b_Model_shareOut 7 (some .int) 3 := ⟨q329, qs2, q4, q330, by decide +kernel⟩
def B_Model_shareOut_77 (K : Int → zH → Prop) (L6 : Int × Int × zH → Prop) (p0 : Nat) (p1 : Nat) (x2 : Int) (x3 : Int) (x4 : Int) (x5 : Int)  (h : zH) : Prop :=
  (0 ≤ x5 ∧ x5 < 8) ∧ (zr (x4 + (h (p0 + 1) x5.toNat)) ∧ ((∀ x4_3 : Int, x4_3 = x4 + (h (p0 + 1) x5.toNat) → (zr (x5 + 1) ∧ (L6 (x4_3, x5 + 1, h))))))
set_option maxRecDepth 100000 in
theorem s_Model_shareOut_77 {Wf : Heap → List Loc → JFrame → Prop} {m : MethodId} {g : zG} {n : Nat} {H0 : Heap} (X : zX Wf m rm_Model_shareOut b_Model_shareOut "AliasStreams$Model" 7 g n H0) {K : Int → zH → Prop} (E : zEx Wf m b_Model_shareOut (some .int) 7 g n H0 (zPi K)) {L6 : Int × Int × zH → Prop} {p0 : Nat} {p1 : Nat} {x2 : Int} {x3 : Int} {x4 : Int} {x5 : Int} (hL6 : ∀ q : Int × Int × zH, L6 q → zr q.1 → zr q.2.1 → zh (q.2.2) → zW Wf m 7 g n H0 6 [(0, .ref (g.2.2 p0)), (1, .ref (g.2.2 p1)), (2, zi x2), (3, zi x3), (4, zi q.1), (5, zi q.2.1)] [] (q.2.2)) (op0 : zO n p0 1) (op1 : zO n p1 12) (rx2 : zr x2) (rx3 : zr x3) (rx4 : zr x4) (rx5 : zr x5)   {h : zH} (hh : zh h) (hv : B_Model_shareOut_77 K L6 p0 p1 x2 x3 x4 x5  h) : zW Wf m 7 g n H0 77 [(0, .ref (g.2.2 p0)), (1, .ref (g.2.2 p1)), (2, zi x2), (3, zi x3), (4, zi x4), (5, zi x5)] [] h := by
  unfold B_Model_shareOut_77 at hv
  refine z_iload (pc := 77) (q := 4) X d_Model_shareOut_77 rfl ?_
  refine z_aload_n (pc := 79) (q := 0) X d_Model_shareOut_79 rfl ?_
  refine z_getr (pc := 80) (j := 0) (dd := 1) X cf_Model op0 (by decide) q80 rfl rfl d_Model_shareOut_80 ?_
  refine z_iload (pc := 83) (q := 5) X d_Model_shareOut_83 rfl ?_
  obtain ⟨v_1, hv⟩ := hv
  refine z_ialdj (pc := 85) (j := x5.toNat) X (gf_Model_0 op0) (gl_Model_0 op0) rx5 v_1 rfl d_Model_shareOut_85 ?_
  obtain ⟨v_2, hv⟩ := hv
  refine z_iadd (pc := 86) X d_Model_shareOut_86 ?_
  refine z_topi (fun x4_3 ex4_3 => ?_)
  have rx4_3 : zr x4_3 := by rw [ex4_3]; exact v_2
  replace hv := hv x4_3 ex4_3
  refine z_istore (pc := 87) (lv' := [(4, zi x4_3), (0, .ref (g.2.2 p0)), (1, .ref (g.2.2 p1)), (2, zi x2), (3, zi x3), (5, zi x5)]) X d_Model_shareOut_87 (by decide) rfl ?_
  obtain ⟨v_4, hv⟩ := hv
  refine z_iinc (pc := 89) (q := 5) (lv' := [(5, zi (x5 + 1)), (4, zi x4_3), (0, .ref (g.2.2 p0)), (1, .ref (g.2.2 p1)), (2, zi x2), (3, zi x3)]) X d_Model_shareOut_89 rfl (by decide) rfl ?_
  refine z_goto (pc := 92) (tgt := 6) X d_Model_shareOut_92 (by decide) ?_
  refine z_perm [2, 3, 4, 5, 1, 0] rfl ?_
  exact hL6 _ hv rx4_3 v_4 hh
def F_Model_shareOut_6 (K : Int → zH → Prop)  (L6 : Int × Int × zH → Prop) (p0 : Nat) (p1 : Nat) (x2 : Int) (x3 : Int) (x4 : Int) (x5 : Int) (h : zH) : Prop :=
  (8 ≤ x5 → (K x4 h)) ∧ (x5 < 8 → ((0 ≤ x5 ∧ x5 < 8) ∧ (∀ h_2 : zH, h_2 = zs h (p0 + 1) x5.toNat 0 → ((0 ≤ x5 ∧ x5 < 8) ∧ (∀ h_4 : zH, h_4 = zs h_2 (p0 + 2) x5.toNat (-9) → (M_AS_countIn p1 x2 x5 h_4 (fun r_6 h_5 => zr (32 * r_6) ∧ ((∀ x6_8 : Int, x6_8 = 32 * r_6 → ((x6_8 ≤ 0 → (B_Model_shareOut_77 K L6 p0 p1 x2 x3 x4 x5  h_5)) ∧ (0 < x6_8 → ((x3 ≤ 0 → (B_Model_shareOut_77 K L6 p0 p1 x2 x3 x4 x5  h_5)) ∧ (0 < x3 → ((0 ≤ x6_8 ∧ 0 < x3) ∧ ((0 ≤ x5 ∧ x5 < 8) ∧ (∀ h_11 : zH, h_11 = zs h_5 (p0 + 1) x5.toNat (if 1 < x6_8 / x3 then x6_8 / x3 else 1) → ((0 ≤ x6_8 ∧ 0 < x3) ∧ ((0 ≤ x5 ∧ x5 < 8) ∧ (∀ h_14 : zH, h_14 = zs h_11 (p0 + 2) x5.toNat (x6_8 % x3) → (B_Model_shareOut_77 K L6 p0 p1 x2 x3 x4 x5  h_14))))))))))))))))))))
set_option maxRecDepth 100000 in
theorem s_Model_shareOut_6 {Wf : Heap → List Loc → JFrame → Prop} {m : MethodId} {g : zG} {n : Nat} {H0 : Heap} (X : zX Wf m rm_Model_shareOut b_Model_shareOut "AliasStreams$Model" 7 g n H0) {K : Int → zH → Prop} (E : zEx Wf m b_Model_shareOut (some .int) 7 g n H0 (zPi K))  {p0 : Nat} {p1 : Nat} {x2 : Int} {x3 : Int}  (op0 : zO n p0 1) (op1 : zO n p1 12) (rx2 : zr x2) (rx3 : zr x3) {q0 : Int × Int × zH} (hv0 : zLoop (fun L q => F_Model_shareOut_6 K  L p0 p1 x2 x3 q.1 q.2.1 q.2.2) q0) : zr q0.1 → zr q0.2.1 → zh (q0.2.2) → zW Wf m 7 g n H0 6 [(0, .ref (g.2.2 p0)), (1, .ref (g.2.2 p1)), (2, zi x2), (3, zi x3), (4, zi q0.1), (5, zi q0.2.1)] [] (q0.2.2) := by
  refine zLoop_use (G := fun q => zr q.1 → zr q.2.1 → zh (q.2.2) → zW Wf m 7 g n H0 6 [(0, .ref (g.2.2 p0)), (1, .ref (g.2.2 p1)), (2, zi x2), (3, zi x3), (4, zi q.1), (5, zi q.2.1)] [] (q.2.2)) ?_ hv0
  rintro L6 ⟨x4, x5, h⟩ hL6 hv rx4 rx5 hh
  have hv : F_Model_shareOut_6 K  L6 p0 p1 x2 x3 x4 x5 h := hv
  unfold F_Model_shareOut_6 at hv
  show zW Wf m 7 g n H0 6 [(0, .ref (g.2.2 p0)), (1, .ref (g.2.2 p1)), (2, zi x2), (3, zi x3), (4, zi x4), (5, zi x5)] [] h
  refine z_iload (pc := 6) (q := 5) X d_Model_shareOut_6 rfl ?_
  refine z_bipush (pc := 8) X d_Model_shareOut_8 (by decide) ?_
  refine z_icmp_ge (pc := 10) (tgt := 95) X rx5 (show zr 8 from by decide) d_Model_shareOut_10 (by decide) (fun hc => ?_) (fun hc => ?_)
  · replace hv := hv.1 hc
    refine z_iload (pc := 95) (q := 4) X d_Model_shareOut_95 rfl ?_
    exact E.2.1 rfl _ _ _ _ d_Model_shareOut_97 ⟨_, rfl, rx4, hh, hv⟩
  · replace hv := hv.2 hc
    refine z_aload_n (pc := 13) (q := 0) X d_Model_shareOut_13 rfl ?_
    refine z_getr (pc := 14) (j := 0) (dd := 1) X cf_Model op0 (by decide) q80 rfl rfl d_Model_shareOut_14 ?_
    refine z_iload (pc := 17) (q := 5) X d_Model_shareOut_17 rfl ?_
    refine z_iconst (pc := 19) X d_Model_shareOut_19 ?_
    obtain ⟨v_1, hv⟩ := hv
    refine z_iastj (pc := 20) (j := x5.toNat) X (gf_Model_0 op0) (gl_Model_0 op0) rx5 v_1 rfl d_Model_shareOut_20 ?_
    refine z_toph (fun h_2 eh_2 => ?_)
    have zh_2 : zh h_2 := by rw [eh_2]; exact zh_set hh (zO.ne (gf_Model_0 op0) (by decide)) (show zr 0 from by decide)
    replace hv := hv h_2 eh_2
    refine z_aload_n (pc := 21) (q := 0) X d_Model_shareOut_21 rfl ?_
    refine z_getr (pc := 22) (j := 1) (dd := 2) X cf_Model op0 (by decide) q81 rfl rfl d_Model_shareOut_22 ?_
    refine z_iload (pc := 25) (q := 5) X d_Model_shareOut_25 rfl ?_
    refine z_bipush (pc := 27) X d_Model_shareOut_27 (by decide) ?_
    obtain ⟨v_3, hv⟩ := hv
    refine z_iastj (pc := 29) (j := x5.toNat) X (gf_Model_1 op0) (gl_Model_1 op0) rx5 v_3 rfl d_Model_shareOut_29 ?_
    refine z_toph (fun h_4 eh_4 => ?_)
    have zh_4 : zh h_4 := by rw [eh_4]; exact zh_set zh_2 (zO.ne (gf_Model_1 op0) (by decide)) (show zr (-9) from by decide)
    replace hv := hv h_4 eh_4
    refine z_bipush (pc := 30) X d_Model_shareOut_30 (by decide) ?_
    refine z_aload_n (pc := 32) (q := 1) X d_Model_shareOut_32 rfl ?_
    refine z_iload_n (pc := 33) (q := 2) X d_Model_shareOut_33 rfl ?_
    refine z_iload (pc := 34) (q := 5) X d_Model_shareOut_34 rfl ?_
    refine z_callSNi (pc := 36) (As := [.ref (g.2.2 p1), zi x2, zi x5]) (rest := [zi 32]) X (fun l hl => c_AS_countIn hl op1 rx2 rx5 zh_4 hv) mf_AS_countIn q321 ⟨⟨by decide, by decide⟩, rfl, rfl⟩ rfl d_Model_shareOut_36 rfl (Nat.le_of_ble_eq_true rfl) (fun r_6 h_5 rr_6 zh_5 hv => ?_)
    obtain ⟨v_7, hv⟩ := hv
    refine z_imul (pc := 39) X d_Model_shareOut_39 ?_
    refine z_topi (fun x6_8 ex6_8 => ?_)
    have rx6_8 : zr x6_8 := by rw [ex6_8]; exact v_7
    replace hv := hv x6_8 ex6_8
    refine z_istore (pc := 40) (lv' := [(6, zi x6_8), (0, .ref (g.2.2 p0)), (1, .ref (g.2.2 p1)), (2, zi x2), (3, zi x3), (4, zi x4), (5, zi x5)]) X d_Model_shareOut_40 (by decide) rfl ?_
    refine z_iload (pc := 42) (q := 0) X d_Model_shareOut_42 rfl ?_
    refine z_if_le (pc := 44) (tgt := 77) X rx6_8 d_Model_shareOut_44 (by decide) (fun hc => ?_) (fun hc => ?_)
    · replace hv := hv.1 hc
      refine z_perm [1, 2, 3, 4, 5, 6] rfl ?_
      exact s_Model_shareOut_77 X E hL6 op0 op1 rx2 rx3 rx4 rx5  zh_5 hv
    · replace hv := hv.2 hc
      refine z_iload_n (pc := 47) (q := 4) X d_Model_shareOut_47 rfl ?_
      refine z_if_le (pc := 48) (tgt := 77) X rx3 d_Model_shareOut_48 (by decide) (fun hc => ?_) (fun hc => ?_)
      · replace hv := hv.1 hc
        refine z_perm [1, 2, 3, 4, 5, 6] rfl ?_
        exact s_Model_shareOut_77 X E hL6 op0 op1 rx2 rx3 rx4 rx5  zh_5 hv
      · replace hv := hv.2 hc
        refine z_aload_n (pc := 51) (q := 1) X d_Model_shareOut_51 rfl ?_
        refine z_getr (pc := 52) (j := 0) (dd := 1) X cf_Model op0 (by decide) q80 rfl rfl d_Model_shareOut_52 ?_
        refine z_iload (pc := 55) (q := 6) X d_Model_shareOut_55 rfl ?_
        refine z_iconst (pc := 57) X d_Model_shareOut_57 ?_
        refine z_iload (pc := 58) (q := 0) X d_Model_shareOut_58 rfl ?_
        refine z_iload_n (pc := 60) (q := 4) X d_Model_shareOut_60 rfl ?_
        obtain ⟨v_9, hv⟩ := hv
        refine z_idiv (pc := 61) X rx6_8 rx3 v_9.1 v_9.2 d_Model_shareOut_61 ?_
        refine z_mmax (pc := 62) X (show zr 1 from by decide) (zr_div rx6_8 v_9.1 v_9.2) q331 q332 q12 q333 ⟨by decide, Nat.le_of_ble_eq_true rfl⟩ d_Model_shareOut_62 ?_
        obtain ⟨v_10, hv⟩ := hv
        refine z_iastj (pc := 65) (j := x5.toNat) X (gf_Model_0 op0) (gl_Model_0 op0) rx5 v_10 rfl d_Model_shareOut_65 ?_
        refine z_toph (fun h_11 eh_11 => ?_)
        have zh_11 : zh h_11 := by rw [eh_11]; exact zh_set zh_5 (zO.ne (gf_Model_0 op0) (by decide)) (zr_ite (zr_div rx6_8 v_9.1 v_9.2) (show zr 1 from by decide))
        replace hv := hv h_11 eh_11
        refine z_aload_n (pc := 66) (q := 1) X d_Model_shareOut_66 rfl ?_
        refine z_getr (pc := 67) (j := 1) (dd := 2) X cf_Model op0 (by decide) q81 rfl rfl d_Model_shareOut_67 ?_
        refine z_iload (pc := 70) (q := 6) X d_Model_shareOut_70 rfl ?_
        refine z_iload (pc := 72) (q := 0) X d_Model_shareOut_72 rfl ?_
        refine z_iload_n (pc := 74) (q := 4) X d_Model_shareOut_74 rfl ?_
        obtain ⟨v_12, hv⟩ := hv
        refine z_irem (pc := 75) X rx6_8 rx3 v_12.1 v_12.2 d_Model_shareOut_75 ?_
        obtain ⟨v_13, hv⟩ := hv
        refine z_iastj (pc := 76) (j := x5.toNat) X (gf_Model_1 op0) (gl_Model_1 op0) rx5 v_13 rfl d_Model_shareOut_76 ?_
        refine z_toph (fun h_14 eh_14 => ?_)
        have zh_14 : zh h_14 := by rw [eh_14]; exact zh_set zh_11 (zO.ne (gf_Model_1 op0) (by decide)) (zr_rem rx3 v_12.2)
        replace hv := hv h_14 eh_14
        refine z_perm [1, 2, 3, 4, 5, 6] rfl ?_
        exact s_Model_shareOut_77 X E hL6 op0 op1 rx2 rx3 rx4 rx5  zh_14 hv
def M_Model_shareOut (p0 : Nat) (p1 : Nat) (x2 : Int) (x3 : Int) (h : zH) (K : Int → zH → Prop) : Prop :=
  zLoop (fun L q => F_Model_shareOut_6 K  L p0 p1 x2 x3 q.1 q.2.1 q.2.2) (0, 0, h)
set_option maxRecDepth 100000 in
theorem c_Model_shareOut {l : Launch} (hfl : l.flags = flags0) {g : zG} {n : Nat} {p0 : Nat} {p1 : Nat} {x2 : Int} {x3 : Int} (op0 : zO n p0 1) (op1 : zO n p1 12) (rx2 : zr x2) (rx3 : zr x3) {h : zH} (hh : zh h) {K : Int → zH → Prop} (hv : M_Model_shareOut p0 p1 x2 x3 h K) : zMet l y_Model_shareOut b_Model_shareOut 7 (some .int) rm_Model_shareOut g n [.ref (g.2.2 p0), .ref (g.2.2 p1), zi x2, zi x3] h (zPi K) := by
  refine zMet_of (own := "AliasStreams$Model") hfl (by decide) rfl (Nat.le_of_ble_eq_true rfl) (fun Wf m H0 X E => ?_)
  unfold M_Model_shareOut at hv
  show zW Wf m 7 g n H0 0 [(0, .ref (g.2.2 p0)), (1, .ref (g.2.2 p1)), (2, zi x2), (3, zi x3)] [] h
  refine z_iconst (pc := 0) X d_Model_shareOut_0 ?_
  refine z_istore (pc := 1) (lv' := [(4, zi 0), (0, .ref (g.2.2 p0)), (1, .ref (g.2.2 p1)), (2, zi x2), (3, zi x3)]) X d_Model_shareOut_1 (by decide) rfl ?_
  refine z_iconst (pc := 3) X d_Model_shareOut_3 ?_
  refine z_istore (pc := 4) (lv' := [(5, zi 0), (4, zi 0), (0, .ref (g.2.2 p0)), (1, .ref (g.2.2 p1)), (2, zi x2), (3, zi x3)]) X d_Model_shareOut_4 (by decide) rfl ?_
  refine z_perm [2, 3, 4, 5, 1, 0] rfl ?_
  exact s_Model_shareOut_6 X E  op0 op1 rx2 rx3 hv (show zr 0 from by decide) (show zr 0 from by decide) hh
theorem d_Model_make_0 : decode b_Model_make 0 = .ok (.iconst 0, 1) := by decide +kernel
theorem d_Model_make_1 : decode b_Model_make 1 = .ok (.istore_n 3, 1) := by decide +kernel
theorem d_Model_make_2 : decode b_Model_make 2 = .ok (.iconst 0, 1) := by decide +kernel
theorem d_Model_make_3 : decode b_Model_make 3 = .ok (.istore 4, 2) := by decide +kernel
theorem d_Model_make_5 : decode b_Model_make 5 = .ok (.iload 4, 2) := by decide +kernel
theorem d_Model_make_7 : decode b_Model_make 7 = .ok (.bipush 8, 2) := by decide +kernel
theorem d_Model_make_9 : decode b_Model_make 9 = .ok (.if_icmp .ge 19, 3) := by decide +kernel
theorem d_Model_make_12 : decode b_Model_make 12 = .ok (.iload_n 3, 1) := by decide +kernel
theorem d_Model_make_13 : decode b_Model_make 13 = .ok (.aload_n 1, 1) := by decide +kernel
theorem d_Model_make_14 : decode b_Model_make 14 = .ok (.iload_n 2, 1) := by decide +kernel
theorem d_Model_make_15 : decode b_Model_make 15 = .ok (.iload 4, 2) := by decide +kernel
theorem d_Model_make_17 : decode b_Model_make 17 = .ok (.invokestatic 40, 3) := by decide +kernel
theorem d_Model_make_20 : decode b_Model_make 20 = .ok (.iadd, 1) := by decide +kernel
theorem d_Model_make_21 : decode b_Model_make 21 = .ok (.istore_n 3, 1) := by decide +kernel
theorem d_Model_make_22 : decode b_Model_make 22 = .ok (.iinc 4 1, 3) := by decide +kernel
theorem d_Model_make_25 : decode b_Model_make 25 = .ok (.goto (-20), 3) := by decide +kernel
theorem d_Model_make_28 : decode b_Model_make 28 = .ok (.iload_n 3, 1) := by decide +kernel
theorem d_Model_make_29 : decode b_Model_make 29 = .ok (.ifCond .gt 4, 3) := by decide +kernel
theorem d_Model_make_32 : decode b_Model_make 32 = .ok (.return_, 1) := by decide +kernel
theorem d_Model_make_33 : decode b_Model_make 33 = .ok (.aload_n 0, 1) := by decide +kernel
theorem d_Model_make_34 : decode b_Model_make 34 = .ok (.aload_n 1, 1) := by decide +kernel
theorem d_Model_make_35 : decode b_Model_make 35 = .ok (.iload_n 2, 1) := by decide +kernel
theorem d_Model_make_36 : decode b_Model_make 36 = .ok (.iload_n 3, 1) := by decide +kernel
theorem d_Model_make_37 : decode b_Model_make 37 = .ok (.invokevirtual 44, 3) := by decide +kernel
theorem d_Model_make_40 : decode b_Model_make 40 = .ok (.istore 4, 2) := by decide +kernel
theorem d_Model_make_42 : decode b_Model_make 42 = .ok (.iload 4, 2) := by decide +kernel
theorem d_Model_make_44 : decode b_Model_make 44 = .ok (.istore 5, 2) := by decide +kernel
theorem d_Model_make_46 : decode b_Model_make 46 = .ok (.iload 5, 2) := by decide +kernel
theorem d_Model_make_48 : decode b_Model_make 48 = .ok (.bipush 32, 2) := by decide +kernel
theorem d_Model_make_50 : decode b_Model_make 50 = .ok (.if_icmp .ge 13, 3) := by decide +kernel
theorem d_Model_make_53 : decode b_Model_make 53 = .ok (.aload_n 0, 1) := by decide +kernel
theorem d_Model_make_54 : decode b_Model_make 54 = .ok (.invokevirtual 47, 3) := by decide +kernel
theorem d_Model_make_57 : decode b_Model_make 57 = .ok (.iinc 5 1, 3) := by decide +kernel
theorem d_Model_make_60 : decode b_Model_make 60 = .ok (.goto (-14), 3) := by decide +kernel
theorem d_Model_make_63 : decode b_Model_make 63 = .ok (.iload 4, 2) := by decide +kernel
theorem d_Model_make_65 : decode b_Model_make 65 = .ok (.istore 5, 2) := by decide +kernel
theorem d_Model_make_67 : decode b_Model_make 67 = .ok (.iload 5, 2) := by decide +kernel
theorem d_Model_make_69 : decode b_Model_make 69 = .ok (.bipush 32, 2) := by decide +kernel
theorem d_Model_make_71 : decode b_Model_make 71 = .ok (.if_icmp .le 13, 3) := by decide +kernel
theorem d_Model_make_74 : decode b_Model_make 74 = .ok (.aload_n 0, 1) := by decide +kernel
theorem d_Model_make_75 : decode b_Model_make 75 = .ok (.invokevirtual 50, 3) := by decide +kernel
theorem d_Model_make_78 : decode b_Model_make 78 = .ok (.iinc 5 (-1), 3) := by decide +kernel
theorem d_Model_make_81 : decode b_Model_make 81 = .ok (.goto (-14), 3) := by decide +kernel
theorem d_Model_make_84 : decode b_Model_make 84 = .ok (.aload_n 0, 1) := by decide +kernel
theorem d_Model_make_85 : decode b_Model_make 85 = .ok (.invokevirtual 53, 3) := by decide +kernel
theorem d_Model_make_88 : decode b_Model_make 88 = .ok (.aload_n 0, 1) := by decide +kernel
theorem d_Model_make_89 : decode b_Model_make 89 = .ok (.invokevirtual 56, 3) := by decide +kernel
theorem d_Model_make_92 : decode b_Model_make 92 = .ok (.return_, 1) := by decide +kernel
def rm_Model_make : Room := { frames := 3, cells := 0, slots := 0, locals := 70 }
theorem mf_Model_make : zMV y_Model_make b_Model_make 6 none 2 := ⟨q319, qs1, q4, q320, by decide +kernel⟩
def F_Model_make_67 (K : zH → Prop)  (L67 : Int × zH → Prop) (p0 : Nat) (x5 : Int) (h : zH) : Prop :=
  (x5 ≤ 32 → (M_Model_closeBuckets p0 h (fun h_1 => M_Model_numberSlots p0 h_1 (fun h_3 => K h_3)))) ∧ (32 < x5 → (M_Model_takeOne p0 h (fun h_5 => zr (x5 + (-1)) ∧ (L67 (x5 + (-1), h_5)))))
set_option maxRecDepth 100000 in
theorem s_Model_make_67 {Wf : Heap → List Loc → JFrame → Prop} {m : MethodId} {g : zG} {n : Nat} {H0 : Heap} (X : zX Wf m rm_Model_make b_Model_make "AliasStreams$Model" 6 g n H0) {K : zH → Prop} (E : zEx Wf m b_Model_make none 6 g n H0 (zPv K))  {p0 : Nat}  (op0 : zO n p0 1) {q0 : Int × zH} (hv0 : zLoop (fun L q => F_Model_make_67 K  L p0 q.1 q.2) q0) : zr q0.1 → zh (q0.2) → zW Wf m 6 g n H0 67 [(0, .ref (g.2.2 p0)), (5, zi q0.1)] [] (q0.2) := by
  refine zLoop_use (G := fun q => zr q.1 → zh (q.2) → zW Wf m 6 g n H0 67 [(0, .ref (g.2.2 p0)), (5, zi q.1)] [] (q.2)) ?_ hv0
  rintro L67 ⟨x5, h⟩ hL67 hv rx5 hh
  have hv : F_Model_make_67 K  L67 p0 x5 h := hv
  unfold F_Model_make_67 at hv
  show zW Wf m 6 g n H0 67 [(0, .ref (g.2.2 p0)), (5, zi x5)] [] h
  refine z_iload (pc := 67) (q := 1) X d_Model_make_67 rfl ?_
  refine z_bipush (pc := 69) X d_Model_make_69 (by decide) ?_
  refine z_icmp_le (pc := 71) (tgt := 84) X rx5 (show zr 32 from by decide) d_Model_make_71 (by decide) (fun hc => ?_) (fun hc => ?_)
  · replace hv := hv.1 hc
    refine z_aload_n (pc := 84) (q := 0) X d_Model_make_84 rfl ?_
    refine z_callVv (pc := 85) (As := []) (rest := []) X (fun l hl => c_Model_closeBuckets hl op0 hh hv) cf_Model op0 rfl mf_Model_closeBuckets q342 ⟨⟨by decide, by decide⟩, rfl, rfl⟩ rfl d_Model_make_85 rfl (Nat.le_of_ble_eq_true rfl) (fun h_1 zh_1 hv => ?_)
    refine z_aload_n (pc := 88) (q := 0) X d_Model_make_88 rfl ?_
    refine z_callVv (pc := 89) (As := []) (rest := []) X (fun l hl => c_Model_numberSlots hl op0 zh_1 hv) cf_Model op0 rfl mf_Model_numberSlots q358 ⟨⟨by decide, by decide⟩, rfl, rfl⟩ rfl d_Model_make_89 rfl (Nat.le_of_ble_eq_true rfl) (fun h_3 zh_3 hv => ?_)
    exact E.1 rfl _ _ _ d_Model_make_92 ⟨rfl, zh_3, hv⟩
  · replace hv := hv.2 hc
    refine z_aload_n (pc := 74) (q := 0) X d_Model_make_74 rfl ?_
    refine z_callVv (pc := 75) (As := []) (rest := []) X (fun l hl => c_Model_takeOne hl op0 hh hv) cf_Model op0 rfl mf_Model_takeOne q338 ⟨⟨by decide, by decide⟩, rfl, rfl⟩ rfl d_Model_make_75 rfl (Nat.le_of_ble_eq_true rfl) (fun h_5 zh_5 hv => ?_)
    obtain ⟨v_7, hv⟩ := hv
    refine z_iinc (pc := 78) (q := 1) (lv' := [(5, zi (x5 + (-1))), (0, .ref (g.2.2 p0))]) X d_Model_make_78 rfl (by decide) rfl ?_
    refine z_goto (pc := 81) (tgt := 67) X d_Model_make_81 (by decide) ?_
    refine z_perm [1, 0] rfl ?_
    exact hL67 _ hv v_7 zh_5
def F_Model_make_46 (K : zH → Prop)  (L46 : Int × zH → Prop) (p0 : Nat) (x4 : Int) (x5 : Int) (h : zH) : Prop :=
  (32 ≤ x5 → (zLoop (fun L q => F_Model_make_67 K  L p0 q.1 q.2) (x4, h))) ∧ (x5 < 32 → (M_Model_giveOne p0 h (fun h_1 => zr (x5 + 1) ∧ (L46 (x5 + 1, h_1)))))
set_option maxRecDepth 100000 in
theorem s_Model_make_46 {Wf : Heap → List Loc → JFrame → Prop} {m : MethodId} {g : zG} {n : Nat} {H0 : Heap} (X : zX Wf m rm_Model_make b_Model_make "AliasStreams$Model" 6 g n H0) {K : zH → Prop} (E : zEx Wf m b_Model_make none 6 g n H0 (zPv K))  {p0 : Nat} {x4 : Int}  (op0 : zO n p0 1) (rx4 : zr x4) {q0 : Int × zH} (hv0 : zLoop (fun L q => F_Model_make_46 K  L p0 x4 q.1 q.2) q0) : zr q0.1 → zh (q0.2) → zW Wf m 6 g n H0 46 [(0, .ref (g.2.2 p0)), (4, zi x4), (5, zi q0.1)] [] (q0.2) := by
  refine zLoop_use (G := fun q => zr q.1 → zh (q.2) → zW Wf m 6 g n H0 46 [(0, .ref (g.2.2 p0)), (4, zi x4), (5, zi q.1)] [] (q.2)) ?_ hv0
  rintro L46 ⟨x5, h⟩ hL46 hv rx5 hh
  have hv : F_Model_make_46 K  L46 p0 x4 x5 h := hv
  unfold F_Model_make_46 at hv
  show zW Wf m 6 g n H0 46 [(0, .ref (g.2.2 p0)), (4, zi x4), (5, zi x5)] [] h
  refine z_iload (pc := 46) (q := 2) X d_Model_make_46 rfl ?_
  refine z_bipush (pc := 48) X d_Model_make_48 (by decide) ?_
  refine z_icmp_ge (pc := 50) (tgt := 63) X rx5 (show zr 32 from by decide) d_Model_make_50 (by decide) (fun hc => ?_) (fun hc => ?_)
  · replace hv := hv.1 hc
    refine z_iload (pc := 63) (q := 1) X d_Model_make_63 rfl ?_
    refine z_istore (pc := 65) (lv' := [(5, zi x4), (0, .ref (g.2.2 p0)), (4, zi x4)]) X d_Model_make_65 (by decide) rfl ?_
    refine z_perm [1, 0] rfl ?_
    exact s_Model_make_67 X E  op0 hv rx4 hh
  · replace hv := hv.2 hc
    refine z_aload_n (pc := 53) (q := 0) X d_Model_make_53 rfl ?_
    refine z_callVv (pc := 54) (As := []) (rest := []) X (fun l hl => c_Model_giveOne hl op0 hh hv) cf_Model op0 rfl mf_Model_giveOne q334 ⟨⟨by decide, by decide⟩, rfl, rfl⟩ rfl d_Model_make_54 rfl (Nat.le_of_ble_eq_true rfl) (fun h_1 zh_1 hv => ?_)
    obtain ⟨v_3, hv⟩ := hv
    refine z_iinc (pc := 57) (q := 2) (lv' := [(5, zi (x5 + 1)), (0, .ref (g.2.2 p0)), (4, zi x4)]) X d_Model_make_57 rfl (by decide) rfl ?_
    refine z_goto (pc := 60) (tgt := 46) X d_Model_make_60 (by decide) ?_
    refine z_perm [1, 2, 0] rfl ?_
    exact hL46 _ hv v_3 zh_1
def F_Model_make_5 (K : zH → Prop)  (L5 : Int × Int × zH → Prop) (p0 : Nat) (p1 : Nat) (x2 : Int) (x3 : Int) (x4 : Int) (h : zH) : Prop :=
  (8 ≤ x4 → ((0 < x3 → (M_Model_shareOut p0 p1 x2 x3 h (fun r_2 h_1 => zLoop (fun L q => F_Model_make_46 K  L p0 r_2 q.1 q.2) (r_2, h_1)))) ∧ (x3 ≤ 0 → (K h)))) ∧ (x4 < 8 → (M_AS_countIn p1 x2 x4 h (fun r_4 h_3 => zr (x3 + r_4) ∧ ((∀ x3_6 : Int, x3_6 = x3 + r_4 → (zr (x4 + 1) ∧ (L5 (x3_6, x4 + 1, h_3))))))))
set_option maxRecDepth 100000 in
theorem s_Model_make_5 {Wf : Heap → List Loc → JFrame → Prop} {m : MethodId} {g : zG} {n : Nat} {H0 : Heap} (X : zX Wf m rm_Model_make b_Model_make "AliasStreams$Model" 6 g n H0) {K : zH → Prop} (E : zEx Wf m b_Model_make none 6 g n H0 (zPv K))  {p0 : Nat} {p1 : Nat} {x2 : Int}  (op0 : zO n p0 1) (op1 : zO n p1 12) (rx2 : zr x2) {q0 : Int × Int × zH} (hv0 : zLoop (fun L q => F_Model_make_5 K  L p0 p1 x2 q.1 q.2.1 q.2.2) q0) : zr q0.1 → zr q0.2.1 → zh (q0.2.2) → zW Wf m 6 g n H0 5 [(0, .ref (g.2.2 p0)), (1, .ref (g.2.2 p1)), (2, zi x2), (3, zi q0.1), (4, zi q0.2.1)] [] (q0.2.2) := by
  refine zLoop_use (G := fun q => zr q.1 → zr q.2.1 → zh (q.2.2) → zW Wf m 6 g n H0 5 [(0, .ref (g.2.2 p0)), (1, .ref (g.2.2 p1)), (2, zi x2), (3, zi q.1), (4, zi q.2.1)] [] (q.2.2)) ?_ hv0
  rintro L5 ⟨x3, x4, h⟩ hL5 hv rx3 rx4 hh
  have hv : F_Model_make_5 K  L5 p0 p1 x2 x3 x4 h := hv
  unfold F_Model_make_5 at hv
  show zW Wf m 6 g n H0 5 [(0, .ref (g.2.2 p0)), (1, .ref (g.2.2 p1)), (2, zi x2), (3, zi x3), (4, zi x4)] [] h
  refine z_iload (pc := 5) (q := 4) X d_Model_make_5 rfl ?_
  refine z_bipush (pc := 7) X d_Model_make_7 (by decide) ?_
  refine z_icmp_ge (pc := 9) (tgt := 28) X rx4 (show zr 8 from by decide) d_Model_make_9 (by decide) (fun hc => ?_) (fun hc => ?_)
  · replace hv := hv.1 hc
    refine z_iload_n (pc := 28) (q := 3) X d_Model_make_28 rfl ?_
    refine z_if_gt (pc := 29) (tgt := 33) X rx3 d_Model_make_29 (by decide) (fun hc => ?_) (fun hc => ?_)
    · replace hv := hv.1 hc
      refine z_aload_n (pc := 33) (q := 0) X d_Model_make_33 rfl ?_
      refine z_aload_n (pc := 34) (q := 1) X d_Model_make_34 rfl ?_
      refine z_iload_n (pc := 35) (q := 2) X d_Model_make_35 rfl ?_
      refine z_iload_n (pc := 36) (q := 3) X d_Model_make_36 rfl ?_
      refine z_callVi (pc := 37) (As := [.ref (g.2.2 p1), zi x2, zi x3]) (rest := []) X (fun l hl => c_Model_shareOut hl op0 op1 rx2 rx3 hh hv) cf_Model op0 rfl mf_Model_shareOut q327 ⟨⟨by decide, by decide⟩, rfl, rfl⟩ rfl d_Model_make_37 rfl (Nat.le_of_ble_eq_true rfl) (fun r_2 h_1 rr_2 zh_1 hv => ?_)
      refine z_istore (pc := 40) (lv' := [(4, zi r_2), (0, .ref (g.2.2 p0)), (1, .ref (g.2.2 p1)), (2, zi x2), (3, zi x3)]) X d_Model_make_40 (by decide) rfl ?_
      refine z_iload (pc := 42) (q := 0) X d_Model_make_42 rfl ?_
      refine z_istore (pc := 44) (lv' := [(5, zi r_2), (4, zi r_2), (0, .ref (g.2.2 p0)), (1, .ref (g.2.2 p1)), (2, zi x2), (3, zi x3)]) X d_Model_make_44 (by decide) rfl ?_
      refine z_perm [2, 1, 0] rfl ?_
      exact s_Model_make_46 X E  op0 rr_2 hv rr_2 zh_1
    · replace hv := hv.2 hc
      exact E.1 rfl _ _ _ d_Model_make_32 ⟨rfl, hh, hv⟩
  · replace hv := hv.2 hc
    refine z_iload_n (pc := 12) (q := 3) X d_Model_make_12 rfl ?_
    refine z_aload_n (pc := 13) (q := 1) X d_Model_make_13 rfl ?_
    refine z_iload_n (pc := 14) (q := 2) X d_Model_make_14 rfl ?_
    refine z_iload (pc := 15) (q := 4) X d_Model_make_15 rfl ?_
    refine z_callSNi (pc := 17) (As := [.ref (g.2.2 p1), zi x2, zi x4]) (rest := [zi x3]) X (fun l hl => c_AS_countIn hl op1 rx2 rx4 hh hv) mf_AS_countIn q321 ⟨⟨by decide, by decide⟩, rfl, rfl⟩ rfl d_Model_make_17 rfl (Nat.le_of_ble_eq_true rfl) (fun r_4 h_3 rr_4 zh_3 hv => ?_)
    obtain ⟨v_5, hv⟩ := hv
    refine z_iadd (pc := 20) X d_Model_make_20 ?_
    refine z_topi (fun x3_6 ex3_6 => ?_)
    have rx3_6 : zr x3_6 := by rw [ex3_6]; exact v_5
    replace hv := hv x3_6 ex3_6
    refine z_istore_n (pc := 21) (lv' := [(3, zi x3_6), (0, .ref (g.2.2 p0)), (1, .ref (g.2.2 p1)), (2, zi x2), (4, zi x4)]) X d_Model_make_21 (by decide) rfl ?_
    obtain ⟨v_7, hv⟩ := hv
    refine z_iinc (pc := 22) (q := 4) (lv' := [(4, zi (x4 + 1)), (3, zi x3_6), (0, .ref (g.2.2 p0)), (1, .ref (g.2.2 p1)), (2, zi x2)]) X d_Model_make_22 rfl (by decide) rfl ?_
    refine z_goto (pc := 25) (tgt := 5) X d_Model_make_25 (by decide) ?_
    refine z_perm [2, 3, 4, 1, 0] rfl ?_
    exact hL5 _ hv rx3_6 v_7 zh_3
def M_Model_make (p0 : Nat) (p1 : Nat) (x2 : Int) (h : zH) (K : zH → Prop) : Prop :=
  zLoop (fun L q => F_Model_make_5 K  L p0 p1 x2 q.1 q.2.1 q.2.2) (0, 0, h)
set_option maxRecDepth 100000 in
theorem c_Model_make {l : Launch} (hfl : l.flags = flags0) {g : zG} {n : Nat} {p0 : Nat} {p1 : Nat} {x2 : Int} (op0 : zO n p0 1) (op1 : zO n p1 12) (rx2 : zr x2) {h : zH} (hh : zh h) {K : zH → Prop} (hv : M_Model_make p0 p1 x2 h K) : zMet l y_Model_make b_Model_make 6 none rm_Model_make g n [.ref (g.2.2 p0), .ref (g.2.2 p1), zi x2] h (zPv K) := by
  refine zMet_of (own := "AliasStreams$Model") hfl (by decide) rfl (Nat.le_of_ble_eq_true rfl) (fun Wf m H0 X E => ?_)
  unfold M_Model_make at hv
  show zW Wf m 6 g n H0 0 [(0, .ref (g.2.2 p0)), (1, .ref (g.2.2 p1)), (2, zi x2)] [] h
  refine z_iconst (pc := 0) X d_Model_make_0 ?_
  refine z_istore_n (pc := 1) (lv' := [(3, zi 0), (0, .ref (g.2.2 p0)), (1, .ref (g.2.2 p1)), (2, zi x2)]) X d_Model_make_1 (by decide) rfl ?_
  refine z_iconst (pc := 2) X d_Model_make_2 ?_
  refine z_istore (pc := 3) (lv' := [(4, zi 0), (3, zi 0), (0, .ref (g.2.2 p0)), (1, .ref (g.2.2 p1)), (2, zi x2)]) X d_Model_make_3 (by decide) rfl ?_
  refine z_perm [2, 3, 4, 1, 0] rfl ?_
  exact s_Model_make_5 X E  op0 op1 rx2 hv (show zr 0 from by decide) (show zr 0 from by decide) hh
theorem d_Models_hasSymbol_0 : decode b_Models_hasSymbol 0 = .ok (.iload_n 1, 1) := by decide +kernel
theorem d_Models_hasSymbol_1 : decode b_Models_hasSymbol 1 = .ok (.ifCond .lt 15, 3) := by decide +kernel
theorem d_Models_hasSymbol_4 : decode b_Models_hasSymbol 4 = .ok (.iload_n 1, 1) := by decide +kernel
theorem d_Models_hasSymbol_5 : decode b_Models_hasSymbol 5 = .ok (.aload_n 0, 1) := by decide +kernel
theorem d_Models_hasSymbol_6 : decode b_Models_hasSymbol 6 = .ok (.getfield 17, 3) := by decide +kernel
theorem d_Models_hasSymbol_9 : decode b_Models_hasSymbol 9 = .ok (.if_icmp .ge 7, 3) := by decide +kernel
theorem d_Models_hasSymbol_12 : decode b_Models_hasSymbol 12 = .ok (.iconst 1, 1) := by decide +kernel
theorem d_Models_hasSymbol_13 : decode b_Models_hasSymbol 13 = .ok (.goto 4, 3) := by decide +kernel
theorem d_Models_hasSymbol_16 : decode b_Models_hasSymbol 16 = .ok (.iconst 0, 1) := by decide +kernel
theorem d_Models_hasSymbol_17 : decode b_Models_hasSymbol 17 = .ok (.ireturn, 1) := by decide +kernel
def rm_Models_hasSymbol : Room := { frames := 0, cells := 0, slots := 0, locals := 0 }
theorem mf_Models_hasSymbol : zMV y_Models_hasSymbol b_Models_hasSymbol 2 (some .boolean) 1 := ⟨q629, qs34, q3, q630, by decide +kernel⟩
def M_Models_hasSymbol (p0 : Nat) (x1 : Int) (h : zH) (K : Int → zH → Prop) : Prop :=
  (x1 < 0 → (K 0 h)) ∧ (0 ≤ x1 → ((h p0 1 ≤ x1 → (K 0 h)) ∧ (x1 < h p0 1 → (K 1 h))))
set_option maxRecDepth 100000 in
theorem c_Models_hasSymbol {l : Launch} (hfl : l.flags = flags0) {g : zG} {n : Nat} {p0 : Nat} {x1 : Int} (op0 : zO n p0 2) (rx1 : zr x1) {h : zH} (hh : zh h) {K : Int → zH → Prop} (hv : M_Models_hasSymbol p0 x1 h K) : zMet l y_Models_hasSymbol b_Models_hasSymbol 2 (some .boolean) rm_Models_hasSymbol g n [.ref (g.2.2 p0), zi x1] h (zPi K) := by
  refine zMet_of (own := "AliasStreams$Models") hfl (by decide) rfl (Nat.le_of_ble_eq_true rfl) (fun Wf m H0 X E => ?_)
  unfold M_Models_hasSymbol at hv
  show zW Wf m 2 g n H0 0 [(0, .ref (g.2.2 p0)), (1, zi x1)] [] h
  refine z_iload_n (pc := 0) (q := 1) X d_Models_hasSymbol_0 rfl ?_
  refine z_if_lt (pc := 1) (tgt := 16) X rx1 d_Models_hasSymbol_1 (by decide) (fun hc => ?_) (fun hc => ?_)
  · replace hv := hv.1 hc
    refine z_iconst (pc := 16) X d_Models_hasSymbol_16 ?_
    exact E.2.2.1 rfl _ _ _ _ (by decide) d_Models_hasSymbol_17 ⟨_, rfl, (show zr 0 from by decide), hh, hv⟩
  · replace hv := hv.2 hc
    refine z_iload_n (pc := 4) (q := 1) X d_Models_hasSymbol_4 rfl ?_
    refine z_aload_n (pc := 5) (q := 0) X d_Models_hasSymbol_5 rfl ?_
    refine z_geti (pc := 6) (j := 1) X cf_Models op0 (by decide) q116 rfl rfl d_Models_hasSymbol_6 ?_
    refine z_icmp_ge (pc := 9) (tgt := 16) X rx1 (hh.1 _ _ (zO.ne op0 (by decide))) d_Models_hasSymbol_9 (by decide) (fun hc => ?_) (fun hc => ?_)
    · replace hv := hv.1 hc
      refine z_iconst (pc := 16) X d_Models_hasSymbol_16 ?_
      exact E.2.2.1 rfl _ _ _ _ (by decide) d_Models_hasSymbol_17 ⟨_, rfl, (show zr 0 from by decide), hh, hv⟩
    · replace hv := hv.2 hc
      refine z_iconst (pc := 12) X d_Models_hasSymbol_12 ?_
      refine z_goto (pc := 13) (tgt := 17) X d_Models_hasSymbol_13 (by decide) ?_
      exact E.2.2.1 rfl _ _ _ _ (by decide) d_Models_hasSymbol_17 ⟨_, rfl, (show zr 1 from by decide), hh, hv⟩
theorem d_Models_hasModel_0 : decode b_Models_hasModel 0 = .ok (.iload_n 1, 1) := by decide +kernel
theorem d_Models_hasModel_1 : decode b_Models_hasModel 1 = .ok (.ifCond .lt 15, 3) := by decide +kernel
theorem d_Models_hasModel_4 : decode b_Models_hasModel 4 = .ok (.iload_n 1, 1) := by decide +kernel
theorem d_Models_hasModel_5 : decode b_Models_hasModel 5 = .ok (.aload_n 0, 1) := by decide +kernel
theorem d_Models_hasModel_6 : decode b_Models_hasModel 6 = .ok (.getfield 21, 3) := by decide +kernel
theorem d_Models_hasModel_9 : decode b_Models_hasModel 9 = .ok (.if_icmp .ge 7, 3) := by decide +kernel
theorem d_Models_hasModel_12 : decode b_Models_hasModel 12 = .ok (.iconst 1, 1) := by decide +kernel
theorem d_Models_hasModel_13 : decode b_Models_hasModel 13 = .ok (.goto 4, 3) := by decide +kernel
theorem d_Models_hasModel_16 : decode b_Models_hasModel 16 = .ok (.iconst 0, 1) := by decide +kernel
theorem d_Models_hasModel_17 : decode b_Models_hasModel 17 = .ok (.ireturn, 1) := by decide +kernel
def rm_Models_hasModel : Room := { frames := 0, cells := 0, slots := 0, locals := 0 }
theorem mf_Models_hasModel : zMV y_Models_hasModel b_Models_hasModel 2 (some .boolean) 1 := ⟨q625, qs33, q3, q626, by decide +kernel⟩
def M_Models_hasModel (p0 : Nat) (x1 : Int) (h : zH) (K : Int → zH → Prop) : Prop :=
  (x1 < 0 → (K 0 h)) ∧ (0 ≤ x1 → ((h p0 2 ≤ x1 → (K 0 h)) ∧ (x1 < h p0 2 → (K 1 h))))
set_option maxRecDepth 100000 in
theorem c_Models_hasModel {l : Launch} (hfl : l.flags = flags0) {g : zG} {n : Nat} {p0 : Nat} {x1 : Int} (op0 : zO n p0 2) (rx1 : zr x1) {h : zH} (hh : zh h) {K : Int → zH → Prop} (hv : M_Models_hasModel p0 x1 h K) : zMet l y_Models_hasModel b_Models_hasModel 2 (some .boolean) rm_Models_hasModel g n [.ref (g.2.2 p0), zi x1] h (zPi K) := by
  refine zMet_of (own := "AliasStreams$Models") hfl (by decide) rfl (Nat.le_of_ble_eq_true rfl) (fun Wf m H0 X E => ?_)
  unfold M_Models_hasModel at hv
  show zW Wf m 2 g n H0 0 [(0, .ref (g.2.2 p0)), (1, zi x1)] [] h
  refine z_iload_n (pc := 0) (q := 1) X d_Models_hasModel_0 rfl ?_
  refine z_if_lt (pc := 1) (tgt := 16) X rx1 d_Models_hasModel_1 (by decide) (fun hc => ?_) (fun hc => ?_)
  · replace hv := hv.1 hc
    refine z_iconst (pc := 16) X d_Models_hasModel_16 ?_
    exact E.2.2.1 rfl _ _ _ _ (by decide) d_Models_hasModel_17 ⟨_, rfl, (show zr 0 from by decide), hh, hv⟩
  · replace hv := hv.2 hc
    refine z_iload_n (pc := 4) (q := 1) X d_Models_hasModel_4 rfl ?_
    refine z_aload_n (pc := 5) (q := 0) X d_Models_hasModel_5 rfl ?_
    refine z_geti (pc := 6) (j := 2) X cf_Models op0 (by decide) q118 rfl rfl d_Models_hasModel_6 ?_
    refine z_icmp_ge (pc := 9) (tgt := 16) X rx1 (hh.1 _ _ (zO.ne op0 (by decide))) d_Models_hasModel_9 (by decide) (fun hc => ?_) (fun hc => ?_)
    · replace hv := hv.1 hc
      refine z_iconst (pc := 16) X d_Models_hasModel_16 ?_
      exact E.2.2.1 rfl _ _ _ _ (by decide) d_Models_hasModel_17 ⟨_, rfl, (show zr 0 from by decide), hh, hv⟩
    · replace hv := hv.2 hc
      refine z_iconst (pc := 12) X d_Models_hasModel_12 ?_
      refine z_goto (pc := 13) (tgt := 17) X d_Models_hasModel_13 (by decide) ?_
      exact E.2.2.1 rfl _ _ _ _ (by decide) d_Models_hasModel_17 ⟨_, rfl, (show zr 1 from by decide), hh, hv⟩
theorem d_Models_allowItem_0 : decode b_Models_allowItem 0 = .ok (.aload_n 0, 1) := by decide +kernel
theorem d_Models_allowItem_1 : decode b_Models_allowItem 1 = .ok (.iload_n 1, 1) := by decide +kernel
theorem d_Models_allowItem_2 : decode b_Models_allowItem 2 = .ok (.invokevirtual 25, 3) := by decide +kernel
theorem d_Models_allowItem_5 : decode b_Models_allowItem 5 = .ok (.ifCond .ne 20, 3) := by decide +kernel
theorem d_Models_allowItem_8 : decode b_Models_allowItem 8 = .ok (.iload_n 1, 1) := by decide +kernel
theorem d_Models_allowItem_9 : decode b_Models_allowItem 9 = .ok (.bipush 10, 2) := by decide +kernel
theorem d_Models_allowItem_11 : decode b_Models_allowItem 11 = .ok (.if_icmp .lt 18, 3) := by decide +kernel
theorem d_Models_allowItem_14 : decode b_Models_allowItem 14 = .ok (.aload_n 0, 1) := by decide +kernel
theorem d_Models_allowItem_15 : decode b_Models_allowItem 15 = .ok (.iload_n 1, 1) := by decide +kernel
theorem d_Models_allowItem_16 : decode b_Models_allowItem 16 = .ok (.bipush 10, 2) := by decide +kernel
theorem d_Models_allowItem_18 : decode b_Models_allowItem 18 = .ok (.isub, 1) := by decide +kernel
theorem d_Models_allowItem_19 : decode b_Models_allowItem 19 = .ok (.invokevirtual 29, 3) := by decide +kernel
theorem d_Models_allowItem_22 : decode b_Models_allowItem 22 = .ok (.ifCond .eq 7, 3) := by decide +kernel
theorem d_Models_allowItem_25 : decode b_Models_allowItem 25 = .ok (.iconst 1, 1) := by decide +kernel
theorem d_Models_allowItem_26 : decode b_Models_allowItem 26 = .ok (.goto 4, 3) := by decide +kernel
theorem d_Models_allowItem_29 : decode b_Models_allowItem 29 = .ok (.iconst 0, 1) := by decide +kernel
theorem d_Models_allowItem_30 : decode b_Models_allowItem 30 = .ok (.ireturn, 1) := by decide +kernel
def rm_Models_allowItem : Room := { frames := 1, cells := 0, slots := 0, locals := 21 }
theorem mf_Models_allowItem : zMV y_Models_allowItem b_Models_allowItem 2 (some .boolean) 1 := ⟨q750, qs43, q3, q751, by decide +kernel⟩
def M_Models_allowItem (p0 : Nat) (x1 : Int) (h : zH) (K : Int → zH → Prop) : Prop :=
  M_Models_hasSymbol p0 x1 h (fun r_2 h_1 => (r_2 ≠ 0 → (K 1 h_1)) ∧ (r_2 = 0 → ((x1 < 10 → (K 0 h_1)) ∧ (10 ≤ x1 → (zr (x1 - 10) ∧ (M_Models_hasModel p0 (x1 - 10) h_1 (fun r_5 h_4 => (r_5 = 0 → (K 0 h_4)) ∧ (r_5 ≠ 0 → (K 1 h_4)))))))))
set_option maxRecDepth 100000 in
theorem c_Models_allowItem {l : Launch} (hfl : l.flags = flags0) {g : zG} {n : Nat} {p0 : Nat} {x1 : Int} (op0 : zO n p0 2) (rx1 : zr x1) {h : zH} (hh : zh h) {K : Int → zH → Prop} (hv : M_Models_allowItem p0 x1 h K) : zMet l y_Models_allowItem b_Models_allowItem 2 (some .boolean) rm_Models_allowItem g n [.ref (g.2.2 p0), zi x1] h (zPi K) := by
  refine zMet_of (own := "AliasStreams$Models") hfl (by decide) rfl (Nat.le_of_ble_eq_true rfl) (fun Wf m H0 X E => ?_)
  unfold M_Models_allowItem at hv
  show zW Wf m 2 g n H0 0 [(0, .ref (g.2.2 p0)), (1, zi x1)] [] h
  refine z_aload_n (pc := 0) (q := 0) X d_Models_allowItem_0 rfl ?_
  refine z_iload_n (pc := 1) (q := 1) X d_Models_allowItem_1 rfl ?_
  refine z_callVi (pc := 2) (As := [zi x1]) (rest := []) X (fun l hl => c_Models_hasSymbol hl op0 rx1 hh hv) cf_Models op0 rfl mf_Models_hasSymbol q752 ⟨⟨by decide, by decide⟩, rfl, rfl⟩ rfl d_Models_allowItem_2 rfl (Nat.le_of_ble_eq_true rfl) (fun r_2 h_1 rr_2 zh_1 hv => ?_)
  refine z_if_ne (pc := 5) (tgt := 25) X rr_2 d_Models_allowItem_5 (by decide) (fun hc => ?_) (fun hc => ?_)
  · replace hv := hv.1 hc
    refine z_iconst (pc := 25) X d_Models_allowItem_25 ?_
    refine z_goto (pc := 26) (tgt := 30) X d_Models_allowItem_26 (by decide) ?_
    exact E.2.2.1 rfl _ _ _ _ (by decide) d_Models_allowItem_30 ⟨_, rfl, (show zr 1 from by decide), zh_1, hv⟩
  · replace hv := hv.2 hc
    refine z_iload_n (pc := 8) (q := 1) X d_Models_allowItem_8 rfl ?_
    refine z_bipush (pc := 9) X d_Models_allowItem_9 (by decide) ?_
    refine z_icmp_lt (pc := 11) (tgt := 29) X rx1 (show zr 10 from by decide) d_Models_allowItem_11 (by decide) (fun hc => ?_) (fun hc => ?_)
    · replace hv := hv.1 hc
      refine z_iconst (pc := 29) X d_Models_allowItem_29 ?_
      exact E.2.2.1 rfl _ _ _ _ (by decide) d_Models_allowItem_30 ⟨_, rfl, (show zr 0 from by decide), zh_1, hv⟩
    · replace hv := hv.2 hc
      refine z_aload_n (pc := 14) (q := 0) X d_Models_allowItem_14 rfl ?_
      refine z_iload_n (pc := 15) (q := 1) X d_Models_allowItem_15 rfl ?_
      refine z_bipush (pc := 16) X d_Models_allowItem_16 (by decide) ?_
      obtain ⟨v_3, hv⟩ := hv
      refine z_isub (pc := 18) X d_Models_allowItem_18 ?_
      refine z_callVi (pc := 19) (As := [zi (x1 - 10)]) (rest := []) X (fun l hl => c_Models_hasModel hl op0 v_3 zh_1 hv) cf_Models op0 rfl mf_Models_hasModel q753 ⟨⟨by decide, by decide⟩, rfl, rfl⟩ rfl d_Models_allowItem_19 rfl (Nat.le_of_ble_eq_true rfl) (fun r_5 h_4 rr_5 zh_4 hv => ?_)
      refine z_if_eq (pc := 22) (tgt := 29) X rr_5 d_Models_allowItem_22 (by decide) (fun hc => ?_) (fun hc => ?_)
      · replace hv := hv.1 hc
        refine z_iconst (pc := 29) X d_Models_allowItem_29 ?_
        exact E.2.2.1 rfl _ _ _ _ (by decide) d_Models_allowItem_30 ⟨_, rfl, (show zr 0 from by decide), zh_4, hv⟩
      · replace hv := hv.2 hc
        refine z_iconst (pc := 25) X d_Models_allowItem_25 ?_
        refine z_goto (pc := 26) (tgt := 30) X d_Models_allowItem_26 (by decide) ?_
        exact E.2.2.1 rfl _ _ _ _ (by decide) d_Models_allowItem_30 ⟨_, rfl, (show zr 1 from by decide), zh_4, hv⟩
theorem d_Models_of_0 : decode b_Models_of 0 = .ok (.aload_n 0, 1) := by decide +kernel
theorem d_Models_of_1 : decode b_Models_of 1 = .ok (.getfield 11, 3) := by decide +kernel
theorem d_Models_of_4 : decode b_Models_of 4 = .ok (.iload_n 1, 1) := by decide +kernel
theorem d_Models_of_5 : decode b_Models_of 5 = .ok (.ifCond .lt 12, 3) := by decide +kernel
theorem d_Models_of_8 : decode b_Models_of 8 = .ok (.iload_n 1, 1) := by decide +kernel
theorem d_Models_of_9 : decode b_Models_of 9 = .ok (.iconst 3, 1) := by decide +kernel
theorem d_Models_of_10 : decode b_Models_of 10 = .ok (.if_icmp .ge 7, 3) := by decide +kernel
theorem d_Models_of_13 : decode b_Models_of 13 = .ok (.iload_n 1, 1) := by decide +kernel
theorem d_Models_of_14 : decode b_Models_of 14 = .ok (.goto 4, 3) := by decide +kernel
theorem d_Models_of_17 : decode b_Models_of 17 = .ok (.iconst 0, 1) := by decide +kernel
theorem d_Models_of_18 : decode b_Models_of 18 = .ok (.aaload, 1) := by decide +kernel
theorem d_Models_of_19 : decode b_Models_of 19 = .ok (.areturn, 1) := by decide +kernel
def rm_Models_of : Room := { frames := 0, cells := 0, slots := 0, locals := 0 }
theorem mf_Models_of : zMV y_Models_of b_Models_of 2 (some (.object "AliasStreams$Model")) 1 := ⟨q447, qs20, q3, q448, by decide +kernel⟩
def M_Models_of (p0 : Nat) (x1 : Int) (h : zH) (K : Nat → zH → Prop) : Prop :=
  (x1 < 0 → ((K ((p0 + 1) + 1 + 10 * (0 : Int).toNat) h))) ∧ (0 ≤ x1 → ((3 ≤ x1 → ((K ((p0 + 1) + 1 + 10 * (0 : Int).toNat) h))) ∧ (x1 < 3 → ((0 ≤ x1 ∧ x1 < 3) ∧ (K ((p0 + 1) + 1 + 10 * x1.toNat) h)))))
set_option maxRecDepth 100000 in
theorem c_Models_of {l : Launch} (hfl : l.flags = flags0) {g : zG} {n : Nat} {p0 : Nat} {x1 : Int} (op0 : zO n p0 2) (rx1 : zr x1) {h : zH} (hh : zh h) {K : Nat → zH → Prop} (hv : M_Models_of p0 x1 h K) : zMet l y_Models_of b_Models_of 2 (some (.object "AliasStreams$Model")) rm_Models_of g n [.ref (g.2.2 p0), zi x1] h (zPr g n 1 K) := by
  refine zMet_of (own := "AliasStreams$Models") hfl (by decide) rfl (Nat.le_of_ble_eq_true rfl) (fun Wf m H0 X E => ?_)
  unfold M_Models_of at hv
  show zW Wf m 2 g n H0 0 [(0, .ref (g.2.2 p0)), (1, zi x1)] [] h
  refine z_aload_n (pc := 0) (q := 0) X d_Models_of_0 rfl ?_
  refine z_getr (pc := 1) (j := 0) (dd := 1) X cf_Models op0 (by decide) q115 rfl rfl d_Models_of_1 ?_
  refine z_iload_n (pc := 4) (q := 1) X d_Models_of_4 rfl ?_
  refine z_if_lt (pc := 5) (tgt := 17) X rx1 d_Models_of_5 (by decide) (fun hc => ?_) (fun hc => ?_)
  · replace hv := hv.1 hc
    refine z_iconst (pc := 17) X d_Models_of_17 ?_
    refine z_aaldMj (pc := 18) X (gf_Models_0 op0) (gl_Models_0 op0) (show zr 0 from by decide) ⟨by decide, by decide⟩ d_Models_of_18 ?_
    exact E.2.2.2.2 _ rfl _ _ _ _ d_Models_of_19 ⟨_, rfl, (gM (gf_Models_0 op0) (gi (gl_Models_0 op0) (show (0 : Int) ≤ 0 from by decide) (show (0 : Int) < ((3 : Nat) : Int) from by decide))), hh, hv⟩
  · replace hv := hv.2 hc
    refine z_iload_n (pc := 8) (q := 1) X d_Models_of_8 rfl ?_
    refine z_iconst (pc := 9) X d_Models_of_9 ?_
    refine z_icmp_ge (pc := 10) (tgt := 17) X rx1 (show zr 3 from by decide) d_Models_of_10 (by decide) (fun hc => ?_) (fun hc => ?_)
    · replace hv := hv.1 hc
      refine z_iconst (pc := 17) X d_Models_of_17 ?_
      refine z_aaldMj (pc := 18) X (gf_Models_0 op0) (gl_Models_0 op0) (show zr 0 from by decide) ⟨by decide, by decide⟩ d_Models_of_18 ?_
      exact E.2.2.2.2 _ rfl _ _ _ _ d_Models_of_19 ⟨_, rfl, (gM (gf_Models_0 op0) (gi (gl_Models_0 op0) (show (0 : Int) ≤ 0 from by decide) (show (0 : Int) < ((3 : Nat) : Int) from by decide))), hh, hv⟩
    · replace hv := hv.2 hc
      refine z_iload_n (pc := 13) (q := 1) X d_Models_of_13 rfl ?_
      refine z_goto (pc := 14) (tgt := 18) X d_Models_of_14 (by decide) ?_
      obtain ⟨v_1, hv⟩ := hv
      refine z_aaldMj (pc := 18) X (gf_Models_0 op0) (gl_Models_0 op0) rx1 v_1 d_Models_of_18 ?_
      exact E.2.2.2.2 _ rfl _ _ _ _ d_Models_of_19 ⟨_, rfl, (gM (gf_Models_0 op0) (gi (gl_Models_0 op0) v_1.1 v_1.2)), hh, hv⟩
theorem d_Models_makeAll_0 : decode b_Models_makeAll 0 = .ok (.iconst 0, 1) := by decide +kernel
theorem d_Models_makeAll_1 : decode b_Models_makeAll 1 = .ok (.istore_n 2, 1) := by decide +kernel
theorem d_Models_makeAll_2 : decode b_Models_makeAll 2 = .ok (.iload_n 2, 1) := by decide +kernel
theorem d_Models_makeAll_3 : decode b_Models_makeAll 3 = .ok (.iconst 3, 1) := by decide +kernel
theorem d_Models_makeAll_4 : decode b_Models_makeAll 4 = .ok (.if_icmp .ge 20, 3) := by decide +kernel
theorem d_Models_makeAll_7 : decode b_Models_makeAll 7 = .ok (.aload_n 0, 1) := by decide +kernel
theorem d_Models_makeAll_8 : decode b_Models_makeAll 8 = .ok (.getfield 11, 3) := by decide +kernel
theorem d_Models_makeAll_11 : decode b_Models_makeAll 11 = .ok (.iload_n 2, 1) := by decide +kernel
theorem d_Models_makeAll_12 : decode b_Models_makeAll 12 = .ok (.aaload, 1) := by decide +kernel
theorem d_Models_makeAll_13 : decode b_Models_makeAll 13 = .ok (.aload_n 1, 1) := by decide +kernel
theorem d_Models_makeAll_14 : decode b_Models_makeAll 14 = .ok (.iload_n 2, 1) := by decide +kernel
theorem d_Models_makeAll_15 : decode b_Models_makeAll 15 = .ok (.invokevirtual 32, 3) := by decide +kernel
theorem d_Models_makeAll_18 : decode b_Models_makeAll 18 = .ok (.iinc 2 1, 3) := by decide +kernel
theorem d_Models_makeAll_21 : decode b_Models_makeAll 21 = .ok (.goto (-19), 3) := by decide +kernel
theorem d_Models_makeAll_24 : decode b_Models_makeAll 24 = .ok (.return_, 1) := by decide +kernel
def rm_Models_makeAll : Room := { frames := 4, cells := 0, slots := 0, locals := 95 }
theorem mf_Models_makeAll : zMV y_Models_makeAll b_Models_makeAll 3 none 1 := ⟨q315, qs0, q3, q316, by decide +kernel⟩
def F_Models_makeAll_2 (K : zH → Prop)  (L2 : Int × zH → Prop) (p0 : Nat) (p1 : Nat) (x2 : Int) (h : zH) : Prop :=
  (3 ≤ x2 → (K h)) ∧ (x2 < 3 → ((0 ≤ x2 ∧ x2 < 3) ∧ (M_Model_make ((p0 + 1) + 1 + 10 * x2.toNat) p1 x2 h (fun h_2 => zr (x2 + 1) ∧ (L2 (x2 + 1, h_2))))))
set_option maxRecDepth 100000 in
theorem s_Models_makeAll_2 {Wf : Heap → List Loc → JFrame → Prop} {m : MethodId} {g : zG} {n : Nat} {H0 : Heap} (X : zX Wf m rm_Models_makeAll b_Models_makeAll "AliasStreams$Models" 3 g n H0) {K : zH → Prop} (E : zEx Wf m b_Models_makeAll none 3 g n H0 (zPv K))  {p0 : Nat} {p1 : Nat}  (op0 : zO n p0 2) (op1 : zO n p1 12) {q0 : Int × zH} (hv0 : zLoop (fun L q => F_Models_makeAll_2 K  L p0 p1 q.1 q.2) q0) : zr q0.1 → zh (q0.2) → zW Wf m 3 g n H0 2 [(0, .ref (g.2.2 p0)), (1, .ref (g.2.2 p1)), (2, zi q0.1)] [] (q0.2) := by
  refine zLoop_use (G := fun q => zr q.1 → zh (q.2) → zW Wf m 3 g n H0 2 [(0, .ref (g.2.2 p0)), (1, .ref (g.2.2 p1)), (2, zi q.1)] [] (q.2)) ?_ hv0
  rintro L2 ⟨x2, h⟩ hL2 hv rx2 hh
  have hv : F_Models_makeAll_2 K  L2 p0 p1 x2 h := hv
  unfold F_Models_makeAll_2 at hv
  show zW Wf m 3 g n H0 2 [(0, .ref (g.2.2 p0)), (1, .ref (g.2.2 p1)), (2, zi x2)] [] h
  refine z_iload_n (pc := 2) (q := 2) X d_Models_makeAll_2 rfl ?_
  refine z_iconst (pc := 3) X d_Models_makeAll_3 ?_
  refine z_icmp_ge (pc := 4) (tgt := 24) X rx2 (show zr 3 from by decide) d_Models_makeAll_4 (by decide) (fun hc => ?_) (fun hc => ?_)
  · replace hv := hv.1 hc
    exact E.1 rfl _ _ _ d_Models_makeAll_24 ⟨rfl, hh, hv⟩
  · replace hv := hv.2 hc
    refine z_aload_n (pc := 7) (q := 0) X d_Models_makeAll_7 rfl ?_
    refine z_getr (pc := 8) (j := 0) (dd := 1) X cf_Models op0 (by decide) q115 rfl rfl d_Models_makeAll_8 ?_
    refine z_iload_n (pc := 11) (q := 2) X d_Models_makeAll_11 rfl ?_
    obtain ⟨v_1, hv⟩ := hv
    refine z_aaldMj (pc := 12) X (gf_Models_0 op0) (gl_Models_0 op0) rx2 v_1 d_Models_makeAll_12 ?_
    refine z_aload_n (pc := 13) (q := 1) X d_Models_makeAll_13 rfl ?_
    refine z_iload_n (pc := 14) (q := 2) X d_Models_makeAll_14 rfl ?_
    refine z_callVNv (pc := 15) (As := [.ref (g.2.2 p1), zi x2]) (rest := []) X (fun l hl => c_Model_make hl (gM (gf_Models_0 op0) (gi (gl_Models_0 op0) v_1.1 v_1.2)) op1 rx2 hh hv) cf_Model (gM (gf_Models_0 op0) (gi (gl_Models_0 op0) v_1.1 v_1.2)) rfl mf_Model_make q317 ⟨⟨by decide, by decide⟩, rfl, rfl⟩ rfl d_Models_makeAll_15 rfl (Nat.le_of_ble_eq_true rfl) (fun h_2 zh_2 hv => ?_)
    obtain ⟨v_4, hv⟩ := hv
    refine z_iinc (pc := 18) (q := 2) (lv' := [(2, zi (x2 + 1)), (0, .ref (g.2.2 p0)), (1, .ref (g.2.2 p1))]) X d_Models_makeAll_18 rfl (by decide) rfl ?_
    refine z_goto (pc := 21) (tgt := 2) X d_Models_makeAll_21 (by decide) ?_
    refine z_perm [1, 2, 0] rfl ?_
    exact hL2 _ hv v_4 zh_2
def M_Models_makeAll (p0 : Nat) (p1 : Nat) (h : zH) (K : zH → Prop) : Prop :=
  zLoop (fun L q => F_Models_makeAll_2 K  L p0 p1 q.1 q.2) (0, h)
set_option maxRecDepth 100000 in
theorem c_Models_makeAll {l : Launch} (hfl : l.flags = flags0) {g : zG} {n : Nat} {p0 : Nat} {p1 : Nat} (op0 : zO n p0 2) (op1 : zO n p1 12) {h : zH} (hh : zh h) {K : zH → Prop} (hv : M_Models_makeAll p0 p1 h K) : zMet l y_Models_makeAll b_Models_makeAll 3 none rm_Models_makeAll g n [.ref (g.2.2 p0), .ref (g.2.2 p1)] h (zPv K) := by
  refine zMet_of (own := "AliasStreams$Models") hfl (by decide) rfl (Nat.le_of_ble_eq_true rfl) (fun Wf m H0 X E => ?_)
  unfold M_Models_makeAll at hv
  show zW Wf m 3 g n H0 0 [(0, .ref (g.2.2 p0)), (1, .ref (g.2.2 p1))] [] h
  refine z_iconst (pc := 0) X d_Models_makeAll_0 ?_
  refine z_istore_n (pc := 1) (lv' := [(2, zi 0), (0, .ref (g.2.2 p0)), (1, .ref (g.2.2 p1))]) X d_Models_makeAll_1 (by decide) rfl ?_
  refine z_perm [1, 2, 0] rfl ?_
  exact s_Models_makeAll_2 X E  op0 op1 hv (show zr 0 from by decide) hh

/-! 37.ASb (printed by wip/whole/methgen.py) -/
theorem d_AS_encode_0 : decode b_AS_encode 0 = .ok (.aload_n 0, 1) := by decide +kernel
theorem d_AS_encode_1 : decode b_AS_encode 1 = .ok (.getfield 47, 3) := by decide +kernel
theorem d_AS_encode_4 : decode b_AS_encode 4 = .ok (.aload_n 0, 1) := by decide +kernel
theorem d_AS_encode_5 : decode b_AS_encode 5 = .ok (.getfield 26, 3) := by decide +kernel
theorem d_AS_encode_8 : decode b_AS_encode 8 = .ok (.invokevirtual 130, 3) := by decide +kernel
theorem d_AS_encode_11 : decode b_AS_encode 11 = .ok (.aload_n 0, 1) := by decide +kernel
theorem d_AS_encode_12 : decode b_AS_encode 12 = .ok (.getfield 47, 3) := by decide +kernel
theorem d_AS_encode_15 : decode b_AS_encode 15 = .ok (.aload_n 0, 1) := by decide +kernel
theorem d_AS_encode_16 : decode b_AS_encode 16 = .ok (.getfield 19, 3) := by decide +kernel
theorem d_AS_encode_19 : decode b_AS_encode 19 = .ok (.invokevirtual 260, 3) := by decide +kernel
theorem d_AS_encode_22 : decode b_AS_encode 22 = .ok (.bipush (-9), 2) := by decide +kernel
theorem d_AS_encode_24 : decode b_AS_encode 24 = .ok (.if_icmp .eq 14, 3) := by decide +kernel
theorem d_AS_encode_27 : decode b_AS_encode 27 = .ok (.new 94, 3) := by decide +kernel
theorem d_AS_encode_30 : decode b_AS_encode 30 = .ok (.dup, 1) := by decide +kernel
theorem d_AS_encode_31 : decode b_AS_encode 31 = .ok (.ldc_w 264, 3) := by decide +kernel
theorem d_AS_encode_34 : decode b_AS_encode 34 = .ok (.invokespecial 98, 3) := by decide +kernel
theorem d_AS_encode_37 : decode b_AS_encode 37 = .ok (.athrow, 1) := by decide +kernel
theorem d_AS_encode_38 : decode b_AS_encode 38 = .ok (.aload_n 0, 1) := by decide +kernel
theorem d_AS_encode_39 : decode b_AS_encode 39 = .ok (.getfield 33, 3) := by decide +kernel
theorem d_AS_encode_42 : decode b_AS_encode 42 = .ok (.aload_n 0, 1) := by decide +kernel
theorem d_AS_encode_43 : decode b_AS_encode 43 = .ok (.getfield 26, 3) := by decide +kernel
theorem d_AS_encode_46 : decode b_AS_encode 46 = .ok (.invokevirtual 237, 3) := by decide +kernel
theorem d_AS_encode_49 : decode b_AS_encode 49 = .ok (.aload_n 0, 1) := by decide +kernel
theorem d_AS_encode_50 : decode b_AS_encode 50 = .ok (.getfield 26, 3) := by decide +kernel
theorem d_AS_encode_53 : decode b_AS_encode 53 = .ok (.getfield 137, 3) := by decide +kernel
theorem d_AS_encode_56 : decode b_AS_encode 56 = .ok (.aload_n 0, 1) := by decide +kernel
theorem d_AS_encode_57 : decode b_AS_encode 57 = .ok (.getfield 47, 3) := by decide +kernel
theorem d_AS_encode_60 : decode b_AS_encode 60 = .ok (.aload_n 0, 1) := by decide +kernel
theorem d_AS_encode_61 : decode b_AS_encode 61 = .ok (.getfield 19, 3) := by decide +kernel
theorem d_AS_encode_64 : decode b_AS_encode 64 = .ok (.invokevirtual 266, 3) := by decide +kernel
theorem d_AS_encode_67 : decode b_AS_encode 67 = .ok (.aload_n 0, 1) := by decide +kernel
theorem d_AS_encode_68 : decode b_AS_encode 68 = .ok (.getfield 26, 3) := by decide +kernel
theorem d_AS_encode_71 : decode b_AS_encode 71 = .ok (.getfield 137, 3) := by decide +kernel
theorem d_AS_encode_74 : decode b_AS_encode 74 = .ok (.getfield 140, 3) := by decide +kernel
theorem d_AS_encode_77 : decode b_AS_encode 77 = .ok (.ireturn, 1) := by decide +kernel
def rm_AS_encode : Room := { frames := 6, cells := 1, slots := 6, locals := 123 }
theorem mf_AS_encode : zMV y_AS_encode b_AS_encode 1 (some .int) 0 := ⟨q776, q777, q1, q778, by decide +kernel⟩
def M_AS_encode (p0 : Nat) (h : zH) (K : Int → zH → Prop) (XK : Nat → zH → Prop) : Prop :=
  M_Symbols_list (p0 + 161) (p0 + 37) h (fun h_1 => M_Symbols_firstUnfit (p0 + 161) (p0 + 5) h_1 (fun r_4 h_3 => (r_4 = (-9) → (M_History_remember (p0 + 44) (p0 + 37) h_3 (fun h_5 => M_Tape_fill ((p0 + 37) + 3) (p0 + 161) (p0 + 5) h_5 (fun h_7 => K (h_7 ((p0 + 37) + 3) 4) h_7)))) ∧ (r_4 ≠ (-9) → (XK 2 h_3))))
set_option maxRecDepth 100000 in
theorem c_AS_encode {l : Launch} (hfl : l.flags = flags0) {g : zG} {n : Nat} {p0 : Nat} (op0 : zO n p0 10) {h : zH} (hh : zh h) {K : Int → zH → Prop} {XK : Nat → zH → Prop} (hv : M_AS_encode p0 h K XK) : zMetX l y_AS_encode b_AS_encode 1 (some .int) rm_AS_encode g n [.ref (g.2.2 p0)] h (zPi K) XK := by
  refine zMetX_of hfl (by decide) rfl (Nat.le_of_ble_eq_true rfl) ⟨rfl, rfl, by decide, by decide⟩ (fun Wf m H0 X E T => ?_)
  unfold M_AS_encode at hv
  show zW Wf m 1 g n H0 0 [(0, .ref (g.2.2 p0))] [] h
  refine z_aload_n (pc := 0) (q := 0) X d_AS_encode_0 rfl ?_
  refine z_getr (pc := 1) (j := 5) (dd := 161) X cf_AS op0 (by decide) q371 rfl rfl d_AS_encode_1 ?_
  refine z_aload_n (pc := 4) (q := 0) X d_AS_encode_4 rfl ?_
  refine z_getr (pc := 5) (j := 2) (dd := 37) X cf_AS op0 (by decide) q368 rfl rfl d_AS_encode_5 ?_
  refine z_callVNv (pc := 8) (As := [.ref (g.2.2 (p0 + 37))]) (rest := []) X (fun l hl => c_Symbols_list hl (gf_AS_5 op0) (gf_AS_2 op0) hh hv) cf_Symbols (gf_AS_5 op0) rfl mf_Symbols_list q465 ⟨⟨by decide, by decide⟩, rfl, rfl⟩ rfl d_AS_encode_8 rfl (Nat.le_of_ble_eq_true rfl) (fun h_1 zh_1 hv => ?_)
  refine z_aload_n (pc := 11) (q := 0) X d_AS_encode_11 rfl ?_
  refine z_getr (pc := 12) (j := 5) (dd := 161) X cf_AS op0 (by decide) q371 rfl rfl d_AS_encode_12 ?_
  refine z_aload_n (pc := 15) (q := 0) X d_AS_encode_15 rfl ?_
  refine z_getr (pc := 16) (j := 1) (dd := 5) X cf_AS op0 (by decide) q367 rfl rfl d_AS_encode_16 ?_
  refine z_callVNi (pc := 19) (As := [.ref (g.2.2 (p0 + 5))]) (rest := []) X (fun l hl => c_Symbols_firstUnfit hl (gf_AS_5 op0) (gf_AS_1 op0) zh_1 hv) cf_Symbols (gf_AS_5 op0) rfl mf_Symbols_firstUnfit q469 ⟨⟨by decide, by decide⟩, rfl, rfl⟩ rfl d_AS_encode_19 rfl (Nat.le_of_ble_eq_true rfl) (fun r_4 h_3 rr_4 zh_3 hv => ?_)
  refine z_bipush (pc := 22) X d_AS_encode_22 (by decide) ?_
  refine z_icmp_eq (pc := 24) (tgt := 38) X rr_4 (show zr (-9) from by decide) d_AS_encode_24 (by decide) (fun hc => ?_) (fun hc => ?_)
  · replace hv := hv.1 hc
    refine z_aload_n (pc := 38) (q := 0) X d_AS_encode_38 rfl ?_
    refine z_getr (pc := 39) (j := 3) (dd := 44) X cf_AS op0 (by decide) q369 rfl rfl d_AS_encode_39 ?_
    refine z_aload_n (pc := 42) (q := 0) X d_AS_encode_42 rfl ?_
    refine z_getr (pc := 43) (j := 2) (dd := 37) X cf_AS op0 (by decide) q368 rfl rfl d_AS_encode_43 ?_
    refine z_callVNv (pc := 46) (As := [.ref (g.2.2 (p0 + 37))]) (rest := []) X (fun l hl => c_History_remember hl (gf_AS_3 op0) (gf_AS_2 op0) zh_3 hv) cf_History (gf_AS_3 op0) rfl mf_History_remember q713 ⟨⟨by decide, by decide⟩, rfl, rfl⟩ rfl d_AS_encode_46 rfl (Nat.le_of_ble_eq_true rfl) (fun h_5 zh_5 hv => ?_)
    refine z_aload_n (pc := 49) (q := 0) X d_AS_encode_49 rfl ?_
    refine z_getr (pc := 50) (j := 2) (dd := 37) X cf_AS op0 (by decide) q368 rfl rfl d_AS_encode_50 ?_
    refine z_getrN (pc := 53) (j := 2) (dd := 3) X cf_State (gf_AS_2 op0) (by decide) q176 rfl rfl d_AS_encode_53 ?_
    refine z_aload_n (pc := 56) (q := 0) X d_AS_encode_56 rfl ?_
    refine z_getr (pc := 57) (j := 5) (dd := 161) X cf_AS op0 (by decide) q371 rfl rfl d_AS_encode_57 ?_
    refine z_aload_n (pc := 60) (q := 0) X d_AS_encode_60 rfl ?_
    refine z_getr (pc := 61) (j := 1) (dd := 5) X cf_AS op0 (by decide) q367 rfl rfl d_AS_encode_61 ?_
    refine z_callVNv (pc := 64) (As := [.ref (g.2.2 (p0 + 161)), .ref (g.2.2 (p0 + 5))]) (rest := []) X (fun l hl => c_Tape_fill hl (gf_State_2 (gf_AS_2 op0)) (gf_AS_5 op0) (gf_AS_1 op0) zh_5 hv) cf_Tape (gf_State_2 (gf_AS_2 op0)) rfl mf_Tape_fill q780 ⟨⟨by decide, by decide⟩, rfl, rfl⟩ rfl d_AS_encode_64 rfl (Nat.le_of_ble_eq_true rfl) (fun h_7 zh_7 hv => ?_)
    refine z_aload_n (pc := 67) (q := 0) X d_AS_encode_67 rfl ?_
    refine z_getr (pc := 68) (j := 2) (dd := 37) X cf_AS op0 (by decide) q368 rfl rfl d_AS_encode_68 ?_
    refine z_getrN (pc := 71) (j := 2) (dd := 3) X cf_State (gf_AS_2 op0) (by decide) q176 rfl rfl d_AS_encode_71 ?_
    refine z_getiN (pc := 74) (j := 4) X cf_Tape (gf_State_2 (gf_AS_2 op0)) (by decide) q157 rfl rfl d_AS_encode_74 ?_
    exact E.2.1 rfl _ _ _ _ d_AS_encode_77 ⟨_, rfl, (zh_7.1 _ _ (zO.ne (gf_State_2 (gf_AS_2 op0)) (by decide))), zh_7, hv⟩
  · replace hv := hv.2 hc
    exact T _ _ _ 2 _ _ _ _ _ (by decide +kernel : (2, "java/lang/IllegalStateException", 94, 98) ∈ zExc) zst_264 ⟨d_AS_encode_27, d_AS_encode_30, Or.inr ⟨d_AS_encode_31, d_AS_encode_34, d_AS_encode_37⟩⟩ zh_3 hv
theorem d_AS_decode_0 : decode b_AS_decode 0 = .ok (.aload_n 0, 1) := by decide +kernel
theorem d_AS_decode_1 : decode b_AS_decode 1 = .ok (.getfield 54, 3) := by decide +kernel
theorem d_AS_decode_4 : decode b_AS_decode 4 = .ok (.aload_n 0, 1) := by decide +kernel
theorem d_AS_decode_5 : decode b_AS_decode 5 = .ok (.getfield 26, 3) := by decide +kernel
theorem d_AS_decode_8 : decode b_AS_decode 8 = .ok (.getfield 137, 3) := by decide +kernel
theorem d_AS_decode_11 : decode b_AS_decode 11 = .ok (.aload_n 0, 1) := by decide +kernel
theorem d_AS_decode_12 : decode b_AS_decode 12 = .ok (.getfield 19, 3) := by decide +kernel
theorem d_AS_decode_15 : decode b_AS_decode 15 = .ok (.invokevirtual 146, 3) := by decide +kernel
theorem d_AS_decode_18 : decode b_AS_decode 18 = .ok (.aload_n 0, 1) := by decide +kernel
theorem d_AS_decode_19 : decode b_AS_decode 19 = .ok (.getfield 54, 3) := by decide +kernel
theorem d_AS_decode_22 : decode b_AS_decode 22 = .ok (.getfield 270, 3) := by decide +kernel
theorem d_AS_decode_25 : decode b_AS_decode 25 = .ok (.bipush (-9), 2) := by decide +kernel
theorem d_AS_decode_27 : decode b_AS_decode 27 = .ok (.if_icmp .ne 18, 3) := by decide +kernel
theorem d_AS_decode_30 : decode b_AS_decode 30 = .ok (.aload_n 0, 1) := by decide +kernel
theorem d_AS_decode_31 : decode b_AS_decode 31 = .ok (.getfield 26, 3) := by decide +kernel
theorem d_AS_decode_34 : decode b_AS_decode 34 = .ok (.getfield 137, 3) := by decide +kernel
theorem d_AS_decode_37 : decode b_AS_decode 37 = .ok (.invokevirtual 273, 3) := by decide +kernel
theorem d_AS_decode_40 : decode b_AS_decode 40 = .ok (.bipush 40, 2) := by decide +kernel
theorem d_AS_decode_42 : decode b_AS_decode 42 = .ok (.if_icmp .le 14, 3) := by decide +kernel
theorem d_AS_decode_45 : decode b_AS_decode 45 = .ok (.new 94, 3) := by decide +kernel
theorem d_AS_decode_48 : decode b_AS_decode 48 = .ok (.dup, 1) := by decide +kernel
theorem d_AS_decode_49 : decode b_AS_decode 49 = .ok (.ldc_w 276, 3) := by decide +kernel
theorem d_AS_decode_52 : decode b_AS_decode 52 = .ok (.invokespecial 98, 3) := by decide +kernel
theorem d_AS_decode_55 : decode b_AS_decode 55 = .ok (.athrow, 1) := by decide +kernel
theorem d_AS_decode_56 : decode b_AS_decode 56 = .ok (.aload_n 0, 1) := by decide +kernel
theorem d_AS_decode_57 : decode b_AS_decode 57 = .ok (.getfield 33, 3) := by decide +kernel
theorem d_AS_decode_60 : decode b_AS_decode 60 = .ok (.aload_n 0, 1) := by decide +kernel
theorem d_AS_decode_61 : decode b_AS_decode 61 = .ok (.getfield 26, 3) := by decide +kernel
theorem d_AS_decode_64 : decode b_AS_decode 64 = .ok (.invokevirtual 237, 3) := by decide +kernel
theorem d_AS_decode_67 : decode b_AS_decode 67 = .ok (.aload_n 0, 1) := by decide +kernel
theorem d_AS_decode_68 : decode b_AS_decode 68 = .ok (.getfield 26, 3) := by decide +kernel
theorem d_AS_decode_71 : decode b_AS_decode 71 = .ok (.aload_n 0, 1) := by decide +kernel
theorem d_AS_decode_72 : decode b_AS_decode 72 = .ok (.getfield 54, 3) := by decide +kernel
theorem d_AS_decode_75 : decode b_AS_decode 75 = .ok (.invokevirtual 278, 3) := by decide +kernel
theorem d_AS_decode_78 : decode b_AS_decode 78 = .ok (.aload_n 0, 1) := by decide +kernel
theorem d_AS_decode_79 : decode b_AS_decode 79 = .ok (.getfield 26, 3) := by decide +kernel
theorem d_AS_decode_82 : decode b_AS_decode 82 = .ok (.getfield 127, 3) := by decide +kernel
theorem d_AS_decode_85 : decode b_AS_decode 85 = .ok (.ireturn, 1) := by decide +kernel
def rm_AS_decode : Room := { frames := 6, cells := 1, slots := 6, locals := 123 }
theorem mf_AS_decode : zMV y_AS_decode b_AS_decode 1 (some .int) 0 := ⟨q805, q806, q1, q807, by decide +kernel⟩
def M_AS_decode (p0 : Nat) (h : zH) (K : Int → zH → Prop) (XK : Nat → zH → Prop) : Prop :=
  M_Taking_takeAll (p0 + 164) ((p0 + 37) + 3) (p0 + 5) h (fun h_1 => (h_1 (p0 + 164) 6 ≠ (-9) → (XK 2 h_1)) ∧ (h_1 (p0 + 164) 6 = (-9) → (M_Tape_itemsNeeded ((p0 + 37) + 3) h_1 (fun r_4 h_3 => (r_4 ≤ 40 → (M_History_remember (p0 + 44) (p0 + 37) h_3 (fun h_5 => M_State_takeMessage (p0 + 37) (p0 + 164) h_5 (fun h_7 => K (h_7 (p0 + 37) 3) h_7)))) ∧ (40 < r_4 → (XK 2 h_3))))))
set_option maxRecDepth 100000 in
theorem c_AS_decode {l : Launch} (hfl : l.flags = flags0) {g : zG} {n : Nat} {p0 : Nat} (op0 : zO n p0 10) {h : zH} (hh : zh h) {K : Int → zH → Prop} {XK : Nat → zH → Prop} (hv : M_AS_decode p0 h K XK) : zMetX l y_AS_decode b_AS_decode 1 (some .int) rm_AS_decode g n [.ref (g.2.2 p0)] h (zPi K) XK := by
  refine zMetX_of hfl (by decide) rfl (Nat.le_of_ble_eq_true rfl) ⟨rfl, rfl, by decide, by decide⟩ (fun Wf m H0 X E T => ?_)
  unfold M_AS_decode at hv
  show zW Wf m 1 g n H0 0 [(0, .ref (g.2.2 p0))] [] h
  refine z_aload_n (pc := 0) (q := 0) X d_AS_decode_0 rfl ?_
  refine z_getr (pc := 1) (j := 6) (dd := 164) X cf_AS op0 (by decide) q372 rfl rfl d_AS_decode_1 ?_
  refine z_aload_n (pc := 4) (q := 0) X d_AS_decode_4 rfl ?_
  refine z_getr (pc := 5) (j := 2) (dd := 37) X cf_AS op0 (by decide) q368 rfl rfl d_AS_decode_5 ?_
  refine z_getrN (pc := 8) (j := 2) (dd := 3) X cf_State (gf_AS_2 op0) (by decide) q176 rfl rfl d_AS_decode_8 ?_
  refine z_aload_n (pc := 11) (q := 0) X d_AS_decode_11 rfl ?_
  refine z_getr (pc := 12) (j := 1) (dd := 5) X cf_AS op0 (by decide) q367 rfl rfl d_AS_decode_12 ?_
  refine z_callVNv (pc := 15) (As := [.ref (g.2.2 ((p0 + 37) + 3)), .ref (g.2.2 (p0 + 5))]) (rest := []) X (fun l hl => c_Taking_takeAll hl (gf_AS_6 op0) (gf_State_2 (gf_AS_2 op0)) (gf_AS_1 op0) hh hv) cf_Taking (gf_AS_6 op0) rfl mf_Taking_takeAll q441 ⟨⟨by decide, by decide⟩, rfl, rfl⟩ rfl d_AS_decode_15 rfl (Nat.le_of_ble_eq_true rfl) (fun h_1 zh_1 hv => ?_)
  refine z_aload_n (pc := 18) (q := 0) X d_AS_decode_18 rfl ?_
  refine z_getr (pc := 19) (j := 6) (dd := 164) X cf_AS op0 (by decide) q372 rfl rfl d_AS_decode_19 ?_
  refine z_getiN (pc := 22) (j := 6) X cf_Taking (gf_AS_6 op0) (by decide) q268 rfl rfl d_AS_decode_22 ?_
  refine z_bipush (pc := 25) X d_AS_decode_25 (by decide) ?_
  refine z_icmp_ne (pc := 27) (tgt := 45) X (zh_1.1 _ _ (zO.ne (gf_AS_6 op0) (by decide))) (show zr (-9) from by decide) d_AS_decode_27 (by decide) (fun hc => ?_) (fun hc => ?_)
  · replace hv := hv.1 hc
    exact T _ _ _ 2 _ _ _ _ _ (by decide +kernel : (2, "java/lang/IllegalStateException", 94, 98) ∈ zExc) zst_276 ⟨d_AS_decode_45, d_AS_decode_48, Or.inr ⟨d_AS_decode_49, d_AS_decode_52, d_AS_decode_55⟩⟩ zh_1 hv
  · replace hv := hv.2 hc
    refine z_aload_n (pc := 30) (q := 0) X d_AS_decode_30 rfl ?_
    refine z_getr (pc := 31) (j := 2) (dd := 37) X cf_AS op0 (by decide) q368 rfl rfl d_AS_decode_31 ?_
    refine z_getrN (pc := 34) (j := 2) (dd := 3) X cf_State (gf_AS_2 op0) (by decide) q176 rfl rfl d_AS_decode_34 ?_
    refine z_callVNi (pc := 37) (As := []) (rest := []) X (fun l hl => c_Tape_itemsNeeded hl (gf_State_2 (gf_AS_2 op0)) zh_1 hv) cf_Tape (gf_State_2 (gf_AS_2 op0)) rfl mf_Tape_itemsNeeded q808 ⟨⟨by decide, by decide⟩, rfl, rfl⟩ rfl d_AS_decode_37 rfl (Nat.le_of_ble_eq_true rfl) (fun r_4 h_3 rr_4 zh_3 hv => ?_)
    refine z_bipush (pc := 40) X d_AS_decode_40 (by decide) ?_
    refine z_icmp_le (pc := 42) (tgt := 56) X rr_4 (show zr 40 from by decide) d_AS_decode_42 (by decide) (fun hc => ?_) (fun hc => ?_)
    · replace hv := hv.1 hc
      refine z_aload_n (pc := 56) (q := 0) X d_AS_decode_56 rfl ?_
      refine z_getr (pc := 57) (j := 3) (dd := 44) X cf_AS op0 (by decide) q369 rfl rfl d_AS_decode_57 ?_
      refine z_aload_n (pc := 60) (q := 0) X d_AS_decode_60 rfl ?_
      refine z_getr (pc := 61) (j := 2) (dd := 37) X cf_AS op0 (by decide) q368 rfl rfl d_AS_decode_61 ?_
      refine z_callVNv (pc := 64) (As := [.ref (g.2.2 (p0 + 37))]) (rest := []) X (fun l hl => c_History_remember hl (gf_AS_3 op0) (gf_AS_2 op0) zh_3 hv) cf_History (gf_AS_3 op0) rfl mf_History_remember q713 ⟨⟨by decide, by decide⟩, rfl, rfl⟩ rfl d_AS_decode_64 rfl (Nat.le_of_ble_eq_true rfl) (fun h_5 zh_5 hv => ?_)
      refine z_aload_n (pc := 67) (q := 0) X d_AS_decode_67 rfl ?_
      refine z_getr (pc := 68) (j := 2) (dd := 37) X cf_AS op0 (by decide) q368 rfl rfl d_AS_decode_68 ?_
      refine z_aload_n (pc := 71) (q := 0) X d_AS_decode_71 rfl ?_
      refine z_getr (pc := 72) (j := 6) (dd := 164) X cf_AS op0 (by decide) q372 rfl rfl d_AS_decode_72 ?_
      refine z_callVNv (pc := 75) (As := [.ref (g.2.2 (p0 + 164))]) (rest := []) X (fun l hl => c_State_takeMessage hl (gf_AS_2 op0) (gf_AS_6 op0) zh_5 hv) cf_State (gf_AS_2 op0) rfl mf_State_takeMessage q813 ⟨⟨by decide, by decide⟩, rfl, rfl⟩ rfl d_AS_decode_75 rfl (Nat.le_of_ble_eq_true rfl) (fun h_7 zh_7 hv => ?_)
      refine z_aload_n (pc := 78) (q := 0) X d_AS_decode_78 rfl ?_
      refine z_getr (pc := 79) (j := 2) (dd := 37) X cf_AS op0 (by decide) q368 rfl rfl d_AS_decode_79 ?_
      refine z_getiN (pc := 82) (j := 3) X cf_State (gf_AS_2 op0) (by decide) q180 rfl rfl d_AS_decode_82 ?_
      exact E.2.1 rfl _ _ _ _ d_AS_decode_85 ⟨_, rfl, (zh_7.1 _ _ (zO.ne (gf_AS_2 op0) (by decide))), zh_7, hv⟩
    · replace hv := hv.2 hc
      exact T _ _ _ 2 _ _ _ _ _ (by decide +kernel : (2, "java/lang/IllegalStateException", 94, 98) ∈ zExc) zst_276 ⟨d_AS_decode_45, d_AS_decode_48, Or.inr ⟨d_AS_decode_49, d_AS_decode_52, d_AS_decode_55⟩⟩ zh_3 hv
theorem d_AS_setDigit_0 : decode b_AS_setDigit 0 = .ok (.aload_n 0, 1) := by decide +kernel
theorem d_AS_setDigit_1 : decode b_AS_setDigit 1 = .ok (.getfield 26, 3) := by decide +kernel
theorem d_AS_setDigit_4 : decode b_AS_setDigit 4 = .ok (.getfield 137, 3) := by decide +kernel
theorem d_AS_setDigit_7 : decode b_AS_setDigit 7 = .ok (.iload_n 1, 1) := by decide +kernel
theorem d_AS_setDigit_8 : decode b_AS_setDigit 8 = .ok (.invokevirtual 210, 3) := by decide +kernel
theorem d_AS_setDigit_11 : decode b_AS_setDigit 11 = .ok (.ifCond .ne 14, 3) := by decide +kernel
theorem d_AS_setDigit_14 : decode b_AS_setDigit 14 = .ok (.new 163, 3) := by decide +kernel
theorem d_AS_setDigit_17 : decode b_AS_setDigit 17 = .ok (.dup, 1) := by decide +kernel
theorem d_AS_setDigit_18 : decode b_AS_setDigit 18 = .ok (.ldc_w 282, 3) := by decide +kernel
theorem d_AS_setDigit_21 : decode b_AS_setDigit 21 = .ok (.invokespecial 167, 3) := by decide +kernel
theorem d_AS_setDigit_24 : decode b_AS_setDigit 24 = .ok (.athrow, 1) := by decide +kernel
theorem d_AS_setDigit_25 : decode b_AS_setDigit 25 = .ok (.iload_n 2, 1) := by decide +kernel
theorem d_AS_setDigit_26 : decode b_AS_setDigit 26 = .ok (.invokestatic 284, 3) := by decide +kernel
theorem d_AS_setDigit_29 : decode b_AS_setDigit 29 = .ok (.ifCond .ne 14, 3) := by decide +kernel
theorem d_AS_setDigit_32 : decode b_AS_setDigit 32 = .ok (.new 83, 3) := by decide +kernel
theorem d_AS_setDigit_35 : decode b_AS_setDigit 35 = .ok (.dup, 1) := by decide +kernel
theorem d_AS_setDigit_36 : decode b_AS_setDigit 36 = .ok (.ldc_w 287, 3) := by decide +kernel
theorem d_AS_setDigit_39 : decode b_AS_setDigit 39 = .ok (.invokespecial 87, 3) := by decide +kernel
theorem d_AS_setDigit_42 : decode b_AS_setDigit 42 = .ok (.athrow, 1) := by decide +kernel
theorem d_AS_setDigit_43 : decode b_AS_setDigit 43 = .ok (.aload_n 0, 1) := by decide +kernel
theorem d_AS_setDigit_44 : decode b_AS_setDigit 44 = .ok (.getfield 26, 3) := by decide +kernel
theorem d_AS_setDigit_47 : decode b_AS_setDigit 47 = .ok (.getfield 137, 3) := by decide +kernel
theorem d_AS_setDigit_50 : decode b_AS_setDigit 50 = .ok (.getfield 213, 3) := by decide +kernel
theorem d_AS_setDigit_53 : decode b_AS_setDigit 53 = .ok (.iload_n 1, 1) := by decide +kernel
theorem d_AS_setDigit_54 : decode b_AS_setDigit 54 = .ok (.iaload, 1) := by decide +kernel
theorem d_AS_setDigit_55 : decode b_AS_setDigit 55 = .ok (.istore_n 3, 1) := by decide +kernel
theorem d_AS_setDigit_56 : decode b_AS_setDigit 56 = .ok (.aload_n 0, 1) := by decide +kernel
theorem d_AS_setDigit_57 : decode b_AS_setDigit 57 = .ok (.getfield 33, 3) := by decide +kernel
theorem d_AS_setDigit_60 : decode b_AS_setDigit 60 = .ok (.aload_n 0, 1) := by decide +kernel
theorem d_AS_setDigit_61 : decode b_AS_setDigit 61 = .ok (.getfield 26, 3) := by decide +kernel
theorem d_AS_setDigit_64 : decode b_AS_setDigit 64 = .ok (.invokevirtual 237, 3) := by decide +kernel
theorem d_AS_setDigit_67 : decode b_AS_setDigit 67 = .ok (.aload_n 0, 1) := by decide +kernel
theorem d_AS_setDigit_68 : decode b_AS_setDigit 68 = .ok (.getfield 26, 3) := by decide +kernel
theorem d_AS_setDigit_71 : decode b_AS_setDigit 71 = .ok (.getfield 137, 3) := by decide +kernel
theorem d_AS_setDigit_74 : decode b_AS_setDigit 74 = .ok (.getfield 213, 3) := by decide +kernel
theorem d_AS_setDigit_77 : decode b_AS_setDigit 77 = .ok (.iload_n 1, 1) := by decide +kernel
theorem d_AS_setDigit_78 : decode b_AS_setDigit 78 = .ok (.iload_n 2, 1) := by decide +kernel
theorem d_AS_setDigit_79 : decode b_AS_setDigit 79 = .ok (.iastore, 1) := by decide +kernel
theorem d_AS_setDigit_80 : decode b_AS_setDigit 80 = .ok (.iload_n 3, 1) := by decide +kernel
theorem d_AS_setDigit_81 : decode b_AS_setDigit 81 = .ok (.ireturn, 1) := by decide +kernel
def rm_AS_setDigit : Room := { frames := 6, cells := 1, slots := 6, locals := 123 }
theorem mf_AS_setDigit : zMV y_AS_setDigit b_AS_setDigit 4 (some .int) 2 := ⟨q822, q823, q1, q824, by decide +kernel⟩
def M_AS_setDigit (p0 : Nat) (x1 : Int) (x2 : Int) (h : zH) (K : Int → zH → Prop) (XK : Nat → zH → Prop) : Prop :=
  M_Tape_hasDigit ((p0 + 37) + 3) x1 h (fun r_2 h_1 => (r_2 ≠ 0 → (M_AS_isDigit x2 h_1 (fun r_4 h_3 => (r_4 ≠ 0 → ((0 ≤ x1 ∧ x1 < 80) ∧ ((∀ x3_6 : Int, x3_6 = h_3 (((p0 + 37) + 3) + 2) x1.toNat → (M_History_remember (p0 + 44) (p0 + 37) h_3 (fun h_7 => (0 ≤ x1 ∧ x1 < 80) ∧ (∀ h_10 : zH, h_10 = zs h_7 (((p0 + 37) + 3) + 2) x1.toNat x2 → (K x3_6 h_10)))))))) ∧ (r_4 = 0 → (XK 1 h_3))))) ∧ (r_2 = 0 → (XK 3 h_1)))
set_option maxRecDepth 100000 in
theorem c_AS_setDigit {l : Launch} (hfl : l.flags = flags0) {g : zG} {n : Nat} {p0 : Nat} {x1 : Int} {x2 : Int} (op0 : zO n p0 10) (rx1 : zr x1) (rx2 : zr x2) {h : zH} (hh : zh h) {K : Int → zH → Prop} {XK : Nat → zH → Prop} (hv : M_AS_setDigit p0 x1 x2 h K XK) : zMetX l y_AS_setDigit b_AS_setDigit 4 (some .int) rm_AS_setDigit g n [.ref (g.2.2 p0), zi x1, zi x2] h (zPi K) XK := by
  refine zMetX_of hfl (by decide) rfl (Nat.le_of_ble_eq_true rfl) ⟨rfl, rfl, by decide, by decide⟩ (fun Wf m H0 X E T => ?_)
  unfold M_AS_setDigit at hv
  show zW Wf m 4 g n H0 0 [(0, .ref (g.2.2 p0)), (1, zi x1), (2, zi x2)] [] h
  refine z_aload_n (pc := 0) (q := 0) X d_AS_setDigit_0 rfl ?_
  refine z_getr (pc := 1) (j := 2) (dd := 37) X cf_AS op0 (by decide) q368 rfl rfl d_AS_setDigit_1 ?_
  refine z_getrN (pc := 4) (j := 2) (dd := 3) X cf_State (gf_AS_2 op0) (by decide) q176 rfl rfl d_AS_setDigit_4 ?_
  refine z_iload_n (pc := 7) (q := 1) X d_AS_setDigit_7 rfl ?_
  refine z_callVNi (pc := 8) (As := [zi x1]) (rest := []) X (fun l hl => c_Tape_hasDigit hl (gf_State_2 (gf_AS_2 op0)) rx1 hh hv) cf_Tape (gf_State_2 (gf_AS_2 op0)) rfl mf_Tape_hasDigit q691 ⟨⟨by decide, by decide⟩, rfl, rfl⟩ rfl d_AS_setDigit_8 rfl (Nat.le_of_ble_eq_true rfl) (fun r_2 h_1 rr_2 zh_1 hv => ?_)
  refine z_if_ne (pc := 11) (tgt := 25) X rr_2 d_AS_setDigit_11 (by decide) (fun hc => ?_) (fun hc => ?_)
  · replace hv := hv.1 hc
    refine z_iload_n (pc := 25) (q := 2) X d_AS_setDigit_25 rfl ?_
    refine z_callSi (pc := 26) (As := [zi x2]) (rest := []) X (fun l hl => c_AS_isDigit hl rx2 zh_1 hv) mf_AS_isDigit q826 ⟨⟨by decide, by decide⟩, rfl, rfl⟩ rfl d_AS_setDigit_26 rfl (Nat.le_of_ble_eq_true rfl) (fun r_4 h_3 rr_4 zh_3 hv => ?_)
    refine z_if_ne (pc := 29) (tgt := 43) X rr_4 d_AS_setDigit_29 (by decide) (fun hc => ?_) (fun hc => ?_)
    · replace hv := hv.1 hc
      refine z_aload_n (pc := 43) (q := 0) X d_AS_setDigit_43 rfl ?_
      refine z_getr (pc := 44) (j := 2) (dd := 37) X cf_AS op0 (by decide) q368 rfl rfl d_AS_setDigit_44 ?_
      refine z_getrN (pc := 47) (j := 2) (dd := 3) X cf_State (gf_AS_2 op0) (by decide) q176 rfl rfl d_AS_setDigit_47 ?_
      refine z_getrN (pc := 50) (j := 1) (dd := 2) X cf_Tape (gf_State_2 (gf_AS_2 op0)) (by decide) q146 rfl rfl d_AS_setDigit_50 ?_
      refine z_iload_n (pc := 53) (q := 1) X d_AS_setDigit_53 rfl ?_
      obtain ⟨v_5, hv⟩ := hv
      refine z_ialdj (pc := 54) (j := x1.toNat) X (gf_Tape_1 (gf_State_2 (gf_AS_2 op0))) (gl_Tape_1 (gf_State_2 (gf_AS_2 op0))) rx1 v_5 rfl d_AS_setDigit_54 ?_
      refine z_topi (fun x3_6 ex3_6 => ?_)
      have rx3_6 : zr x3_6 := by rw [ex3_6]; exact (zh_3.1 _ _ (zO.ne (gf_Tape_1 (gf_State_2 (gf_AS_2 op0))) (by decide)))
      replace hv := hv x3_6 ex3_6
      refine z_istore_n (pc := 55) (lv' := [(3, zi x3_6), (0, .ref (g.2.2 p0)), (1, zi x1), (2, zi x2)]) X d_AS_setDigit_55 (by decide) rfl ?_
      refine z_aload_n (pc := 56) (q := 1) X d_AS_setDigit_56 rfl ?_
      refine z_getr (pc := 57) (j := 3) (dd := 44) X cf_AS op0 (by decide) q369 rfl rfl d_AS_setDigit_57 ?_
      refine z_aload_n (pc := 60) (q := 1) X d_AS_setDigit_60 rfl ?_
      refine z_getr (pc := 61) (j := 2) (dd := 37) X cf_AS op0 (by decide) q368 rfl rfl d_AS_setDigit_61 ?_
      refine z_callVNv (pc := 64) (As := [.ref (g.2.2 (p0 + 37))]) (rest := []) X (fun l hl => c_History_remember hl (gf_AS_3 op0) (gf_AS_2 op0) zh_3 hv) cf_History (gf_AS_3 op0) rfl mf_History_remember q713 ⟨⟨by decide, by decide⟩, rfl, rfl⟩ rfl d_AS_setDigit_64 rfl (Nat.le_of_ble_eq_true rfl) (fun h_7 zh_7 hv => ?_)
      refine z_aload_n (pc := 67) (q := 1) X d_AS_setDigit_67 rfl ?_
      refine z_getr (pc := 68) (j := 2) (dd := 37) X cf_AS op0 (by decide) q368 rfl rfl d_AS_setDigit_68 ?_
      refine z_getrN (pc := 71) (j := 2) (dd := 3) X cf_State (gf_AS_2 op0) (by decide) q176 rfl rfl d_AS_setDigit_71 ?_
      refine z_getrN (pc := 74) (j := 1) (dd := 2) X cf_Tape (gf_State_2 (gf_AS_2 op0)) (by decide) q146 rfl rfl d_AS_setDigit_74 ?_
      refine z_iload_n (pc := 77) (q := 2) X d_AS_setDigit_77 rfl ?_
      refine z_iload_n (pc := 78) (q := 3) X d_AS_setDigit_78 rfl ?_
      obtain ⟨v_9, hv⟩ := hv
      refine z_iastj (pc := 79) (j := x1.toNat) X (gf_Tape_1 (gf_State_2 (gf_AS_2 op0))) (gl_Tape_1 (gf_State_2 (gf_AS_2 op0))) rx1 v_9 rfl d_AS_setDigit_79 ?_
      refine z_toph (fun h_10 eh_10 => ?_)
      have zh_10 : zh h_10 := by rw [eh_10]; exact zh_set zh_7 (zO.ne (gf_Tape_1 (gf_State_2 (gf_AS_2 op0))) (by decide)) rx2
      replace hv := hv h_10 eh_10
      refine z_iload_n (pc := 80) (q := 0) X d_AS_setDigit_80 rfl ?_
      exact E.2.1 rfl _ _ _ _ d_AS_setDigit_81 ⟨_, rfl, rx3_6, zh_10, hv⟩
    · replace hv := hv.2 hc
      exact T _ _ _ 1 _ _ _ _ _ (by decide +kernel : (1, "java/lang/IllegalArgumentException", 83, 87) ∈ zExc) zst_287 ⟨d_AS_setDigit_32, d_AS_setDigit_35, Or.inr ⟨d_AS_setDigit_36, d_AS_setDigit_39, d_AS_setDigit_42⟩⟩ zh_3 hv
  · replace hv := hv.2 hc
    exact T _ _ _ 3 _ _ _ _ _ (by decide +kernel : (3, "java/lang/IndexOutOfBoundsException", 163, 167) ∈ zExc) zst_282 ⟨d_AS_setDigit_14, d_AS_setDigit_17, Or.inr ⟨d_AS_setDigit_18, d_AS_setDigit_21, d_AS_setDigit_24⟩⟩ zh_1 hv
theorem d_AS_setHead_0 : decode b_AS_setHead 0 = .ok (.iload_n 1, 1) := by decide +kernel
theorem d_AS_setHead_1 : decode b_AS_setHead 1 = .ok (.invokestatic 222, 3) := by decide +kernel
theorem d_AS_setHead_4 : decode b_AS_setHead 4 = .ok (.ifCond .ne 14, 3) := by decide +kernel
theorem d_AS_setHead_7 : decode b_AS_setHead 7 = .ok (.new 163, 3) := by decide +kernel
theorem d_AS_setHead_10 : decode b_AS_setHead 10 = .ok (.dup, 1) := by decide +kernel
theorem d_AS_setHead_11 : decode b_AS_setHead 11 = .ok (.ldc_w 289, 3) := by decide +kernel
theorem d_AS_setHead_14 : decode b_AS_setHead 14 = .ok (.invokespecial 167, 3) := by decide +kernel
theorem d_AS_setHead_17 : decode b_AS_setHead 17 = .ok (.athrow, 1) := by decide +kernel
theorem d_AS_setHead_18 : decode b_AS_setHead 18 = .ok (.iload_n 2, 1) := by decide +kernel
theorem d_AS_setHead_19 : decode b_AS_setHead 19 = .ok (.sipush 512, 3) := by decide +kernel
theorem d_AS_setHead_22 : decode b_AS_setHead 22 = .ok (.if_icmp .lt 10, 3) := by decide +kernel
theorem d_AS_setHead_25 : decode b_AS_setHead 25 = .ok (.iload_n 2, 1) := by decide +kernel
theorem d_AS_setHead_26 : decode b_AS_setHead 26 = .ok (.sipush 8191, 3) := by decide +kernel
theorem d_AS_setHead_29 : decode b_AS_setHead 29 = .ok (.if_icmp .le 14, 3) := by decide +kernel
theorem d_AS_setHead_32 : decode b_AS_setHead 32 = .ok (.new 83, 3) := by decide +kernel
theorem d_AS_setHead_35 : decode b_AS_setHead 35 = .ok (.dup, 1) := by decide +kernel
theorem d_AS_setHead_36 : decode b_AS_setHead 36 = .ok (.ldc_w 291, 3) := by decide +kernel
theorem d_AS_setHead_39 : decode b_AS_setHead 39 = .ok (.invokespecial 87, 3) := by decide +kernel
theorem d_AS_setHead_42 : decode b_AS_setHead 42 = .ok (.athrow, 1) := by decide +kernel
theorem d_AS_setHead_43 : decode b_AS_setHead 43 = .ok (.aload_n 0, 1) := by decide +kernel
theorem d_AS_setHead_44 : decode b_AS_setHead 44 = .ok (.getfield 26, 3) := by decide +kernel
theorem d_AS_setHead_47 : decode b_AS_setHead 47 = .ok (.getfield 137, 3) := by decide +kernel
theorem d_AS_setHead_50 : decode b_AS_setHead 50 = .ok (.getfield 225, 3) := by decide +kernel
theorem d_AS_setHead_53 : decode b_AS_setHead 53 = .ok (.iload_n 1, 1) := by decide +kernel
theorem d_AS_setHead_54 : decode b_AS_setHead 54 = .ok (.iaload, 1) := by decide +kernel
theorem d_AS_setHead_55 : decode b_AS_setHead 55 = .ok (.istore_n 3, 1) := by decide +kernel
theorem d_AS_setHead_56 : decode b_AS_setHead 56 = .ok (.aload_n 0, 1) := by decide +kernel
theorem d_AS_setHead_57 : decode b_AS_setHead 57 = .ok (.getfield 33, 3) := by decide +kernel
theorem d_AS_setHead_60 : decode b_AS_setHead 60 = .ok (.aload_n 0, 1) := by decide +kernel
theorem d_AS_setHead_61 : decode b_AS_setHead 61 = .ok (.getfield 26, 3) := by decide +kernel
theorem d_AS_setHead_64 : decode b_AS_setHead 64 = .ok (.invokevirtual 237, 3) := by decide +kernel
theorem d_AS_setHead_67 : decode b_AS_setHead 67 = .ok (.aload_n 0, 1) := by decide +kernel
theorem d_AS_setHead_68 : decode b_AS_setHead 68 = .ok (.getfield 26, 3) := by decide +kernel
theorem d_AS_setHead_71 : decode b_AS_setHead 71 = .ok (.getfield 137, 3) := by decide +kernel
theorem d_AS_setHead_74 : decode b_AS_setHead 74 = .ok (.getfield 225, 3) := by decide +kernel
theorem d_AS_setHead_77 : decode b_AS_setHead 77 = .ok (.iload_n 1, 1) := by decide +kernel
theorem d_AS_setHead_78 : decode b_AS_setHead 78 = .ok (.iload_n 2, 1) := by decide +kernel
theorem d_AS_setHead_79 : decode b_AS_setHead 79 = .ok (.iastore, 1) := by decide +kernel
theorem d_AS_setHead_80 : decode b_AS_setHead 80 = .ok (.iload_n 3, 1) := by decide +kernel
theorem d_AS_setHead_81 : decode b_AS_setHead 81 = .ok (.ireturn, 1) := by decide +kernel
def rm_AS_setHead : Room := { frames := 6, cells := 1, slots := 6, locals := 123 }
theorem mf_AS_setHead : zMV y_AS_setHead b_AS_setHead 4 (some .int) 2 := ⟨q834, q835, q1, q836, by decide +kernel⟩
def M_AS_setHead (p0 : Nat) (x1 : Int) (x2 : Int) (h : zH) (K : Int → zH → Prop) (XK : Nat → zH → Prop) : Prop :=
  M_AS_isHead x1 h (fun r_2 h_1 => (r_2 ≠ 0 → ((x2 < 512 → (XK 1 h_1)) ∧ (512 ≤ x2 → ((x2 ≤ 8191 → ((0 ≤ x1 ∧ x1 < 2) ∧ ((∀ x3_4 : Int, x3_4 = h_1 (((p0 + 37) + 3) + 3) x1.toNat → (M_History_remember (p0 + 44) (p0 + 37) h_1 (fun h_5 => (0 ≤ x1 ∧ x1 < 2) ∧ (∀ h_8 : zH, h_8 = zs h_5 (((p0 + 37) + 3) + 3) x1.toNat x2 → (K x3_4 h_8)))))))) ∧ (8191 < x2 → (XK 1 h_1)))))) ∧ (r_2 = 0 → (XK 3 h_1)))
set_option maxRecDepth 100000 in
theorem c_AS_setHead {l : Launch} (hfl : l.flags = flags0) {g : zG} {n : Nat} {p0 : Nat} {x1 : Int} {x2 : Int} (op0 : zO n p0 10) (rx1 : zr x1) (rx2 : zr x2) {h : zH} (hh : zh h) {K : Int → zH → Prop} {XK : Nat → zH → Prop} (hv : M_AS_setHead p0 x1 x2 h K XK) : zMetX l y_AS_setHead b_AS_setHead 4 (some .int) rm_AS_setHead g n [.ref (g.2.2 p0), zi x1, zi x2] h (zPi K) XK := by
  refine zMetX_of hfl (by decide) rfl (Nat.le_of_ble_eq_true rfl) ⟨rfl, rfl, by decide, by decide⟩ (fun Wf m H0 X E T => ?_)
  unfold M_AS_setHead at hv
  show zW Wf m 4 g n H0 0 [(0, .ref (g.2.2 p0)), (1, zi x1), (2, zi x2)] [] h
  refine z_iload_n (pc := 0) (q := 1) X d_AS_setHead_0 rfl ?_
  refine z_callSi (pc := 1) (As := [zi x1]) (rest := []) X (fun l hl => c_AS_isHead hl rx1 hh hv) mf_AS_isHead q696 ⟨⟨by decide, by decide⟩, rfl, rfl⟩ rfl d_AS_setHead_1 rfl (Nat.le_of_ble_eq_true rfl) (fun r_2 h_1 rr_2 zh_1 hv => ?_)
  refine z_if_ne (pc := 4) (tgt := 18) X rr_2 d_AS_setHead_4 (by decide) (fun hc => ?_) (fun hc => ?_)
  · replace hv := hv.1 hc
    refine z_iload_n (pc := 18) (q := 2) X d_AS_setHead_18 rfl ?_
    refine z_sipush (pc := 19) X d_AS_setHead_19 (by decide) ?_
    refine z_icmp_lt (pc := 22) (tgt := 32) X rx2 (show zr 512 from by decide) d_AS_setHead_22 (by decide) (fun hc => ?_) (fun hc => ?_)
    · replace hv := hv.1 hc
      exact T _ _ _ 1 _ _ _ _ _ (by decide +kernel : (1, "java/lang/IllegalArgumentException", 83, 87) ∈ zExc) zst_291 ⟨d_AS_setHead_32, d_AS_setHead_35, Or.inr ⟨d_AS_setHead_36, d_AS_setHead_39, d_AS_setHead_42⟩⟩ zh_1 hv
    · replace hv := hv.2 hc
      refine z_iload_n (pc := 25) (q := 2) X d_AS_setHead_25 rfl ?_
      refine z_sipush (pc := 26) X d_AS_setHead_26 (by decide) ?_
      refine z_icmp_le (pc := 29) (tgt := 43) X rx2 (show zr 8191 from by decide) d_AS_setHead_29 (by decide) (fun hc => ?_) (fun hc => ?_)
      · replace hv := hv.1 hc
        refine z_aload_n (pc := 43) (q := 0) X d_AS_setHead_43 rfl ?_
        refine z_getr (pc := 44) (j := 2) (dd := 37) X cf_AS op0 (by decide) q368 rfl rfl d_AS_setHead_44 ?_
        refine z_getrN (pc := 47) (j := 2) (dd := 3) X cf_State (gf_AS_2 op0) (by decide) q176 rfl rfl d_AS_setHead_47 ?_
        refine z_getrN (pc := 50) (j := 2) (dd := 3) X cf_Tape (gf_State_2 (gf_AS_2 op0)) (by decide) q149 rfl rfl d_AS_setHead_50 ?_
        refine z_iload_n (pc := 53) (q := 1) X d_AS_setHead_53 rfl ?_
        obtain ⟨v_3, hv⟩ := hv
        refine z_ialdj (pc := 54) (j := x1.toNat) X (gf_Tape_2 (gf_State_2 (gf_AS_2 op0))) (gl_Tape_2 (gf_State_2 (gf_AS_2 op0))) rx1 v_3 rfl d_AS_setHead_54 ?_
        refine z_topi (fun x3_4 ex3_4 => ?_)
        have rx3_4 : zr x3_4 := by rw [ex3_4]; exact (zh_1.1 _ _ (zO.ne (gf_Tape_2 (gf_State_2 (gf_AS_2 op0))) (by decide)))
        replace hv := hv x3_4 ex3_4
        refine z_istore_n (pc := 55) (lv' := [(3, zi x3_4), (0, .ref (g.2.2 p0)), (1, zi x1), (2, zi x2)]) X d_AS_setHead_55 (by decide) rfl ?_
        refine z_aload_n (pc := 56) (q := 1) X d_AS_setHead_56 rfl ?_
        refine z_getr (pc := 57) (j := 3) (dd := 44) X cf_AS op0 (by decide) q369 rfl rfl d_AS_setHead_57 ?_
        refine z_aload_n (pc := 60) (q := 1) X d_AS_setHead_60 rfl ?_
        refine z_getr (pc := 61) (j := 2) (dd := 37) X cf_AS op0 (by decide) q368 rfl rfl d_AS_setHead_61 ?_
        refine z_callVNv (pc := 64) (As := [.ref (g.2.2 (p0 + 37))]) (rest := []) X (fun l hl => c_History_remember hl (gf_AS_3 op0) (gf_AS_2 op0) zh_1 hv) cf_History (gf_AS_3 op0) rfl mf_History_remember q713 ⟨⟨by decide, by decide⟩, rfl, rfl⟩ rfl d_AS_setHead_64 rfl (Nat.le_of_ble_eq_true rfl) (fun h_5 zh_5 hv => ?_)
        refine z_aload_n (pc := 67) (q := 1) X d_AS_setHead_67 rfl ?_
        refine z_getr (pc := 68) (j := 2) (dd := 37) X cf_AS op0 (by decide) q368 rfl rfl d_AS_setHead_68 ?_
        refine z_getrN (pc := 71) (j := 2) (dd := 3) X cf_State (gf_AS_2 op0) (by decide) q176 rfl rfl d_AS_setHead_71 ?_
        refine z_getrN (pc := 74) (j := 2) (dd := 3) X cf_Tape (gf_State_2 (gf_AS_2 op0)) (by decide) q149 rfl rfl d_AS_setHead_74 ?_
        refine z_iload_n (pc := 77) (q := 2) X d_AS_setHead_77 rfl ?_
        refine z_iload_n (pc := 78) (q := 3) X d_AS_setHead_78 rfl ?_
        obtain ⟨v_7, hv⟩ := hv
        refine z_iastj (pc := 79) (j := x1.toNat) X (gf_Tape_2 (gf_State_2 (gf_AS_2 op0))) (gl_Tape_2 (gf_State_2 (gf_AS_2 op0))) rx1 v_7 rfl d_AS_setHead_79 ?_
        refine z_toph (fun h_8 eh_8 => ?_)
        have zh_8 : zh h_8 := by rw [eh_8]; exact zh_set zh_5 (zO.ne (gf_Tape_2 (gf_State_2 (gf_AS_2 op0))) (by decide)) rx2
        replace hv := hv h_8 eh_8
        refine z_iload_n (pc := 80) (q := 0) X d_AS_setHead_80 rfl ?_
        exact E.2.1 rfl _ _ _ _ d_AS_setHead_81 ⟨_, rfl, rx3_4, zh_8, hv⟩
      · replace hv := hv.2 hc
        exact T _ _ _ 1 _ _ _ _ _ (by decide +kernel : (1, "java/lang/IllegalArgumentException", 83, 87) ∈ zExc) zst_291 ⟨d_AS_setHead_32, d_AS_setHead_35, Or.inr ⟨d_AS_setHead_36, d_AS_setHead_39, d_AS_setHead_42⟩⟩ zh_1 hv
  · replace hv := hv.2 hc
    exact T _ _ _ 3 _ _ _ _ _ (by decide +kernel : (3, "java/lang/IndexOutOfBoundsException", 163, 167) ∈ zExc) zst_289 ⟨d_AS_setHead_7, d_AS_setHead_10, Or.inr ⟨d_AS_setHead_11, d_AS_setHead_14, d_AS_setHead_17⟩⟩ zh_1 hv
theorem d_AS_setPlan_0 : decode b_AS_setPlan 0 = .ok (.aload_n 0, 1) := by decide +kernel
theorem d_AS_setPlan_1 : decode b_AS_setPlan 1 = .ok (.getfield 26, 3) := by decide +kernel
theorem d_AS_setPlan_4 : decode b_AS_setPlan 4 = .ok (.getfield 137, 3) := by decide +kernel
theorem d_AS_setPlan_7 : decode b_AS_setPlan 7 = .ok (.iload_n 1, 1) := by decide +kernel
theorem d_AS_setPlan_8 : decode b_AS_setPlan 8 = .ok (.invokevirtual 216, 3) := by decide +kernel
theorem d_AS_setPlan_11 : decode b_AS_setPlan 11 = .ok (.ifCond .eq 14, 3) := by decide +kernel
theorem d_AS_setPlan_14 : decode b_AS_setPlan 14 = .ok (.aload_n 0, 1) := by decide +kernel
theorem d_AS_setPlan_15 : decode b_AS_setPlan 15 = .ok (.getfield 19, 3) := by decide +kernel
theorem d_AS_setPlan_18 : decode b_AS_setPlan 18 = .ok (.iload_n 2, 1) := by decide +kernel
theorem d_AS_setPlan_19 : decode b_AS_setPlan 19 = .ok (.invokevirtual 156, 3) := by decide +kernel
theorem d_AS_setPlan_22 : decode b_AS_setPlan 22 = .ok (.ifCond .ne 14, 3) := by decide +kernel
theorem d_AS_setPlan_25 : decode b_AS_setPlan 25 = .ok (.new 163, 3) := by decide +kernel
theorem d_AS_setPlan_28 : decode b_AS_setPlan 28 = .ok (.dup, 1) := by decide +kernel
theorem d_AS_setPlan_29 : decode b_AS_setPlan 29 = .ok (.ldc_w 293, 3) := by decide +kernel
theorem d_AS_setPlan_32 : decode b_AS_setPlan 32 = .ok (.invokespecial 167, 3) := by decide +kernel
theorem d_AS_setPlan_35 : decode b_AS_setPlan 35 = .ok (.athrow, 1) := by decide +kernel
theorem d_AS_setPlan_36 : decode b_AS_setPlan 36 = .ok (.aload_n 0, 1) := by decide +kernel
theorem d_AS_setPlan_37 : decode b_AS_setPlan 37 = .ok (.getfield 26, 3) := by decide +kernel
theorem d_AS_setPlan_40 : decode b_AS_setPlan 40 = .ok (.getfield 137, 3) := by decide +kernel
theorem d_AS_setPlan_43 : decode b_AS_setPlan 43 = .ok (.getfield 219, 3) := by decide +kernel
theorem d_AS_setPlan_46 : decode b_AS_setPlan 46 = .ok (.iload_n 1, 1) := by decide +kernel
theorem d_AS_setPlan_47 : decode b_AS_setPlan 47 = .ok (.iaload, 1) := by decide +kernel
theorem d_AS_setPlan_48 : decode b_AS_setPlan 48 = .ok (.istore_n 3, 1) := by decide +kernel
theorem d_AS_setPlan_49 : decode b_AS_setPlan 49 = .ok (.aload_n 0, 1) := by decide +kernel
theorem d_AS_setPlan_50 : decode b_AS_setPlan 50 = .ok (.getfield 33, 3) := by decide +kernel
theorem d_AS_setPlan_53 : decode b_AS_setPlan 53 = .ok (.aload_n 0, 1) := by decide +kernel
theorem d_AS_setPlan_54 : decode b_AS_setPlan 54 = .ok (.getfield 26, 3) := by decide +kernel
theorem d_AS_setPlan_57 : decode b_AS_setPlan 57 = .ok (.invokevirtual 237, 3) := by decide +kernel
theorem d_AS_setPlan_60 : decode b_AS_setPlan 60 = .ok (.aload_n 0, 1) := by decide +kernel
theorem d_AS_setPlan_61 : decode b_AS_setPlan 61 = .ok (.getfield 26, 3) := by decide +kernel
theorem d_AS_setPlan_64 : decode b_AS_setPlan 64 = .ok (.getfield 137, 3) := by decide +kernel
theorem d_AS_setPlan_67 : decode b_AS_setPlan 67 = .ok (.getfield 219, 3) := by decide +kernel
theorem d_AS_setPlan_70 : decode b_AS_setPlan 70 = .ok (.iload_n 1, 1) := by decide +kernel
theorem d_AS_setPlan_71 : decode b_AS_setPlan 71 = .ok (.iload_n 2, 1) := by decide +kernel
theorem d_AS_setPlan_72 : decode b_AS_setPlan 72 = .ok (.iastore, 1) := by decide +kernel
theorem d_AS_setPlan_73 : decode b_AS_setPlan 73 = .ok (.iload_n 3, 1) := by decide +kernel
theorem d_AS_setPlan_74 : decode b_AS_setPlan 74 = .ok (.ireturn, 1) := by decide +kernel
def rm_AS_setPlan : Room := { frames := 6, cells := 1, slots := 6, locals := 123 }
theorem mf_AS_setPlan : zMV y_AS_setPlan b_AS_setPlan 4 (some .int) 2 := ⟨q843, q844, q1, q845, by decide +kernel⟩
def M_AS_setPlan (p0 : Nat) (x1 : Int) (x2 : Int) (h : zH) (K : Int → zH → Prop) (XK : Nat → zH → Prop) : Prop :=
  M_Tape_hasPlanned ((p0 + 37) + 3) x1 h (fun r_2 h_1 => (r_2 = 0 → (XK 3 h_1)) ∧ (r_2 ≠ 0 → (M_Models_hasModel (p0 + 5) x2 h_1 (fun r_4 h_3 => (r_4 ≠ 0 → ((0 ≤ x1 ∧ x1 < 40) ∧ ((∀ x3_6 : Int, x3_6 = h_3 (((p0 + 37) + 3) + 1) x1.toNat → (M_History_remember (p0 + 44) (p0 + 37) h_3 (fun h_7 => (0 ≤ x1 ∧ x1 < 40) ∧ (∀ h_10 : zH, h_10 = zs h_7 (((p0 + 37) + 3) + 1) x1.toNat x2 → (K x3_6 h_10)))))))) ∧ (r_4 = 0 → (XK 3 h_3))))))
set_option maxRecDepth 100000 in
theorem c_AS_setPlan {l : Launch} (hfl : l.flags = flags0) {g : zG} {n : Nat} {p0 : Nat} {x1 : Int} {x2 : Int} (op0 : zO n p0 10) (rx1 : zr x1) (rx2 : zr x2) {h : zH} (hh : zh h) {K : Int → zH → Prop} {XK : Nat → zH → Prop} (hv : M_AS_setPlan p0 x1 x2 h K XK) : zMetX l y_AS_setPlan b_AS_setPlan 4 (some .int) rm_AS_setPlan g n [.ref (g.2.2 p0), zi x1, zi x2] h (zPi K) XK := by
  refine zMetX_of hfl (by decide) rfl (Nat.le_of_ble_eq_true rfl) ⟨rfl, rfl, by decide, by decide⟩ (fun Wf m H0 X E T => ?_)
  unfold M_AS_setPlan at hv
  show zW Wf m 4 g n H0 0 [(0, .ref (g.2.2 p0)), (1, zi x1), (2, zi x2)] [] h
  refine z_aload_n (pc := 0) (q := 0) X d_AS_setPlan_0 rfl ?_
  refine z_getr (pc := 1) (j := 2) (dd := 37) X cf_AS op0 (by decide) q368 rfl rfl d_AS_setPlan_1 ?_
  refine z_getrN (pc := 4) (j := 2) (dd := 3) X cf_State (gf_AS_2 op0) (by decide) q176 rfl rfl d_AS_setPlan_4 ?_
  refine z_iload_n (pc := 7) (q := 1) X d_AS_setPlan_7 rfl ?_
  refine z_callVNi (pc := 8) (As := [zi x1]) (rest := []) X (fun l hl => c_Tape_hasPlanned hl (gf_State_2 (gf_AS_2 op0)) rx1 hh hv) cf_Tape (gf_State_2 (gf_AS_2 op0)) rfl mf_Tape_hasPlanned q692 ⟨⟨by decide, by decide⟩, rfl, rfl⟩ rfl d_AS_setPlan_8 rfl (Nat.le_of_ble_eq_true rfl) (fun r_2 h_1 rr_2 zh_1 hv => ?_)
  refine z_if_eq (pc := 11) (tgt := 25) X rr_2 d_AS_setPlan_11 (by decide) (fun hc => ?_) (fun hc => ?_)
  · replace hv := hv.1 hc
    exact T _ _ _ 3 _ _ _ _ _ (by decide +kernel : (3, "java/lang/IndexOutOfBoundsException", 163, 167) ∈ zExc) zst_293 ⟨d_AS_setPlan_25, d_AS_setPlan_28, Or.inr ⟨d_AS_setPlan_29, d_AS_setPlan_32, d_AS_setPlan_35⟩⟩ zh_1 hv
  · replace hv := hv.2 hc
    refine z_aload_n (pc := 14) (q := 0) X d_AS_setPlan_14 rfl ?_
    refine z_getr (pc := 15) (j := 1) (dd := 5) X cf_AS op0 (by decide) q367 rfl rfl d_AS_setPlan_15 ?_
    refine z_iload_n (pc := 18) (q := 2) X d_AS_setPlan_18 rfl ?_
    refine z_callVNi (pc := 19) (As := [zi x2]) (rest := []) X (fun l hl => c_Models_hasModel hl (gf_AS_1 op0) rx2 zh_1 hv) cf_Models (gf_AS_1 op0) rfl mf_Models_hasModel q623 ⟨⟨by decide, by decide⟩, rfl, rfl⟩ rfl d_AS_setPlan_19 rfl (Nat.le_of_ble_eq_true rfl) (fun r_4 h_3 rr_4 zh_3 hv => ?_)
    refine z_if_ne (pc := 22) (tgt := 36) X rr_4 d_AS_setPlan_22 (by decide) (fun hc => ?_) (fun hc => ?_)
    · replace hv := hv.1 hc
      refine z_aload_n (pc := 36) (q := 0) X d_AS_setPlan_36 rfl ?_
      refine z_getr (pc := 37) (j := 2) (dd := 37) X cf_AS op0 (by decide) q368 rfl rfl d_AS_setPlan_37 ?_
      refine z_getrN (pc := 40) (j := 2) (dd := 3) X cf_State (gf_AS_2 op0) (by decide) q176 rfl rfl d_AS_setPlan_40 ?_
      refine z_getrN (pc := 43) (j := 0) (dd := 1) X cf_Tape (gf_State_2 (gf_AS_2 op0)) (by decide) q142 rfl rfl d_AS_setPlan_43 ?_
      refine z_iload_n (pc := 46) (q := 1) X d_AS_setPlan_46 rfl ?_
      obtain ⟨v_5, hv⟩ := hv
      refine z_ialdj (pc := 47) (j := x1.toNat) X (gf_Tape_0 (gf_State_2 (gf_AS_2 op0))) (gl_Tape_0 (gf_State_2 (gf_AS_2 op0))) rx1 v_5 rfl d_AS_setPlan_47 ?_
      refine z_topi (fun x3_6 ex3_6 => ?_)
      have rx3_6 : zr x3_6 := by rw [ex3_6]; exact (zh_3.1 _ _ (zO.ne (gf_Tape_0 (gf_State_2 (gf_AS_2 op0))) (by decide)))
      replace hv := hv x3_6 ex3_6
      refine z_istore_n (pc := 48) (lv' := [(3, zi x3_6), (0, .ref (g.2.2 p0)), (1, zi x1), (2, zi x2)]) X d_AS_setPlan_48 (by decide) rfl ?_
      refine z_aload_n (pc := 49) (q := 1) X d_AS_setPlan_49 rfl ?_
      refine z_getr (pc := 50) (j := 3) (dd := 44) X cf_AS op0 (by decide) q369 rfl rfl d_AS_setPlan_50 ?_
      refine z_aload_n (pc := 53) (q := 1) X d_AS_setPlan_53 rfl ?_
      refine z_getr (pc := 54) (j := 2) (dd := 37) X cf_AS op0 (by decide) q368 rfl rfl d_AS_setPlan_54 ?_
      refine z_callVNv (pc := 57) (As := [.ref (g.2.2 (p0 + 37))]) (rest := []) X (fun l hl => c_History_remember hl (gf_AS_3 op0) (gf_AS_2 op0) zh_3 hv) cf_History (gf_AS_3 op0) rfl mf_History_remember q713 ⟨⟨by decide, by decide⟩, rfl, rfl⟩ rfl d_AS_setPlan_57 rfl (Nat.le_of_ble_eq_true rfl) (fun h_7 zh_7 hv => ?_)
      refine z_aload_n (pc := 60) (q := 1) X d_AS_setPlan_60 rfl ?_
      refine z_getr (pc := 61) (j := 2) (dd := 37) X cf_AS op0 (by decide) q368 rfl rfl d_AS_setPlan_61 ?_
      refine z_getrN (pc := 64) (j := 2) (dd := 3) X cf_State (gf_AS_2 op0) (by decide) q176 rfl rfl d_AS_setPlan_64 ?_
      refine z_getrN (pc := 67) (j := 0) (dd := 1) X cf_Tape (gf_State_2 (gf_AS_2 op0)) (by decide) q142 rfl rfl d_AS_setPlan_67 ?_
      refine z_iload_n (pc := 70) (q := 2) X d_AS_setPlan_70 rfl ?_
      refine z_iload_n (pc := 71) (q := 3) X d_AS_setPlan_71 rfl ?_
      obtain ⟨v_9, hv⟩ := hv
      refine z_iastj (pc := 72) (j := x1.toNat) X (gf_Tape_0 (gf_State_2 (gf_AS_2 op0))) (gl_Tape_0 (gf_State_2 (gf_AS_2 op0))) rx1 v_9 rfl d_AS_setPlan_72 ?_
      refine z_toph (fun h_10 eh_10 => ?_)
      have zh_10 : zh h_10 := by rw [eh_10]; exact zh_set zh_7 (zO.ne (gf_Tape_0 (gf_State_2 (gf_AS_2 op0))) (by decide)) rx2
      replace hv := hv h_10 eh_10
      refine z_iload_n (pc := 73) (q := 0) X d_AS_setPlan_73 rfl ?_
      exact E.2.1 rfl _ _ _ _ d_AS_setPlan_74 ⟨_, rfl, rx3_6, zh_10, hv⟩
    · replace hv := hv.2 hc
      exact T _ _ _ 3 _ _ _ _ _ (by decide +kernel : (3, "java/lang/IndexOutOfBoundsException", 163, 167) ∈ zExc) zst_293 ⟨d_AS_setPlan_25, d_AS_setPlan_28, Or.inr ⟨d_AS_setPlan_29, d_AS_setPlan_32, d_AS_setPlan_35⟩⟩ zh_3 hv
theorem d_AS_undo_0 : decode b_AS_undo 0 = .ok (.aload_n 0, 1) := by decide +kernel
theorem d_AS_undo_1 : decode b_AS_undo 1 = .ok (.getfield 33, 3) := by decide +kernel
theorem d_AS_undo_4 : decode b_AS_undo 4 = .ok (.getfield 295, 3) := by decide +kernel
theorem d_AS_undo_7 : decode b_AS_undo 7 = .ok (.ifCond .gt 14, 3) := by decide +kernel
theorem d_AS_undo_10 : decode b_AS_undo 10 = .ok (.new 94, 3) := by decide +kernel
theorem d_AS_undo_13 : decode b_AS_undo 13 = .ok (.dup, 1) := by decide +kernel
theorem d_AS_undo_14 : decode b_AS_undo 14 = .ok (.ldc_w 296, 3) := by decide +kernel
theorem d_AS_undo_17 : decode b_AS_undo 17 = .ok (.invokespecial 98, 3) := by decide +kernel
theorem d_AS_undo_20 : decode b_AS_undo 20 = .ok (.athrow, 1) := by decide +kernel
theorem d_AS_undo_21 : decode b_AS_undo 21 = .ok (.aload_n 0, 1) := by decide +kernel
theorem d_AS_undo_22 : decode b_AS_undo 22 = .ok (.getfield 33, 3) := by decide +kernel
theorem d_AS_undo_25 : decode b_AS_undo 25 = .ok (.aload_n 0, 1) := by decide +kernel
theorem d_AS_undo_26 : decode b_AS_undo 26 = .ok (.getfield 26, 3) := by decide +kernel
theorem d_AS_undo_29 : decode b_AS_undo 29 = .ok (.invokevirtual 298, 3) := by decide +kernel
theorem d_AS_undo_32 : decode b_AS_undo 32 = .ok (.aload_n 0, 1) := by decide +kernel
theorem d_AS_undo_33 : decode b_AS_undo 33 = .ok (.getfield 19, 3) := by decide +kernel
theorem d_AS_undo_36 : decode b_AS_undo 36 = .ok (.aload_n 0, 1) := by decide +kernel
theorem d_AS_undo_37 : decode b_AS_undo 37 = .ok (.getfield 26, 3) := by decide +kernel
theorem d_AS_undo_40 : decode b_AS_undo 40 = .ok (.getfield 75, 3) := by decide +kernel
theorem d_AS_undo_43 : decode b_AS_undo 43 = .ok (.invokevirtual 79, 3) := by decide +kernel
theorem d_AS_undo_46 : decode b_AS_undo 46 = .ok (.aload_n 0, 1) := by decide +kernel
theorem d_AS_undo_47 : decode b_AS_undo 47 = .ok (.getfield 33, 3) := by decide +kernel
theorem d_AS_undo_50 : decode b_AS_undo 50 = .ok (.getfield 295, 3) := by decide +kernel
theorem d_AS_undo_53 : decode b_AS_undo 53 = .ok (.ireturn, 1) := by decide +kernel
def rm_AS_undo : Room := { frames := 6, cells := 1, slots := 6, locals := 123 }
theorem mf_AS_undo : zMV y_AS_undo b_AS_undo 1 (some .int) 0 := ⟨q851, q852, q1, q853, by decide +kernel⟩
def M_AS_undo (p0 : Nat) (h : zH) (K : Int → zH → Prop) (XK : Nat → zH → Prop) : Prop :=
  (0 < h (p0 + 44) 2 → (M_History_giveBack (p0 + 44) (p0 + 37) h (fun h_1 => M_Models_makeAll (p0 + 5) ((p0 + 37) + 1) h_1 (fun h_3 => K (h_3 (p0 + 44) 2) h_3)))) ∧ (h (p0 + 44) 2 ≤ 0 → (XK 2 h))
set_option maxRecDepth 100000 in
theorem c_AS_undo {l : Launch} (hfl : l.flags = flags0) {g : zG} {n : Nat} {p0 : Nat} (op0 : zO n p0 10) {h : zH} (hh : zh h) {K : Int → zH → Prop} {XK : Nat → zH → Prop} (hv : M_AS_undo p0 h K XK) : zMetX l y_AS_undo b_AS_undo 1 (some .int) rm_AS_undo g n [.ref (g.2.2 p0)] h (zPi K) XK := by
  refine zMetX_of hfl (by decide) rfl (Nat.le_of_ble_eq_true rfl) ⟨rfl, rfl, by decide, by decide⟩ (fun Wf m H0 X E T => ?_)
  unfold M_AS_undo at hv
  show zW Wf m 1 g n H0 0 [(0, .ref (g.2.2 p0))] [] h
  refine z_aload_n (pc := 0) (q := 0) X d_AS_undo_0 rfl ?_
  refine z_getr (pc := 1) (j := 3) (dd := 44) X cf_AS op0 (by decide) q369 rfl rfl d_AS_undo_1 ?_
  refine z_getiN (pc := 4) (j := 2) X cf_History (gf_AS_3 op0) (by decide) q202 rfl rfl d_AS_undo_4 ?_
  refine z_if_gt (pc := 7) (tgt := 21) X (hh.1 _ _ (zO.ne (gf_AS_3 op0) (by decide))) d_AS_undo_7 (by decide) (fun hc => ?_) (fun hc => ?_)
  · replace hv := hv.1 hc
    refine z_aload_n (pc := 21) (q := 0) X d_AS_undo_21 rfl ?_
    refine z_getr (pc := 22) (j := 3) (dd := 44) X cf_AS op0 (by decide) q369 rfl rfl d_AS_undo_22 ?_
    refine z_aload_n (pc := 25) (q := 0) X d_AS_undo_25 rfl ?_
    refine z_getr (pc := 26) (j := 2) (dd := 37) X cf_AS op0 (by decide) q368 rfl rfl d_AS_undo_26 ?_
    refine z_callVNv (pc := 29) (As := [.ref (g.2.2 (p0 + 37))]) (rest := []) X (fun l hl => c_History_giveBack hl (gf_AS_3 op0) (gf_AS_2 op0) hh hv) cf_History (gf_AS_3 op0) rfl mf_History_giveBack q855 ⟨⟨by decide, by decide⟩, rfl, rfl⟩ rfl d_AS_undo_29 rfl (Nat.le_of_ble_eq_true rfl) (fun h_1 zh_1 hv => ?_)
    refine z_aload_n (pc := 32) (q := 0) X d_AS_undo_32 rfl ?_
    refine z_getr (pc := 33) (j := 1) (dd := 5) X cf_AS op0 (by decide) q367 rfl rfl d_AS_undo_33 ?_
    refine z_aload_n (pc := 36) (q := 0) X d_AS_undo_36 rfl ?_
    refine z_getr (pc := 37) (j := 2) (dd := 37) X cf_AS op0 (by decide) q368 rfl rfl d_AS_undo_37 ?_
    refine z_getrN (pc := 40) (j := 0) (dd := 1) X cf_State (gf_AS_2 op0) (by decide) q170 rfl rfl d_AS_undo_40 ?_
    refine z_callVNv (pc := 43) (As := [.ref (g.2.2 ((p0 + 37) + 1))]) (rest := []) X (fun l hl => c_Models_makeAll hl (gf_AS_1 op0) (gf_State_0 (gf_AS_2 op0)) zh_1 hv) cf_Models (gf_AS_1 op0) rfl mf_Models_makeAll q313 ⟨⟨by decide, by decide⟩, rfl, rfl⟩ rfl d_AS_undo_43 rfl (Nat.le_of_ble_eq_true rfl) (fun h_3 zh_3 hv => ?_)
    refine z_aload_n (pc := 46) (q := 0) X d_AS_undo_46 rfl ?_
    refine z_getr (pc := 47) (j := 3) (dd := 44) X cf_AS op0 (by decide) q369 rfl rfl d_AS_undo_47 ?_
    refine z_getiN (pc := 50) (j := 2) X cf_History (gf_AS_3 op0) (by decide) q202 rfl rfl d_AS_undo_50 ?_
    exact E.2.1 rfl _ _ _ _ d_AS_undo_53 ⟨_, rfl, (zh_3.1 _ _ (zO.ne (gf_AS_3 op0) (by decide))), zh_3, hv⟩
  · replace hv := hv.2 hc
    exact T _ _ _ 2 _ _ _ _ _ (by decide +kernel : (2, "java/lang/IllegalStateException", 94, 98) ∈ zExc) zst_296 ⟨d_AS_undo_10, d_AS_undo_13, Or.inr ⟨d_AS_undo_14, d_AS_undo_17, d_AS_undo_20⟩⟩ hh hv
theorem d_AS_taken_0 : decode b_AS_taken 0 = .ok (.aload_n 0, 1) := by decide +kernel
theorem d_AS_taken_1 : decode b_AS_taken 1 = .ok (.getfield 26, 3) := by decide +kernel
theorem d_AS_taken_4 : decode b_AS_taken 4 = .ok (.getfield 137, 3) := by decide +kernel
theorem d_AS_taken_7 : decode b_AS_taken 7 = .ok (.iload_n 1, 1) := by decide +kernel
theorem d_AS_taken_8 : decode b_AS_taken 8 = .ok (.invokevirtual 216, 3) := by decide +kernel
theorem d_AS_taken_11 : decode b_AS_taken 11 = .ok (.ifCond .ne 14, 3) := by decide +kernel
theorem d_AS_taken_14 : decode b_AS_taken 14 = .ok (.new 163, 3) := by decide +kernel
theorem d_AS_taken_17 : decode b_AS_taken 17 = .ok (.dup, 1) := by decide +kernel
theorem d_AS_taken_18 : decode b_AS_taken 18 = .ok (.ldc_w 301, 3) := by decide +kernel
theorem d_AS_taken_21 : decode b_AS_taken 21 = .ok (.invokespecial 167, 3) := by decide +kernel
theorem d_AS_taken_24 : decode b_AS_taken 24 = .ok (.athrow, 1) := by decide +kernel
theorem d_AS_taken_25 : decode b_AS_taken 25 = .ok (.iload_n 2, 1) := by decide +kernel
theorem d_AS_taken_26 : decode b_AS_taken 26 = .ok (.ifCond .lt 8, 3) := by decide +kernel
theorem d_AS_taken_29 : decode b_AS_taken 29 = .ok (.iload_n 2, 1) := by decide +kernel
theorem d_AS_taken_30 : decode b_AS_taken 30 = .ok (.iconst 3, 1) := by decide +kernel
theorem d_AS_taken_31 : decode b_AS_taken 31 = .ok (.if_icmp .le 14, 3) := by decide +kernel
theorem d_AS_taken_34 : decode b_AS_taken 34 = .ok (.new 83, 3) := by decide +kernel
theorem d_AS_taken_37 : decode b_AS_taken 37 = .ok (.dup, 1) := by decide +kernel
theorem d_AS_taken_38 : decode b_AS_taken 38 = .ok (.ldc_w 303, 3) := by decide +kernel
theorem d_AS_taken_41 : decode b_AS_taken 41 = .ok (.invokespecial 87, 3) := by decide +kernel
theorem d_AS_taken_44 : decode b_AS_taken 44 = .ok (.athrow, 1) := by decide +kernel
theorem d_AS_taken_45 : decode b_AS_taken 45 = .ok (.aload_n 0, 1) := by decide +kernel
theorem d_AS_taken_46 : decode b_AS_taken 46 = .ok (.getfield 54, 3) := by decide +kernel
theorem d_AS_taken_49 : decode b_AS_taken 49 = .ok (.aload_n 0, 1) := by decide +kernel
theorem d_AS_taken_50 : decode b_AS_taken 50 = .ok (.getfield 26, 3) := by decide +kernel
theorem d_AS_taken_53 : decode b_AS_taken 53 = .ok (.getfield 137, 3) := by decide +kernel
theorem d_AS_taken_56 : decode b_AS_taken 56 = .ok (.aload_n 0, 1) := by decide +kernel
theorem d_AS_taken_57 : decode b_AS_taken 57 = .ok (.getfield 19, 3) := by decide +kernel
theorem d_AS_taken_60 : decode b_AS_taken 60 = .ok (.invokevirtual 146, 3) := by decide +kernel
theorem d_AS_taken_63 : decode b_AS_taken 63 = .ok (.iload_n 2, 1) := by decide +kernel
theorem d_AS_taken_64 : decode b_AS_taken 64 = .ok (.tableswitch 58 0 2 #[28, 38, 48], 28) := by decide +kernel
theorem d_AS_taken_92 : decode b_AS_taken 92 = .ok (.aload_n 0, 1) := by decide +kernel
theorem d_AS_taken_93 : decode b_AS_taken 93 = .ok (.getfield 54, 3) := by decide +kernel
theorem d_AS_taken_96 : decode b_AS_taken 96 = .ok (.getfield 305, 3) := by decide +kernel
theorem d_AS_taken_99 : decode b_AS_taken 99 = .ok (.iload_n 1, 1) := by decide +kernel
theorem d_AS_taken_100 : decode b_AS_taken 100 = .ok (.iaload, 1) := by decide +kernel
theorem d_AS_taken_101 : decode b_AS_taken 101 = .ok (.ireturn, 1) := by decide +kernel
theorem d_AS_taken_102 : decode b_AS_taken 102 = .ok (.aload_n 0, 1) := by decide +kernel
theorem d_AS_taken_103 : decode b_AS_taken 103 = .ok (.getfield 54, 3) := by decide +kernel
theorem d_AS_taken_106 : decode b_AS_taken 106 = .ok (.getfield 307, 3) := by decide +kernel
theorem d_AS_taken_109 : decode b_AS_taken 109 = .ok (.iload_n 1, 1) := by decide +kernel
theorem d_AS_taken_110 : decode b_AS_taken 110 = .ok (.iaload, 1) := by decide +kernel
theorem d_AS_taken_111 : decode b_AS_taken 111 = .ok (.ireturn, 1) := by decide +kernel
theorem d_AS_taken_112 : decode b_AS_taken 112 = .ok (.aload_n 0, 1) := by decide +kernel
theorem d_AS_taken_113 : decode b_AS_taken 113 = .ok (.getfield 54, 3) := by decide +kernel
theorem d_AS_taken_116 : decode b_AS_taken 116 = .ok (.getfield 310, 3) := by decide +kernel
theorem d_AS_taken_119 : decode b_AS_taken 119 = .ok (.iload_n 1, 1) := by decide +kernel
theorem d_AS_taken_120 : decode b_AS_taken 120 = .ok (.iaload, 1) := by decide +kernel
theorem d_AS_taken_121 : decode b_AS_taken 121 = .ok (.ireturn, 1) := by decide +kernel
theorem d_AS_taken_122 : decode b_AS_taken 122 = .ok (.aload_n 0, 1) := by decide +kernel
theorem d_AS_taken_123 : decode b_AS_taken 123 = .ok (.getfield 54, 3) := by decide +kernel
theorem d_AS_taken_126 : decode b_AS_taken 126 = .ok (.getfield 313, 3) := by decide +kernel
theorem d_AS_taken_129 : decode b_AS_taken 129 = .ok (.iload_n 1, 1) := by decide +kernel
theorem d_AS_taken_130 : decode b_AS_taken 130 = .ok (.iaload, 1) := by decide +kernel
theorem d_AS_taken_131 : decode b_AS_taken 131 = .ok (.ireturn, 1) := by decide +kernel
def rm_AS_taken : Room := { frames := 6, cells := 1, slots := 6, locals := 90 }
theorem mf_AS_taken : zMV y_AS_taken b_AS_taken 3 (some .int) 2 := ⟨q863, q864, q1, q865, by decide +kernel⟩
def M_AS_taken (p0 : Nat) (x1 : Int) (x2 : Int) (h : zH) (K : Int → zH → Prop) (XK : Nat → zH → Prop) : Prop :=
  M_Tape_hasPlanned ((p0 + 37) + 3) x1 h (fun r_2 h_1 => (r_2 ≠ 0 → ((x2 < 0 → (XK 1 h_1)) ∧ (0 ≤ x2 → ((x2 ≤ 3 → (M_Taking_takeAll (p0 + 164) ((p0 + 37) + 3) (p0 + 5) h_1 (fun h_3 => ((x2 < 0 ∨ 2 < x2) → ((0 ≤ x1 ∧ x1 < 40) ∧ (K (h_3 ((p0 + 164) + 4) x1.toNat) h_3))) ∧ (x2 = 0 → ((0 ≤ x1 ∧ x1 < 40) ∧ (K (h_3 ((p0 + 164) + 1) x1.toNat) h_3))) ∧ (x2 = 1 → ((0 ≤ x1 ∧ x1 < 40) ∧ (K (h_3 ((p0 + 164) + 2) x1.toNat) h_3))) ∧ (x2 = 2 → ((0 ≤ x1 ∧ x1 < 40) ∧ (K (h_3 ((p0 + 164) + 3) x1.toNat) h_3)))))) ∧ (3 < x2 → (XK 1 h_1)))))) ∧ (r_2 = 0 → (XK 3 h_1)))
set_option maxRecDepth 100000 in
theorem c_AS_taken {l : Launch} (hfl : l.flags = flags0) {g : zG} {n : Nat} {p0 : Nat} {x1 : Int} {x2 : Int} (op0 : zO n p0 10) (rx1 : zr x1) (rx2 : zr x2) {h : zH} (hh : zh h) {K : Int → zH → Prop} {XK : Nat → zH → Prop} (hv : M_AS_taken p0 x1 x2 h K XK) : zMetX l y_AS_taken b_AS_taken 3 (some .int) rm_AS_taken g n [.ref (g.2.2 p0), zi x1, zi x2] h (zPi K) XK := by
  refine zMetX_of hfl (by decide) rfl (Nat.le_of_ble_eq_true rfl) ⟨rfl, rfl, by decide, by decide⟩ (fun Wf m H0 X E T => ?_)
  unfold M_AS_taken at hv
  show zW Wf m 3 g n H0 0 [(0, .ref (g.2.2 p0)), (1, zi x1), (2, zi x2)] [] h
  refine z_aload_n (pc := 0) (q := 0) X d_AS_taken_0 rfl ?_
  refine z_getr (pc := 1) (j := 2) (dd := 37) X cf_AS op0 (by decide) q368 rfl rfl d_AS_taken_1 ?_
  refine z_getrN (pc := 4) (j := 2) (dd := 3) X cf_State (gf_AS_2 op0) (by decide) q176 rfl rfl d_AS_taken_4 ?_
  refine z_iload_n (pc := 7) (q := 1) X d_AS_taken_7 rfl ?_
  refine z_callVNi (pc := 8) (As := [zi x1]) (rest := []) X (fun l hl => c_Tape_hasPlanned hl (gf_State_2 (gf_AS_2 op0)) rx1 hh hv) cf_Tape (gf_State_2 (gf_AS_2 op0)) rfl mf_Tape_hasPlanned q692 ⟨⟨by decide, by decide⟩, rfl, rfl⟩ rfl d_AS_taken_8 rfl (Nat.le_of_ble_eq_true rfl) (fun r_2 h_1 rr_2 zh_1 hv => ?_)
  refine z_if_ne (pc := 11) (tgt := 25) X rr_2 d_AS_taken_11 (by decide) (fun hc => ?_) (fun hc => ?_)
  · replace hv := hv.1 hc
    refine z_iload_n (pc := 25) (q := 2) X d_AS_taken_25 rfl ?_
    refine z_if_lt (pc := 26) (tgt := 34) X rx2 d_AS_taken_26 (by decide) (fun hc => ?_) (fun hc => ?_)
    · replace hv := hv.1 hc
      exact T _ _ _ 1 _ _ _ _ _ (by decide +kernel : (1, "java/lang/IllegalArgumentException", 83, 87) ∈ zExc) zst_303 ⟨d_AS_taken_34, d_AS_taken_37, Or.inr ⟨d_AS_taken_38, d_AS_taken_41, d_AS_taken_44⟩⟩ zh_1 hv
    · replace hv := hv.2 hc
      refine z_iload_n (pc := 29) (q := 2) X d_AS_taken_29 rfl ?_
      refine z_iconst (pc := 30) X d_AS_taken_30 ?_
      refine z_icmp_le (pc := 31) (tgt := 45) X rx2 (show zr 3 from by decide) d_AS_taken_31 (by decide) (fun hc => ?_) (fun hc => ?_)
      · replace hv := hv.1 hc
        refine z_aload_n (pc := 45) (q := 0) X d_AS_taken_45 rfl ?_
        refine z_getr (pc := 46) (j := 6) (dd := 164) X cf_AS op0 (by decide) q372 rfl rfl d_AS_taken_46 ?_
        refine z_aload_n (pc := 49) (q := 0) X d_AS_taken_49 rfl ?_
        refine z_getr (pc := 50) (j := 2) (dd := 37) X cf_AS op0 (by decide) q368 rfl rfl d_AS_taken_50 ?_
        refine z_getrN (pc := 53) (j := 2) (dd := 3) X cf_State (gf_AS_2 op0) (by decide) q176 rfl rfl d_AS_taken_53 ?_
        refine z_aload_n (pc := 56) (q := 0) X d_AS_taken_56 rfl ?_
        refine z_getr (pc := 57) (j := 1) (dd := 5) X cf_AS op0 (by decide) q367 rfl rfl d_AS_taken_57 ?_
        refine z_callVNv (pc := 60) (As := [.ref (g.2.2 ((p0 + 37) + 3)), .ref (g.2.2 (p0 + 5))]) (rest := []) X (fun l hl => c_Taking_takeAll hl (gf_AS_6 op0) (gf_State_2 (gf_AS_2 op0)) (gf_AS_1 op0) zh_1 hv) cf_Taking (gf_AS_6 op0) rfl mf_Taking_takeAll q441 ⟨⟨by decide, by decide⟩, rfl, rfl⟩ rfl d_AS_taken_60 rfl (Nat.le_of_ble_eq_true rfl) (fun h_3 zh_3 hv => ?_)
        refine z_iload_n (pc := 63) (q := 2) X d_AS_taken_63 rfl ?_
        rcases (show (x2 < 0 ∨ 2 < x2) ∨ x2 = 0 ∨ x2 = 1 ∨ x2 = 2 by omega) with hc | hc | hc | hc
        · replace hv := hv.1 hc
          refine z_tableOut (pc := 64) (tgt := 122) X rx2 d_AS_taken_64 hc (by decide) ?_
          refine z_aload_n (pc := 122) (q := 0) X d_AS_taken_122 rfl ?_
          refine z_getr (pc := 123) (j := 6) (dd := 164) X cf_AS op0 (by decide) q372 rfl rfl d_AS_taken_123 ?_
          refine z_getrN (pc := 126) (j := 3) (dd := 4) X cf_Taking (gf_AS_6 op0) (by decide) q263 rfl rfl d_AS_taken_126 ?_
          refine z_iload_n (pc := 129) (q := 1) X d_AS_taken_129 rfl ?_
          obtain ⟨v_5, hv⟩ := hv
          refine z_ialdj (pc := 130) (j := x1.toNat) X (gf_Taking_3 (gf_AS_6 op0)) (gl_Taking_3 (gf_AS_6 op0)) rx1 v_5 rfl d_AS_taken_130 ?_
          exact E.2.1 rfl _ _ _ _ d_AS_taken_131 ⟨_, rfl, (zh_3.1 _ _ (zO.ne (gf_Taking_3 (gf_AS_6 op0)) (by decide))), zh_3, hv⟩
        · replace hv := hv.2.1 hc
          refine z_tableIn (pc := 64) (tgt := 92) (off := 28) X rx2 d_AS_taken_64 (by omega) (by omega) (by rw [hc]; rfl) (by decide) ?_
          refine z_aload_n (pc := 92) (q := 0) X d_AS_taken_92 rfl ?_
          refine z_getr (pc := 93) (j := 6) (dd := 164) X cf_AS op0 (by decide) q372 rfl rfl d_AS_taken_93 ?_
          refine z_getrN (pc := 96) (j := 0) (dd := 1) X cf_Taking (gf_AS_6 op0) (by decide) q257 rfl rfl d_AS_taken_96 ?_
          refine z_iload_n (pc := 99) (q := 1) X d_AS_taken_99 rfl ?_
          obtain ⟨v_6, hv⟩ := hv
          refine z_ialdj (pc := 100) (j := x1.toNat) X (gf_Taking_0 (gf_AS_6 op0)) (gl_Taking_0 (gf_AS_6 op0)) rx1 v_6 rfl d_AS_taken_100 ?_
          exact E.2.1 rfl _ _ _ _ d_AS_taken_101 ⟨_, rfl, (zh_3.1 _ _ (zO.ne (gf_Taking_0 (gf_AS_6 op0)) (by decide))), zh_3, hv⟩
        · replace hv := hv.2.2.1 hc
          refine z_tableIn (pc := 64) (tgt := 102) (off := 38) X rx2 d_AS_taken_64 (by omega) (by omega) (by rw [hc]; rfl) (by decide) ?_
          refine z_aload_n (pc := 102) (q := 0) X d_AS_taken_102 rfl ?_
          refine z_getr (pc := 103) (j := 6) (dd := 164) X cf_AS op0 (by decide) q372 rfl rfl d_AS_taken_103 ?_
          refine z_getrN (pc := 106) (j := 1) (dd := 2) X cf_Taking (gf_AS_6 op0) (by decide) q259 rfl rfl d_AS_taken_106 ?_
          refine z_iload_n (pc := 109) (q := 1) X d_AS_taken_109 rfl ?_
          obtain ⟨v_7, hv⟩ := hv
          refine z_ialdj (pc := 110) (j := x1.toNat) X (gf_Taking_1 (gf_AS_6 op0)) (gl_Taking_1 (gf_AS_6 op0)) rx1 v_7 rfl d_AS_taken_110 ?_
          exact E.2.1 rfl _ _ _ _ d_AS_taken_111 ⟨_, rfl, (zh_3.1 _ _ (zO.ne (gf_Taking_1 (gf_AS_6 op0)) (by decide))), zh_3, hv⟩
        · replace hv := hv.2.2.2 hc
          refine z_tableIn (pc := 64) (tgt := 112) (off := 48) X rx2 d_AS_taken_64 (by omega) (by omega) (by rw [hc]; rfl) (by decide) ?_
          refine z_aload_n (pc := 112) (q := 0) X d_AS_taken_112 rfl ?_
          refine z_getr (pc := 113) (j := 6) (dd := 164) X cf_AS op0 (by decide) q372 rfl rfl d_AS_taken_113 ?_
          refine z_getrN (pc := 116) (j := 2) (dd := 3) X cf_Taking (gf_AS_6 op0) (by decide) q261 rfl rfl d_AS_taken_116 ?_
          refine z_iload_n (pc := 119) (q := 1) X d_AS_taken_119 rfl ?_
          obtain ⟨v_8, hv⟩ := hv
          refine z_ialdj (pc := 120) (j := x1.toNat) X (gf_Taking_2 (gf_AS_6 op0)) (gl_Taking_2 (gf_AS_6 op0)) rx1 v_8 rfl d_AS_taken_120 ?_
          exact E.2.1 rfl _ _ _ _ d_AS_taken_121 ⟨_, rfl, (zh_3.1 _ _ (zO.ne (gf_Taking_2 (gf_AS_6 op0)) (by decide))), zh_3, hv⟩
      · replace hv := hv.2 hc
        exact T _ _ _ 1 _ _ _ _ _ (by decide +kernel : (1, "java/lang/IllegalArgumentException", 83, 87) ∈ zExc) zst_303 ⟨d_AS_taken_34, d_AS_taken_37, Or.inr ⟨d_AS_taken_38, d_AS_taken_41, d_AS_taken_44⟩⟩ zh_1 hv
  · replace hv := hv.2 hc
    exact T _ _ _ 3 _ _ _ _ _ (by decide +kernel : (3, "java/lang/IndexOutOfBoundsException", 163, 167) ∈ zExc) zst_301 ⟨d_AS_taken_14, d_AS_taken_17, Or.inr ⟨d_AS_taken_18, d_AS_taken_21, d_AS_taken_24⟩⟩ zh_1 hv
theorem d_AS_failure_0 : decode b_AS_failure 0 = .ok (.aload_n 0, 1) := by decide +kernel
theorem d_AS_failure_1 : decode b_AS_failure 1 = .ok (.getfield 54, 3) := by decide +kernel
theorem d_AS_failure_4 : decode b_AS_failure 4 = .ok (.aload_n 0, 1) := by decide +kernel
theorem d_AS_failure_5 : decode b_AS_failure 5 = .ok (.getfield 26, 3) := by decide +kernel
theorem d_AS_failure_8 : decode b_AS_failure 8 = .ok (.getfield 137, 3) := by decide +kernel
theorem d_AS_failure_11 : decode b_AS_failure 11 = .ok (.aload_n 0, 1) := by decide +kernel
theorem d_AS_failure_12 : decode b_AS_failure 12 = .ok (.getfield 19, 3) := by decide +kernel
theorem d_AS_failure_15 : decode b_AS_failure 15 = .ok (.invokevirtual 146, 3) := by decide +kernel
theorem d_AS_failure_18 : decode b_AS_failure 18 = .ok (.aload_n 0, 1) := by decide +kernel
theorem d_AS_failure_19 : decode b_AS_failure 19 = .ok (.getfield 54, 3) := by decide +kernel
theorem d_AS_failure_22 : decode b_AS_failure 22 = .ok (.getfield 270, 3) := by decide +kernel
theorem d_AS_failure_25 : decode b_AS_failure 25 = .ok (.ireturn, 1) := by decide +kernel
def rm_AS_failure : Room := { frames := 3, cells := 0, slots := 0, locals := 71 }
theorem mf_AS_failure : zMV y_AS_failure b_AS_failure 1 (some .int) 0 := ⟨q438, q439, q1, q440, by decide +kernel⟩
def M_AS_failure (p0 : Nat) (h : zH) (K : Int → zH → Prop) : Prop :=
  M_Taking_takeAll (p0 + 164) ((p0 + 37) + 3) (p0 + 5) h (fun h_1 => K (h_1 (p0 + 164) 6) h_1)
set_option maxRecDepth 100000 in
theorem c_AS_failure {l : Launch} (hfl : l.flags = flags0) {g : zG} {n : Nat} {p0 : Nat} (op0 : zO n p0 10) {h : zH} (hh : zh h) {K : Int → zH → Prop} (hv : M_AS_failure p0 h K) : zMet l y_AS_failure b_AS_failure 1 (some .int) rm_AS_failure g n [.ref (g.2.2 p0)] h (zPi K) := by
  refine zMet_of (own := "AliasStreams") hfl (by decide) rfl (Nat.le_of_ble_eq_true rfl) (fun Wf m H0 X E => ?_)
  unfold M_AS_failure at hv
  show zW Wf m 1 g n H0 0 [(0, .ref (g.2.2 p0))] [] h
  refine z_aload_n (pc := 0) (q := 0) X d_AS_failure_0 rfl ?_
  refine z_getr (pc := 1) (j := 6) (dd := 164) X cf_AS op0 (by decide) q372 rfl rfl d_AS_failure_1 ?_
  refine z_aload_n (pc := 4) (q := 0) X d_AS_failure_4 rfl ?_
  refine z_getr (pc := 5) (j := 2) (dd := 37) X cf_AS op0 (by decide) q368 rfl rfl d_AS_failure_5 ?_
  refine z_getrN (pc := 8) (j := 2) (dd := 3) X cf_State (gf_AS_2 op0) (by decide) q176 rfl rfl d_AS_failure_8 ?_
  refine z_aload_n (pc := 11) (q := 0) X d_AS_failure_11 rfl ?_
  refine z_getr (pc := 12) (j := 1) (dd := 5) X cf_AS op0 (by decide) q367 rfl rfl d_AS_failure_12 ?_
  refine z_callVNv (pc := 15) (As := [.ref (g.2.2 ((p0 + 37) + 3)), .ref (g.2.2 (p0 + 5))]) (rest := []) X (fun l hl => c_Taking_takeAll hl (gf_AS_6 op0) (gf_State_2 (gf_AS_2 op0)) (gf_AS_1 op0) hh hv) cf_Taking (gf_AS_6 op0) rfl mf_Taking_takeAll q441 ⟨⟨by decide, by decide⟩, rfl, rfl⟩ rfl d_AS_failure_15 rfl (Nat.le_of_ble_eq_true rfl) (fun h_1 zh_1 hv => ?_)
  refine z_aload_n (pc := 18) (q := 0) X d_AS_failure_18 rfl ?_
  refine z_getr (pc := 19) (j := 6) (dd := 164) X cf_AS op0 (by decide) q372 rfl rfl d_AS_failure_19 ?_
  refine z_getiN (pc := 22) (j := 6) X cf_Taking (gf_AS_6 op0) (by decide) q268 rfl rfl d_AS_failure_22 ?_
  exact E.2.1 rfl _ _ _ _ d_AS_failure_25 ⟨_, rfl, (zh_1.1 _ _ (zO.ne (gf_AS_6 op0) (by decide))), zh_1, hv⟩
theorem d_AS_unfit_0 : decode b_AS_unfit 0 = .ok (.aload_n 0, 1) := by decide +kernel
theorem d_AS_unfit_1 : decode b_AS_unfit 1 = .ok (.getfield 47, 3) := by decide +kernel
theorem d_AS_unfit_4 : decode b_AS_unfit 4 = .ok (.aload_n 0, 1) := by decide +kernel
theorem d_AS_unfit_5 : decode b_AS_unfit 5 = .ok (.getfield 26, 3) := by decide +kernel
theorem d_AS_unfit_8 : decode b_AS_unfit 8 = .ok (.invokevirtual 130, 3) := by decide +kernel
theorem d_AS_unfit_11 : decode b_AS_unfit 11 = .ok (.aload_n 0, 1) := by decide +kernel
theorem d_AS_unfit_12 : decode b_AS_unfit 12 = .ok (.getfield 47, 3) := by decide +kernel
theorem d_AS_unfit_15 : decode b_AS_unfit 15 = .ok (.aload_n 0, 1) := by decide +kernel
theorem d_AS_unfit_16 : decode b_AS_unfit 16 = .ok (.getfield 19, 3) := by decide +kernel
theorem d_AS_unfit_19 : decode b_AS_unfit 19 = .ok (.invokevirtual 260, 3) := by decide +kernel
theorem d_AS_unfit_22 : decode b_AS_unfit 22 = .ok (.ireturn, 1) := by decide +kernel
def rm_AS_unfit : Room := { frames := 2, cells := 0, slots := 0, locals := 43 }
theorem mf_AS_unfit : zMV y_AS_unfit b_AS_unfit 1 (some .int) 0 := ⟨q462, q463, q1, q464, by decide +kernel⟩
def M_AS_unfit (p0 : Nat) (h : zH) (K : Int → zH → Prop) : Prop :=
  M_Symbols_list (p0 + 161) (p0 + 37) h (fun h_1 => M_Symbols_firstUnfit (p0 + 161) (p0 + 5) h_1 (fun r_4 h_3 => K r_4 h_3))
set_option maxRecDepth 100000 in
theorem c_AS_unfit {l : Launch} (hfl : l.flags = flags0) {g : zG} {n : Nat} {p0 : Nat} (op0 : zO n p0 10) {h : zH} (hh : zh h) {K : Int → zH → Prop} (hv : M_AS_unfit p0 h K) : zMet l y_AS_unfit b_AS_unfit 1 (some .int) rm_AS_unfit g n [.ref (g.2.2 p0)] h (zPi K) := by
  refine zMet_of (own := "AliasStreams") hfl (by decide) rfl (Nat.le_of_ble_eq_true rfl) (fun Wf m H0 X E => ?_)
  unfold M_AS_unfit at hv
  show zW Wf m 1 g n H0 0 [(0, .ref (g.2.2 p0))] [] h
  refine z_aload_n (pc := 0) (q := 0) X d_AS_unfit_0 rfl ?_
  refine z_getr (pc := 1) (j := 5) (dd := 161) X cf_AS op0 (by decide) q371 rfl rfl d_AS_unfit_1 ?_
  refine z_aload_n (pc := 4) (q := 0) X d_AS_unfit_4 rfl ?_
  refine z_getr (pc := 5) (j := 2) (dd := 37) X cf_AS op0 (by decide) q368 rfl rfl d_AS_unfit_5 ?_
  refine z_callVNv (pc := 8) (As := [.ref (g.2.2 (p0 + 37))]) (rest := []) X (fun l hl => c_Symbols_list hl (gf_AS_5 op0) (gf_AS_2 op0) hh hv) cf_Symbols (gf_AS_5 op0) rfl mf_Symbols_list q465 ⟨⟨by decide, by decide⟩, rfl, rfl⟩ rfl d_AS_unfit_8 rfl (Nat.le_of_ble_eq_true rfl) (fun h_1 zh_1 hv => ?_)
  refine z_aload_n (pc := 11) (q := 0) X d_AS_unfit_11 rfl ?_
  refine z_getr (pc := 12) (j := 5) (dd := 161) X cf_AS op0 (by decide) q371 rfl rfl d_AS_unfit_12 ?_
  refine z_aload_n (pc := 15) (q := 0) X d_AS_unfit_15 rfl ?_
  refine z_getr (pc := 16) (j := 1) (dd := 5) X cf_AS op0 (by decide) q367 rfl rfl d_AS_unfit_16 ?_
  refine z_callVNi (pc := 19) (As := [.ref (g.2.2 (p0 + 5))]) (rest := []) X (fun l hl => c_Symbols_firstUnfit hl (gf_AS_5 op0) (gf_AS_1 op0) zh_1 hv) cf_Symbols (gf_AS_5 op0) rfl mf_Symbols_firstUnfit q469 ⟨⟨by decide, by decide⟩, rfl, rfl⟩ rfl d_AS_unfit_19 rfl (Nat.le_of_ble_eq_true rfl) (fun r_4 h_3 rr_4 zh_3 hv => ?_)
  exact E.2.1 rfl _ _ _ _ d_AS_unfit_22 ⟨_, rfl, rr_4, zh_3, hv⟩
theorem d_AS_digitsWith_0 : decode b_AS_digitsWith 0 = .ok (.aload_n 0, 1) := by decide +kernel
theorem d_AS_digitsWith_1 : decode b_AS_digitsWith 1 = .ok (.getfield 19, 3) := by decide +kernel
theorem d_AS_digitsWith_4 : decode b_AS_digitsWith 4 = .ok (.iload_n 1, 1) := by decide +kernel
theorem d_AS_digitsWith_5 : decode b_AS_digitsWith 5 = .ok (.invokevirtual 156, 3) := by decide +kernel
theorem d_AS_digitsWith_8 : decode b_AS_digitsWith 8 = .ok (.ifCond .ne 14, 3) := by decide +kernel
theorem d_AS_digitsWith_11 : decode b_AS_digitsWith 11 = .ok (.new 163, 3) := by decide +kernel
theorem d_AS_digitsWith_14 : decode b_AS_digitsWith 14 = .ok (.dup, 1) := by decide +kernel
theorem d_AS_digitsWith_15 : decode b_AS_digitsWith 15 = .ok (.ldc_w 316, 3) := by decide +kernel
theorem d_AS_digitsWith_18 : decode b_AS_digitsWith 18 = .ok (.invokespecial 167, 3) := by decide +kernel
theorem d_AS_digitsWith_21 : decode b_AS_digitsWith 21 = .ok (.athrow, 1) := by decide +kernel
theorem d_AS_digitsWith_22 : decode b_AS_digitsWith 22 = .ok (.aload_n 0, 1) := by decide +kernel
theorem d_AS_digitsWith_23 : decode b_AS_digitsWith 23 = .ok (.getfield 47, 3) := by decide +kernel
theorem d_AS_digitsWith_26 : decode b_AS_digitsWith 26 = .ok (.aload_n 0, 1) := by decide +kernel
theorem d_AS_digitsWith_27 : decode b_AS_digitsWith 27 = .ok (.getfield 26, 3) := by decide +kernel
theorem d_AS_digitsWith_30 : decode b_AS_digitsWith 30 = .ok (.invokevirtual 130, 3) := by decide +kernel
theorem d_AS_digitsWith_33 : decode b_AS_digitsWith 33 = .ok (.aload_n 0, 1) := by decide +kernel
theorem d_AS_digitsWith_34 : decode b_AS_digitsWith 34 = .ok (.getfield 47, 3) := by decide +kernel
theorem d_AS_digitsWith_37 : decode b_AS_digitsWith 37 = .ok (.iload_n 1, 1) := by decide +kernel
theorem d_AS_digitsWith_38 : decode b_AS_digitsWith 38 = .ok (.invokevirtual 318, 3) := by decide +kernel
theorem d_AS_digitsWith_41 : decode b_AS_digitsWith 41 = .ok (.aload_n 0, 1) := by decide +kernel
theorem d_AS_digitsWith_42 : decode b_AS_digitsWith 42 = .ok (.getfield 47, 3) := by decide +kernel
theorem d_AS_digitsWith_45 : decode b_AS_digitsWith 45 = .ok (.aload_n 0, 1) := by decide +kernel
theorem d_AS_digitsWith_46 : decode b_AS_digitsWith 46 = .ok (.getfield 19, 3) := by decide +kernel
theorem d_AS_digitsWith_49 : decode b_AS_digitsWith 49 = .ok (.invokevirtual 260, 3) := by decide +kernel
theorem d_AS_digitsWith_52 : decode b_AS_digitsWith 52 = .ok (.bipush (-9), 2) := by decide +kernel
theorem d_AS_digitsWith_54 : decode b_AS_digitsWith 54 = .ok (.if_icmp .eq 6, 3) := by decide +kernel
theorem d_AS_digitsWith_57 : decode b_AS_digitsWith 57 = .ok (.bipush (-9), 2) := by decide +kernel
theorem d_AS_digitsWith_59 : decode b_AS_digitsWith 59 = .ok (.ireturn, 1) := by decide +kernel
theorem d_AS_digitsWith_60 : decode b_AS_digitsWith 60 = .ok (.aload_n 0, 1) := by decide +kernel
theorem d_AS_digitsWith_61 : decode b_AS_digitsWith 61 = .ok (.getfield 64, 3) := by decide +kernel
theorem d_AS_digitsWith_64 : decode b_AS_digitsWith 64 = .ok (.aload_n 0, 1) := by decide +kernel
theorem d_AS_digitsWith_65 : decode b_AS_digitsWith 65 = .ok (.getfield 47, 3) := by decide +kernel
theorem d_AS_digitsWith_68 : decode b_AS_digitsWith 68 = .ok (.aload_n 0, 1) := by decide +kernel
theorem d_AS_digitsWith_69 : decode b_AS_digitsWith 69 = .ok (.getfield 19, 3) := by decide +kernel
theorem d_AS_digitsWith_72 : decode b_AS_digitsWith 72 = .ok (.invokevirtual 266, 3) := by decide +kernel
theorem d_AS_digitsWith_75 : decode b_AS_digitsWith 75 = .ok (.aload_n 0, 1) := by decide +kernel
theorem d_AS_digitsWith_76 : decode b_AS_digitsWith 76 = .ok (.getfield 64, 3) := by decide +kernel
theorem d_AS_digitsWith_79 : decode b_AS_digitsWith 79 = .ok (.getfield 140, 3) := by decide +kernel
theorem d_AS_digitsWith_82 : decode b_AS_digitsWith 82 = .ok (.ireturn, 1) := by decide +kernel
def rm_AS_digitsWith : Room := { frames := 6, cells := 1, slots := 6, locals := 90 }
theorem mf_AS_digitsWith : zMV y_AS_digitsWith b_AS_digitsWith 2 (some .int) 1 := ⟨q872, q873, q1, q874, by decide +kernel⟩
def M_AS_digitsWith (p0 : Nat) (x1 : Int) (h : zH) (K : Int → zH → Prop) (XK : Nat → zH → Prop) : Prop :=
  M_Models_hasModel (p0 + 5) x1 h (fun r_2 h_1 => (r_2 ≠ 0 → (M_Symbols_list (p0 + 161) (p0 + 37) h_1 (fun h_3 => M_Symbols_useOneModel (p0 + 161) x1 h_3 (fun h_5 => M_Symbols_firstUnfit (p0 + 161) (p0 + 5) h_5 (fun r_8 h_7 => (r_8 = (-9) → (M_Tape_fill (p0 + 176) (p0 + 161) (p0 + 5) h_7 (fun h_9 => K (h_9 (p0 + 176) 4) h_9))) ∧ (r_8 ≠ (-9) → (K (-9) h_7))))))) ∧ (r_2 = 0 → (XK 3 h_1)))
set_option maxRecDepth 100000 in
theorem c_AS_digitsWith {l : Launch} (hfl : l.flags = flags0) {g : zG} {n : Nat} {p0 : Nat} {x1 : Int} (op0 : zO n p0 10) (rx1 : zr x1) {h : zH} (hh : zh h) {K : Int → zH → Prop} {XK : Nat → zH → Prop} (hv : M_AS_digitsWith p0 x1 h K XK) : zMetX l y_AS_digitsWith b_AS_digitsWith 2 (some .int) rm_AS_digitsWith g n [.ref (g.2.2 p0), zi x1] h (zPi K) XK := by
  refine zMetX_of hfl (by decide) rfl (Nat.le_of_ble_eq_true rfl) ⟨rfl, rfl, by decide, by decide⟩ (fun Wf m H0 X E T => ?_)
  unfold M_AS_digitsWith at hv
  show zW Wf m 2 g n H0 0 [(0, .ref (g.2.2 p0)), (1, zi x1)] [] h
  refine z_aload_n (pc := 0) (q := 0) X d_AS_digitsWith_0 rfl ?_
  refine z_getr (pc := 1) (j := 1) (dd := 5) X cf_AS op0 (by decide) q367 rfl rfl d_AS_digitsWith_1 ?_
  refine z_iload_n (pc := 4) (q := 1) X d_AS_digitsWith_4 rfl ?_
  refine z_callVNi (pc := 5) (As := [zi x1]) (rest := []) X (fun l hl => c_Models_hasModel hl (gf_AS_1 op0) rx1 hh hv) cf_Models (gf_AS_1 op0) rfl mf_Models_hasModel q623 ⟨⟨by decide, by decide⟩, rfl, rfl⟩ rfl d_AS_digitsWith_5 rfl (Nat.le_of_ble_eq_true rfl) (fun r_2 h_1 rr_2 zh_1 hv => ?_)
  refine z_if_ne (pc := 8) (tgt := 22) X rr_2 d_AS_digitsWith_8 (by decide) (fun hc => ?_) (fun hc => ?_)
  · replace hv := hv.1 hc
    refine z_aload_n (pc := 22) (q := 0) X d_AS_digitsWith_22 rfl ?_
    refine z_getr (pc := 23) (j := 5) (dd := 161) X cf_AS op0 (by decide) q371 rfl rfl d_AS_digitsWith_23 ?_
    refine z_aload_n (pc := 26) (q := 0) X d_AS_digitsWith_26 rfl ?_
    refine z_getr (pc := 27) (j := 2) (dd := 37) X cf_AS op0 (by decide) q368 rfl rfl d_AS_digitsWith_27 ?_
    refine z_callVNv (pc := 30) (As := [.ref (g.2.2 (p0 + 37))]) (rest := []) X (fun l hl => c_Symbols_list hl (gf_AS_5 op0) (gf_AS_2 op0) zh_1 hv) cf_Symbols (gf_AS_5 op0) rfl mf_Symbols_list q465 ⟨⟨by decide, by decide⟩, rfl, rfl⟩ rfl d_AS_digitsWith_30 rfl (Nat.le_of_ble_eq_true rfl) (fun h_3 zh_3 hv => ?_)
    refine z_aload_n (pc := 33) (q := 0) X d_AS_digitsWith_33 rfl ?_
    refine z_getr (pc := 34) (j := 5) (dd := 161) X cf_AS op0 (by decide) q371 rfl rfl d_AS_digitsWith_34 ?_
    refine z_iload_n (pc := 37) (q := 1) X d_AS_digitsWith_37 rfl ?_
    refine z_callVNv (pc := 38) (As := [zi x1]) (rest := []) X (fun l hl => c_Symbols_useOneModel hl (gf_AS_5 op0) rx1 zh_3 hv) cf_Symbols (gf_AS_5 op0) rfl mf_Symbols_useOneModel q876 ⟨⟨by decide, by decide⟩, rfl, rfl⟩ rfl d_AS_digitsWith_38 rfl (Nat.le_of_ble_eq_true rfl) (fun h_5 zh_5 hv => ?_)
    refine z_aload_n (pc := 41) (q := 0) X d_AS_digitsWith_41 rfl ?_
    refine z_getr (pc := 42) (j := 5) (dd := 161) X cf_AS op0 (by decide) q371 rfl rfl d_AS_digitsWith_42 ?_
    refine z_aload_n (pc := 45) (q := 0) X d_AS_digitsWith_45 rfl ?_
    refine z_getr (pc := 46) (j := 1) (dd := 5) X cf_AS op0 (by decide) q367 rfl rfl d_AS_digitsWith_46 ?_
    refine z_callVNi (pc := 49) (As := [.ref (g.2.2 (p0 + 5))]) (rest := []) X (fun l hl => c_Symbols_firstUnfit hl (gf_AS_5 op0) (gf_AS_1 op0) zh_5 hv) cf_Symbols (gf_AS_5 op0) rfl mf_Symbols_firstUnfit q469 ⟨⟨by decide, by decide⟩, rfl, rfl⟩ rfl d_AS_digitsWith_49 rfl (Nat.le_of_ble_eq_true rfl) (fun r_8 h_7 rr_8 zh_7 hv => ?_)
    refine z_bipush (pc := 52) X d_AS_digitsWith_52 (by decide) ?_
    refine z_icmp_eq (pc := 54) (tgt := 60) X rr_8 (show zr (-9) from by decide) d_AS_digitsWith_54 (by decide) (fun hc => ?_) (fun hc => ?_)
    · replace hv := hv.1 hc
      refine z_aload_n (pc := 60) (q := 0) X d_AS_digitsWith_60 rfl ?_
      refine z_getr (pc := 61) (j := 8) (dd := 176) X cf_AS op0 (by decide) q374 rfl rfl d_AS_digitsWith_61 ?_
      refine z_aload_n (pc := 64) (q := 0) X d_AS_digitsWith_64 rfl ?_
      refine z_getr (pc := 65) (j := 5) (dd := 161) X cf_AS op0 (by decide) q371 rfl rfl d_AS_digitsWith_65 ?_
      refine z_aload_n (pc := 68) (q := 0) X d_AS_digitsWith_68 rfl ?_
      refine z_getr (pc := 69) (j := 1) (dd := 5) X cf_AS op0 (by decide) q367 rfl rfl d_AS_digitsWith_69 ?_
      refine z_callVNv (pc := 72) (As := [.ref (g.2.2 (p0 + 161)), .ref (g.2.2 (p0 + 5))]) (rest := []) X (fun l hl => c_Tape_fill hl (gf_AS_8 op0) (gf_AS_5 op0) (gf_AS_1 op0) zh_7 hv) cf_Tape (gf_AS_8 op0) rfl mf_Tape_fill q780 ⟨⟨by decide, by decide⟩, rfl, rfl⟩ rfl d_AS_digitsWith_72 rfl (Nat.le_of_ble_eq_true rfl) (fun h_9 zh_9 hv => ?_)
      refine z_aload_n (pc := 75) (q := 0) X d_AS_digitsWith_75 rfl ?_
      refine z_getr (pc := 76) (j := 8) (dd := 176) X cf_AS op0 (by decide) q374 rfl rfl d_AS_digitsWith_76 ?_
      refine z_getiN (pc := 79) (j := 4) X cf_Tape (gf_AS_8 op0) (by decide) q157 rfl rfl d_AS_digitsWith_79 ?_
      exact E.2.1 rfl _ _ _ _ d_AS_digitsWith_82 ⟨_, rfl, (zh_9.1 _ _ (zO.ne (gf_AS_8 op0) (by decide))), zh_9, hv⟩
    · replace hv := hv.2 hc
      refine z_bipush (pc := 57) X d_AS_digitsWith_57 (by decide) ?_
      exact E.2.1 rfl _ _ _ _ d_AS_digitsWith_59 ⟨_, rfl, (show zr (-9) from by decide), zh_7, hv⟩
  · replace hv := hv.2 hc
    exact T _ _ _ 3 _ _ _ _ _ (by decide +kernel : (3, "java/lang/IndexOutOfBoundsException", 163, 167) ∈ zExc) zst_316 ⟨d_AS_digitsWith_11, d_AS_digitsWith_14, Or.inr ⟨d_AS_digitsWith_15, d_AS_digitsWith_18, d_AS_digitsWith_21⟩⟩ zh_1 hv

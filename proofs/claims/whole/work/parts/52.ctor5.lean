theorem d_AS_init_0 : decode b_AS_init 0 = .ok (.aload_n 0, 1) := by decide +kernel
theorem d_AS_init_1 : decode b_AS_init 1 = .ok (.invokespecial 3, 3) := by decide +kernel
theorem d_AS_init_4 : decode b_AS_init 4 = .ok (.aload_n 0, 1) := by decide +kernel
theorem d_AS_init_5 : decode b_AS_init 5 = .ok (.new 9, 3) := by decide +kernel
theorem d_AS_init_8 : decode b_AS_init 8 = .ok (.dup, 1) := by decide +kernel
theorem d_AS_init_9 : decode b_AS_init 9 = .ok (.invokespecial 11, 3) := by decide +kernel
theorem d_AS_init_12 : decode b_AS_init 12 = .ok (.putfield 12, 3) := by decide +kernel
theorem d_AS_init_15 : decode b_AS_init 15 = .ok (.aload_n 0, 1) := by decide +kernel
theorem d_AS_init_16 : decode b_AS_init 16 = .ok (.new 16, 3) := by decide +kernel
theorem d_AS_init_19 : decode b_AS_init 19 = .ok (.dup, 1) := by decide +kernel
theorem d_AS_init_20 : decode b_AS_init 20 = .ok (.invokespecial 18, 3) := by decide +kernel
theorem d_AS_init_23 : decode b_AS_init 23 = .ok (.putfield 19, 3) := by decide +kernel
theorem d_AS_init_26 : decode b_AS_init 26 = .ok (.aload_n 0, 1) := by decide +kernel
theorem d_AS_init_27 : decode b_AS_init 27 = .ok (.new 23, 3) := by decide +kernel
theorem d_AS_init_30 : decode b_AS_init 30 = .ok (.dup, 1) := by decide +kernel
theorem d_AS_init_31 : decode b_AS_init 31 = .ok (.invokespecial 25, 3) := by decide +kernel
theorem d_AS_init_34 : decode b_AS_init 34 = .ok (.putfield 26, 3) := by decide +kernel
theorem d_AS_init_37 : decode b_AS_init 37 = .ok (.aload_n 0, 1) := by decide +kernel
theorem d_AS_init_38 : decode b_AS_init 38 = .ok (.new 30, 3) := by decide +kernel
theorem d_AS_init_41 : decode b_AS_init 41 = .ok (.dup, 1) := by decide +kernel
theorem d_AS_init_42 : decode b_AS_init 42 = .ok (.invokespecial 32, 3) := by decide +kernel
theorem d_AS_init_45 : decode b_AS_init 45 = .ok (.putfield 33, 3) := by decide +kernel
theorem d_AS_init_48 : decode b_AS_init 48 = .ok (.aload_n 0, 1) := by decide +kernel
theorem d_AS_init_49 : decode b_AS_init 49 = .ok (.new 37, 3) := by decide +kernel
theorem d_AS_init_52 : decode b_AS_init 52 = .ok (.dup, 1) := by decide +kernel
theorem d_AS_init_53 : decode b_AS_init 53 = .ok (.invokespecial 39, 3) := by decide +kernel
theorem d_AS_init_56 : decode b_AS_init 56 = .ok (.putfield 40, 3) := by decide +kernel
theorem d_AS_init_59 : decode b_AS_init 59 = .ok (.aload_n 0, 1) := by decide +kernel
theorem d_AS_init_60 : decode b_AS_init 60 = .ok (.new 44, 3) := by decide +kernel
theorem d_AS_init_63 : decode b_AS_init 63 = .ok (.dup, 1) := by decide +kernel
theorem d_AS_init_64 : decode b_AS_init 64 = .ok (.invokespecial 46, 3) := by decide +kernel
theorem d_AS_init_67 : decode b_AS_init 67 = .ok (.putfield 47, 3) := by decide +kernel
theorem d_AS_init_70 : decode b_AS_init 70 = .ok (.aload_n 0, 1) := by decide +kernel
theorem d_AS_init_71 : decode b_AS_init 71 = .ok (.new 51, 3) := by decide +kernel
theorem d_AS_init_74 : decode b_AS_init 74 = .ok (.dup, 1) := by decide +kernel
theorem d_AS_init_75 : decode b_AS_init 75 = .ok (.invokespecial 53, 3) := by decide +kernel
theorem d_AS_init_78 : decode b_AS_init 78 = .ok (.putfield 54, 3) := by decide +kernel
theorem d_AS_init_81 : decode b_AS_init 81 = .ok (.aload_n 0, 1) := by decide +kernel
theorem d_AS_init_82 : decode b_AS_init 82 = .ok (.new 51, 3) := by decide +kernel
theorem d_AS_init_85 : decode b_AS_init 85 = .ok (.dup, 1) := by decide +kernel
theorem d_AS_init_86 : decode b_AS_init 86 = .ok (.invokespecial 53, 3) := by decide +kernel
theorem d_AS_init_89 : decode b_AS_init 89 = .ok (.putfield 58, 3) := by decide +kernel
theorem d_AS_init_92 : decode b_AS_init 92 = .ok (.aload_n 0, 1) := by decide +kernel
theorem d_AS_init_93 : decode b_AS_init 93 = .ok (.new 61, 3) := by decide +kernel
theorem d_AS_init_96 : decode b_AS_init 96 = .ok (.dup, 1) := by decide +kernel
theorem d_AS_init_97 : decode b_AS_init 97 = .ok (.invokespecial 63, 3) := by decide +kernel
theorem d_AS_init_100 : decode b_AS_init 100 = .ok (.putfield 64, 3) := by decide +kernel
theorem d_AS_init_103 : decode b_AS_init 103 = .ok (.aload_n 0, 1) := by decide +kernel
theorem d_AS_init_104 : decode b_AS_init 104 = .ok (.new 68, 3) := by decide +kernel
theorem d_AS_init_107 : decode b_AS_init 107 = .ok (.dup, 1) := by decide +kernel
theorem d_AS_init_108 : decode b_AS_init 108 = .ok (.invokespecial 70, 3) := by decide +kernel
theorem d_AS_init_111 : decode b_AS_init 111 = .ok (.putfield 71, 3) := by decide +kernel
theorem d_AS_init_114 : decode b_AS_init 114 = .ok (.aload_n 0, 1) := by decide +kernel
theorem d_AS_init_115 : decode b_AS_init 115 = .ok (.getfield 26, 3) := by decide +kernel
theorem d_AS_init_118 : decode b_AS_init 118 = .ok (.getfield 75, 3) := by decide +kernel
theorem d_AS_init_121 : decode b_AS_init 121 = .ok (.iconst 0, 1) := by decide +kernel
theorem d_AS_init_122 : decode b_AS_init 122 = .ok (.iconst 1, 1) := by decide +kernel
theorem d_AS_init_123 : decode b_AS_init 123 = .ok (.iastore, 1) := by decide +kernel
theorem d_AS_init_124 : decode b_AS_init 124 = .ok (.aload_n 0, 1) := by decide +kernel
theorem d_AS_init_125 : decode b_AS_init 125 = .ok (.getfield 26, 3) := by decide +kernel
theorem d_AS_init_128 : decode b_AS_init 128 = .ok (.getfield 75, 3) := by decide +kernel
theorem d_AS_init_131 : decode b_AS_init 131 = .ok (.iconst 1, 1) := by decide +kernel
theorem d_AS_init_132 : decode b_AS_init 132 = .ok (.iconst 1, 1) := by decide +kernel
theorem d_AS_init_133 : decode b_AS_init 133 = .ok (.iastore, 1) := by decide +kernel
theorem d_AS_init_134 : decode b_AS_init 134 = .ok (.aload_n 0, 1) := by decide +kernel
theorem d_AS_init_135 : decode b_AS_init 135 = .ok (.getfield 19, 3) := by decide +kernel
theorem d_AS_init_138 : decode b_AS_init 138 = .ok (.aload_n 0, 1) := by decide +kernel
theorem d_AS_init_139 : decode b_AS_init 139 = .ok (.getfield 26, 3) := by decide +kernel
theorem d_AS_init_142 : decode b_AS_init 142 = .ok (.getfield 75, 3) := by decide +kernel
theorem d_AS_init_145 : decode b_AS_init 145 = .ok (.invokevirtual 79, 3) := by decide +kernel
theorem d_AS_init_148 : decode b_AS_init 148 = .ok (.return_, 1) := by decide +kernel
def rm_AS_init : Room := { frames := 5, cells := 196, slots := 5648, locals := 117 }
theorem mi_AS : zMI y_AS_init b_AS_init 1 0 := ⟨rfl, q24, q1, q25, by decide +kernel⟩
theorem fs0_AS : ∀ j, j < 10 → defaultValue (ty_AS j) = vp_V (zf0 10) j := by decide +kernel
theorem ce_AS {g : zG} : zE g h00 0 = .inr (10, ((((((((((zf0 10).set 0 (.ref (g.2.2 1))).set 1 (.ref (g.2.2 5))).set 2 (.ref (g.2.2 37))).set 3 (.ref (g.2.2 44))).set 4 (.ref (g.2.2 144))).set 5 (.ref (g.2.2 161))).set 6 (.ref (g.2.2 164))).set 7 (.ref (g.2.2 170))).set 8 (.ref (g.2.2 176))).set 9 (.ref (g.2.2 180))) := by
  rw [zE_obj (show zkd 0 = 10 by decide +kernel) (by decide)]
  show (Sum.inr (10, ([.ref (g.2.2 (0 + 1)), .ref (g.2.2 (0 + 5)), .ref (g.2.2 (0 + 37)), .ref (g.2.2 (0 + 44)), .ref (g.2.2 (0 + 144)), .ref (g.2.2 (0 + 161)), .ref (g.2.2 (0 + 164)), .ref (g.2.2 (0 + 170)), .ref (g.2.2 (0 + 176)), .ref (g.2.2 (0 + 180))] : List Value)) : va_E) = _
  rfl
def h01 : zH := zs (zs h00 38 0 1) 38 1 1
theorem zh_h01 : zh h01 := zh_set (zh_set zh_h00 (by decide) (by decide)) (by decide) (by decide)
theorem zO197 {k c : Nat} (hk : k < 197) (h : zkd k = c) : zO 197 k c := ⟨Or.inl rfl, hk, h⟩
set_option maxRecDepth 100000 in
theorem c_AS_init {l : Launch} (hfl : l.flags = flags0) {g : zG} (hB : dB g) {f0 : Nat → va_E} {K : zH → Prop} (hv : M_Models_makeAll 5 38 h01 K) : dMet l y_AS_init b_AS_init 1 rm_AS_init g [.ref (g.2.2 0)] (0 + 1) (dU1 f0 0 (.inr (10, zf0 10))) (fun n' f' => n' = 197 ∧ ∃ h' : zH, zh h' ∧ K h' ∧ ∀ k, k < n' → f' k = zE g h' k) 196 5648 := by
  refine dMet_of (own := "AliasStreams") hfl hB (by decide) rfl rfl (Nat.le_of_ble_eq_true rfl) (fun Wf m H0 X E => ?_)
  show dW Wf m 1 g H0 0 0 0 [(0, .ref (g.2.2 0))] [] (0 + 1) _
  refine d_size (fun hsz => ?_)
  refine c_start rfl ?_
  refine d_aload_n (pc := 0) (q := 0) X d_AS_init_0 rfl ?_
  refine d_objInit (pc := 1) X q26 q27 q28 d_AS_init_1 ⟨by decide, Nat.le_of_ble_eq_true rfl⟩ ?_
  refine d_aload_n (pc := 4) (q := 0) X d_AS_init_4 rfl ?_
  refine c_sub (pc := 5) (a := 0) (n := 1) (size := 4) X (by decide) cf_Text q29 q30 q2 (fun j hj => fs0_Text j hj) (fun l f hl => c_Text_init hl hB (by decide +kernel)) mi_Text q31 ⟨⟨by decide, by decide⟩, rfl, rfl⟩ ⟨by decide, by decide⟩ (Nat.le_of_ble_eq_true rfl) d_AS_init_5 d_AS_init_8 d_AS_init_9 ?_
  refine c_putF (pc := 12) (j := 0) X (by decide) cf_AS (by decide) q366 rfl rfl rfl ⟨rfl, rfl⟩ (Nat.le_of_ble_eq_true rfl) d_AS_init_12 ?_
  refine d_aload_n (pc := 15) (q := 0) X d_AS_init_15 rfl ?_
  refine c_sub (pc := 16) (a := 0) (n := 5) (size := 32) X (by decide) cf_Models q67 q68 q3 (fun j hj => fs0_Models j hj) (fun l f hl => c_Models_init hl hB) mi_Models q69 ⟨⟨by decide, by decide⟩, rfl, rfl⟩ ⟨by decide, by decide⟩ (Nat.le_of_ble_eq_true rfl) d_AS_init_16 d_AS_init_19 d_AS_init_20 ?_
  refine c_putF (pc := 23) (j := 1) X (by decide) cf_AS (by decide) q367 rfl rfl rfl ⟨rfl, rfl⟩ (Nat.le_of_ble_eq_true rfl) d_AS_init_23 ?_
  refine d_aload_n (pc := 26) (q := 0) X d_AS_init_26 rfl ?_
  refine c_sub (pc := 27) (a := 0) (n := 37) (size := 7) X (by decide) cf_State q127 q128 q5 (fun j hj => fs0_State j hj) (fun l f hl => c_State_init hl hB (by decide +kernel)) mi_State q129 ⟨⟨by decide, by decide⟩, rfl, rfl⟩ ⟨by decide, by decide⟩ (Nat.le_of_ble_eq_true rfl) d_AS_init_27 d_AS_init_30 d_AS_init_31 ?_
  refine c_putF (pc := 34) (j := 2) X (by decide) cf_AS (by decide) q368 rfl rfl rfl ⟨rfl, rfl⟩ (Nat.le_of_ble_eq_true rfl) d_AS_init_34 ?_
  refine d_aload_n (pc := 37) (q := 0) X d_AS_init_37 rfl ?_
  refine c_sub (pc := 38) (a := 0) (n := 44) (size := 100) X (by decide) cf_History q190 q191 q7 (fun j hj => fs0_History j hj) (fun l f hl => c_History_init hl hB) mi_History q192 ⟨⟨by decide, by decide⟩, rfl, rfl⟩ ⟨by decide, by decide⟩ (Nat.le_of_ble_eq_true rfl) d_AS_init_38 d_AS_init_41 d_AS_init_42 ?_
  refine c_putF (pc := 45) (j := 3) X (by decide) cf_AS (by decide) q369 rfl rfl rfl ⟨rfl, rfl⟩ (Nat.le_of_ble_eq_true rfl) d_AS_init_45 ?_
  refine d_aload_n (pc := 48) (q := 0) X d_AS_init_48 rfl ?_
  refine c_sub (pc := 49) (a := 0) (n := 144) (size := 17) X (by decide) cf_Saves q210 q211 q8 (fun j hj => fs0_Saves j hj) (fun l f hl => c_Saves_init hl hB) mi_Saves q212 ⟨⟨by decide, by decide⟩, rfl, rfl⟩ ⟨by decide, by decide⟩ (Nat.le_of_ble_eq_true rfl) d_AS_init_49 d_AS_init_52 d_AS_init_53 ?_
  refine c_putF (pc := 56) (j := 4) X (by decide) cf_AS (by decide) q370 rfl rfl rfl ⟨rfl, rfl⟩ (Nat.le_of_ble_eq_true rfl) d_AS_init_56 ?_
  refine d_aload_n (pc := 59) (q := 0) X d_AS_init_59 rfl ?_
  refine c_sub (pc := 60) (a := 0) (n := 161) (size := 3) X (by decide) cf_Symbols q227 q228 q9 (fun j hj => fs0_Symbols j hj) (fun l f hl => c_Symbols_init hl hB (by decide +kernel)) mi_Symbols q229 ⟨⟨by decide, by decide⟩, rfl, rfl⟩ ⟨by decide, by decide⟩ (Nat.le_of_ble_eq_true rfl) d_AS_init_60 d_AS_init_63 d_AS_init_64 ?_
  refine c_putF (pc := 67) (j := 5) X (by decide) cf_AS (by decide) q371 rfl rfl rfl ⟨rfl, rfl⟩ (Nat.le_of_ble_eq_true rfl) d_AS_init_67 ?_
  refine d_aload_n (pc := 70) (q := 0) X d_AS_init_70 rfl ?_
  refine c_sub (pc := 71) (a := 0) (n := 164) (size := 6) X (by decide) cf_Taking q248 q249 q10 (fun j hj => fs0_Taking j hj) (fun l f hl => c_Taking_init hl hB (by decide +kernel)) mi_Taking q250 ⟨⟨by decide, by decide⟩, rfl, rfl⟩ ⟨by decide, by decide⟩ (Nat.le_of_ble_eq_true rfl) d_AS_init_71 d_AS_init_74 d_AS_init_75 ?_
  refine c_putF (pc := 78) (j := 6) X (by decide) cf_AS (by decide) q372 rfl rfl rfl ⟨rfl, rfl⟩ (Nat.le_of_ble_eq_true rfl) d_AS_init_78 ?_
  refine d_aload_n (pc := 81) (q := 0) X d_AS_init_81 rfl ?_
  refine c_sub (pc := 82) (a := 0) (n := 170) (size := 6) X (by decide) cf_Taking q248 q249 q10 (fun j hj => fs0_Taking j hj) (fun l f hl => c_Taking_init hl hB (by decide +kernel)) mi_Taking q250 ⟨⟨by decide, by decide⟩, rfl, rfl⟩ ⟨by decide, by decide⟩ (Nat.le_of_ble_eq_true rfl) d_AS_init_82 d_AS_init_85 d_AS_init_86 ?_
  refine c_putF (pc := 89) (j := 7) X (by decide) cf_AS (by decide) q373 rfl rfl rfl ⟨rfl, rfl⟩ (Nat.le_of_ble_eq_true rfl) d_AS_init_89 ?_
  refine d_aload_n (pc := 92) (q := 0) X d_AS_init_92 rfl ?_
  refine c_sub (pc := 93) (a := 0) (n := 176) (size := 4) X (by decide) cf_Tape q289 q134 q6 (fun j hj => fs0_Tape j hj) (fun l f hl => c_Tape_init hl hB (by decide +kernel)) mi_Tape q290 ⟨⟨by decide, by decide⟩, rfl, rfl⟩ ⟨by decide, by decide⟩ (Nat.le_of_ble_eq_true rfl) d_AS_init_93 d_AS_init_96 d_AS_init_97 ?_
  refine c_putF (pc := 100) (j := 8) X (by decide) cf_AS (by decide) q374 rfl rfl rfl ⟨rfl, rfl⟩ (Nat.le_of_ble_eq_true rfl) d_AS_init_100 ?_
  refine d_aload_n (pc := 103) (q := 0) X d_AS_init_103 rfl ?_
  refine c_sub (pc := 104) (a := 0) (n := 180) (size := 17) X (by decide) cf_Script q291 q292 q11 (fun j hj => fs0_Script j hj) (fun l f hl => c_Script_init hl hB (by decide +kernel)) mi_Script q293 ⟨⟨by decide, by decide⟩, rfl, rfl⟩ ⟨by decide, by decide⟩ (Nat.le_of_ble_eq_true rfl) d_AS_init_104 d_AS_init_107 d_AS_init_108 ?_
  refine c_putF (pc := 111) (j := 9) X (by decide) cf_AS (by decide) q375 rfl rfl rfl ⟨rfl, rfl⟩ (Nat.le_of_ble_eq_true rfl) d_AS_init_111 ?_
  refine d_congr (f' := zE g h00) (fun k hk => ?_) ?_
  · by_cases h2 : k = 0
    · subst h2
      rw [dF_a, ce_AS]
    · rw [dF_gt (by omega)]
  have hsz2 : H0.size + 196 ≤ g.2.2 197 := by
    have b1 := hB (0 + 1)
    have b2 := hB 197
    omega
  show dW Wf m 1 g H0 196 5648 114 [(0, .ref (g.2.2 0))] [] 197 (zE g h00)
  refine d_pic hB (by omega) ?_
  have Z : zX (Wf 196 5648) m rm_AS_init b_AS_init "AliasStreams" 1 g 197 H0 := d_zX X (by decide) (by decide)
  have o0 : zO 197 0 10 := zO197 (by decide) (by decide +kernel)
  refine z_aload_n (pc := 114) (q := 0) Z d_AS_init_114 rfl ?_
  refine z_getr (pc := 115) (j := 2) (dd := 37) Z cf_AS o0 (by decide) q368 rfl rfl d_AS_init_115 ?_
  refine z_getrN (pc := 118) (j := 0) (dd := 1) Z cf_State (gf_AS_2 o0) (by decide) q170 rfl rfl d_AS_init_118 ?_
  refine z_iconst (pc := 121) Z d_AS_init_121 ?_
  refine z_iconst (pc := 122) Z d_AS_init_122 ?_
  refine z_iastj (pc := 123) (a := 38) (len := 24) (j := 0) Z (zO197 (by decide) (by decide +kernel)) (by decide +kernel) (show zr 0 from by decide) ⟨by decide, by decide⟩ rfl d_AS_init_123 ?_
  refine z_aload_n (pc := 124) (q := 0) Z d_AS_init_124 rfl ?_
  refine z_getr (pc := 125) (j := 2) (dd := 37) Z cf_AS o0 (by decide) q368 rfl rfl d_AS_init_125 ?_
  refine z_getrN (pc := 128) (j := 0) (dd := 1) Z cf_State (gf_AS_2 o0) (by decide) q170 rfl rfl d_AS_init_128 ?_
  refine z_iconst (pc := 131) Z d_AS_init_131 ?_
  refine z_iconst (pc := 132) Z d_AS_init_132 ?_
  refine z_iastj (pc := 133) (a := 38) (len := 24) (j := 1) Z (zO197 (by decide) (by decide +kernel)) (by decide +kernel) (show zr 1 from by decide) ⟨by decide, by decide⟩ rfl d_AS_init_133 ?_
  refine z_aload_n (pc := 134) (q := 0) Z d_AS_init_134 rfl ?_
  refine z_getr (pc := 135) (j := 1) (dd := 5) Z cf_AS o0 (by decide) q367 rfl rfl d_AS_init_135 ?_
  refine z_aload_n (pc := 138) (q := 0) Z d_AS_init_138 rfl ?_
  refine z_getr (pc := 139) (j := 2) (dd := 37) Z cf_AS o0 (by decide) q368 rfl rfl d_AS_init_139 ?_
  refine z_getrN (pc := 142) (j := 0) (dd := 1) Z cf_State (gf_AS_2 o0) (by decide) q170 rfl rfl d_AS_init_142 ?_
  refine z_callVNv (pc := 145) (As := [.ref (g.2.2 38)]) (rest := []) Z (fun l hl => c_Models_makeAll hl (gf_AS_1 o0) (zO197 (by decide) (by decide +kernel)) zh_h01 hv) cf_Models (gf_AS_1 o0) rfl mf_Models_makeAll q313 ⟨⟨by decide, by decide⟩, rfl, rfl⟩ rfl d_AS_init_145 rfl (Nat.le_of_ble_eq_true rfl) (fun h_7 zh_7 hv => ?_)
  refine d_back X hsz2 ⟨196, rfl, by decide +kernel⟩ ?_
  exact E 148 _ _ _ d_AS_init_148 ⟨rfl, h_7, zh_7, hv, fun k _ => rfl⟩

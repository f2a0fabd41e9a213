/-! constructors that make their rows one after the other (printed by wip/whole/ctorgen.py) -/
theorem cH_tape {g : zG} {f0 : Nat → va_E} {a ci : Nat} {fs : List Value} {e0 e1 : va_E} (c1 : zkd (a + 3) = 12) (c2 : zln (a + 3) = 2) (c3 : zhd (a + 3) = true) : ∀ k, dU1 (dU1 (dU1 (dF g f0 a ci fs) (a + 3) e0) (a + 3) e1) (a + 3) (.inl (g.2.1 12, 2, .inl (upd (upd (fun _ => 0) 0 (Int32.ofInt 512)) 1 (Int32.ofInt 512)))) k = dF g f0 a ci fs k := by
  intro k
  by_cases h : k = a + 3
  · subst h
    rw [dF_gt (by omega), zE_int c1, c2]
    unfold dU1
    rw [if_pos rfl]
    congr 4
    funext j
    rw [h00_hd c3]
    unfold upd
    match j with
    | 0 => rfl
    | 1 => rfl
    | j + 2 => simp; rw [if_neg (show ¬ j + 2 < 2 by omega)]; rfl
  · unfold dU1
    rw [if_neg h, if_neg h, if_neg h]
theorem d_Text_init_0 : decode b_Text_init 0 = .ok (.aload_n 0, 1) := by decide +kernel
theorem d_Text_init_1 : decode b_Text_init 1 = .ok (.invokespecial 3, 3) := by decide +kernel
theorem d_Text_init_4 : decode b_Text_init 4 = .ok (.aload_n 0, 1) := by decide +kernel
theorem d_Text_init_5 : decode b_Text_init 5 = .ok (.bipush 100, 2) := by decide +kernel
theorem d_Text_init_7 : decode b_Text_init 7 = .ok (.newarray .int, 2) := by decide +kernel
theorem d_Text_init_9 : decode b_Text_init 9 = .ok (.putfield 9, 3) := by decide +kernel
theorem d_Text_init_12 : decode b_Text_init 12 = .ok (.aload_n 0, 1) := by decide +kernel
theorem d_Text_init_13 : decode b_Text_init 13 = .ok (.bipush 24, 2) := by decide +kernel
theorem d_Text_init_15 : decode b_Text_init 15 = .ok (.newarray .int, 2) := by decide +kernel
theorem d_Text_init_17 : decode b_Text_init 17 = .ok (.putfield 15, 3) := by decide +kernel
theorem d_Text_init_20 : decode b_Text_init 20 = .ok (.aload_n 0, 1) := by decide +kernel
theorem d_Text_init_21 : decode b_Text_init 21 = .ok (.bipush 40, 2) := by decide +kernel
theorem d_Text_init_23 : decode b_Text_init 23 = .ok (.newarray .int, 2) := by decide +kernel
theorem d_Text_init_25 : decode b_Text_init 25 = .ok (.putfield 18, 3) := by decide +kernel
theorem d_Text_init_28 : decode b_Text_init 28 = .ok (.return_, 1) := by decide +kernel
def ck_Text (a : Nat) : Bool := (zkd a == 9) && zz0 a && (zA0 (a + 1) 12 100) && (zA0 (a + 2) 12 24) && (zA0 (a + 3) 12 40)
def rm_Text_init : Room := { frames := 1, cells := 3, slots := 164, locals := 12 }
theorem mi_Text : zMI y_Text_init b_Text_init 1 0 := ⟨rfl, q32, q2, q33, by decide +kernel⟩
theorem fs0_Text : ∀ j, j < 8 → defaultValue (ty_Text j) = vp_V (zf0 9) j := by decide +kernel
set_option maxRecDepth 100000 in
theorem c_Text_init {l : Launch} (hfl : l.flags = flags0) {g : zG} (hB : dB g) {a : Nat} (ck : ck_Text a = true) {f0 : Nat → va_E} : dMet l y_Text_init b_Text_init 1 rm_Text_init g [.ref (g.2.2 a)] (a + 1) (dU1 f0 a (.inr (9, zf0 9))) (dPo g f0 a 4) 3 164 := by
  unfold ck_Text at ck
  simp only [Bool.and_eq_true] at ck
  obtain ⟨⟨⟨⟨cka, ckz⟩, ck0⟩, ck1⟩, ck2⟩ := ck
  simp only [beq_iff_eq] at cka
  have ce_Text : zE g h00 a = .inr (9, (((zf0 9).set 0 (.ref (g.2.2 (a + 1)))).set 1 (.ref (g.2.2 (a + 2)))).set 2 (.ref (g.2.2 (a + 3)))) := by
    rw [zE_obj cka (by decide)]
    show (Sum.inr (9, ([.ref (g.2.2 (a + 1)), .ref (g.2.2 (a + 2)), .ref (g.2.2 (a + 3)), zi (h00 a 3), zi (h00 a 4), zi (h00 a 5), zi (h00 a 6), zi (h00 a 7)] : List Value)) : va_E) = _
    try simp only [h00_z ckz]
    rfl
  refine dMet_of (own := "AliasStreams$Text") hfl hB (by decide) rfl rfl (Nat.le_of_ble_eq_true rfl) (fun Wf m H0 X E => ?_)
  show dW Wf m 1 g H0 0 0 0 [(0, .ref (g.2.2 a))] [] (a + 1) _
  refine c_start rfl ?_
  refine d_aload_n (pc := 0) (q := 0) X d_Text_init_0 rfl ?_
  refine d_objInit (pc := 1) X q34 q27 q28 d_Text_init_1 ⟨by decide, Nat.le_of_ble_eq_true rfl⟩ ?_
  refine d_aload_n (pc := 4) (q := 0) X d_Text_init_4 rfl ?_
  refine d_bipush (pc := 5) X d_Text_init_5 (by decide) ?_
  refine c_newI (pc := 7) (a := a) (n := a + 1) (len := 100) X (by omega) ck0 q66 (show zr 100 from by decide) rfl (by decide) ⟨by decide, by decide⟩ d_Text_init_7 ?_
  refine c_putF (pc := 9) (j := 0) X (by omega) cf_Text (by decide) q35 rfl rfl rfl ⟨rfl, rfl⟩ (Nat.le_of_ble_eq_true rfl) d_Text_init_9 ?_
  refine d_aload_n (pc := 12) (q := 0) X d_Text_init_12 rfl ?_
  refine d_bipush (pc := 13) X d_Text_init_13 (by decide) ?_
  refine c_newI (pc := 15) (a := a) (n := a + 2) (len := 24) X (by omega) ck1 q66 (show zr 24 from by decide) rfl (by decide) ⟨by decide, by decide⟩ d_Text_init_15 ?_
  refine c_putF (pc := 17) (j := 1) X (by omega) cf_Text (by decide) q36 rfl rfl rfl ⟨rfl, rfl⟩ (Nat.le_of_ble_eq_true rfl) d_Text_init_17 ?_
  refine d_aload_n (pc := 20) (q := 0) X d_Text_init_20 rfl ?_
  refine d_bipush (pc := 21) X d_Text_init_21 (by decide) ?_
  refine c_newI (pc := 23) (a := a) (n := a + 3) (len := 40) X (by omega) ck2 q66 (show zr 40 from by decide) rfl (by decide) ⟨by decide, by decide⟩ d_Text_init_23 ?_
  refine c_putF (pc := 25) (j := 2) X (by omega) cf_Text (by decide) q38 rfl rfl rfl ⟨rfl, rfl⟩ (Nat.le_of_ble_eq_true rfl) d_Text_init_25 ?_
  exact E 28 _ _ _ d_Text_init_28 (c_end rfl ce_Text)
theorem d_Model_init_0 : decode b_Model_init 0 = .ok (.aload_n 0, 1) := by decide +kernel
theorem d_Model_init_1 : decode b_Model_init 1 = .ok (.invokespecial 3, 3) := by decide +kernel
theorem d_Model_init_4 : decode b_Model_init 4 = .ok (.aload_n 0, 1) := by decide +kernel
theorem d_Model_init_5 : decode b_Model_init 5 = .ok (.bipush 8, 2) := by decide +kernel
theorem d_Model_init_7 : decode b_Model_init 7 = .ok (.newarray .int, 2) := by decide +kernel
theorem d_Model_init_9 : decode b_Model_init 9 = .ok (.putfield 9, 3) := by decide +kernel
theorem d_Model_init_12 : decode b_Model_init 12 = .ok (.aload_n 0, 1) := by decide +kernel
theorem d_Model_init_13 : decode b_Model_init 13 = .ok (.bipush 8, 2) := by decide +kernel
theorem d_Model_init_15 : decode b_Model_init 15 = .ok (.newarray .int, 2) := by decide +kernel
theorem d_Model_init_17 : decode b_Model_init 17 = .ok (.putfield 15, 3) := by decide +kernel
theorem d_Model_init_20 : decode b_Model_init 20 = .ok (.aload_n 0, 1) := by decide +kernel
theorem d_Model_init_21 : decode b_Model_init 21 = .ok (.bipush 8, 2) := by decide +kernel
theorem d_Model_init_23 : decode b_Model_init 23 = .ok (.newarray .int, 2) := by decide +kernel
theorem d_Model_init_25 : decode b_Model_init 25 = .ok (.putfield 18, 3) := by decide +kernel
theorem d_Model_init_28 : decode b_Model_init 28 = .ok (.aload_n 0, 1) := by decide +kernel
theorem d_Model_init_29 : decode b_Model_init 29 = .ok (.bipush 8, 2) := by decide +kernel
theorem d_Model_init_31 : decode b_Model_init 31 = .ok (.newarray .int, 2) := by decide +kernel
theorem d_Model_init_33 : decode b_Model_init 33 = .ok (.putfield 21, 3) := by decide +kernel
theorem d_Model_init_36 : decode b_Model_init 36 = .ok (.aload_n 0, 1) := by decide +kernel
theorem d_Model_init_37 : decode b_Model_init 37 = .ok (.bipush 8, 2) := by decide +kernel
theorem d_Model_init_39 : decode b_Model_init 39 = .ok (.newarray .boolean, 2) := by decide +kernel
theorem d_Model_init_41 : decode b_Model_init 41 = .ok (.putfield 24, 3) := by decide +kernel
theorem d_Model_init_44 : decode b_Model_init 44 = .ok (.aload_n 0, 1) := by decide +kernel
theorem d_Model_init_45 : decode b_Model_init 45 = .ok (.bipush 32, 2) := by decide +kernel
theorem d_Model_init_47 : decode b_Model_init 47 = .ok (.newarray .int, 2) := by decide +kernel
theorem d_Model_init_49 : decode b_Model_init 49 = .ok (.putfield 28, 3) := by decide +kernel
theorem d_Model_init_52 : decode b_Model_init 52 = .ok (.aload_n 0, 1) := by decide +kernel
theorem d_Model_init_53 : decode b_Model_init 53 = .ok (.bipush 32, 2) := by decide +kernel
theorem d_Model_init_55 : decode b_Model_init 55 = .ok (.newarray .int, 2) := by decide +kernel
theorem d_Model_init_57 : decode b_Model_init 57 = .ok (.putfield 31, 3) := by decide +kernel
theorem d_Model_init_60 : decode b_Model_init 60 = .ok (.aload_n 0, 1) := by decide +kernel
theorem d_Model_init_61 : decode b_Model_init 61 = .ok (.sipush 256, 3) := by decide +kernel
theorem d_Model_init_64 : decode b_Model_init 64 = .ok (.newarray .int, 2) := by decide +kernel
theorem d_Model_init_66 : decode b_Model_init 66 = .ok (.putfield 34, 3) := by decide +kernel
theorem d_Model_init_69 : decode b_Model_init 69 = .ok (.aload_n 0, 1) := by decide +kernel
theorem d_Model_init_70 : decode b_Model_init 70 = .ok (.bipush 8, 2) := by decide +kernel
theorem d_Model_init_72 : decode b_Model_init 72 = .ok (.newarray .int, 2) := by decide +kernel
theorem d_Model_init_74 : decode b_Model_init 74 = .ok (.putfield 37, 3) := by decide +kernel
theorem d_Model_init_77 : decode b_Model_init 77 = .ok (.return_, 1) := by decide +kernel
def ck_Model (a : Nat) : Bool := (zkd a == 1) && zz0 a && (zA0 (a + 1) 12 8) && (zA0 (a + 2) 12 8) && (zA0 (a + 3) 12 8) && (zA0 (a + 4) 12 8) && (zA0 (a + 5) 13 8) && (zA0 (a + 6) 12 32) && (zA0 (a + 7) 12 32) && (zA0 (a + 8) 12 256) && (zA0 (a + 9) 12 8)
def rm_Model_init : Room := { frames := 1, cells := 9, slots := 368, locals := 12 }
theorem mi_Model : zMI y_Model_init b_Model_init 1 0 := ⟨rfl, q77, q4, q78, by decide +kernel⟩
theorem fs0_Model : ∀ j, j < 9 → defaultValue (ty_Model j) = vp_V (zf0 1) j := by decide +kernel
set_option maxRecDepth 100000 in
theorem c_Model_init {l : Launch} (hfl : l.flags = flags0) {g : zG} (hB : dB g) {a : Nat} (ck : ck_Model a = true) {f0 : Nat → va_E} : dMet l y_Model_init b_Model_init 1 rm_Model_init g [.ref (g.2.2 a)] (a + 1) (dU1 f0 a (.inr (1, zf0 1))) (dPo g f0 a 10) 9 368 := by
  unfold ck_Model at ck
  simp only [Bool.and_eq_true] at ck
  obtain ⟨⟨⟨⟨⟨⟨⟨⟨⟨⟨cka, ckz⟩, ck0⟩, ck1⟩, ck2⟩, ck3⟩, ck4⟩, ck5⟩, ck6⟩, ck7⟩, ck8⟩ := ck
  simp only [beq_iff_eq] at cka
  have ce_Model : zE g h00 a = .inr (1, (((((((((zf0 1).set 0 (.ref (g.2.2 (a + 1)))).set 1 (.ref (g.2.2 (a + 2)))).set 2 (.ref (g.2.2 (a + 3)))).set 3 (.ref (g.2.2 (a + 4)))).set 4 (.ref (g.2.2 (a + 5)))).set 5 (.ref (g.2.2 (a + 6)))).set 6 (.ref (g.2.2 (a + 7)))).set 7 (.ref (g.2.2 (a + 8)))).set 8 (.ref (g.2.2 (a + 9)))) := by
    rw [zE_obj cka (by decide)]
    show (Sum.inr (1, ([.ref (g.2.2 (a + 1)), .ref (g.2.2 (a + 2)), .ref (g.2.2 (a + 3)), .ref (g.2.2 (a + 4)), .ref (g.2.2 (a + 5)), .ref (g.2.2 (a + 6)), .ref (g.2.2 (a + 7)), .ref (g.2.2 (a + 8)), .ref (g.2.2 (a + 9))] : List Value)) : va_E) = _
    try simp only [h00_z ckz]
    rfl
  refine dMet_of (own := "AliasStreams$Model") hfl hB (by decide) rfl rfl (Nat.le_of_ble_eq_true rfl) (fun Wf m H0 X E => ?_)
  show dW Wf m 1 g H0 0 0 0 [(0, .ref (g.2.2 a))] [] (a + 1) _
  refine c_start rfl ?_
  refine d_aload_n (pc := 0) (q := 0) X d_Model_init_0 rfl ?_
  refine d_objInit (pc := 1) X q79 q27 q28 d_Model_init_1 ⟨by decide, Nat.le_of_ble_eq_true rfl⟩ ?_
  refine d_aload_n (pc := 4) (q := 0) X d_Model_init_4 rfl ?_
  refine d_bipush (pc := 5) X d_Model_init_5 (by decide) ?_
  refine c_newI (pc := 7) (a := a) (n := a + 1) (len := 8) X (by omega) ck0 q66 (show zr 8 from by decide) rfl (by decide) ⟨by decide, by decide⟩ d_Model_init_7 ?_
  refine c_putF (pc := 9) (j := 0) X (by omega) cf_Model (by decide) q80 rfl rfl rfl ⟨rfl, rfl⟩ (Nat.le_of_ble_eq_true rfl) d_Model_init_9 ?_
  refine d_aload_n (pc := 12) (q := 0) X d_Model_init_12 rfl ?_
  refine d_bipush (pc := 13) X d_Model_init_13 (by decide) ?_
  refine c_newI (pc := 15) (a := a) (n := a + 2) (len := 8) X (by omega) ck1 q66 (show zr 8 from by decide) rfl (by decide) ⟨by decide, by decide⟩ d_Model_init_15 ?_
  refine c_putF (pc := 17) (j := 1) X (by omega) cf_Model (by decide) q81 rfl rfl rfl ⟨rfl, rfl⟩ (Nat.le_of_ble_eq_true rfl) d_Model_init_17 ?_
  refine d_aload_n (pc := 20) (q := 0) X d_Model_init_20 rfl ?_
  refine d_bipush (pc := 21) X d_Model_init_21 (by decide) ?_
  refine c_newI (pc := 23) (a := a) (n := a + 3) (len := 8) X (by omega) ck2 q66 (show zr 8 from by decide) rfl (by decide) ⟨by decide, by decide⟩ d_Model_init_23 ?_
  refine c_putF (pc := 25) (j := 2) X (by omega) cf_Model (by decide) q82 rfl rfl rfl ⟨rfl, rfl⟩ (Nat.le_of_ble_eq_true rfl) d_Model_init_25 ?_
  refine d_aload_n (pc := 28) (q := 0) X d_Model_init_28 rfl ?_
  refine d_bipush (pc := 29) X d_Model_init_29 (by decide) ?_
  refine c_newI (pc := 31) (a := a) (n := a + 4) (len := 8) X (by omega) ck3 q66 (show zr 8 from by decide) rfl (by decide) ⟨by decide, by decide⟩ d_Model_init_31 ?_
  refine c_putF (pc := 33) (j := 3) X (by omega) cf_Model (by decide) q84 rfl rfl rfl ⟨rfl, rfl⟩ (Nat.le_of_ble_eq_true rfl) d_Model_init_33 ?_
  refine d_aload_n (pc := 36) (q := 0) X d_Model_init_36 rfl ?_
  refine d_bipush (pc := 37) X d_Model_init_37 (by decide) ?_
  refine c_newZ (pc := 39) (a := a) (n := a + 5) (len := 8) X (by omega) ck4 q114 (show zr 8 from by decide) rfl (by decide) ⟨by decide, by decide⟩ d_Model_init_39 ?_
  refine c_putF (pc := 41) (j := 4) X (by omega) cf_Model (by decide) q86 rfl rfl rfl ⟨rfl, rfl⟩ (Nat.le_of_ble_eq_true rfl) d_Model_init_41 ?_
  refine d_aload_n (pc := 44) (q := 0) X d_Model_init_44 rfl ?_
  refine d_bipush (pc := 45) X d_Model_init_45 (by decide) ?_
  refine c_newI (pc := 47) (a := a) (n := a + 6) (len := 32) X (by omega) ck5 q66 (show zr 32 from by decide) rfl (by decide) ⟨by decide, by decide⟩ d_Model_init_47 ?_
  refine c_putF (pc := 49) (j := 5) X (by omega) cf_Model (by decide) q87 rfl rfl rfl ⟨rfl, rfl⟩ (Nat.le_of_ble_eq_true rfl) d_Model_init_49 ?_
  refine d_aload_n (pc := 52) (q := 0) X d_Model_init_52 rfl ?_
  refine d_bipush (pc := 53) X d_Model_init_53 (by decide) ?_
  refine c_newI (pc := 55) (a := a) (n := a + 7) (len := 32) X (by omega) ck6 q66 (show zr 32 from by decide) rfl (by decide) ⟨by decide, by decide⟩ d_Model_init_55 ?_
  refine c_putF (pc := 57) (j := 6) X (by omega) cf_Model (by decide) q90 rfl rfl rfl ⟨rfl, rfl⟩ (Nat.le_of_ble_eq_true rfl) d_Model_init_57 ?_
  refine d_aload_n (pc := 60) (q := 0) X d_Model_init_60 rfl ?_
  refine d_sipush (pc := 61) X d_Model_init_61 (by decide) ?_
  refine c_newI (pc := 64) (a := a) (n := a + 8) (len := 256) X (by omega) ck7 q66 (show zr 256 from by decide) rfl (by decide) ⟨by decide, by decide⟩ d_Model_init_64 ?_
  refine c_putF (pc := 66) (j := 7) X (by omega) cf_Model (by decide) q93 rfl rfl rfl ⟨rfl, rfl⟩ (Nat.le_of_ble_eq_true rfl) d_Model_init_66 ?_
  refine d_aload_n (pc := 69) (q := 0) X d_Model_init_69 rfl ?_
  refine d_bipush (pc := 70) X d_Model_init_70 (by decide) ?_
  refine c_newI (pc := 72) (a := a) (n := a + 9) (len := 8) X (by omega) ck8 q66 (show zr 8 from by decide) rfl (by decide) ⟨by decide, by decide⟩ d_Model_init_72 ?_
  refine c_putF (pc := 74) (j := 8) X (by omega) cf_Model (by decide) q94 rfl rfl rfl ⟨rfl, rfl⟩ (Nat.le_of_ble_eq_true rfl) d_Model_init_74 ?_
  exact E 77 _ _ _ d_Model_init_77 (c_end rfl ce_Model)
theorem d_Symbols_init_0 : decode b_Symbols_init 0 = .ok (.aload_n 0, 1) := by decide +kernel
theorem d_Symbols_init_1 : decode b_Symbols_init 1 = .ok (.invokespecial 3, 3) := by decide +kernel
theorem d_Symbols_init_4 : decode b_Symbols_init 4 = .ok (.aload_n 0, 1) := by decide +kernel
theorem d_Symbols_init_5 : decode b_Symbols_init 5 = .ok (.bipush 40, 2) := by decide +kernel
theorem d_Symbols_init_7 : decode b_Symbols_init 7 = .ok (.newarray .int, 2) := by decide +kernel
theorem d_Symbols_init_9 : decode b_Symbols_init 9 = .ok (.putfield 9, 3) := by decide +kernel
theorem d_Symbols_init_12 : decode b_Symbols_init 12 = .ok (.aload_n 0, 1) := by decide +kernel
theorem d_Symbols_init_13 : decode b_Symbols_init 13 = .ok (.bipush 40, 2) := by decide +kernel
theorem d_Symbols_init_15 : decode b_Symbols_init 15 = .ok (.newarray .int, 2) := by decide +kernel
theorem d_Symbols_init_17 : decode b_Symbols_init 17 = .ok (.putfield 15, 3) := by decide +kernel
theorem d_Symbols_init_20 : decode b_Symbols_init 20 = .ok (.return_, 1) := by decide +kernel
def ck_Symbols (a : Nat) : Bool := (zkd a == 6) && zz0 a && (zA0 (a + 1) 12 40) && (zA0 (a + 2) 12 40)
def rm_Symbols_init : Room := { frames := 1, cells := 2, slots := 80, locals := 12 }
theorem mi_Symbols : zMI y_Symbols_init b_Symbols_init 1 0 := ⟨rfl, q230, q9, q231, by decide +kernel⟩
theorem fs0_Symbols : ∀ j, j < 3 → defaultValue (ty_Symbols j) = vp_V (zf0 6) j := by decide +kernel
set_option maxRecDepth 100000 in
theorem c_Symbols_init {l : Launch} (hfl : l.flags = flags0) {g : zG} (hB : dB g) {a : Nat} (ck : ck_Symbols a = true) {f0 : Nat → va_E} : dMet l y_Symbols_init b_Symbols_init 1 rm_Symbols_init g [.ref (g.2.2 a)] (a + 1) (dU1 f0 a (.inr (6, zf0 6))) (dPo g f0 a 3) 2 80 := by
  unfold ck_Symbols at ck
  simp only [Bool.and_eq_true] at ck
  obtain ⟨⟨⟨cka, ckz⟩, ck0⟩, ck1⟩ := ck
  simp only [beq_iff_eq] at cka
  have ce_Symbols : zE g h00 a = .inr (6, ((zf0 6).set 0 (.ref (g.2.2 (a + 1)))).set 1 (.ref (g.2.2 (a + 2)))) := by
    rw [zE_obj cka (by decide)]
    show (Sum.inr (6, ([.ref (g.2.2 (a + 1)), .ref (g.2.2 (a + 2)), zi (h00 a 2)] : List Value)) : va_E) = _
    try simp only [h00_z ckz]
    rfl
  refine dMet_of (own := "AliasStreams$Symbols") hfl hB (by decide) rfl rfl (Nat.le_of_ble_eq_true rfl) (fun Wf m H0 X E => ?_)
  show dW Wf m 1 g H0 0 0 0 [(0, .ref (g.2.2 a))] [] (a + 1) _
  refine c_start rfl ?_
  refine d_aload_n (pc := 0) (q := 0) X d_Symbols_init_0 rfl ?_
  refine d_objInit (pc := 1) X q232 q27 q28 d_Symbols_init_1 ⟨by decide, Nat.le_of_ble_eq_true rfl⟩ ?_
  refine d_aload_n (pc := 4) (q := 0) X d_Symbols_init_4 rfl ?_
  refine d_bipush (pc := 5) X d_Symbols_init_5 (by decide) ?_
  refine c_newI (pc := 7) (a := a) (n := a + 1) (len := 40) X (by omega) ck0 q66 (show zr 40 from by decide) rfl (by decide) ⟨by decide, by decide⟩ d_Symbols_init_7 ?_
  refine c_putF (pc := 9) (j := 0) X (by omega) cf_Symbols (by decide) q233 rfl rfl rfl ⟨rfl, rfl⟩ (Nat.le_of_ble_eq_true rfl) d_Symbols_init_9 ?_
  refine d_aload_n (pc := 12) (q := 0) X d_Symbols_init_12 rfl ?_
  refine d_bipush (pc := 13) X d_Symbols_init_13 (by decide) ?_
  refine c_newI (pc := 15) (a := a) (n := a + 2) (len := 40) X (by omega) ck1 q66 (show zr 40 from by decide) rfl (by decide) ⟨by decide, by decide⟩ d_Symbols_init_15 ?_
  refine c_putF (pc := 17) (j := 1) X (by omega) cf_Symbols (by decide) q236 rfl rfl rfl ⟨rfl, rfl⟩ (Nat.le_of_ble_eq_true rfl) d_Symbols_init_17 ?_
  exact E 20 _ _ _ d_Symbols_init_20 (c_end rfl ce_Symbols)
theorem d_Taking_init_0 : decode b_Taking_init 0 = .ok (.aload_n 0, 1) := by decide +kernel
theorem d_Taking_init_1 : decode b_Taking_init 1 = .ok (.invokespecial 3, 3) := by decide +kernel
theorem d_Taking_init_4 : decode b_Taking_init 4 = .ok (.aload_n 0, 1) := by decide +kernel
theorem d_Taking_init_5 : decode b_Taking_init 5 = .ok (.bipush 40, 2) := by decide +kernel
theorem d_Taking_init_7 : decode b_Taking_init 7 = .ok (.newarray .int, 2) := by decide +kernel
theorem d_Taking_init_9 : decode b_Taking_init 9 = .ok (.putfield 9, 3) := by decide +kernel
theorem d_Taking_init_12 : decode b_Taking_init 12 = .ok (.aload_n 0, 1) := by decide +kernel
theorem d_Taking_init_13 : decode b_Taking_init 13 = .ok (.bipush 40, 2) := by decide +kernel
theorem d_Taking_init_15 : decode b_Taking_init 15 = .ok (.newarray .int, 2) := by decide +kernel
theorem d_Taking_init_17 : decode b_Taking_init 17 = .ok (.putfield 15, 3) := by decide +kernel
theorem d_Taking_init_20 : decode b_Taking_init 20 = .ok (.aload_n 0, 1) := by decide +kernel
theorem d_Taking_init_21 : decode b_Taking_init 21 = .ok (.bipush 40, 2) := by decide +kernel
theorem d_Taking_init_23 : decode b_Taking_init 23 = .ok (.newarray .int, 2) := by decide +kernel
theorem d_Taking_init_25 : decode b_Taking_init 25 = .ok (.putfield 18, 3) := by decide +kernel
theorem d_Taking_init_28 : decode b_Taking_init 28 = .ok (.aload_n 0, 1) := by decide +kernel
theorem d_Taking_init_29 : decode b_Taking_init 29 = .ok (.bipush 40, 2) := by decide +kernel
theorem d_Taking_init_31 : decode b_Taking_init 31 = .ok (.newarray .int, 2) := by decide +kernel
theorem d_Taking_init_33 : decode b_Taking_init 33 = .ok (.putfield 21, 3) := by decide +kernel
theorem d_Taking_init_36 : decode b_Taking_init 36 = .ok (.aload_n 0, 1) := by decide +kernel
theorem d_Taking_init_37 : decode b_Taking_init 37 = .ok (.iconst 2, 1) := by decide +kernel
theorem d_Taking_init_38 : decode b_Taking_init 38 = .ok (.newarray .int, 2) := by decide +kernel
theorem d_Taking_init_40 : decode b_Taking_init 40 = .ok (.putfield 24, 3) := by decide +kernel
theorem d_Taking_init_43 : decode b_Taking_init 43 = .ok (.return_, 1) := by decide +kernel
def ck_Taking (a : Nat) : Bool := (zkd a == 7) && zz0 a && (zA0 (a + 1) 12 40) && (zA0 (a + 2) 12 40) && (zA0 (a + 3) 12 40) && (zA0 (a + 4) 12 40) && (zA0 (a + 5) 12 2)
def rm_Taking_init : Room := { frames := 1, cells := 5, slots := 162, locals := 12 }
theorem mi_Taking : zMI y_Taking_init b_Taking_init 1 0 := ⟨rfl, q251, q10, q252, by decide +kernel⟩
theorem fs0_Taking : ∀ j, j < 8 → defaultValue (ty_Taking j) = vp_V (zf0 7) j := by decide +kernel
set_option maxRecDepth 100000 in
theorem c_Taking_init {l : Launch} (hfl : l.flags = flags0) {g : zG} (hB : dB g) {a : Nat} (ck : ck_Taking a = true) {f0 : Nat → va_E} : dMet l y_Taking_init b_Taking_init 1 rm_Taking_init g [.ref (g.2.2 a)] (a + 1) (dU1 f0 a (.inr (7, zf0 7))) (dPo g f0 a 6) 5 162 := by
  unfold ck_Taking at ck
  simp only [Bool.and_eq_true] at ck
  obtain ⟨⟨⟨⟨⟨⟨cka, ckz⟩, ck0⟩, ck1⟩, ck2⟩, ck3⟩, ck4⟩ := ck
  simp only [beq_iff_eq] at cka
  have ce_Taking : zE g h00 a = .inr (7, (((((zf0 7).set 0 (.ref (g.2.2 (a + 1)))).set 1 (.ref (g.2.2 (a + 2)))).set 2 (.ref (g.2.2 (a + 3)))).set 3 (.ref (g.2.2 (a + 4)))).set 4 (.ref (g.2.2 (a + 5)))) := by
    rw [zE_obj cka (by decide)]
    show (Sum.inr (7, ([.ref (g.2.2 (a + 1)), .ref (g.2.2 (a + 2)), .ref (g.2.2 (a + 3)), .ref (g.2.2 (a + 4)), .ref (g.2.2 (a + 5)), zi (h00 a 5), zi (h00 a 6), zi (h00 a 7)] : List Value)) : va_E) = _
    try simp only [h00_z ckz]
    rfl
  refine dMet_of (own := "AliasStreams$Taking") hfl hB (by decide) rfl rfl (Nat.le_of_ble_eq_true rfl) (fun Wf m H0 X E => ?_)
  show dW Wf m 1 g H0 0 0 0 [(0, .ref (g.2.2 a))] [] (a + 1) _
  refine c_start rfl ?_
  refine d_aload_n (pc := 0) (q := 0) X d_Taking_init_0 rfl ?_
  refine d_objInit (pc := 1) X q253 q27 q28 d_Taking_init_1 ⟨by decide, Nat.le_of_ble_eq_true rfl⟩ ?_
  refine d_aload_n (pc := 4) (q := 0) X d_Taking_init_4 rfl ?_
  refine d_bipush (pc := 5) X d_Taking_init_5 (by decide) ?_
  refine c_newI (pc := 7) (a := a) (n := a + 1) (len := 40) X (by omega) ck0 q66 (show zr 40 from by decide) rfl (by decide) ⟨by decide, by decide⟩ d_Taking_init_7 ?_
  refine c_putF (pc := 9) (j := 0) X (by omega) cf_Taking (by decide) q254 rfl rfl rfl ⟨rfl, rfl⟩ (Nat.le_of_ble_eq_true rfl) d_Taking_init_9 ?_
  refine d_aload_n (pc := 12) (q := 0) X d_Taking_init_12 rfl ?_
  refine d_bipush (pc := 13) X d_Taking_init_13 (by decide) ?_
  refine c_newI (pc := 15) (a := a) (n := a + 2) (len := 40) X (by omega) ck1 q66 (show zr 40 from by decide) rfl (by decide) ⟨by decide, by decide⟩ d_Taking_init_15 ?_
  refine c_putF (pc := 17) (j := 1) X (by omega) cf_Taking (by decide) q258 rfl rfl rfl ⟨rfl, rfl⟩ (Nat.le_of_ble_eq_true rfl) d_Taking_init_17 ?_
  refine d_aload_n (pc := 20) (q := 0) X d_Taking_init_20 rfl ?_
  refine d_bipush (pc := 21) X d_Taking_init_21 (by decide) ?_
  refine c_newI (pc := 23) (a := a) (n := a + 3) (len := 40) X (by omega) ck2 q66 (show zr 40 from by decide) rfl (by decide) ⟨by decide, by decide⟩ d_Taking_init_23 ?_
  refine c_putF (pc := 25) (j := 2) X (by omega) cf_Taking (by decide) q260 rfl rfl rfl ⟨rfl, rfl⟩ (Nat.le_of_ble_eq_true rfl) d_Taking_init_25 ?_
  refine d_aload_n (pc := 28) (q := 0) X d_Taking_init_28 rfl ?_
  refine d_bipush (pc := 29) X d_Taking_init_29 (by decide) ?_
  refine c_newI (pc := 31) (a := a) (n := a + 4) (len := 40) X (by omega) ck3 q66 (show zr 40 from by decide) rfl (by decide) ⟨by decide, by decide⟩ d_Taking_init_31 ?_
  refine c_putF (pc := 33) (j := 3) X (by omega) cf_Taking (by decide) q262 rfl rfl rfl ⟨rfl, rfl⟩ (Nat.le_of_ble_eq_true rfl) d_Taking_init_33 ?_
  refine d_aload_n (pc := 36) (q := 0) X d_Taking_init_36 rfl ?_
  refine d_iconst (pc := 37) X d_Taking_init_37 ?_
  refine c_newI (pc := 38) (a := a) (n := a + 5) (len := 2) X (by omega) ck4 q66 (show zr 2 from by decide) rfl (by decide) ⟨by decide, by decide⟩ d_Taking_init_38 ?_
  refine c_putF (pc := 40) (j := 4) X (by omega) cf_Taking (by decide) q264 rfl rfl rfl ⟨rfl, rfl⟩ (Nat.le_of_ble_eq_true rfl) d_Taking_init_40 ?_
  exact E 43 _ _ _ d_Taking_init_43 (c_end rfl ce_Taking)
theorem d_Tape_init_0 : decode b_Tape_init 0 = .ok (.aload_n 0, 1) := by decide +kernel
theorem d_Tape_init_1 : decode b_Tape_init 1 = .ok (.invokespecial 3, 3) := by decide +kernel
theorem d_Tape_init_4 : decode b_Tape_init 4 = .ok (.aload_n 0, 1) := by decide +kernel
theorem d_Tape_init_5 : decode b_Tape_init 5 = .ok (.bipush 40, 2) := by decide +kernel
theorem d_Tape_init_7 : decode b_Tape_init 7 = .ok (.newarray .int, 2) := by decide +kernel
theorem d_Tape_init_9 : decode b_Tape_init 9 = .ok (.putfield 9, 3) := by decide +kernel
theorem d_Tape_init_12 : decode b_Tape_init 12 = .ok (.aload_n 0, 1) := by decide +kernel
theorem d_Tape_init_13 : decode b_Tape_init 13 = .ok (.bipush 80, 2) := by decide +kernel
theorem d_Tape_init_15 : decode b_Tape_init 15 = .ok (.newarray .int, 2) := by decide +kernel
theorem d_Tape_init_17 : decode b_Tape_init 17 = .ok (.putfield 15, 3) := by decide +kernel
theorem d_Tape_init_20 : decode b_Tape_init 20 = .ok (.aload_n 0, 1) := by decide +kernel
theorem d_Tape_init_21 : decode b_Tape_init 21 = .ok (.iconst 2, 1) := by decide +kernel
theorem d_Tape_init_22 : decode b_Tape_init 22 = .ok (.newarray .int, 2) := by decide +kernel
theorem d_Tape_init_24 : decode b_Tape_init 24 = .ok (.dup, 1) := by decide +kernel
theorem d_Tape_init_25 : decode b_Tape_init 25 = .ok (.iconst 0, 1) := by decide +kernel
theorem d_Tape_init_26 : decode b_Tape_init 26 = .ok (.sipush 512, 3) := by decide +kernel
theorem d_Tape_init_29 : decode b_Tape_init 29 = .ok (.iastore, 1) := by decide +kernel
theorem d_Tape_init_30 : decode b_Tape_init 30 = .ok (.dup, 1) := by decide +kernel
theorem d_Tape_init_31 : decode b_Tape_init 31 = .ok (.iconst 1, 1) := by decide +kernel
theorem d_Tape_init_32 : decode b_Tape_init 32 = .ok (.sipush 512, 3) := by decide +kernel
theorem d_Tape_init_35 : decode b_Tape_init 35 = .ok (.iastore, 1) := by decide +kernel
theorem d_Tape_init_36 : decode b_Tape_init 36 = .ok (.putfield 18, 3) := by decide +kernel
theorem d_Tape_init_39 : decode b_Tape_init 39 = .ok (.return_, 1) := by decide +kernel
def ck_Tape (a : Nat) : Bool := (zkd a == 8) && zz0 a && (zA0 (a + 1) 12 40) && (zA0 (a + 2) 12 80) && (zkd (a + 3) == 12 && zln (a + 3) == 2 && zhd (a + 3))
def rm_Tape_init : Room := { frames := 1, cells := 3, slots := 122, locals := 12 }
theorem mi_Tape : zMI y_Tape_init b_Tape_init 1 0 := ⟨rfl, q136, q6, q137, by decide +kernel⟩
theorem fs0_Tape : ∀ j, j < 5 → defaultValue (ty_Tape j) = vp_V (zf0 8) j := by decide +kernel
set_option maxRecDepth 100000 in
theorem c_Tape_init {l : Launch} (hfl : l.flags = flags0) {g : zG} (hB : dB g) {a : Nat} (ck : ck_Tape a = true) {f0 : Nat → va_E} : dMet l y_Tape_init b_Tape_init 1 rm_Tape_init g [.ref (g.2.2 a)] (a + 1) (dU1 f0 a (.inr (8, zf0 8))) (dPo g f0 a 4) 3 122 := by
  unfold ck_Tape at ck
  simp only [Bool.and_eq_true] at ck
  obtain ⟨⟨⟨⟨cka, ckz⟩, ck0⟩, ck1⟩, ⟨⟨ck2a, ck2b⟩, ck2c⟩⟩ := ck
  simp only [beq_iff_eq] at cka
  have ce_Tape : zE g h00 a = .inr (8, (((zf0 8).set 0 (.ref (g.2.2 (a + 1)))).set 1 (.ref (g.2.2 (a + 2)))).set 2 (.ref (g.2.2 (a + 3)))) := by
    rw [zE_obj cka (by decide)]
    show (Sum.inr (8, ([.ref (g.2.2 (a + 1)), .ref (g.2.2 (a + 2)), .ref (g.2.2 (a + 3)), zi (h00 a 3), zi (h00 a 4)] : List Value)) : va_E) = _
    try simp only [h00_z ckz]
    rfl
  refine dMet_of (own := "AliasStreams$Tape") hfl hB (by decide) rfl rfl (Nat.le_of_ble_eq_true rfl) (fun Wf m H0 X E => ?_)
  show dW Wf m 1 g H0 0 0 0 [(0, .ref (g.2.2 a))] [] (a + 1) _
  refine c_start rfl ?_
  refine d_aload_n (pc := 0) (q := 0) X d_Tape_init_0 rfl ?_
  refine d_objInit (pc := 1) X q138 q27 q28 d_Tape_init_1 ⟨by decide, Nat.le_of_ble_eq_true rfl⟩ ?_
  refine d_aload_n (pc := 4) (q := 0) X d_Tape_init_4 rfl ?_
  refine d_bipush (pc := 5) X d_Tape_init_5 (by decide) ?_
  refine c_newI (pc := 7) (a := a) (n := a + 1) (len := 40) X (by omega) ck0 q66 (show zr 40 from by decide) rfl (by decide) ⟨by decide, by decide⟩ d_Tape_init_7 ?_
  refine c_putF (pc := 9) (j := 0) X (by omega) cf_Tape (by decide) q139 rfl rfl rfl ⟨rfl, rfl⟩ (Nat.le_of_ble_eq_true rfl) d_Tape_init_9 ?_
  refine d_aload_n (pc := 12) (q := 0) X d_Tape_init_12 rfl ?_
  refine d_bipush (pc := 13) X d_Tape_init_13 (by decide) ?_
  refine c_newI (pc := 15) (a := a) (n := a + 2) (len := 80) X (by omega) ck1 q66 (show zr 80 from by decide) rfl (by decide) ⟨by decide, by decide⟩ d_Tape_init_15 ?_
  refine c_putF (pc := 17) (j := 1) X (by omega) cf_Tape (by decide) q143 rfl rfl rfl ⟨rfl, rfl⟩ (Nat.le_of_ble_eq_true rfl) d_Tape_init_17 ?_
  refine d_aload_n (pc := 20) (q := 0) X d_Tape_init_20 rfl ?_
  refine d_iconst (pc := 21) X d_Tape_init_21 ?_
  refine d_newI (pc := 22) (len := 2) X q66 (show zr 2 from by decide) rfl (by decide) ⟨by decide, by decide⟩ d_Tape_init_22 ?_
  refine d_dup (pc := 24) X d_Tape_init_24 rfl ?_
  refine d_iconst (pc := 25) X d_Tape_init_25 ?_
  refine d_sipush (pc := 26) X d_Tape_init_26 (by decide) ?_
  refine d_iast (pc := 29) (i := 0) (len := 2) X (by omega) (if_pos rfl) (show zr 0 from by decide) rfl (by decide) d_Tape_init_29 ?_
  refine d_dup (pc := 30) X d_Tape_init_30 rfl ?_
  refine d_iconst (pc := 31) X d_Tape_init_31 ?_
  refine d_sipush (pc := 32) X d_Tape_init_32 (by decide) ?_
  refine d_iast (pc := 35) (i := 1) (len := 2) X (by omega) (if_pos rfl) (show zr 1 from by decide) rfl (by decide) d_Tape_init_35 ?_
  refine d_congr (f' := dF g f0 a 8 (((zf0 8).set 0 (.ref (g.2.2 (a + 1)))).set 1 (.ref (g.2.2 (a + 2))))) (fun k hk => cH_tape (by simpa using ck2a) (by simpa using ck2b) ck2c k) ?_
  refine c_putF (pc := 36) (j := 2) X (by omega) cf_Tape (by decide) q147 rfl rfl rfl ⟨rfl, rfl⟩ (Nat.le_of_ble_eq_true rfl) d_Tape_init_36 ?_
  exact E 39 _ _ _ d_Tape_init_39 (c_end rfl ce_Tape)
theorem d_State_init_0 : decode b_State_init 0 = .ok (.aload_n 0, 1) := by decide +kernel
theorem d_State_init_1 : decode b_State_init 1 = .ok (.invokespecial 3, 3) := by decide +kernel
theorem d_State_init_4 : decode b_State_init 4 = .ok (.aload_n 0, 1) := by decide +kernel
theorem d_State_init_5 : decode b_State_init 5 = .ok (.bipush 24, 2) := by decide +kernel
theorem d_State_init_7 : decode b_State_init 7 = .ok (.newarray .int, 2) := by decide +kernel
theorem d_State_init_9 : decode b_State_init 9 = .ok (.putfield 9, 3) := by decide +kernel
theorem d_State_init_12 : decode b_State_init 12 = .ok (.aload_n 0, 1) := by decide +kernel
theorem d_State_init_13 : decode b_State_init 13 = .ok (.bipush 40, 2) := by decide +kernel
theorem d_State_init_15 : decode b_State_init 15 = .ok (.newarray .int, 2) := by decide +kernel
theorem d_State_init_17 : decode b_State_init 17 = .ok (.putfield 15, 3) := by decide +kernel
theorem d_State_init_20 : decode b_State_init 20 = .ok (.aload_n 0, 1) := by decide +kernel
theorem d_State_init_21 : decode b_State_init 21 = .ok (.new 18, 3) := by decide +kernel
theorem d_State_init_24 : decode b_State_init 24 = .ok (.dup, 1) := by decide +kernel
theorem d_State_init_25 : decode b_State_init 25 = .ok (.invokespecial 20, 3) := by decide +kernel
theorem d_State_init_28 : decode b_State_init 28 = .ok (.putfield 21, 3) := by decide +kernel
theorem d_State_init_31 : decode b_State_init 31 = .ok (.return_, 1) := by decide +kernel
def ck_State (a : Nat) : Bool := (zkd a == 5) && zz0 a && (zA0 (a + 1) 12 24) && (zA0 (a + 2) 12 40) && (ck_Tape (a + 3))
def rm_State_init : Room := { frames := 2, cells := 6, slots := 191, locals := 32 }
theorem mi_State : zMI y_State_init b_State_init 1 0 := ⟨rfl, q130, q5, q131, by decide +kernel⟩
theorem fs0_State : ∀ j, j < 4 → defaultValue (ty_State j) = vp_V (zf0 5) j := by decide +kernel
set_option maxRecDepth 100000 in
theorem c_State_init {l : Launch} (hfl : l.flags = flags0) {g : zG} (hB : dB g) {a : Nat} (ck : ck_State a = true) {f0 : Nat → va_E} : dMet l y_State_init b_State_init 1 rm_State_init g [.ref (g.2.2 a)] (a + 1) (dU1 f0 a (.inr (5, zf0 5))) (dPo g f0 a 7) 6 191 := by
  unfold ck_State at ck
  simp only [Bool.and_eq_true] at ck
  obtain ⟨⟨⟨⟨cka, ckz⟩, ck0⟩, ck1⟩, ck2⟩ := ck
  simp only [beq_iff_eq] at cka
  have ce_State : zE g h00 a = .inr (5, (((zf0 5).set 0 (.ref (g.2.2 (a + 1)))).set 1 (.ref (g.2.2 (a + 2)))).set 2 (.ref (g.2.2 (a + 3)))) := by
    rw [zE_obj cka (by decide)]
    show (Sum.inr (5, ([.ref (g.2.2 (a + 1)), .ref (g.2.2 (a + 2)), .ref (g.2.2 (a + 3)), zi (h00 a 3)] : List Value)) : va_E) = _
    try simp only [h00_z ckz]
    rfl
  refine dMet_of (own := "AliasStreams$State") hfl hB (by decide) rfl rfl (Nat.le_of_ble_eq_true rfl) (fun Wf m H0 X E => ?_)
  show dW Wf m 1 g H0 0 0 0 [(0, .ref (g.2.2 a))] [] (a + 1) _
  refine c_start rfl ?_
  refine d_aload_n (pc := 0) (q := 0) X d_State_init_0 rfl ?_
  refine d_objInit (pc := 1) X q132 q27 q28 d_State_init_1 ⟨by decide, Nat.le_of_ble_eq_true rfl⟩ ?_
  refine d_aload_n (pc := 4) (q := 0) X d_State_init_4 rfl ?_
  refine d_bipush (pc := 5) X d_State_init_5 (by decide) ?_
  refine c_newI (pc := 7) (a := a) (n := a + 1) (len := 24) X (by omega) ck0 q66 (show zr 24 from by decide) rfl (by decide) ⟨by decide, by decide⟩ d_State_init_7 ?_
  refine c_putF (pc := 9) (j := 0) X (by omega) cf_State (by decide) q169 rfl rfl rfl ⟨rfl, rfl⟩ (Nat.le_of_ble_eq_true rfl) d_State_init_9 ?_
  refine d_aload_n (pc := 12) (q := 0) X d_State_init_12 rfl ?_
  refine d_bipush (pc := 13) X d_State_init_13 (by decide) ?_
  refine c_newI (pc := 15) (a := a) (n := a + 2) (len := 40) X (by omega) ck1 q66 (show zr 40 from by decide) rfl (by decide) ⟨by decide, by decide⟩ d_State_init_15 ?_
  refine c_putF (pc := 17) (j := 1) X (by omega) cf_State (by decide) q171 rfl rfl rfl ⟨rfl, rfl⟩ (Nat.le_of_ble_eq_true rfl) d_State_init_17 ?_
  refine d_aload_n (pc := 20) (q := 0) X d_State_init_20 rfl ?_
  refine c_sub (pc := 21) (a := a) (n := a + 3) X (by omega) cf_Tape q133 q134 q6 (fun j hj => fs0_Tape j hj) (fun l f hl => c_Tape_init hl hB ck2) mi_Tape q135 ⟨⟨by decide, by decide⟩, rfl, rfl⟩ ⟨by decide, by decide⟩ (Nat.le_of_ble_eq_true rfl) d_State_init_21 d_State_init_24 d_State_init_25 ?_
  refine c_putF (pc := 28) (j := 2) X (by omega) cf_State (by decide) q174 rfl rfl rfl ⟨rfl, rfl⟩ (Nat.le_of_ble_eq_true rfl) d_State_init_28 ?_
  exact E 31 _ _ _ d_State_init_31 (c_end rfl ce_State)
theorem d_Script_init_0 : decode b_Script_init 0 = .ok (.aload_n 0, 1) := by decide +kernel
theorem d_Script_init_1 : decode b_Script_init 1 = .ok (.invokespecial 3, 3) := by decide +kernel
theorem d_Script_init_4 : decode b_Script_init 4 = .ok (.aload_n 0, 1) := by decide +kernel
theorem d_Script_init_5 : decode b_Script_init 5 = .ok (.new 9, 3) := by decide +kernel
theorem d_Script_init_8 : decode b_Script_init 8 = .ok (.dup, 1) := by decide +kernel
theorem d_Script_init_9 : decode b_Script_init 9 = .ok (.invokespecial 11, 3) := by decide +kernel
theorem d_Script_init_12 : decode b_Script_init 12 = .ok (.putfield 12, 3) := by decide +kernel
theorem d_Script_init_15 : decode b_Script_init 15 = .ok (.aload_n 0, 1) := by decide +kernel
theorem d_Script_init_16 : decode b_Script_init 16 = .ok (.new 18, 3) := by decide +kernel
theorem d_Script_init_19 : decode b_Script_init 19 = .ok (.dup, 1) := by decide +kernel
theorem d_Script_init_20 : decode b_Script_init 20 = .ok (.invokespecial 20, 3) := by decide +kernel
theorem d_Script_init_23 : decode b_Script_init 23 = .ok (.putfield 21, 3) := by decide +kernel
theorem d_Script_init_26 : decode b_Script_init 26 = .ok (.aload_n 0, 1) := by decide +kernel
theorem d_Script_init_27 : decode b_Script_init 27 = .ok (.new 25, 3) := by decide +kernel
theorem d_Script_init_30 : decode b_Script_init 30 = .ok (.dup, 1) := by decide +kernel
theorem d_Script_init_31 : decode b_Script_init 31 = .ok (.invokespecial 27, 3) := by decide +kernel
theorem d_Script_init_34 : decode b_Script_init 34 = .ok (.putfield 28, 3) := by decide +kernel
theorem d_Script_init_37 : decode b_Script_init 37 = .ok (.return_, 1) := by decide +kernel
def ck_Script (a : Nat) : Bool := (zkd a == 4) && zz0 a && (ck_State (a + 1)) && (ck_Symbols (a + 8)) && (ck_Taking (a + 11))
def rm_Script_init : Room := { frames := 3, cells := 16, slots := 448, locals := 52 }
theorem mi_Script : zMI y_Script_init b_Script_init 1 0 := ⟨rfl, q294, q11, q295, by decide +kernel⟩
theorem fs0_Script : ∀ j, j < 3 → defaultValue (ty_Script j) = vp_V (zf0 4) j := by decide +kernel
set_option maxRecDepth 100000 in
theorem c_Script_init {l : Launch} (hfl : l.flags = flags0) {g : zG} (hB : dB g) {a : Nat} (ck : ck_Script a = true) {f0 : Nat → va_E} : dMet l y_Script_init b_Script_init 1 rm_Script_init g [.ref (g.2.2 a)] (a + 1) (dU1 f0 a (.inr (4, zf0 4))) (dPo g f0 a 17) 16 448 := by
  unfold ck_Script at ck
  simp only [Bool.and_eq_true] at ck
  obtain ⟨⟨⟨⟨cka, ckz⟩, ck0⟩, ck1⟩, ck2⟩ := ck
  simp only [beq_iff_eq] at cka
  have ce_Script : zE g h00 a = .inr (4, (((zf0 4).set 0 (.ref (g.2.2 (a + 1)))).set 1 (.ref (g.2.2 (a + 8)))).set 2 (.ref (g.2.2 (a + 11)))) := by
    rw [zE_obj cka (by decide)]
    show (Sum.inr (4, ([.ref (g.2.2 (a + 1)), .ref (g.2.2 (a + 8)), .ref (g.2.2 (a + 11))] : List Value)) : va_E) = _
    try simp only [h00_z ckz]
    rfl
  refine dMet_of (own := "AliasStreams$Script") hfl hB (by decide) rfl rfl (Nat.le_of_ble_eq_true rfl) (fun Wf m H0 X E => ?_)
  show dW Wf m 1 g H0 0 0 0 [(0, .ref (g.2.2 a))] [] (a + 1) _
  refine c_start rfl ?_
  refine d_aload_n (pc := 0) (q := 0) X d_Script_init_0 rfl ?_
  refine d_objInit (pc := 1) X q296 q27 q28 d_Script_init_1 ⟨by decide, Nat.le_of_ble_eq_true rfl⟩ ?_
  refine d_aload_n (pc := 4) (q := 0) X d_Script_init_4 rfl ?_
  refine c_sub (pc := 5) (a := a) (n := a + 1) X (by omega) cf_State q297 q128 q5 (fun j hj => fs0_State j hj) (fun l f hl => c_State_init hl hB ck0) mi_State q298 ⟨⟨by decide, by decide⟩, rfl, rfl⟩ ⟨by decide, by decide⟩ (Nat.le_of_ble_eq_true rfl) d_Script_init_5 d_Script_init_8 d_Script_init_9 ?_
  refine c_putF (pc := 12) (j := 0) X (by omega) cf_Script (by decide) q303 rfl rfl rfl ⟨rfl, rfl⟩ (Nat.le_of_ble_eq_true rfl) d_Script_init_12 ?_
  refine d_aload_n (pc := 15) (q := 0) X d_Script_init_15 rfl ?_
  refine c_sub (pc := 16) (a := a) (n := a + 8) X (by omega) cf_Symbols q299 q228 q9 (fun j hj => fs0_Symbols j hj) (fun l f hl => c_Symbols_init hl hB ck1) mi_Symbols q300 ⟨⟨by decide, by decide⟩, rfl, rfl⟩ ⟨by decide, by decide⟩ (Nat.le_of_ble_eq_true rfl) d_Script_init_16 d_Script_init_19 d_Script_init_20 ?_
  refine c_putF (pc := 23) (j := 1) X (by omega) cf_Script (by decide) q304 rfl rfl rfl ⟨rfl, rfl⟩ (Nat.le_of_ble_eq_true rfl) d_Script_init_23 ?_
  refine d_aload_n (pc := 26) (q := 0) X d_Script_init_26 rfl ?_
  refine c_sub (pc := 27) (a := a) (n := a + 11) X (by omega) cf_Taking q301 q249 q10 (fun j hj => fs0_Taking j hj) (fun l f hl => c_Taking_init hl hB ck2) mi_Taking q302 ⟨⟨by decide, by decide⟩, rfl, rfl⟩ ⟨by decide, by decide⟩ (Nat.le_of_ble_eq_true rfl) d_Script_init_27 d_Script_init_30 d_Script_init_31 ?_
  refine c_putF (pc := 34) (j := 2) X (by omega) cf_Script (by decide) q305 rfl rfl rfl ⟨rfl, rfl⟩ (Nat.le_of_ble_eq_true rfl) d_Script_init_34 ?_
  exact E 37 _ _ _ d_Script_init_37 (c_end rfl ce_Script)

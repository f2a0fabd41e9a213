/-! Models, History (printed by wip/whole/ctorgen2.py) -/
theorem d_Models_init_0 : decode b_Models_init 0 = .ok (.aload_n 0, 1) := by decide +kernel
theorem d_Models_init_1 : decode b_Models_init 1 = .ok (.invokespecial 3, 3) := by decide +kernel
theorem d_Models_init_4 : decode b_Models_init 4 = .ok (.aload_n 0, 1) := by decide +kernel
theorem d_Models_init_5 : decode b_Models_init 5 = .ok (.iconst 3, 1) := by decide +kernel
theorem d_Models_init_6 : decode b_Models_init 6 = .ok (.anewarray 9, 3) := by decide +kernel
theorem d_Models_init_9 : decode b_Models_init 9 = .ok (.putfield 11, 3) := by decide +kernel
theorem d_Models_init_12 : decode b_Models_init 12 = .ok (.aload_n 0, 1) := by decide +kernel
theorem d_Models_init_13 : decode b_Models_init 13 = .ok (.iconst 2, 1) := by decide +kernel
theorem d_Models_init_14 : decode b_Models_init 14 = .ok (.putfield 17, 3) := by decide +kernel
theorem d_Models_init_17 : decode b_Models_init 17 = .ok (.aload_n 0, 1) := by decide +kernel
theorem d_Models_init_18 : decode b_Models_init 18 = .ok (.iconst 1, 1) := by decide +kernel
theorem d_Models_init_19 : decode b_Models_init 19 = .ok (.putfield 21, 3) := by decide +kernel
theorem d_Models_init_22 : decode b_Models_init 22 = .ok (.iconst 0, 1) := by decide +kernel
theorem d_Models_init_23 : decode b_Models_init 23 = .ok (.istore_n 1, 1) := by decide +kernel
theorem d_Models_init_24 : decode b_Models_init 24 = .ok (.iload_n 1, 1) := by decide +kernel
theorem d_Models_init_25 : decode b_Models_init 25 = .ok (.iconst 3, 1) := by decide +kernel
theorem d_Models_init_26 : decode b_Models_init 26 = .ok (.if_icmp .ge 22, 3) := by decide +kernel
theorem d_Models_init_29 : decode b_Models_init 29 = .ok (.aload_n 0, 1) := by decide +kernel
theorem d_Models_init_30 : decode b_Models_init 30 = .ok (.getfield 11, 3) := by decide +kernel
theorem d_Models_init_33 : decode b_Models_init 33 = .ok (.iload_n 1, 1) := by decide +kernel
theorem d_Models_init_34 : decode b_Models_init 34 = .ok (.new 9, 3) := by decide +kernel
theorem d_Models_init_37 : decode b_Models_init 37 = .ok (.dup, 1) := by decide +kernel
theorem d_Models_init_38 : decode b_Models_init 38 = .ok (.invokespecial 24, 3) := by decide +kernel
theorem d_Models_init_41 : decode b_Models_init 41 = .ok (.aastore, 1) := by decide +kernel
theorem d_Models_init_42 : decode b_Models_init 42 = .ok (.iinc 1 1, 3) := by decide +kernel
theorem d_Models_init_45 : decode b_Models_init 45 = .ok (.goto (-21), 3) := by decide +kernel
theorem d_Models_init_48 : decode b_Models_init 48 = .ok (.return_, 1) := by decide +kernel
def rm_Models_init : Room := { frames := 2, cells := 31, slots := 1134, locals := 32 }
theorem mi_Models : zMI y_Models_init b_Models_init 2 0 := ⟨rfl, q70, q3, q71, by decide +kernel⟩
theorem fs0_Models : ∀ j, j < 3 → defaultValue (ty_Models j) = vp_V (zf0 2) j := by decide +kernel
theorem ckr_Models : ∀ i, i < 3 → ck_Model (5 + 2 + 10 * i) = true ∧ zkd (5 + 2 + 10 * i) = 1 := by decide +kernel
theorem ce_Models {g : zG} : zE g h00 5 = .inr (2, (((zf0 2).set 0 (.ref (g.2.2 6))).set 1 (zi 2)).set 2 (zi 1)) := by
  rw [zE_obj (show zkd 5 = 2 by decide +kernel) (by decide)]
  show (Sum.inr (2, ([.ref (g.2.2 (5 + 1)), zi (h00 5 1), zi (h00 5 2)] : List Value)) : va_E) = _
  rw [show h00 5 1 = 2 by decide +kernel]
  rw [show h00 5 2 = 1 by decide +kernel]
  rfl
theorem cr_Models {g : zG} : zE g h00 (5 + 1) = .inl (g.2.1 14, 3, .inr (.inr (.inr (.inr (fun i => some (g.2.2 (5 + 1 + 1 + 10 * i))))))) := by
  rw [zE_model (show zkd (5 + 1) = 14 by decide +kernel), show zln (5 + 1) = 3 by decide +kernel]
set_option maxRecDepth 100000 in
theorem cl_Models {Wf : Nat → Nat → Heap → List Loc → JFrame → Prop} {m : MethodId} {g : zG} (hB : dB g) {H0 : Heap} {f0 : Nat → va_E} (X : dX Wf m rm_Models_init b_Models_init "AliasStreams$Models" 2 g H0 True) (E : dEx Wf m b_Models_init 2 g H0 31 1134 (dPo g f0 5 32)) : ∀ (t i cells slots : Nat), t + i = 3 → cells = 1 + 10 * i → slots = 3 + 377 * i → dW Wf m 2 g H0 cells slots 24 [(0, .ref (g.2.2 5)), (1, zi (i : Int))] [] (5 + 2 + 10 * i) (dG g f0 5 2 ((((zf0 2).set 0 (.ref (g.2.2 6))).set 1 (zi 2)).set 2 (zi 1)) 14 3 10 i) := by
  intro t
  induction t with
  | zero =>
    intro i cells slots hti hc hs
    obtain rfl : i = 3 := by omega
    subst hc; subst hs
    refine d_iload_n (pc := 24) (q := 1) X d_Models_init_24 rfl ?_
    refine d_iconst (pc := 25) X d_Models_init_25 ?_
    refine d_icmp_ge (pc := 26) (tgt := 48) X (by decide) (show zr 3 from by decide) d_Models_init_26 (by decide) (fun _ => ?_) (fun hc => absurd hc (by decide))
    refine dG_end cr_Models ?_
    exact E 48 _ _ _ d_Models_init_48 (c_end rfl ce_Models)
  | succ t ih =>
    intro i cells slots hti hc hs
    have hi : i < 3 := by omega
    obtain ⟨ckE, ckK⟩ := ckr_Models i hi
    have ri : zr (i : Int) := by omega
    refine d_iload_n (pc := 24) (q := 1) X d_Models_init_24 rfl ?_
    refine d_iconst (pc := 25) X d_Models_init_25 ?_
    refine d_icmp_ge (pc := 26) (tgt := 48) X ri (show zr 3 from by decide) d_Models_init_26 (by decide) (fun hc => by omega) (fun _ => ?_)
    refine d_aload_n (pc := 29) (q := 0) X d_Models_init_29 rfl ?_
    refine d_getr (pc := 30) (j := 0) (v := .ref (g.2.2 (5 + 1))) X cf_Models (by omega) dG_a (by decide) q115 rfl rfl d_Models_init_30 ?_
    refine d_iload_n (pc := 33) (q := 1) X d_Models_init_33 rfl ?_
    refine d_elem (pc := 34) (a := 5) (rest := []) (t0 := 2) X rfl cf_Model ckK (by decide) q73 q75 q4 (fun j hj => fs0_Model j hj) (fun l f hl => c_Model_init hl hB ckE) mi_Model q76 ⟨⟨by decide, by decide⟩, rfl, rfl⟩ ⟨by show _ ≤ 31; omega, by show _ ≤ 1134; omega⟩ (by decide) d_Models_init_34 d_Models_init_37 d_Models_init_38 d_Models_init_41 rfl ri rfl hi ?_
    refine d_iinc (pc := 42) (q := 1) (lv' := [(1, zi ((i : Int) + 1)), (0, .ref (g.2.2 5))]) X d_Models_init_42 rfl (by decide) rfl ?_
    refine d_goto (pc := 45) (tgt := 24) X d_Models_init_45 (by decide) ?_
    refine d_perm [1, 0] rfl ?_
    have hk := ih (i + 1) (cells + 1 + 9) (slots + 9 + 368) (by omega) (by omega) (by omega)
    rw [show ((i + 1 : Nat) : Int) = (i : Int) + 1 from by omega, show 5 + 2 + 10 * (i + 1) = 5 + 2 + 10 * i + 10 from by omega] at hk
    exact hk
set_option maxRecDepth 100000 in
theorem c_Models_init {l : Launch} (hfl : l.flags = flags0) {g : zG} (hB : dB g) {f0 : Nat → va_E} : dMet l y_Models_init b_Models_init 2 rm_Models_init g [.ref (g.2.2 5)] (5 + 1) (dU1 f0 5 (.inr (2, zf0 2))) (dPo g f0 5 32) 31 1134 := by
  refine dMet_of (own := "AliasStreams$Models") hfl hB (by decide) rfl rfl (Nat.le_of_ble_eq_true rfl) (fun Wf m H0 X E => ?_)
  show dW Wf m 2 g H0 0 0 0 [(0, .ref (g.2.2 5))] [] (5 + 1) _
  refine c_start rfl ?_
  refine d_aload_n (pc := 0) (q := 0) X d_Models_init_0 rfl ?_
  refine d_objInit (pc := 1) X q72 q27 q28 d_Models_init_1 ⟨by decide, Nat.le_of_ble_eq_true rfl⟩ ?_
  refine d_aload_n (pc := 4) (q := 0) X d_Models_init_4 rfl ?_
  refine d_iconst (pc := 5) X d_Models_init_5 ?_
  refine d_newQ (pc := 6) (kd := 14) (t0 := 2) (len := 3) X q73 (List.mem_append_right _ (List.mem_of_getElem? (i := 74) (by decide +kernel))) rfl (show zr 3 from by decide) rfl (by decide) ⟨by decide, by decide⟩ d_Models_init_6 ?_
  rw [dRow_0 (a := 5) (sz := 10)]
  show dW _ _ _ _ _ _ _ _ _ _ _ (dG g f0 5 2 (zf0 2) 14 3 10 0)
  refine d_putF (pc := 9) (j := 0) X trivial cf_Models (by decide) dG_a (by decide) q115 rfl rfl rfl ⟨rfl, rfl⟩ (Nat.le_of_ble_eq_true rfl) d_Models_init_9 (d_congr (fun k _ => dG_put k) ?_)
  refine d_aload_n (pc := 12) (q := 0) X d_Models_init_12 rfl ?_
  refine d_iconst (pc := 13) X d_Models_init_13 ?_
  refine d_put (pc := 14) (j := 1) X cf_Models (by decide) dG_a (by decide) q116 rfl rfl ⟨rfl, rfl⟩ (Nat.le_of_ble_eq_true rfl) d_Models_init_14 (d_congr (fun k _ => dG_put k) ?_)
  refine d_aload_n (pc := 17) (q := 0) X d_Models_init_17 rfl ?_
  refine d_iconst (pc := 18) X d_Models_init_18 ?_
  refine d_put (pc := 19) (j := 2) X cf_Models (by decide) dG_a (by decide) q118 rfl rfl ⟨rfl, rfl⟩ (Nat.le_of_ble_eq_true rfl) d_Models_init_19 (d_congr (fun k _ => dG_put k) ?_)
  refine d_iconst (pc := 22) X d_Models_init_22 ?_
  refine d_istore_n (pc := 23) (lv' := [(1, zi 0), (0, .ref (g.2.2 5))]) X d_Models_init_23 (by decide) rfl ?_
  refine d_perm [1, 0] rfl ?_
  exact cl_Models hB X E 3 0 _ _ rfl rfl rfl
theorem d_History_init_0 : decode b_History_init 0 = .ok (.aload_n 0, 1) := by decide +kernel
theorem d_History_init_1 : decode b_History_init 1 = .ok (.invokespecial 3, 3) := by decide +kernel
theorem d_History_init_4 : decode b_History_init 4 = .ok (.aload_n 0, 1) := by decide +kernel
theorem d_History_init_5 : decode b_History_init 5 = .ok (.bipush 14, 2) := by decide +kernel
theorem d_History_init_7 : decode b_History_init 7 = .ok (.anewarray 9, 3) := by decide +kernel
theorem d_History_init_10 : decode b_History_init 10 = .ok (.putfield 11, 3) := by decide +kernel
theorem d_History_init_13 : decode b_History_init 13 = .ok (.iconst 0, 1) := by decide +kernel
theorem d_History_init_14 : decode b_History_init 14 = .ok (.istore_n 1, 1) := by decide +kernel
theorem d_History_init_15 : decode b_History_init 15 = .ok (.iload_n 1, 1) := by decide +kernel
theorem d_History_init_16 : decode b_History_init 16 = .ok (.bipush 14, 2) := by decide +kernel
theorem d_History_init_18 : decode b_History_init 18 = .ok (.if_icmp .ge 22, 3) := by decide +kernel
theorem d_History_init_21 : decode b_History_init 21 = .ok (.aload_n 0, 1) := by decide +kernel
theorem d_History_init_22 : decode b_History_init 22 = .ok (.getfield 11, 3) := by decide +kernel
theorem d_History_init_25 : decode b_History_init 25 = .ok (.iload_n 1, 1) := by decide +kernel
theorem d_History_init_26 : decode b_History_init 26 = .ok (.new 9, 3) := by decide +kernel
theorem d_History_init_29 : decode b_History_init 29 = .ok (.dup, 1) := by decide +kernel
theorem d_History_init_30 : decode b_History_init 30 = .ok (.invokespecial 17, 3) := by decide +kernel
theorem d_History_init_33 : decode b_History_init 33 = .ok (.aastore, 1) := by decide +kernel
theorem d_History_init_34 : decode b_History_init 34 = .ok (.iinc 1 1, 3) := by decide +kernel
theorem d_History_init_37 : decode b_History_init 37 = .ok (.goto (-22), 3) := by decide +kernel
theorem d_History_init_40 : decode b_History_init 40 = .ok (.return_, 1) := by decide +kernel
def rm_History_init : Room := { frames := 3, cells := 99, slots := 2744, locals := 52 }
theorem mi_History : zMI y_History_init b_History_init 2 0 := ⟨rfl, q193, q7, q194, by decide +kernel⟩
theorem fs0_History : ∀ j, j < 3 → defaultValue (ty_History j) = vp_V (zf0 0) j := by decide +kernel
theorem ckr_History : ∀ i, i < 14 → ck_State (44 + 2 + 7 * i) = true ∧ zkd (44 + 2 + 7 * i) = 5 := by decide +kernel
theorem ce_History {g : zG} : zE g h00 44 = .inr (0, (zf0 0).set 0 (.ref (g.2.2 45))) := by
  rw [zE_obj (show zkd 44 = 0 by decide +kernel) (by decide)]
  show (Sum.inr (0, ([.ref (g.2.2 (44 + 1)), zi (h00 44 1), zi (h00 44 2)] : List Value)) : va_E) = _
  rw [show h00 44 1 = 0 by decide +kernel]
  rw [show h00 44 2 = 0 by decide +kernel]
  rfl
theorem cr_History {g : zG} : zE g h00 (44 + 1) = .inl (g.2.1 15, 14, .inr (.inr (.inr (.inr (fun i => some (g.2.2 (44 + 1 + 1 + 7 * i))))))) := by
  rw [zE_state (show zkd (44 + 1) = 15 by decide +kernel), show zln (44 + 1) = 14 by decide +kernel]
set_option maxRecDepth 100000 in
theorem cl_History {Wf : Nat → Nat → Heap → List Loc → JFrame → Prop} {m : MethodId} {g : zG} (hB : dB g) {H0 : Heap} {f0 : Nat → va_E} (X : dX Wf m rm_History_init b_History_init "AliasStreams$History" 2 g H0 True) (E : dEx Wf m b_History_init 2 g H0 99 2744 (dPo g f0 44 100)) : ∀ (t i cells slots : Nat), t + i = 14 → cells = 1 + 7 * i → slots = 14 + 195 * i → dW Wf m 2 g H0 cells slots 15 [(0, .ref (g.2.2 44)), (1, zi (i : Int))] [] (44 + 2 + 7 * i) (dG g f0 44 0 ((zf0 0).set 0 (.ref (g.2.2 45))) 15 14 7 i) := by
  intro t
  induction t with
  | zero =>
    intro i cells slots hti hc hs
    obtain rfl : i = 14 := by omega
    subst hc; subst hs
    refine d_iload_n (pc := 15) (q := 1) X d_History_init_15 rfl ?_
    refine d_bipush (pc := 16) X d_History_init_16 (by decide) ?_
    refine d_icmp_ge (pc := 18) (tgt := 40) X (by decide) (show zr 14 from by decide) d_History_init_18 (by decide) (fun _ => ?_) (fun hc => absurd hc (by decide))
    refine dG_end cr_History ?_
    exact E 40 _ _ _ d_History_init_40 (c_end rfl ce_History)
  | succ t ih =>
    intro i cells slots hti hc hs
    have hi : i < 14 := by omega
    obtain ⟨ckE, ckK⟩ := ckr_History i hi
    have ri : zr (i : Int) := by omega
    refine d_iload_n (pc := 15) (q := 1) X d_History_init_15 rfl ?_
    refine d_bipush (pc := 16) X d_History_init_16 (by decide) ?_
    refine d_icmp_ge (pc := 18) (tgt := 40) X ri (show zr 14 from by decide) d_History_init_18 (by decide) (fun hc => by omega) (fun _ => ?_)
    refine d_aload_n (pc := 21) (q := 0) X d_History_init_21 rfl ?_
    refine d_getr (pc := 22) (j := 0) (v := .ref (g.2.2 (44 + 1))) X cf_History (by omega) dG_a (by decide) q199 rfl rfl d_History_init_22 ?_
    refine d_iload_n (pc := 25) (q := 1) X d_History_init_25 rfl ?_
    refine d_elem (pc := 26) (a := 44) (rest := []) (t0 := 3) X rfl cf_State ckK (by decide) q196 q128 q5 (fun j hj => fs0_State j hj) (fun l f hl => c_State_init hl hB ckE) mi_State q198 ⟨⟨by decide, by decide⟩, rfl, rfl⟩ ⟨by show _ ≤ 99; omega, by show _ ≤ 2744; omega⟩ (by decide) d_History_init_26 d_History_init_29 d_History_init_30 d_History_init_33 rfl ri rfl hi ?_
    refine d_iinc (pc := 34) (q := 1) (lv' := [(1, zi ((i : Int) + 1)), (0, .ref (g.2.2 44))]) X d_History_init_34 rfl (by decide) rfl ?_
    refine d_goto (pc := 37) (tgt := 15) X d_History_init_37 (by decide) ?_
    refine d_perm [1, 0] rfl ?_
    have hk := ih (i + 1) (cells + 1 + 6) (slots + 4 + 191) (by omega) (by omega) (by omega)
    rw [show ((i + 1 : Nat) : Int) = (i : Int) + 1 from by omega, show 44 + 2 + 7 * (i + 1) = 44 + 2 + 7 * i + 7 from by omega] at hk
    exact hk
set_option maxRecDepth 100000 in
theorem c_History_init {l : Launch} (hfl : l.flags = flags0) {g : zG} (hB : dB g) {f0 : Nat → va_E} : dMet l y_History_init b_History_init 2 rm_History_init g [.ref (g.2.2 44)] (44 + 1) (dU1 f0 44 (.inr (0, zf0 0))) (dPo g f0 44 100) 99 2744 := by
  refine dMet_of (own := "AliasStreams$History") hfl hB (by decide) rfl rfl (Nat.le_of_ble_eq_true rfl) (fun Wf m H0 X E => ?_)
  show dW Wf m 2 g H0 0 0 0 [(0, .ref (g.2.2 44))] [] (44 + 1) _
  refine c_start rfl ?_
  refine d_aload_n (pc := 0) (q := 0) X d_History_init_0 rfl ?_
  refine d_objInit (pc := 1) X q195 q27 q28 d_History_init_1 ⟨by decide, Nat.le_of_ble_eq_true rfl⟩ ?_
  refine d_aload_n (pc := 4) (q := 0) X d_History_init_4 rfl ?_
  refine d_bipush (pc := 5) X d_History_init_5 (by decide) ?_
  refine d_newQ (pc := 7) (kd := 15) (t0 := 3) (len := 14) X q196 (List.mem_append_right _ (List.mem_of_getElem? (i := 197) (by decide +kernel))) rfl (show zr 14 from by decide) rfl (by decide) ⟨by decide, by decide⟩ d_History_init_7 ?_
  rw [dRow_0 (a := 44) (sz := 7)]
  show dW _ _ _ _ _ _ _ _ _ _ _ (dG g f0 44 0 (zf0 0) 15 14 7 0)
  refine d_putF (pc := 10) (j := 0) X trivial cf_History (by decide) dG_a (by decide) q199 rfl rfl rfl ⟨rfl, rfl⟩ (Nat.le_of_ble_eq_true rfl) d_History_init_10 (d_congr (fun k _ => dG_put k) ?_)
  refine d_iconst (pc := 13) X d_History_init_13 ?_
  refine d_istore_n (pc := 14) (lv' := [(1, zi 0), (0, .ref (g.2.2 44))]) X d_History_init_14 (by decide) rfl ?_
  refine d_perm [1, 0] rfl ?_
  exact cl_History hB X E 14 0 _ _ rfl rfl rfl

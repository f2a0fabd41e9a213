/-! the law: every call -/
theorem zr_i (x : Int32) : zr x.toInt := by
  have a := Int32.le_toInt x
  have b := Int32.toInt_lt x
  omega
theorem v_load {A : zSt} (v : VA A) : VA (sp_load A).2.2 := by
  unfold sp_load
  split
  · exact v
  · rename_i q
    exact ⟨rPage_ok (Decidable.not_not.mp q), show 0 ≤ 14 by omega, fun i (hi : i < 0) => by omega, fun i hi u => absurd rfl u⟩
theorem z_fin {A : zSt} {o : zOu} (v : VA o.2.2) {R : zH → (Int → zH → Prop) → Prop} (rs : RS1 R A o) {h h1 : zH} {L : Int × zH → Prop} {i : Int} (hi : zr (i + 4)) (ri : RI h A) (c1 : CI h1 o.2.2) (f1 : ∀ a b, 197 ≤ a → a ≠ 220 → h1 a b = h a b) (a1 : o.1 = 0 → h1 220 0 = o.2.1) (hL : ∀ h' A', VA A' → CI h' A' → RI h' A' → L (i + 4, h')) : R h1 (fun r h2 => M_RM_thrown 197 h2 (fun r10 h9 => (r10 = (o.1 : Int) → (((o.1 : Int) ≠ 0 → (zr (i + 4) ∧ L (i + 4, h9))) ∧ ((o.1 : Int) = 0 → ((h9 220 0 = r → (zr (i + 4) ∧ L (i + 4, h9))) ∧ (h9 220 0 ≠ r → False))))) ∧ (r10 ≠ (o.1 : Int) → False))) := by
  have ri1 : RI h1 A := RI_keep ri (fun a b q => f1 a b (by omega) (by omega))
  refine rs h1 _ ri1 (fun r h2 r2 t2 a2 f2 => ?_)
  have l : L (i + 4, h2) := hL h2 o.2.2 v (CI_keep (CI_mc v) c1 (fun a b q1 q2 q3 q4 => f2 a b (by omega))) r2
  unfold M_RM_thrown
  rw [t2]
  refine ⟨fun _ => ⟨fun _ => ⟨hi, l⟩, fun q => ⟨fun _ => ⟨hi, l⟩, fun q2 => ?_⟩⟩, fun q => absurd rfl q⟩
  have q0 : o.1 = 0 := by omega
  exact q2 (by rw [f2 _ _ (by omega), a1 q0, a2 q0])
theorem z_finN {A : zSt} {o : zOu} (v : VA o.2.2) {R : zH → (Int → zH → Prop) → Prop} (rs : RS1 R A o) {h h1 : zH} {L : Int × zH → Prop} {i : Int} (hi : zr (i + 4)) (ri : RI h A) (c1 : CI h1 o.2.2) (f1 : ∀ a b, 197 ≤ a → h1 a b = h a b) (hL : ∀ h' A', VA A' → CI h' A' → RI h' A' → L (i + 4, h')) (o0 : o.1 = 0 := by rfl) : R h1 (fun r h2 => (o.2.1 = r → (zr (i + 4) ∧ L (i + 4, h2))) ∧ (o.2.1 ≠ r → False)) := by
  have ri1 : RI h1 A := RI_keep ri (fun a b q => f1 a b (by omega))
  refine rs h1 _ ri1 (fun r h2 r2 t2 a2 f2 => ?_)
  have l : L (i + 4, h2) := hL h2 o.2.2 v (CI_keep (CI_mc v) c1 (fun a b q1 q2 q3 q4 => f2 a b (by omega))) r2
  exact ⟨fun _ => ⟨hi, l⟩, fun q => q (a2 o0).symm⟩
theorem z_176 {N : Nat} {xs : Nat → Int32} {L : Int × zH → Prop} {i : Int} {h : zH} {A : zSt} (v : VA A) (ci : CI h A) (ri : RI h A) (hN : N ≤ 2048) (hi : 0 ≤ i ∧ i ≤ (N : Int) - 4) (hL : ∀ h' A', VA A' → CI h' A' → RI h' A' → L (i + 4, h')) : C_LW_law_176 N xs L i h := by
  unfold C_LW_law_176
  refine ⟨by omega, by omega, c_append v h _ ci (fun h1 c1 f1 a1 => ?_)⟩
  have hz := z_fin (by unfold sp_append; (repeat' split) <;> exact v) (r_append) (by omega) ri c1 f1 a1 hL
  exact ⟨by omega, by omega, hz⟩
theorem z_232 {N : Nat} {xs : Nat → Int32} {L : Int × zH → Prop} {i : Int} {h : zH} {A : zSt} (v : VA A) (ci : CI h A) (ri : RI h A) (hN : N ≤ 2048) (hi : 0 ≤ i ∧ i ≤ (N : Int) - 4) (hL : ∀ h' A', VA A' → CI h' A' → RI h' A' → L (i + 4, h')) : C_LW_law_232 N xs L i h := by
  unfold C_LW_law_232
  exact c_clear v h _ ci (fun h1 c1 f1 => by
    have hz := z_finN (o := sp_clear A) v (r_clear) (by omega) ri c1 f1 hL
    exact hz)
theorem z_245 {N : Nat} {xs : Nat → Int32} {L : Int × zH → Prop} {i : Int} {h : zH} {A : zSt} (v : VA A) (ci : CI h A) (ri : RI h A) (hN : N ≤ 2048) (hi : 0 ≤ i ∧ i ≤ (N : Int) - 4) (hL : ∀ h' A', VA A' → CI h' A' → RI h' A' → L (i + 4, h')) : C_LW_law_245 N xs L i h := by
  unfold C_LW_law_245
  exact c_errorPosition v h _ ci (fun h1 c1 f1 => by
    have hz := z_finN (o := sp_errorPosition A) v (r_errorPosition) (by omega) ri c1 f1 hL
    exact hz)
theorem z_258 {N : Nat} {xs : Nat → Int32} {L : Int × zH → Prop} {i : Int} {h : zH} {A : zSt} (v : VA A) (ci : CI h A) (ri : RI h A) (hN : N ≤ 2048) (hi : 0 ≤ i ∧ i ≤ (N : Int) - 4) (hL : ∀ h' A', VA A' → CI h' A' → RI h' A' → L (i + 4, h')) : C_LW_law_258 N xs L i h := by
  unfold C_LW_law_258
  refine c_load v h _ ci (fun h1 c1 f1 a1 => ?_)
  have hz := z_fin (v_load v) (r_load) (by omega) ri c1 f1 a1 hL
  exact hz
theorem z_302 {N : Nat} {xs : Nat → Int32} {L : Int × zH → Prop} {i : Int} {h : zH} {A : zSt} (v : VA A) (ci : CI h A) (ri : RI h A) (hN : N ≤ 2048) (hi : 0 ≤ i ∧ i ≤ (N : Int) - 4) (hL : ∀ h' A', VA A' → CI h' A' → RI h' A' → L (i + 4, h')) : C_LW_law_302 N xs L i h := by
  unfold C_LW_law_302
  refine ⟨by omega, by omega, c_about v h _ ci (fun h1 c1 f1 a1 => ?_)⟩
  have hz := z_fin (by unfold sp_about; (repeat' split) <;> exact v) (r_about v) (by omega) ri c1 f1 a1 hL
  exact ⟨by omega, by omega, hz⟩
theorem z_358 {N : Nat} {xs : Nat → Int32} {L : Int × zH → Prop} {i : Int} {h : zH} {A : zSt} (v : VA A) (ci : CI h A) (ri : RI h A) (hN : N ≤ 2048) (hi : 0 ≤ i ∧ i ≤ (N : Int) - 4) (hL : ∀ h' A', VA A' → CI h' A' → RI h' A' → L (i + 4, h')) : C_LW_law_358 N xs L i h := by
  unfold C_LW_law_358
  refine ⟨by omega, by omega, by omega, by omega, by omega, by omega, c_symbol v h _ ci (fun h1 c1 f1 a1 => ?_)⟩
  have hz := z_fin (by unfold sp_symbol; (repeat' split) <;> exact v) (r_symbol v) (by omega) ri c1 f1 a1 hL
  exact ⟨by omega, by omega, by omega, by omega, by omega, by omega, hz⟩
theorem z_438 {N : Nat} {xs : Nat → Int32} {L : Int × zH → Prop} {i : Int} {h : zH} {A : zSt} (v : VA A) (ci : CI h A) (ri : RI h A) (hN : N ≤ 2048) (hi : 0 ≤ i ∧ i ≤ (N : Int) - 4) (hL : ∀ h' A', VA A' → CI h' A' → RI h' A' → L (i + 4, h')) : C_LW_law_438 N xs L i h := by
  unfold C_LW_law_438
  refine ⟨by omega, by omega, by omega, by omega, by omega, by omega, c_bucket v h _ ci (fun h1 c1 f1 a1 => ?_)⟩
  have hz := z_fin (by unfold sp_bucket; (repeat' split) <;> exact v) (r_bucket v) (by omega) ri c1 f1 a1 hL
  exact ⟨by omega, by omega, by omega, by omega, by omega, by omega, hz⟩
theorem z_518 {N : Nat} {xs : Nat → Int32} {L : Int × zH → Prop} {i : Int} {h : zH} {A : zSt} (v : VA A) (ci : CI h A) (ri : RI h A) (hN : N ≤ 2048) (hi : 0 ≤ i ∧ i ≤ (N : Int) - 4) (hL : ∀ h' A', VA A' → CI h' A' → RI h' A' → L (i + 4, h')) : C_LW_law_518 N xs L i h := by
  unfold C_LW_law_518
  refine ⟨by omega, by omega, by omega, by omega, by omega, by omega, c_slot v h _ ci (fun h1 c1 f1 a1 => ?_)⟩
  have hz := z_fin (by unfold sp_slot; (repeat' split) <;> exact v) (r_slot v) (by omega) ri c1 f1 a1 hL
  exact ⟨by omega, by omega, by omega, by omega, by omega, by omega, hz⟩
theorem z_598 {N : Nat} {xs : Nat → Int32} {L : Int × zH → Prop} {i : Int} {h : zH} {A : zSt} (v : VA A) (ci : CI h A) (ri : RI h A) (hN : N ≤ 2048) (hi : 0 ≤ i ∧ i ≤ (N : Int) - 4) (hL : ∀ h' A', VA A' → CI h' A' → RI h' A' → L (i + 4, h')) : C_LW_law_598 N xs L i h := by
  unfold C_LW_law_598
  refine ⟨by omega, by omega, c_item v h _ ci (fun h1 c1 f1 a1 => ?_)⟩
  have hz := z_fin (by unfold sp_item; (repeat' split) <;> exact v) (r_item v) (by omega) ri c1 f1 a1 hL
  exact ⟨by omega, by omega, hz⟩
theorem z_654 {N : Nat} {xs : Nat → Int32} {L : Int × zH → Prop} {i : Int} {h : zH} {A : zSt} (v : VA A) (ci : CI h A) (ri : RI h A) (hN : N ≤ 2048) (hi : 0 ≤ i ∧ i ≤ (N : Int) - 4) (hL : ∀ h' A', VA A' → CI h' A' → RI h' A' → L (i + 4, h')) : C_LW_law_654 N xs L i h := by
  unfold C_LW_law_654
  refine ⟨by omega, by omega, by omega, by omega, c_tape v h _ ci (fun h1 c1 f1 a1 => ?_)⟩
  have hz := z_fin (by unfold sp_tape; (repeat' split) <;> exact v) (r_tape v) (by omega) ri c1 f1 a1 hL
  exact ⟨by omega, by omega, by omega, by omega, hz⟩
theorem z_722 {N : Nat} {xs : Nat → Int32} {L : Int × zH → Prop} {i : Int} {h : zH} {A : zSt} (v : VA A) (ci : CI h A) (ri : RI h A) (hN : N ≤ 2048) (hi : 0 ≤ i ∧ i ≤ (N : Int) - 4) (hL : ∀ h' A', VA A' → CI h' A' → RI h' A' → L (i + 4, h')) : C_LW_law_722 N xs L i h := by
  unfold C_LW_law_722
  refine ⟨by omega, by omega, by omega, by omega, by omega, by omega, c_setCount v h _ ci (fun h1 c1 f1 a1 => ?_)⟩
  have hz := z_fin (v_setCount v) (r_setCount v) (by omega) ri c1 f1 a1 hL
  exact ⟨by omega, by omega, by omega, by omega, by omega, by omega, hz⟩
theorem z_802 {N : Nat} {xs : Nat → Int32} {L : Int × zH → Prop} {i : Int} {h : zH} {A : zSt} (v : VA A) (ci : CI h A) (ri : RI h A) (hN : N ≤ 2048) (hi : 0 ≤ i ∧ i ≤ (N : Int) - 4) (hL : ∀ h' A', VA A' → CI h' A' → RI h' A' → L (i + 4, h')) : C_LW_law_802 N xs L i h := by
  unfold C_LW_law_802
  refine ⟨by omega, by omega, by omega, by omega, c_insert v (zr_i _) h _ ci (fun h1 c1 f1 a1 => ?_)⟩
  have hz := z_fin (v_insert v) (r_insert v (zr_i _)) (by omega) ri c1 f1 a1 hL
  exact ⟨by omega, by omega, by omega, by omega, hz⟩
theorem z_870 {N : Nat} {xs : Nat → Int32} {L : Int × zH → Prop} {i : Int} {h : zH} {A : zSt} (v : VA A) (ci : CI h A) (ri : RI h A) (hN : N ≤ 2048) (hi : 0 ≤ i ∧ i ≤ (N : Int) - 4) (hL : ∀ h' A', VA A' → CI h' A' → RI h' A' → L (i + 4, h')) : C_LW_law_870 N xs L i h := by
  unfold C_LW_law_870
  refine ⟨by omega, by omega, c_remove v h _ ci (fun h1 c1 f1 a1 => ?_)⟩
  have hz := z_fin (v_remove v) (r_remove v) (by omega) ri c1 f1 a1 hL
  exact ⟨by omega, by omega, hz⟩
theorem z_926 {N : Nat} {xs : Nat → Int32} {L : Int × zH → Prop} {i : Int} {h : zH} {A : zSt} (v : VA A) (ci : CI h A) (ri : RI h A) (hN : N ≤ 2048) (hi : 0 ≤ i ∧ i ≤ (N : Int) - 4) (hL : ∀ h' A', VA A' → CI h' A' → RI h' A' → L (i + 4, h')) : C_LW_law_926 N xs L i h := by
  unfold C_LW_law_926
  refine c_encode v h _ ci (fun h1 c1 f1 a1 => ?_)
  have hz := z_fin (v_encode v) (r_encode v) (by omega) ri c1 f1 a1 hL
  exact hz
theorem z_970 {N : Nat} {xs : Nat → Int32} {L : Int × zH → Prop} {i : Int} {h : zH} {A : zSt} (v : VA A) (ci : CI h A) (ri : RI h A) (hN : N ≤ 2048) (hi : 0 ≤ i ∧ i ≤ (N : Int) - 4) (hL : ∀ h' A', VA A' → CI h' A' → RI h' A' → L (i + 4, h')) : C_LW_law_970 N xs L i h := by
  unfold C_LW_law_970
  refine c_decode v h _ ci (fun h1 c1 f1 a1 => ?_)
  have hz := z_fin (v_decode v) (r_decode v) (by omega) ri c1 f1 a1 hL
  exact hz
theorem z_1014 {N : Nat} {xs : Nat → Int32} {L : Int × zH → Prop} {i : Int} {h : zH} {A : zSt} (v : VA A) (ci : CI h A) (ri : RI h A) (hN : N ≤ 2048) (hi : 0 ≤ i ∧ i ≤ (N : Int) - 4) (hL : ∀ h' A', VA A' → CI h' A' → RI h' A' → L (i + 4, h')) : C_LW_law_1014 N xs L i h := by
  unfold C_LW_law_1014
  refine ⟨by omega, by omega, by omega, by omega, c_setDigit v h _ ci (fun h1 c1 f1 a1 => ?_)⟩
  have hz := z_fin (v_setDigit v) (r_setDigit v) (by omega) ri c1 f1 a1 hL
  exact ⟨by omega, by omega, by omega, by omega, hz⟩
theorem z_1082 {N : Nat} {xs : Nat → Int32} {L : Int × zH → Prop} {i : Int} {h : zH} {A : zSt} (v : VA A) (ci : CI h A) (ri : RI h A) (hN : N ≤ 2048) (hi : 0 ≤ i ∧ i ≤ (N : Int) - 4) (hL : ∀ h' A', VA A' → CI h' A' → RI h' A' → L (i + 4, h')) : C_LW_law_1082 N xs L i h := by
  unfold C_LW_law_1082
  refine ⟨by omega, by omega, by omega, by omega, c_setHead v h _ ci (fun h1 c1 f1 a1 => ?_)⟩
  have hz := z_fin (v_setHead v) (r_setHead v) (by omega) ri c1 f1 a1 hL
  exact ⟨by omega, by omega, by omega, by omega, hz⟩
theorem z_1150 {N : Nat} {xs : Nat → Int32} {L : Int × zH → Prop} {i : Int} {h : zH} {A : zSt} (v : VA A) (ci : CI h A) (ri : RI h A) (hN : N ≤ 2048) (hi : 0 ≤ i ∧ i ≤ (N : Int) - 4) (hL : ∀ h' A', VA A' → CI h' A' → RI h' A' → L (i + 4, h')) : C_LW_law_1150 N xs L i h := by
  unfold C_LW_law_1150
  refine ⟨by omega, by omega, by omega, by omega, c_setPlan v h _ ci (fun h1 c1 f1 a1 => ?_)⟩
  have hz := z_fin (v_setPlan v) (r_setPlan v) (by omega) ri c1 f1 a1 hL
  exact ⟨by omega, by omega, by omega, by omega, hz⟩
theorem z_1218 {N : Nat} {xs : Nat → Int32} {L : Int × zH → Prop} {i : Int} {h : zH} {A : zSt} (v : VA A) (ci : CI h A) (ri : RI h A) (hN : N ≤ 2048) (hi : 0 ≤ i ∧ i ≤ (N : Int) - 4) (hL : ∀ h' A', VA A' → CI h' A' → RI h' A' → L (i + 4, h')) : C_LW_law_1218 N xs L i h := by
  unfold C_LW_law_1218
  refine c_undo v h _ ci (fun h1 c1 f1 a1 => ?_)
  have hz := z_fin (v_undo v) (r_undo v) (by omega) ri c1 f1 a1 hL
  exact hz
theorem z_1262 {N : Nat} {xs : Nat → Int32} {L : Int × zH → Prop} {i : Int} {h : zH} {A : zSt} (v : VA A) (ci : CI h A) (ri : RI h A) (hN : N ≤ 2048) (hi : 0 ≤ i ∧ i ≤ (N : Int) - 4) (hL : ∀ h' A', VA A' → CI h' A' → RI h' A' → L (i + 4, h')) : C_LW_law_1262 N xs L i h := by
  unfold C_LW_law_1262
  refine ⟨by omega, by omega, by omega, by omega, c_taken v h _ ci (fun h1 c1 f1 a1 => ?_)⟩
  have hz := z_fin (by unfold sp_taken; (repeat' split) <;> exact v) (r_taken v) (by omega) ri c1 f1 a1 hL
  exact ⟨by omega, by omega, by omega, by omega, hz⟩
theorem z_1330 {N : Nat} {xs : Nat → Int32} {L : Int × zH → Prop} {i : Int} {h : zH} {A : zSt} (v : VA A) (ci : CI h A) (ri : RI h A) (hN : N ≤ 2048) (hi : 0 ≤ i ∧ i ≤ (N : Int) - 4) (hL : ∀ h' A', VA A' → CI h' A' → RI h' A' → L (i + 4, h')) : C_LW_law_1330 N xs L i h := by
  unfold C_LW_law_1330
  exact c_failure v h _ ci (fun h1 c1 f1 => by
    have hz := z_finN (o := sp_failure A) v (r_failure v) (by omega) ri c1 f1 hL
    exact hz)
theorem z_1343 {N : Nat} {xs : Nat → Int32} {L : Int × zH → Prop} {i : Int} {h : zH} {A : zSt} (v : VA A) (ci : CI h A) (ri : RI h A) (hN : N ≤ 2048) (hi : 0 ≤ i ∧ i ≤ (N : Int) - 4) (hL : ∀ h' A', VA A' → CI h' A' → RI h' A' → L (i + 4, h')) : C_LW_law_1343 N xs L i h := by
  unfold C_LW_law_1343
  exact c_unfit v h _ ci (fun h1 c1 f1 => by
    have hz := z_finN (o := sp_unfit A) v (r_unfit v) (by omega) ri c1 f1 hL
    exact hz)
theorem z_1356 {N : Nat} {xs : Nat → Int32} {L : Int × zH → Prop} {i : Int} {h : zH} {A : zSt} (v : VA A) (ci : CI h A) (ri : RI h A) (hN : N ≤ 2048) (hi : 0 ≤ i ∧ i ≤ (N : Int) - 4) (hL : ∀ h' A', VA A' → CI h' A' → RI h' A' → L (i + 4, h')) : C_LW_law_1356 N xs L i h := by
  unfold C_LW_law_1356
  refine ⟨by omega, by omega, c_digitsWith v h _ ci (fun h1 c1 f1 a1 => ?_)⟩
  have hz := z_fin (by unfold sp_digitsWith; (repeat' split) <;> exact v) (r_digitsWith v) (by omega) ri c1 f1 a1 hL
  exact ⟨by omega, by omega, hz⟩
theorem z_1412 {N : Nat} {xs : Nat → Int32} {L : Int × zH → Prop} {i : Int} {h : zH} {A : zSt} (v : VA A) (ci : CI h A) (ri : RI h A) (hN : N ≤ 2048) (hi : 0 ≤ i ∧ i ≤ (N : Int) - 4) (hL : ∀ h' A', VA A' → CI h' A' → RI h' A' → L (i + 4, h')) : C_LW_law_1412 N xs L i h := by
  unfold C_LW_law_1412
  refine ⟨by omega, by omega, by omega, by omega, by omega, by omega, c_product v h _ ci (fun h1 c1 f1 a1 => ?_)⟩
  have hz := z_fin (by unfold sp_product; (repeat' split) <;> exact v) (r_product v) (by omega) ri c1 f1 a1 hL
  exact ⟨by omega, by omega, by omega, by omega, by omega, by omega, hz⟩
theorem z_1491 {N : Nat} {xs : Nat → Int32} {L : Int × zH → Prop} {i : Int} {h : zH} {A : zSt} (v : VA A) (ci : CI h A) (ri : RI h A) (hN : N ≤ 2048) (hi : 0 ≤ i ∧ i ≤ (N : Int) - 4) (hL : ∀ h' A', VA A' → CI h' A' → RI h' A' → L (i + 4, h')) : C_LW_law_1491 N xs L i h := by
  unfold C_LW_law_1491
  refine ⟨by omega, by omega, by omega, by omega, c_bestModel v h _ ci (fun h1 c1 f1 a1 => ?_)⟩
  have hz := z_fin (by unfold sp_bestModel; (repeat' split) <;> exact v) (r_bestModel v) (by omega) ri c1 f1 a1 hL
  exact ⟨by omega, by omega, by omega, by omega, hz⟩
theorem z_1559 {N : Nat} {xs : Nat → Int32} {L : Int × zH → Prop} {i : Int} {h : zH} {A : zSt} (v : VA A) (ci : CI h A) (ri : RI h A) (hN : N ≤ 2048) (hi : 0 ≤ i ∧ i ≤ (N : Int) - 4) (hL : ∀ h' A', VA A' → CI h' A' → RI h' A' → L (i + 4, h')) : C_LW_law_1559 N xs L i h := by
  unfold C_LW_law_1559
  exact c_difference v h _ ci (fun h1 c1 f1 => by
    have hz := z_finN (o := sp_difference A) v (r_difference v) (by omega) ri c1 f1 hL
    exact hz)
theorem z_1572 {N : Nat} {xs : Nat → Int32} {L : Int × zH → Prop} {i : Int} {h : zH} {A : zSt} (v : VA A) (ci : CI h A) (ri : RI h A) (hN : N ≤ 2048) (hi : 0 ≤ i ∧ i ≤ (N : Int) - 4) (hL : ∀ h' A', VA A' → CI h' A' → RI h' A' → L (i + 4, h')) : C_LW_law_1572 N xs L i h := by
  unfold C_LW_law_1572
  refine ⟨by omega, by omega, by omega, by omega, by omega, by omega, c_effect v h _ ci (fun h1 c1 f1 a1 => ?_)⟩
  have hz := z_fin (by unfold sp_effect; (repeat' split) <;> exact v) (r_effect v) (by omega) ri c1 f1 a1 hL
  exact ⟨by omega, by omega, by omega, by omega, by omega, by omega, hz⟩
theorem z_1652 {N : Nat} {xs : Nat → Int32} {L : Int × zH → Prop} {i : Int} {h : zH} {A : zSt} (v : VA A) (ci : CI h A) (ri : RI h A) (hN : N ≤ 2048) (hi : 0 ≤ i ∧ i ≤ (N : Int) - 4) (hL : ∀ h' A', VA A' → CI h' A' → RI h' A' → L (i + 4, h')) : C_LW_law_1652 N xs L i h := by
  unfold C_LW_law_1652
  refine ⟨by omega, by omega, by omega, by omega, by omega, by omega, c_runScript v h _ ci (fun h1 c1 f1 a1 => ?_)⟩
  have hz := z_fin (by unfold sp_runScript; (repeat' split) <;> exact v) (r_runScript v) (by omega) ri c1 f1 a1 hL
  exact ⟨by omega, by omega, by omega, by omega, by omega, by omega, hz⟩
theorem z_1752 {N : Nat} {xs : Nat → Int32} {L : Int × zH → Prop} {i : Int} {h : zH} {A : zSt} (v : VA A) (ci : CI h A) (ri : RI h A) (hN : N ≤ 2048) (hi : 0 ≤ i ∧ i ≤ (N : Int) - 4) (hL : ∀ h' A', VA A' → CI h' A' → RI h' A' → L (i + 4, h')) : C_LW_law_1752 N xs L i h := by
  unfold C_LW_law_1752
  refine ⟨by omega, by omega, by omega, by omega, by omega, by omega, c_simulate v h _ ci (fun h1 c1 f1 a1 => ?_)⟩
  have hz := z_fin (by unfold sp_simulate; (repeat' split) <;> exact v) (r_simulate v) (by omega) ri c1 f1 a1 hL
  exact ⟨by omega, by omega, by omega, by omega, by omega, by omega, hz⟩
theorem z_1852 {N : Nat} {xs : Nat → Int32} {L : Int × zH → Prop} {i : Int} {h : zH} {A : zSt} (v : VA A) (ci : CI h A) (ri : RI h A) (hN : N ≤ 2048) (hi : 0 ≤ i ∧ i ≤ (N : Int) - 4) (hL : ∀ h' A', VA A' → CI h' A' → RI h' A' → L (i + 4, h')) : C_LW_law_1852 N xs L i h := by
  unfold C_LW_law_1852
  refine ⟨by omega, by omega, c_save v h _ ci (fun h1 c1 f1 a1 => ?_)⟩
  have hz := z_fin (v_save v) (r_save v) (by omega) ri c1 f1 a1 hL
  exact ⟨by omega, by omega, hz⟩
theorem z_1908 {N : Nat} {xs : Nat → Int32} {L : Int × zH → Prop} {i : Int} {h : zH} {A : zSt} (v : VA A) (ci : CI h A) (ri : RI h A) (hN : N ≤ 2048) (hi : 0 ≤ i ∧ i ≤ (N : Int) - 4) (hL : ∀ h' A', VA A' → CI h' A' → RI h' A' → L (i + 4, h')) : C_LW_law_1908 N xs L i h := by
  unfold C_LW_law_1908
  refine ⟨by omega, by omega, c_restore v h _ ci (fun h1 c1 f1 a1 => ?_)⟩
  have hz := z_fin (v_restore v) (r_restore v) (by omega) ri c1 f1 a1 hL
  exact ⟨by omega, by omega, hz⟩
theorem z_law {N : Nat} {xs : Nat → Int32} {h : zH} {A : zSt} (hN : N ≤ 2048) (v : VA A) (ci : CI h A) (ri : RI h A) : zLoop (fun L q => F_LW_law N xs L q.1 q.2) ((0 : Int), h) := by
  refine ypx N (fun j => 4 * (j : Int)) (fun _ h => ∃ A, VA A ∧ CI h A ∧ RI h A) rfl ⟨A, v, ci, ri⟩ ?_
  rintro j x h L hj ex ⟨A, v, ci, ri⟩ hL'
  show F_LW_law N xs L x h
  have ex' : x = 4 * (j : Int) := ex
  unfold F_LW_law
  refine ⟨by omega, fun _ => trivial, fun c => ⟨by omega, ?_⟩⟩
  have hi : 0 ≤ x ∧ x ≤ (N : Int) - 4 := ⟨by omega, c⟩
  have hL : ∀ h' A', VA A' → CI h' A' → RI h' A' → L (x + 4, h') := fun h' A' a b c => hL' _ _ (by omega) (by show x + 4 = 4 * ((j + 1 : Nat) : Int); omega) ⟨A', a, b, c⟩
  clear hL' ex
  refine ⟨fun _ => ?_, fun _ => z_176 v ci ri hN hi hL, fun _ => z_232 v ci ri hN hi hL, fun _ => z_245 v ci ri hN hi hL, fun _ => z_258 v ci ri hN hi hL, fun _ => z_302 v ci ri hN hi hL, fun _ => z_358 v ci ri hN hi hL, fun _ => z_438 v ci ri hN hi hL, fun _ => z_518 v ci ri hN hi hL, fun _ => z_598 v ci ri hN hi hL, fun _ => z_654 v ci ri hN hi hL, fun _ => z_722 v ci ri hN hi hL, fun _ => z_802 v ci ri hN hi hL, fun _ => z_870 v ci ri hN hi hL, fun _ => z_926 v ci ri hN hi hL, fun _ => z_970 v ci ri hN hi hL, fun _ => z_1014 v ci ri hN hi hL, fun _ => z_1082 v ci ri hN hi hL, fun _ => z_1150 v ci ri hN hi hL, fun _ => z_1218 v ci ri hN hi hL, fun _ => z_1262 v ci ri hN hi hL, fun _ => z_1330 v ci ri hN hi hL, fun _ => z_1343 v ci ri hN hi hL, fun _ => z_1356 v ci ri hN hi hL, fun _ => z_1412 v ci ri hN hi hL, fun _ => z_1491 v ci ri hN hi hL, fun _ => z_1559 v ci ri hN hi hL, fun _ => z_1572 v ci ri hN hi hL, fun _ => z_1652 v ci ri hN hi hL, fun _ => z_1752 v ci ri hN hi hL, fun _ => z_1852 v ci ri hN hi hL, fun _ => z_1908 v ci ri hN hi hL⟩
  unfold C_LW_law_1964
  exact ⟨by omega, hL h A v ci ri⟩
/-! the start -/
def c0 : Nat → Int := fun j => if j < 2 then 1 else 0
def P0 : zP := (tr 24 c0, tr 0 (fun _ => 0), 0, tr 0 (fun _ => 0), tr 0 (fun _ => 0), 0, 0, 512, 512)
def A0 : zSt := zAk 2 1 P0 0 (fun _ => 0) 0 (fun _ => P0) (fun _ => 0) (fun _ => P0)
theorem VP0 : VP 2 1 P0 := by
  refine ⟨⟨⟨by decide, by decide, by decide, by decide⟩, ?_, fun m s h1 h2 h3 => ?_, fun m h1 => ?_⟩, ⟨by decide, by decide⟩, fun j hj => ?_, ⟨by decide, by decide⟩, ⟨by decide, by decide⟩, fun j hj => ?_, fun j hj => ?_, ⟨by decide, by decide⟩, by decide, by decide⟩
  · decide
  · have e : m = 0 := by omega
    subst e
    show tr 24 c0 (8 * 0 + s) = 0
    rw [tr_at (by omega)]
    exact if_neg (by omega)
  · have e : m = 0 := by omega
    subst e
    decide
  · have : (j : Int) < 0 := hj
    omega
  · have : (j : Int) < 0 := hj
    omega
  · have : (j : Int) < 0 := hj
    omega
theorem VA0 : VA A0 := ⟨VP0, by decide, fun i (hi : i < 0) => by omega, fun i hi u => absurd rfl u⟩
theorem h01_38 : ∀ j, j < 24 → h01 38 j = c0 j := by decide +kernel
theorem h00_200 : ∀ j, j < 24 → h00 200 j = c0 j := by decide +kernel
theorem pure_whole : ∀ (N : Nat) (xs : Nat → Int32), N ≤ 2048 → M_Models_makeAll 5 38 h01 (fun h1 => zLoop (fun L q => F_LW_law N xs L q.1 q.2) ((0 : Int), hst h1)) := by
  intro N xs hN
  refine s_makeAll (c := P0.1) (fun j hj => (h01_38 j hj).trans (tr_at hj).symm) VP0.1.2.1 (fun h1 t1 f1 => ?_)
  have hC : ∀ a b, a < 197 → hst h1 a b = h1 a b := fun a b q => if_pos q
  have hD : ∀ a b, a < 7 ∨ 36 < a → a < 197 → hst h1 a b = h01 a b := fun a b q q2 => (if_pos q2).trans (f1 a b q)
  have hR : ∀ a b, 197 ≤ a → hst h1 a b = h00 a b := fun a b q => if_neg (by omega)
  refine z_law hN VA0 ⟨?_, ?_, ?_, fun m hm => ?_, ⟨?_, by decide, fun j (hj : j < 0) => by omega, fun j (hj : j < 0) => by omega⟩, ⟨0, by decide, ?_, ?_, fun i (hi : i < 0) => by omega⟩, fun i hi => ⟨?_, fun u => absurd rfl u⟩⟩ ⟨?_, ?_, ?_, ⟨?_, by decide, fun j (hj : j < 0) => by omega, fun j (hj : j < 0) => by omega⟩, ⟨?_, fun i (hi : i < 0) => by omega⟩, fun i hi => ⟨?_, fun u => absurd rfl u⟩⟩
  · rw [hD _ _ (by omega) (by omega)]; decide +kernel
  · rw [hD _ _ (by omega) (by omega)]; decide +kernel
  · have e3 : hst h1 37 3 = 0 := by rw [hD _ _ (by omega) (by omega)]; decide +kernel
    have eT : cT (hst h1) 40 = P0.2.2.2 := by
      refine (cT_ext (pl := fun _ => 0) (dg := fun _ => 0) (np := 0) (nd := 0) (a := 512) (b := 512) ?_ ?_ ?_ ?_ (fun j hj => by omega) (fun j hj => by omega)).trans rfl
      · rw [hD _ _ (by omega) (by omega)]; decide +kernel
      · rw [hD _ _ (by omega) (by omega)]; decide +kernel
      · rw [hD _ _ (by omega) (by omega)]; decide +kernel
      · rw [hD _ _ (by omega) (by omega)]; decide +kernel
    have e1 : cPg (hst h1) 37 = (tr 24 (hst h1 38), tr (hst h1 37 3).toNat (hst h1 39), hst h1 37 3, cT (hst h1) 40) := rfl
    rw [e1, eT, e3, tr_congr (g := c0) (fun j hj => (hD _ _ (by omega) (by omega)).trans (h01_38 j hj)), tr_congr (n := (0 : Int).toNat) (g := fun _ => 0) (fun j hj => absurd hj (Nat.not_lt_zero _))]
    rfl
  · have hm' : m < 1 := hm
    exact TC_keep (fun a b q1 q2 => hC a b (by omega)) (t1 m (by omega) (VP0.1.2.2.2 m hm'))
  · rw [hD _ _ (by omega) (by omega)]; decide +kernel
  · rw [hD _ _ (by omega) (by omega)]; decide +kernel
  · rw [hD _ _ (by omega) (by omega)]; decide +kernel
  · rw [hD _ _ (by omega) (by omega)]
    have : i = 0 ∨ i = 1 := by omega
    rcases this with rfl | rfl <;> decide +kernel
  · rw [hR _ _ (by omega)]; decide +kernel
  · rw [hR _ _ (by omega)]; decide +kernel
  · have eT : rT (hst h1) 200 0 = P0.2.2.2 := by
      refine (rT_ext (o := 0) (pl := fun _ => 0) (dg := fun _ => 0) (np := 0) (nd := 0) (a := 512) (b := 512) ?_ ?_ ?_ ?_ (fun j hj => by omega) (fun j hj => by omega)).trans rfl
      · rw [hR _ _ (by omega)]; decide +kernel
      · rw [hR _ _ (by omega)]; decide +kernel
      · rw [hR _ _ (by omega)]; decide +kernel
      · rw [hR _ _ (by omega)]; decide +kernel
    have e3 : hst h1 200 (0 + 188) = 0 := by rw [hR _ _ (by omega)]; decide +kernel
    have e1 : rPg (hst h1) 200 0 = (tr 24 (fun j => hst h1 200 (0 + j)), tr (hst h1 200 (0 + 188)).toNat (fun j => hst h1 200 (0 + 24 + j)), hst h1 200 (0 + 188), rT (hst h1) 200 0) := rfl
    rw [e1, eT, e3, tr_congr (n := 24) (f := fun j => hst h1 200 (0 + j)) (g := c0) (fun j hj => by rw [Nat.zero_add]; exact (hR _ _ (by omega)).trans (h00_200 j hj)), tr_congr (n := (0 : Int).toNat) (g := fun _ => 0) (fun j hj => absurd hj (Nat.not_lt_zero _))]
    rfl
  · rw [hR _ _ (by omega)]; decide +kernel
  · rw [hR _ _ (by omega)]; decide +kernel
  · rw [hR _ _ (by omega)]
    have : i = 0 ∨ i = 1 := by omega
    rcases this with rfl | rfl <;> decide +kernel

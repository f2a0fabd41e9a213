/-! the law from its loop's head on (printed by wip/whole/lawgen2.py) -/
theorem z31n : ∀ k : Nat, k < 31 → (k = 0 ∨ k = 1 ∨ k = 2 ∨ k = 3 ∨ k = 4 ∨ k = 5 ∨ k = 6 ∨ k = 7 ∨ k = 8 ∨ k = 9 ∨ k = 10 ∨ k = 11 ∨ k = 12 ∨ k = 13 ∨ k = 14 ∨ k = 15 ∨ k = 16 ∨ k = 17 ∨ k = 18 ∨ k = 19 ∨ k = 20 ∨ k = 21 ∨ k = 22 ∨ k = 23 ∨ k = 24 ∨ k = 25 ∨ k = 26 ∨ k = 27 ∨ k = 28 ∨ k = 29 ∨ k = 30) := by decide +kernel
theorem z31 (x : Int) : (x < 0 ∨ 30 < x) ∨ x = 0 ∨ x = 1 ∨ x = 2 ∨ x = 3 ∨ x = 4 ∨ x = 5 ∨ x = 6 ∨ x = 7 ∨ x = 8 ∨ x = 9 ∨ x = 10 ∨ x = 11 ∨ x = 12 ∨ x = 13 ∨ x = 14 ∨ x = 15 ∨ x = 16 ∨ x = 17 ∨ x = 18 ∨ x = 19 ∨ x = 20 ∨ x = 21 ∨ x = 22 ∨ x = 23 ∨ x = 24 ∨ x = 25 ∨ x = 26 ∨ x = 27 ∨ x = 28 ∨ x = 29 ∨ x = 30 := by
  by_cases h : x < 0 ∨ 30 < x
  · exact Or.inl h
  · refine Or.inr ?_
    obtain ⟨k, rfl⟩ := Int.eq_ofNat_of_zero_le (show 0 ≤ x by omega)
    rcases z31n k (by omega) with h | h | h | h | h | h | h | h | h | h | h | h | h | h | h | h | h | h | h | h | h | h | h | h | h | h | h | h | h | h | h
    · subst h; exact Or.inl rfl
    · subst h; exact Or.inr (Or.inl rfl)
    · subst h; exact Or.inr (Or.inr (Or.inl rfl))
    · subst h; exact Or.inr (Or.inr (Or.inr (Or.inl rfl)))
    · subst h; exact Or.inr (Or.inr (Or.inr (Or.inr (Or.inl rfl))))
    · subst h; exact Or.inr (Or.inr (Or.inr (Or.inr (Or.inr (Or.inl rfl)))))
    · subst h; exact Or.inr (Or.inr (Or.inr (Or.inr (Or.inr (Or.inr (Or.inl rfl))))))
    · subst h; exact Or.inr (Or.inr (Or.inr (Or.inr (Or.inr (Or.inr (Or.inr (Or.inl rfl)))))))
    · subst h; exact Or.inr (Or.inr (Or.inr (Or.inr (Or.inr (Or.inr (Or.inr (Or.inr (Or.inl rfl))))))))
    · subst h; exact Or.inr (Or.inr (Or.inr (Or.inr (Or.inr (Or.inr (Or.inr (Or.inr (Or.inr (Or.inl rfl)))))))))
    · subst h; exact Or.inr (Or.inr (Or.inr (Or.inr (Or.inr (Or.inr (Or.inr (Or.inr (Or.inr (Or.inr (Or.inl rfl))))))))))
    · subst h; exact Or.inr (Or.inr (Or.inr (Or.inr (Or.inr (Or.inr (Or.inr (Or.inr (Or.inr (Or.inr (Or.inr (Or.inl rfl)))))))))))
    · subst h; exact Or.inr (Or.inr (Or.inr (Or.inr (Or.inr (Or.inr (Or.inr (Or.inr (Or.inr (Or.inr (Or.inr (Or.inr (Or.inl rfl))))))))))))
    · subst h; exact Or.inr (Or.inr (Or.inr (Or.inr (Or.inr (Or.inr (Or.inr (Or.inr (Or.inr (Or.inr (Or.inr (Or.inr (Or.inr (Or.inl rfl)))))))))))))
    · subst h; exact Or.inr (Or.inr (Or.inr (Or.inr (Or.inr (Or.inr (Or.inr (Or.inr (Or.inr (Or.inr (Or.inr (Or.inr (Or.inr (Or.inr (Or.inl rfl))))))))))))))
    · subst h; exact Or.inr (Or.inr (Or.inr (Or.inr (Or.inr (Or.inr (Or.inr (Or.inr (Or.inr (Or.inr (Or.inr (Or.inr (Or.inr (Or.inr (Or.inr (Or.inl rfl)))))))))))))))
    · subst h; exact Or.inr (Or.inr (Or.inr (Or.inr (Or.inr (Or.inr (Or.inr (Or.inr (Or.inr (Or.inr (Or.inr (Or.inr (Or.inr (Or.inr (Or.inr (Or.inr (Or.inl rfl))))))))))))))))
    · subst h; exact Or.inr (Or.inr (Or.inr (Or.inr (Or.inr (Or.inr (Or.inr (Or.inr (Or.inr (Or.inr (Or.inr (Or.inr (Or.inr (Or.inr (Or.inr (Or.inr (Or.inr (Or.inl rfl)))))))))))))))))
    · subst h; exact Or.inr (Or.inr (Or.inr (Or.inr (Or.inr (Or.inr (Or.inr (Or.inr (Or.inr (Or.inr (Or.inr (Or.inr (Or.inr (Or.inr (Or.inr (Or.inr (Or.inr (Or.inr (Or.inl rfl))))))))))))))))))
    · subst h; exact Or.inr (Or.inr (Or.inr (Or.inr (Or.inr (Or.inr (Or.inr (Or.inr (Or.inr (Or.inr (Or.inr (Or.inr (Or.inr (Or.inr (Or.inr (Or.inr (Or.inr (Or.inr (Or.inr (Or.inl rfl)))))))))))))))))))
    · subst h; exact Or.inr (Or.inr (Or.inr (Or.inr (Or.inr (Or.inr (Or.inr (Or.inr (Or.inr (Or.inr (Or.inr (Or.inr (Or.inr (Or.inr (Or.inr (Or.inr (Or.inr (Or.inr (Or.inr (Or.inr (Or.inl rfl))))))))))))))))))))
    · subst h; exact Or.inr (Or.inr (Or.inr (Or.inr (Or.inr (Or.inr (Or.inr (Or.inr (Or.inr (Or.inr (Or.inr (Or.inr (Or.inr (Or.inr (Or.inr (Or.inr (Or.inr (Or.inr (Or.inr (Or.inr (Or.inr (Or.inl rfl)))))))))))))))))))))
    · subst h; exact Or.inr (Or.inr (Or.inr (Or.inr (Or.inr (Or.inr (Or.inr (Or.inr (Or.inr (Or.inr (Or.inr (Or.inr (Or.inr (Or.inr (Or.inr (Or.inr (Or.inr (Or.inr (Or.inr (Or.inr (Or.inr (Or.inr (Or.inl rfl))))))))))))))))))))))
    · subst h; exact Or.inr (Or.inr (Or.inr (Or.inr (Or.inr (Or.inr (Or.inr (Or.inr (Or.inr (Or.inr (Or.inr (Or.inr (Or.inr (Or.inr (Or.inr (Or.inr (Or.inr (Or.inr (Or.inr (Or.inr (Or.inr (Or.inr (Or.inr (Or.inl rfl)))))))))))))))))))))))
    · subst h; exact Or.inr (Or.inr (Or.inr (Or.inr (Or.inr (Or.inr (Or.inr (Or.inr (Or.inr (Or.inr (Or.inr (Or.inr (Or.inr (Or.inr (Or.inr (Or.inr (Or.inr (Or.inr (Or.inr (Or.inr (Or.inr (Or.inr (Or.inr (Or.inr (Or.inl rfl))))))))))))))))))))))))
    · subst h; exact Or.inr (Or.inr (Or.inr (Or.inr (Or.inr (Or.inr (Or.inr (Or.inr (Or.inr (Or.inr (Or.inr (Or.inr (Or.inr (Or.inr (Or.inr (Or.inr (Or.inr (Or.inr (Or.inr (Or.inr (Or.inr (Or.inr (Or.inr (Or.inr (Or.inr (Or.inl rfl)))))))))))))))))))))))))
    · subst h; exact Or.inr (Or.inr (Or.inr (Or.inr (Or.inr (Or.inr (Or.inr (Or.inr (Or.inr (Or.inr (Or.inr (Or.inr (Or.inr (Or.inr (Or.inr (Or.inr (Or.inr (Or.inr (Or.inr (Or.inr (Or.inr (Or.inr (Or.inr (Or.inr (Or.inr (Or.inr (Or.inl rfl))))))))))))))))))))))))))
    · subst h; exact Or.inr (Or.inr (Or.inr (Or.inr (Or.inr (Or.inr (Or.inr (Or.inr (Or.inr (Or.inr (Or.inr (Or.inr (Or.inr (Or.inr (Or.inr (Or.inr (Or.inr (Or.inr (Or.inr (Or.inr (Or.inr (Or.inr (Or.inr (Or.inr (Or.inr (Or.inr (Or.inr (Or.inl rfl)))))))))))))))))))))))))))
    · subst h; exact Or.inr (Or.inr (Or.inr (Or.inr (Or.inr (Or.inr (Or.inr (Or.inr (Or.inr (Or.inr (Or.inr (Or.inr (Or.inr (Or.inr (Or.inr (Or.inr (Or.inr (Or.inr (Or.inr (Or.inr (Or.inr (Or.inr (Or.inr (Or.inr (Or.inr (Or.inr (Or.inr (Or.inr (Or.inl rfl))))))))))))))))))))))))))))
    · subst h; exact Or.inr (Or.inr (Or.inr (Or.inr (Or.inr (Or.inr (Or.inr (Or.inr (Or.inr (Or.inr (Or.inr (Or.inr (Or.inr (Or.inr (Or.inr (Or.inr (Or.inr (Or.inr (Or.inr (Or.inr (Or.inr (Or.inr (Or.inr (Or.inr (Or.inr (Or.inr (Or.inr (Or.inr (Or.inr (Or.inl rfl)))))))))))))))))))))))))))))
    · subst h; exact Or.inr (Or.inr (Or.inr (Or.inr (Or.inr (Or.inr (Or.inr (Or.inr (Or.inr (Or.inr (Or.inr (Or.inr (Or.inr (Or.inr (Or.inr (Or.inr (Or.inr (Or.inr (Or.inr (Or.inr (Or.inr (Or.inr (Or.inr (Or.inr (Or.inr (Or.inr (Or.inr (Or.inr (Or.inr (Or.inr (rfl))))))))))))))))))))))))))))))
def F_LW_law (N : Nat) (xs : Nat → Int32) (L : Int × zH → Prop) (i : Int) (h : zH) : Prop :=
  zr ((N : Int) - 4) ∧ (((N : Int) - 4 < i → (True)) ∧ (i ≤ (N : Int) - 4 → ((0 ≤ i ∧ i < (N : Int)) ∧ (((zand ((xs (i).toNat).toInt) 31 < 0 ∨ 30 < zand ((xs (i).toNat).toInt) 31) → (C_LW_law_1964 N xs L i h)) ∧ (zand ((xs (i).toNat).toInt) 31 = 0 → (C_LW_law_176 N xs L i h)) ∧ (zand ((xs (i).toNat).toInt) 31 = 1 → (C_LW_law_232 N xs L i h)) ∧ (zand ((xs (i).toNat).toInt) 31 = 2 → (C_LW_law_245 N xs L i h)) ∧ (zand ((xs (i).toNat).toInt) 31 = 3 → (C_LW_law_258 N xs L i h)) ∧ (zand ((xs (i).toNat).toInt) 31 = 4 → (C_LW_law_302 N xs L i h)) ∧ (zand ((xs (i).toNat).toInt) 31 = 5 → (C_LW_law_358 N xs L i h)) ∧ (zand ((xs (i).toNat).toInt) 31 = 6 → (C_LW_law_438 N xs L i h)) ∧ (zand ((xs (i).toNat).toInt) 31 = 7 → (C_LW_law_518 N xs L i h)) ∧ (zand ((xs (i).toNat).toInt) 31 = 8 → (C_LW_law_598 N xs L i h)) ∧ (zand ((xs (i).toNat).toInt) 31 = 9 → (C_LW_law_654 N xs L i h)) ∧ (zand ((xs (i).toNat).toInt) 31 = 10 → (C_LW_law_722 N xs L i h)) ∧ (zand ((xs (i).toNat).toInt) 31 = 11 → (C_LW_law_802 N xs L i h)) ∧ (zand ((xs (i).toNat).toInt) 31 = 12 → (C_LW_law_870 N xs L i h)) ∧ (zand ((xs (i).toNat).toInt) 31 = 13 → (C_LW_law_926 N xs L i h)) ∧ (zand ((xs (i).toNat).toInt) 31 = 14 → (C_LW_law_970 N xs L i h)) ∧ (zand ((xs (i).toNat).toInt) 31 = 15 → (C_LW_law_1014 N xs L i h)) ∧ (zand ((xs (i).toNat).toInt) 31 = 16 → (C_LW_law_1082 N xs L i h)) ∧ (zand ((xs (i).toNat).toInt) 31 = 17 → (C_LW_law_1150 N xs L i h)) ∧ (zand ((xs (i).toNat).toInt) 31 = 18 → (C_LW_law_1218 N xs L i h)) ∧ (zand ((xs (i).toNat).toInt) 31 = 19 → (C_LW_law_1262 N xs L i h)) ∧ (zand ((xs (i).toNat).toInt) 31 = 20 → (C_LW_law_1330 N xs L i h)) ∧ (zand ((xs (i).toNat).toInt) 31 = 21 → (C_LW_law_1343 N xs L i h)) ∧ (zand ((xs (i).toNat).toInt) 31 = 22 → (C_LW_law_1356 N xs L i h)) ∧ (zand ((xs (i).toNat).toInt) 31 = 23 → (C_LW_law_1412 N xs L i h)) ∧ (zand ((xs (i).toNat).toInt) 31 = 24 → (C_LW_law_1491 N xs L i h)) ∧ (zand ((xs (i).toNat).toInt) 31 = 25 → (C_LW_law_1559 N xs L i h)) ∧ (zand ((xs (i).toNat).toInt) 31 = 26 → (C_LW_law_1572 N xs L i h)) ∧ (zand ((xs (i).toNat).toInt) 31 = 27 → (C_LW_law_1652 N xs L i h)) ∧ (zand ((xs (i).toNat).toInt) 31 = 28 → (C_LW_law_1752 N xs L i h)) ∧ (zand ((xs (i).toNat).toInt) 31 = 29 → (C_LW_law_1852 N xs L i h)) ∧ (zand ((xs (i).toNat).toInt) 31 = 30 → (C_LW_law_1908 N xs L i h))))))
set_option maxHeartbeats 4000000 in
set_option maxRecDepth 100000 in
theorem s_LW_law {p : Program} {l : Launch} {e : Env} {s : State} {m : MethodId} {below : List Frame} {meth : Method} {c : Code} {b N : Nat} {xs : Nat → Int32} {g : zG} (C : zLC p l s m meth c b N xs g) (hN : N ≤ 2048) {q0 : Int × zH} (hv0 : zLoop (fun L q => F_LW_law N xs L q.1 q.2) q0) : ∀ cells slots : Nat, 0 ≤ q0.1 → q0.1 ≤ 2052 → cells ≤ 1000 + q0.1.toNat → slots ≤ 20000 + 6 * q0.1.toNat → zr q0.1 → zh q0.2 → zW (zWl p l e s m below meth c b cells slots) m 8 g 221 s.heap 23 [(0, .ref b), (1, .ref (g.2.2 0)), (2, .ref (g.2.2 197)), (3, .ref (g.2.2 220)), (4, zi q0.1)] [] q0.2 := by
  have oX : zO 221 0 10 := ⟨Or.inr rfl, by decide, by decide +kernel⟩
  have oM : zO 221 197 11 := ⟨Or.inr rfl, by decide, by decide +kernel⟩
  have oO : zO 221 220 16 := ⟨Or.inr rfl, by decide, by decide +kernel⟩
  have rfl_ln : zln 220 = 1 := by decide +kernel
  refine zLoop_use (G := fun q => ∀ cells slots : Nat, 0 ≤ q.1 → q.1 ≤ 2052 → cells ≤ 1000 + q.1.toNat → slots ≤ 20000 + 6 * q.1.toNat → zr q.1 → zh q.2 → zW (zWl p l e s m below meth c b cells slots) m 8 g 221 s.heap 23 [(0, .ref b), (1, .ref (g.2.2 0)), (2, .ref (g.2.2 197)), (3, .ref (g.2.2 220)), (4, zi q.1)] [] q.2) ?_ hv0
  rintro L ⟨i, h⟩ hL hv cells slots hi0 hi1 hcb hsb ri hh
  show zW (zWl p l e s m below meth c b cells slots) m 8 g 221 s.heap 23 [(0, .ref b), (1, .ref (g.2.2 0)), (2, .ref (g.2.2 197)), (3, .ref (g.2.2 220)), (4, zi i)] [] h
  have hv : F_LW_law N xs L i h := hv
  dsimp only at hi0 hi1 hcb hsb ri hL
  have rN : zr (N : Int) := by omega
  have hce : cells ≤ 601024 := by omega
  have hsl : slots ≤ 7293034 := by omega
  have X := zXl (e := e) (below := below) C hce hsl
  unfold F_LW_law at hv
  refine z_iload (pc := 23) (q := 4) X d_LW_law_23 rfl ?_
  refine z_aload_n (pc := 25) (q := 0) X d_LW_law_25 rfl ?_
  refine z_slen (pc := 26) C d_LW_law_26 ?_
  refine z_iconst (pc := 27) X d_LW_law_27 ?_
  obtain ⟨v_1, hv⟩ := hv
  refine z_isub (pc := 28) X d_LW_law_28 ?_
  refine z_icmp_gt (pc := 29) (tgt := 1970) X ri v_1 d_LW_law_29 (by decide) (fun hc => ?_) (fun hc => ?_)
  · replace hv := hv.1 hc
    refine z_iconst (pc := 1970) X d_LW_law_1970 ?_
    exact z_lret C hce hsl d_LW_law_1971
  · replace hv := hv.2 hc
    refine z_aload_n (pc := 32) (q := 0) X d_LW_law_32 rfl ?_
    refine z_iload (pc := 33) (q := 4) X d_LW_law_33 rfl ?_
    obtain ⟨v_2, hv⟩ := hv
    refine z_sld (pc := 35) C ri v_2 d_LW_law_35 ?_
    refine z_bipush (pc := 36) X d_LW_law_36 (by decide) ?_
    refine z_iand (pc := 38) X d_LW_law_38 ?_
    rcases z31 (zand ((xs (i).toNat).toInt) 31) with hc | hc | hc | hc | hc | hc | hc | hc | hc | hc | hc | hc | hc | hc | hc | hc | hc | hc | hc | hc | hc | hc | hc | hc | hc | hc | hc | hc | hc | hc | hc | hc
    · replace hv := hv.1 hc
      refine z_tableOut (pc := 39) (tgt := 1964) X (zr_int _) d_LW_law_39 hc (by decide) ?_
      exact sc_LW_law_1964 C hN oX oM oO rfl_ln hL hi0 (by omega) hcb hsb ri hh hv
    · replace hv := hv.2.1 hc
      refine z_tableIn (pc := 39) (tgt := 176) (off := 137) X (zr_int _) d_LW_law_39 (by rw [hc]; decide) (by rw [hc]; decide) (by rw [hc]; rfl) (by decide) ?_
      exact sc_LW_law_176 C hN oX oM oO rfl_ln hL hi0 (by omega) hcb hsb ri hh hv
    · replace hv := hv.2.2.1 hc
      refine z_tableIn (pc := 39) (tgt := 232) (off := 193) X (zr_int _) d_LW_law_39 (by rw [hc]; decide) (by rw [hc]; decide) (by rw [hc]; rfl) (by decide) ?_
      exact sc_LW_law_232 C hN oX oM oO rfl_ln hL hi0 (by omega) hcb hsb ri hh hv
    · replace hv := hv.2.2.2.1 hc
      refine z_tableIn (pc := 39) (tgt := 245) (off := 206) X (zr_int _) d_LW_law_39 (by rw [hc]; decide) (by rw [hc]; decide) (by rw [hc]; rfl) (by decide) ?_
      exact sc_LW_law_245 C hN oX oM oO rfl_ln hL hi0 (by omega) hcb hsb ri hh hv
    · replace hv := hv.2.2.2.2.1 hc
      refine z_tableIn (pc := 39) (tgt := 258) (off := 219) X (zr_int _) d_LW_law_39 (by rw [hc]; decide) (by rw [hc]; decide) (by rw [hc]; rfl) (by decide) ?_
      exact sc_LW_law_258 C hN oX oM oO rfl_ln hL hi0 (by omega) hcb hsb ri hh hv
    · replace hv := hv.2.2.2.2.2.1 hc
      refine z_tableIn (pc := 39) (tgt := 302) (off := 263) X (zr_int _) d_LW_law_39 (by rw [hc]; decide) (by rw [hc]; decide) (by rw [hc]; rfl) (by decide) ?_
      exact sc_LW_law_302 C hN oX oM oO rfl_ln hL hi0 (by omega) hcb hsb ri hh hv
    · replace hv := hv.2.2.2.2.2.2.1 hc
      refine z_tableIn (pc := 39) (tgt := 358) (off := 319) X (zr_int _) d_LW_law_39 (by rw [hc]; decide) (by rw [hc]; decide) (by rw [hc]; rfl) (by decide) ?_
      exact sc_LW_law_358 C hN oX oM oO rfl_ln hL hi0 (by omega) hcb hsb ri hh hv
    · replace hv := hv.2.2.2.2.2.2.2.1 hc
      refine z_tableIn (pc := 39) (tgt := 438) (off := 399) X (zr_int _) d_LW_law_39 (by rw [hc]; decide) (by rw [hc]; decide) (by rw [hc]; rfl) (by decide) ?_
      exact sc_LW_law_438 C hN oX oM oO rfl_ln hL hi0 (by omega) hcb hsb ri hh hv
    · replace hv := hv.2.2.2.2.2.2.2.2.1 hc
      refine z_tableIn (pc := 39) (tgt := 518) (off := 479) X (zr_int _) d_LW_law_39 (by rw [hc]; decide) (by rw [hc]; decide) (by rw [hc]; rfl) (by decide) ?_
      exact sc_LW_law_518 C hN oX oM oO rfl_ln hL hi0 (by omega) hcb hsb ri hh hv
    · replace hv := hv.2.2.2.2.2.2.2.2.2.1 hc
      refine z_tableIn (pc := 39) (tgt := 598) (off := 559) X (zr_int _) d_LW_law_39 (by rw [hc]; decide) (by rw [hc]; decide) (by rw [hc]; rfl) (by decide) ?_
      exact sc_LW_law_598 C hN oX oM oO rfl_ln hL hi0 (by omega) hcb hsb ri hh hv
    · replace hv := hv.2.2.2.2.2.2.2.2.2.2.1 hc
      refine z_tableIn (pc := 39) (tgt := 654) (off := 615) X (zr_int _) d_LW_law_39 (by rw [hc]; decide) (by rw [hc]; decide) (by rw [hc]; rfl) (by decide) ?_
      exact sc_LW_law_654 C hN oX oM oO rfl_ln hL hi0 (by omega) hcb hsb ri hh hv
    · replace hv := hv.2.2.2.2.2.2.2.2.2.2.2.1 hc
      refine z_tableIn (pc := 39) (tgt := 722) (off := 683) X (zr_int _) d_LW_law_39 (by rw [hc]; decide) (by rw [hc]; decide) (by rw [hc]; rfl) (by decide) ?_
      exact sc_LW_law_722 C hN oX oM oO rfl_ln hL hi0 (by omega) hcb hsb ri hh hv
    · replace hv := hv.2.2.2.2.2.2.2.2.2.2.2.2.1 hc
      refine z_tableIn (pc := 39) (tgt := 802) (off := 763) X (zr_int _) d_LW_law_39 (by rw [hc]; decide) (by rw [hc]; decide) (by rw [hc]; rfl) (by decide) ?_
      exact sc_LW_law_802 C hN oX oM oO rfl_ln hL hi0 (by omega) hcb hsb ri hh hv
    · replace hv := hv.2.2.2.2.2.2.2.2.2.2.2.2.2.1 hc
      refine z_tableIn (pc := 39) (tgt := 870) (off := 831) X (zr_int _) d_LW_law_39 (by rw [hc]; decide) (by rw [hc]; decide) (by rw [hc]; rfl) (by decide) ?_
      exact sc_LW_law_870 C hN oX oM oO rfl_ln hL hi0 (by omega) hcb hsb ri hh hv
    · replace hv := hv.2.2.2.2.2.2.2.2.2.2.2.2.2.2.1 hc
      refine z_tableIn (pc := 39) (tgt := 926) (off := 887) X (zr_int _) d_LW_law_39 (by rw [hc]; decide) (by rw [hc]; decide) (by rw [hc]; rfl) (by decide) ?_
      exact sc_LW_law_926 C hN oX oM oO rfl_ln hL hi0 (by omega) hcb hsb ri hh hv
    · replace hv := hv.2.2.2.2.2.2.2.2.2.2.2.2.2.2.2.1 hc
      refine z_tableIn (pc := 39) (tgt := 970) (off := 931) X (zr_int _) d_LW_law_39 (by rw [hc]; decide) (by rw [hc]; decide) (by rw [hc]; rfl) (by decide) ?_
      exact sc_LW_law_970 C hN oX oM oO rfl_ln hL hi0 (by omega) hcb hsb ri hh hv
    · replace hv := hv.2.2.2.2.2.2.2.2.2.2.2.2.2.2.2.2.1 hc
      refine z_tableIn (pc := 39) (tgt := 1014) (off := 975) X (zr_int _) d_LW_law_39 (by rw [hc]; decide) (by rw [hc]; decide) (by rw [hc]; rfl) (by decide) ?_
      exact sc_LW_law_1014 C hN oX oM oO rfl_ln hL hi0 (by omega) hcb hsb ri hh hv
    · replace hv := hv.2.2.2.2.2.2.2.2.2.2.2.2.2.2.2.2.2.1 hc
      refine z_tableIn (pc := 39) (tgt := 1082) (off := 1043) X (zr_int _) d_LW_law_39 (by rw [hc]; decide) (by rw [hc]; decide) (by rw [hc]; rfl) (by decide) ?_
      exact sc_LW_law_1082 C hN oX oM oO rfl_ln hL hi0 (by omega) hcb hsb ri hh hv
    · replace hv := hv.2.2.2.2.2.2.2.2.2.2.2.2.2.2.2.2.2.2.1 hc
      refine z_tableIn (pc := 39) (tgt := 1150) (off := 1111) X (zr_int _) d_LW_law_39 (by rw [hc]; decide) (by rw [hc]; decide) (by rw [hc]; rfl) (by decide) ?_
      exact sc_LW_law_1150 C hN oX oM oO rfl_ln hL hi0 (by omega) hcb hsb ri hh hv
    · replace hv := hv.2.2.2.2.2.2.2.2.2.2.2.2.2.2.2.2.2.2.2.1 hc
      refine z_tableIn (pc := 39) (tgt := 1218) (off := 1179) X (zr_int _) d_LW_law_39 (by rw [hc]; decide) (by rw [hc]; decide) (by rw [hc]; rfl) (by decide) ?_
      exact sc_LW_law_1218 C hN oX oM oO rfl_ln hL hi0 (by omega) hcb hsb ri hh hv
    · replace hv := hv.2.2.2.2.2.2.2.2.2.2.2.2.2.2.2.2.2.2.2.2.1 hc
      refine z_tableIn (pc := 39) (tgt := 1262) (off := 1223) X (zr_int _) d_LW_law_39 (by rw [hc]; decide) (by rw [hc]; decide) (by rw [hc]; rfl) (by decide) ?_
      exact sc_LW_law_1262 C hN oX oM oO rfl_ln hL hi0 (by omega) hcb hsb ri hh hv
    · replace hv := hv.2.2.2.2.2.2.2.2.2.2.2.2.2.2.2.2.2.2.2.2.2.1 hc
      refine z_tableIn (pc := 39) (tgt := 1330) (off := 1291) X (zr_int _) d_LW_law_39 (by rw [hc]; decide) (by rw [hc]; decide) (by rw [hc]; rfl) (by decide) ?_
      exact sc_LW_law_1330 C hN oX oM oO rfl_ln hL hi0 (by omega) hcb hsb ri hh hv
    · replace hv := hv.2.2.2.2.2.2.2.2.2.2.2.2.2.2.2.2.2.2.2.2.2.2.1 hc
      refine z_tableIn (pc := 39) (tgt := 1343) (off := 1304) X (zr_int _) d_LW_law_39 (by rw [hc]; decide) (by rw [hc]; decide) (by rw [hc]; rfl) (by decide) ?_
      exact sc_LW_law_1343 C hN oX oM oO rfl_ln hL hi0 (by omega) hcb hsb ri hh hv
    · replace hv := hv.2.2.2.2.2.2.2.2.2.2.2.2.2.2.2.2.2.2.2.2.2.2.2.1 hc
      refine z_tableIn (pc := 39) (tgt := 1356) (off := 1317) X (zr_int _) d_LW_law_39 (by rw [hc]; decide) (by rw [hc]; decide) (by rw [hc]; rfl) (by decide) ?_
      exact sc_LW_law_1356 C hN oX oM oO rfl_ln hL hi0 (by omega) hcb hsb ri hh hv
    · replace hv := hv.2.2.2.2.2.2.2.2.2.2.2.2.2.2.2.2.2.2.2.2.2.2.2.2.1 hc
      refine z_tableIn (pc := 39) (tgt := 1412) (off := 1373) X (zr_int _) d_LW_law_39 (by rw [hc]; decide) (by rw [hc]; decide) (by rw [hc]; rfl) (by decide) ?_
      exact sc_LW_law_1412 C hN oX oM oO rfl_ln hL hi0 (by omega) hcb hsb ri hh hv
    · replace hv := hv.2.2.2.2.2.2.2.2.2.2.2.2.2.2.2.2.2.2.2.2.2.2.2.2.2.1 hc
      refine z_tableIn (pc := 39) (tgt := 1491) (off := 1452) X (zr_int _) d_LW_law_39 (by rw [hc]; decide) (by rw [hc]; decide) (by rw [hc]; rfl) (by decide) ?_
      exact sc_LW_law_1491 C hN oX oM oO rfl_ln hL hi0 (by omega) hcb hsb ri hh hv
    · replace hv := hv.2.2.2.2.2.2.2.2.2.2.2.2.2.2.2.2.2.2.2.2.2.2.2.2.2.2.1 hc
      refine z_tableIn (pc := 39) (tgt := 1559) (off := 1520) X (zr_int _) d_LW_law_39 (by rw [hc]; decide) (by rw [hc]; decide) (by rw [hc]; rfl) (by decide) ?_
      exact sc_LW_law_1559 C hN oX oM oO rfl_ln hL hi0 (by omega) hcb hsb ri hh hv
    · replace hv := hv.2.2.2.2.2.2.2.2.2.2.2.2.2.2.2.2.2.2.2.2.2.2.2.2.2.2.2.1 hc
      refine z_tableIn (pc := 39) (tgt := 1572) (off := 1533) X (zr_int _) d_LW_law_39 (by rw [hc]; decide) (by rw [hc]; decide) (by rw [hc]; rfl) (by decide) ?_
      exact sc_LW_law_1572 C hN oX oM oO rfl_ln hL hi0 (by omega) hcb hsb ri hh hv
    · replace hv := hv.2.2.2.2.2.2.2.2.2.2.2.2.2.2.2.2.2.2.2.2.2.2.2.2.2.2.2.2.1 hc
      refine z_tableIn (pc := 39) (tgt := 1652) (off := 1613) X (zr_int _) d_LW_law_39 (by rw [hc]; decide) (by rw [hc]; decide) (by rw [hc]; rfl) (by decide) ?_
      exact sc_LW_law_1652 C hN oX oM oO rfl_ln hL hi0 (by omega) hcb hsb ri hh hv
    · replace hv := hv.2.2.2.2.2.2.2.2.2.2.2.2.2.2.2.2.2.2.2.2.2.2.2.2.2.2.2.2.2.1 hc
      refine z_tableIn (pc := 39) (tgt := 1752) (off := 1713) X (zr_int _) d_LW_law_39 (by rw [hc]; decide) (by rw [hc]; decide) (by rw [hc]; rfl) (by decide) ?_
      exact sc_LW_law_1752 C hN oX oM oO rfl_ln hL hi0 (by omega) hcb hsb ri hh hv
    · replace hv := hv.2.2.2.2.2.2.2.2.2.2.2.2.2.2.2.2.2.2.2.2.2.2.2.2.2.2.2.2.2.2.1 hc
      refine z_tableIn (pc := 39) (tgt := 1852) (off := 1813) X (zr_int _) d_LW_law_39 (by rw [hc]; decide) (by rw [hc]; decide) (by rw [hc]; rfl) (by decide) ?_
      exact sc_LW_law_1852 C hN oX oM oO rfl_ln hL hi0 (by omega) hcb hsb ri hh hv
    · replace hv := hv.2.2.2.2.2.2.2.2.2.2.2.2.2.2.2.2.2.2.2.2.2.2.2.2.2.2.2.2.2.2.2 hc
      refine z_tableIn (pc := 39) (tgt := 1908) (off := 1869) X (zr_int _) d_LW_law_39 (by rw [hc]; decide) (by rw [hc]; decide) (by rw [hc]; rfl) (by decide) ?_
      exact sc_LW_law_1908 C hN oX oM oO rfl_ln hL hi0 (by omega) hcb hsb ri hh hv

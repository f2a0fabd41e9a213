/-! the law from its loop's head on (printed by wip/whole/lawgen2.py) -/
def C_LW_law_176 (N : Nat) (xs : Nat → Int32) (L : Int × zH → Prop) (i : Int) (h : zH) : Prop :=
  zr (i + 1) ∧ ((0 ≤ i + 1 ∧ i + 1 < (N : Int)) ∧ (M_LW_append 0 ((xs (i + 1).toNat).toInt) 220 h (fun r_4 h_3 => zr (i + 1) ∧ ((0 ≤ i + 1 ∧ i + 1 < (N : Int)) ∧ (M_RM_append 197 ((xs (i + 1).toNat).toInt) h_3 (fun r_8 h_7 => M_RM_thrown 197 h_7 (fun r_10 h_9 => (r_10 = r_4 → ((r_4 ≠ 0 → (zr (i + 4) ∧ (L (i + 4, h_9)))) ∧ (r_4 = 0 → ((h_9 220 0 = r_8 → (zr (i + 4) ∧ (L (i + 4, h_9)))) ∧ (h_9 220 0 ≠ r_8 → (False)))))) ∧ (r_10 ≠ r_4 → (False)))))))))
set_option maxHeartbeats 4000000 in
set_option maxRecDepth 100000 in
theorem sc_LW_law_176 {p : Program} {l : Launch} {e : Env} {s : State} {m : MethodId} {below : List Frame} {meth : Method} {c : Code} {b N : Nat} {xs : Nat → Int32} {g : zG} (C : zLC p l s m meth c b N xs g) (hN : N ≤ 2048) (oX : zO 221 0 10) (oM : zO 221 197 11) (oO : zO 221 220 16) (rfl_ln : zln 220 = 1) {L : Int × zH → Prop} (hL : ∀ q : Int × zH, L q → ∀ cells slots : Nat, 0 ≤ q.1 → q.1 ≤ 2052 → cells ≤ 1000 + q.1.toNat → slots ≤ 20000 + 6 * q.1.toNat → zr q.1 → zh q.2 → zW (zWl p l e s m below meth c b cells slots) m 8 g 221 s.heap 23 [(0, .ref b), (1, .ref (g.2.2 0)), (2, .ref (g.2.2 197)), (3, .ref (g.2.2 220)), (4, zi q.1)] [] q.2) {i : Int} {h : zH} {cells slots : Nat} (hi0 : 0 ≤ i) (hi4 : i ≤ (N : Int) - 4) (hcb : cells ≤ 1000 + i.toNat) (hsb : slots ≤ 20000 + 6 * i.toNat) (ri : zr i) (hh : zh h) (hv : C_LW_law_176 N xs L i h) : zW (zWl p l e s m below meth c b cells slots) m 8 g 221 s.heap 176 [(0, .ref b), (1, .ref (g.2.2 0)), (2, .ref (g.2.2 197)), (3, .ref (g.2.2 220)), (4, zi i)] [] h := by
  unfold C_LW_law_176 at hv
  have rN : zr (N : Int) := by omega
  have hce : cells ≤ 601024 := by omega
  have hsl : slots ≤ 7293034 := by omega
  have X := zXl (e := e) (below := below) C hce hsl
  refine z_aload_n (pc := 176) (q := 1) X d_LW_law_176 rfl ?_
  refine z_aload_n (pc := 177) (q := 0) X d_LW_law_177 rfl ?_
  refine z_iload (pc := 178) (q := 4) X d_LW_law_178 rfl ?_
  refine z_iconst (pc := 180) X d_LW_law_180 ?_
  obtain ⟨v_1, hv⟩ := hv
  refine z_iadd (pc := 181) X d_LW_law_181 ?_
  obtain ⟨v_2, hv⟩ := hv
  refine z_sld (pc := 182) C v_1 v_2 d_LW_law_182 ?_
  refine z_aload_n (pc := 183) (q := 3) X d_LW_law_183 rfl ?_
  refine z_callH (k := 3) (pc := 184) (As := [.ref (g.2.2 0), zi ((xs (i + 1).toNat).toInt), .ref (g.2.2 220)]) (rest := []) C (by omega) (by omega) (fun l hl => c_LW_append hl oX (zr_int _) oO hh hv) q484 q0 q485w (by decide +kernel) q483 ⟨⟨by decide, by decide⟩, rfl, rfl⟩ rfl d_LW_law_184 rfl (Nat.le_of_ble_eq_true rfl) (fun r_4 h_3 rr_4 zh_3 hv => ?_)
  have hce1 : cells + 1 ≤ 601024 := by omega
  have hsl1 : slots + 6 ≤ 7293034 := by omega
  have X := zXl (e := e) (below := below) C hce1 hsl1
  refine z_istore (pc := 187) (lv' := [(5, zi r_4), (0, .ref b), (1, .ref (g.2.2 0)), (2, .ref (g.2.2 197)), (3, .ref (g.2.2 220)), (4, zi i)]) X d_LW_law_187 (by decide) rfl ?_
  refine z_aload_n (pc := 189) (q := 3) X d_LW_law_189 rfl ?_
  refine z_aload_n (pc := 190) (q := 1) X d_LW_law_190 rfl ?_
  refine z_iload (pc := 191) (q := 5) X d_LW_law_191 rfl ?_
  refine z_iconst (pc := 193) X d_LW_law_193 ?_
  obtain ⟨v_5, hv⟩ := hv
  refine z_iadd (pc := 194) X d_LW_law_194 ?_
  obtain ⟨v_6, hv⟩ := hv
  refine z_sld (pc := 195) C v_5 v_6 d_LW_law_195 ?_
  refine z_callVi (pc := 196) (As := [zi ((xs (i + 1).toNat).toInt)]) (rest := []) X (fun l hl => c_RM_append hl oM (zr_int _) zh_3 hv) cf_RM oM rfl mf_RM_append q1122 ⟨⟨by decide, by decide⟩, rfl, rfl⟩ rfl d_LW_law_196 rfl (Nat.le_of_ble_eq_true rfl) (fun r_8 h_7 rr_8 zh_7 hv => ?_)
  refine z_istore (pc := 199) (lv' := [(6, zi r_8), (5, zi r_4), (0, .ref b), (1, .ref (g.2.2 0)), (2, .ref (g.2.2 197)), (3, .ref (g.2.2 220)), (4, zi i)]) X d_LW_law_199 (by decide) rfl ?_
  refine z_aload_n (pc := 201) (q := 4) X d_LW_law_201 rfl ?_
  refine z_callVi (pc := 202) (As := []) (rest := []) X (fun l hl => c_RM_thrown hl oM zh_7 hv) cf_RM oM rfl mf_RM_thrown q1118 ⟨⟨by decide, by decide⟩, rfl, rfl⟩ rfl d_LW_law_202 rfl (Nat.le_of_ble_eq_true rfl) (fun r_10 h_9 rr_10 zh_9 hv => ?_)
  refine z_iload (pc := 205) (q := 1) X d_LW_law_205 rfl ?_
  refine z_icmp_eq (pc := 207) (tgt := 212) X rr_10 rr_4 d_LW_law_207 (by decide) (fun hc => ?_) (fun hc => ?_)
  · replace hv := hv.1 hc
    refine z_iload (pc := 212) (q := 1) X d_LW_law_212 rfl ?_
    refine z_if_ne (pc := 214) (tgt := 229) X rr_4 d_LW_law_214 (by decide) (fun hc => ?_) (fun hc => ?_)
    · replace hv := hv.1 hc
      refine z_goto (pc := 229) (tgt := 1964) X d_LW_law_229 (by decide) ?_
      obtain ⟨v_11, hv⟩ := hv
      refine z_iinc (pc := 1964) (q := 6) (lv' := [(4, zi (i + 4)), (6, zi r_8), (5, zi r_4), (0, .ref b), (1, .ref (g.2.2 0)), (2, .ref (g.2.2 197)), (3, .ref (g.2.2 220))]) X d_LW_law_1964 rfl (by decide) rfl ?_
      refine z_goto (pc := 1967) (tgt := 23) X d_LW_law_1967 (by decide) ?_
      refine z_perm [3, 4, 5, 6, 0] rfl ?_
      exact hL (i + 4, h_9) hv (cells + 1) (slots + 6) (show (0 : Int) ≤ i + 4 by omega) (show i + 4 ≤ (2052 : Int) by omega) (show cells + 1 ≤ 1000 + (i + 4).toNat by omega) (show slots + 6 ≤ 20000 + 6 * (i + 4).toNat by omega) v_11 zh_9
    · replace hv := hv.2 hc
      refine z_aload_n (pc := 217) (q := 5) X d_LW_law_217 rfl ?_
      refine z_iconst (pc := 218) X d_LW_law_218 ?_
      refine z_laldj (pc := 219) (j := 0) X oO rfl_ln (show zr 0 from by decide) ⟨by decide, by decide⟩ rfl d_LW_law_219 ?_
      refine z_iload (pc := 220) (q := 0) X d_LW_law_220 rfl ?_
      refine z_i2l (pc := 222) X rr_8 d_LW_law_222 ?_
      refine z_lif_eq (pc := 223) (tgt := 229) X (zh_9.2 _) (zr_l rr_8) d_LW_law_223 d_LW_law_224 (by decide) (fun hc => ?_) (fun hc => ?_)
      · replace hv := hv.1 hc
        refine z_goto (pc := 229) (tgt := 1964) X d_LW_law_229 (by decide) ?_
        obtain ⟨v_12, hv⟩ := hv
        refine z_iinc (pc := 1964) (q := 6) (lv' := [(4, zi (i + 4)), (6, zi r_8), (5, zi r_4), (0, .ref b), (1, .ref (g.2.2 0)), (2, .ref (g.2.2 197)), (3, .ref (g.2.2 220))]) X d_LW_law_1964 rfl (by decide) rfl ?_
        refine z_goto (pc := 1967) (tgt := 23) X d_LW_law_1967 (by decide) ?_
        refine z_perm [3, 4, 5, 6, 0] rfl ?_
        exact hL (i + 4, h_9) hv (cells + 1) (slots + 6) (show (0 : Int) ≤ i + 4 by omega) (show i + 4 ≤ (2052 : Int) by omega) (show cells + 1 ≤ 1000 + (i + 4).toNat by omega) (show slots + 6 ≤ 20000 + 6 * (i + 4).toNat by omega) v_12 zh_9
      · replace hv := hv.2 hc
        refine z_iconst (pc := 227) X d_LW_law_227 ?_
        exact hv.elim
  · replace hv := hv.2 hc
    refine z_iconst (pc := 210) X d_LW_law_210 ?_
    exact hv.elim
def C_LW_law_232 (N : Nat) (xs : Nat → Int32) (L : Int × zH → Prop) (i : Int) (h : zH) : Prop :=
  M_AS_clearText 0 h (fun r_2 h_1 => M_RM_clearText 197 h_1 (fun r_4 h_3 => (r_2 = r_4 → (zr (i + 4) ∧ (L (i + 4, h_3)))) ∧ (r_2 ≠ r_4 → (False))))
set_option maxHeartbeats 4000000 in
set_option maxRecDepth 100000 in
theorem sc_LW_law_232 {p : Program} {l : Launch} {e : Env} {s : State} {m : MethodId} {below : List Frame} {meth : Method} {c : Code} {b N : Nat} {xs : Nat → Int32} {g : zG} (C : zLC p l s m meth c b N xs g) (hN : N ≤ 2048) (oX : zO 221 0 10) (oM : zO 221 197 11) (oO : zO 221 220 16) (rfl_ln : zln 220 = 1) {L : Int × zH → Prop} (hL : ∀ q : Int × zH, L q → ∀ cells slots : Nat, 0 ≤ q.1 → q.1 ≤ 2052 → cells ≤ 1000 + q.1.toNat → slots ≤ 20000 + 6 * q.1.toNat → zr q.1 → zh q.2 → zW (zWl p l e s m below meth c b cells slots) m 8 g 221 s.heap 23 [(0, .ref b), (1, .ref (g.2.2 0)), (2, .ref (g.2.2 197)), (3, .ref (g.2.2 220)), (4, zi q.1)] [] q.2) {i : Int} {h : zH} {cells slots : Nat} (hi0 : 0 ≤ i) (hi4 : i ≤ (N : Int) - 4) (hcb : cells ≤ 1000 + i.toNat) (hsb : slots ≤ 20000 + 6 * i.toNat) (ri : zr i) (hh : zh h) (hv : C_LW_law_232 N xs L i h) : zW (zWl p l e s m below meth c b cells slots) m 8 g 221 s.heap 232 [(0, .ref b), (1, .ref (g.2.2 0)), (2, .ref (g.2.2 197)), (3, .ref (g.2.2 220)), (4, zi i)] [] h := by
  unfold C_LW_law_232 at hv
  have rN : zr (N : Int) := by omega
  have hce : cells ≤ 601024 := by omega
  have hsl : slots ≤ 7293034 := by omega
  have X := zXl (e := e) (below := below) C hce hsl
  refine z_aload_n (pc := 232) (q := 1) X d_LW_law_232 rfl ?_
  refine z_callVi (pc := 233) (As := []) (rest := []) X (fun l hl => c_AS_clearText hl oX hh hv) cf_AS oX rfl mf_AS_clearText q397 ⟨⟨by decide, by decide⟩, rfl, rfl⟩ rfl d_LW_law_233 rfl (Nat.le_of_ble_eq_true rfl) (fun r_2 h_1 rr_2 zh_1 hv => ?_)
  refine z_aload_n (pc := 236) (q := 2) X d_LW_law_236 rfl ?_
  refine z_callVi (pc := 237) (As := []) (rest := [zi r_2]) X (fun l hl => c_RM_clearText hl oM zh_1 hv) cf_RM oM rfl mf_RM_clearText q1134 ⟨⟨by decide, by decide⟩, rfl, rfl⟩ rfl d_LW_law_237 rfl (Nat.le_of_ble_eq_true rfl) (fun r_4 h_3 rr_4 zh_3 hv => ?_)
  refine z_icmp_eq (pc := 240) (tgt := 1964) X rr_2 rr_4 d_LW_law_240 (by decide) (fun hc => ?_) (fun hc => ?_)
  · replace hv := hv.1 hc
    obtain ⟨v_5, hv⟩ := hv
    refine z_iinc (pc := 1964) (q := 4) (lv' := [(4, zi (i + 4)), (0, .ref b), (1, .ref (g.2.2 0)), (2, .ref (g.2.2 197)), (3, .ref (g.2.2 220))]) X d_LW_law_1964 rfl (by decide) rfl ?_
    refine z_goto (pc := 1967) (tgt := 23) X d_LW_law_1967 (by decide) ?_
    refine z_perm [1, 2, 3, 4, 0] rfl ?_
    exact hL (i + 4, h_3) hv cells slots (show (0 : Int) ≤ i + 4 by omega) (show i + 4 ≤ (2052 : Int) by omega) (show cells ≤ 1000 + (i + 4).toNat by omega) (show slots ≤ 20000 + 6 * (i + 4).toNat by omega) v_5 zh_3
  · replace hv := hv.2 hc
    refine z_iconst (pc := 243) X d_LW_law_243 ?_
    exact hv.elim
def C_LW_law_245 (N : Nat) (xs : Nat → Int32) (L : Int × zH → Prop) (i : Int) (h : zH) : Prop :=
  M_AS_errorPosition 0 h (fun r_2 h_1 => M_RM_errorPosition 197 h_1 (fun r_4 h_3 => (r_2 = r_4 → (zr (i + 4) ∧ (L (i + 4, h_3)))) ∧ (r_2 ≠ r_4 → (False))))
set_option maxHeartbeats 4000000 in
set_option maxRecDepth 100000 in
theorem sc_LW_law_245 {p : Program} {l : Launch} {e : Env} {s : State} {m : MethodId} {below : List Frame} {meth : Method} {c : Code} {b N : Nat} {xs : Nat → Int32} {g : zG} (C : zLC p l s m meth c b N xs g) (hN : N ≤ 2048) (oX : zO 221 0 10) (oM : zO 221 197 11) (oO : zO 221 220 16) (rfl_ln : zln 220 = 1) {L : Int × zH → Prop} (hL : ∀ q : Int × zH, L q → ∀ cells slots : Nat, 0 ≤ q.1 → q.1 ≤ 2052 → cells ≤ 1000 + q.1.toNat → slots ≤ 20000 + 6 * q.1.toNat → zr q.1 → zh q.2 → zW (zWl p l e s m below meth c b cells slots) m 8 g 221 s.heap 23 [(0, .ref b), (1, .ref (g.2.2 0)), (2, .ref (g.2.2 197)), (3, .ref (g.2.2 220)), (4, zi q.1)] [] q.2) {i : Int} {h : zH} {cells slots : Nat} (hi0 : 0 ≤ i) (hi4 : i ≤ (N : Int) - 4) (hcb : cells ≤ 1000 + i.toNat) (hsb : slots ≤ 20000 + 6 * i.toNat) (ri : zr i) (hh : zh h) (hv : C_LW_law_245 N xs L i h) : zW (zWl p l e s m below meth c b cells slots) m 8 g 221 s.heap 245 [(0, .ref b), (1, .ref (g.2.2 0)), (2, .ref (g.2.2 197)), (3, .ref (g.2.2 220)), (4, zi i)] [] h := by
  unfold C_LW_law_245 at hv
  have rN : zr (N : Int) := by omega
  have hce : cells ≤ 601024 := by omega
  have hsl : slots ≤ 7293034 := by omega
  have X := zXl (e := e) (below := below) C hce hsl
  refine z_aload_n (pc := 245) (q := 1) X d_LW_law_245 rfl ?_
  refine z_callVi (pc := 246) (As := []) (rest := []) X (fun l hl => c_AS_errorPosition hl oX hh hv) cf_AS oX rfl mf_AS_errorPosition q401 ⟨⟨by decide, by decide⟩, rfl, rfl⟩ rfl d_LW_law_246 rfl (Nat.le_of_ble_eq_true rfl) (fun r_2 h_1 rr_2 zh_1 hv => ?_)
  refine z_aload_n (pc := 249) (q := 2) X d_LW_law_249 rfl ?_
  refine z_callVi (pc := 250) (As := []) (rest := [zi r_2]) X (fun l hl => c_RM_errorPosition hl oM zh_1 hv) cf_RM oM rfl mf_RM_errorPosition q1138 ⟨⟨by decide, by decide⟩, rfl, rfl⟩ rfl d_LW_law_250 rfl (Nat.le_of_ble_eq_true rfl) (fun r_4 h_3 rr_4 zh_3 hv => ?_)
  refine z_icmp_eq (pc := 253) (tgt := 1964) X rr_2 rr_4 d_LW_law_253 (by decide) (fun hc => ?_) (fun hc => ?_)
  · replace hv := hv.1 hc
    obtain ⟨v_5, hv⟩ := hv
    refine z_iinc (pc := 1964) (q := 4) (lv' := [(4, zi (i + 4)), (0, .ref b), (1, .ref (g.2.2 0)), (2, .ref (g.2.2 197)), (3, .ref (g.2.2 220))]) X d_LW_law_1964 rfl (by decide) rfl ?_
    refine z_goto (pc := 1967) (tgt := 23) X d_LW_law_1967 (by decide) ?_
    refine z_perm [1, 2, 3, 4, 0] rfl ?_
    exact hL (i + 4, h_3) hv cells slots (show (0 : Int) ≤ i + 4 by omega) (show i + 4 ≤ (2052 : Int) by omega) (show cells ≤ 1000 + (i + 4).toNat by omega) (show slots ≤ 20000 + 6 * (i + 4).toNat by omega) v_5 zh_3
  · replace hv := hv.2 hc
    refine z_iconst (pc := 256) X d_LW_law_256 ?_
    exact hv.elim
def C_LW_law_258 (N : Nat) (xs : Nat → Int32) (L : Int × zH → Prop) (i : Int) (h : zH) : Prop :=
  M_LW_load 0 220 h (fun r_2 h_1 => M_RM_load 197 h_1 (fun r_4 h_3 => M_RM_thrown 197 h_3 (fun r_6 h_5 => (r_6 = r_2 → ((r_2 ≠ 0 → (zr (i + 4) ∧ (L (i + 4, h_5)))) ∧ (r_2 = 0 → ((h_5 220 0 = r_4 → (zr (i + 4) ∧ (L (i + 4, h_5)))) ∧ (h_5 220 0 ≠ r_4 → (False)))))) ∧ (r_6 ≠ r_2 → (False)))))
set_option maxHeartbeats 4000000 in
set_option maxRecDepth 100000 in
theorem sc_LW_law_258 {p : Program} {l : Launch} {e : Env} {s : State} {m : MethodId} {below : List Frame} {meth : Method} {c : Code} {b N : Nat} {xs : Nat → Int32} {g : zG} (C : zLC p l s m meth c b N xs g) (hN : N ≤ 2048) (oX : zO 221 0 10) (oM : zO 221 197 11) (oO : zO 221 220 16) (rfl_ln : zln 220 = 1) {L : Int × zH → Prop} (hL : ∀ q : Int × zH, L q → ∀ cells slots : Nat, 0 ≤ q.1 → q.1 ≤ 2052 → cells ≤ 1000 + q.1.toNat → slots ≤ 20000 + 6 * q.1.toNat → zr q.1 → zh q.2 → zW (zWl p l e s m below meth c b cells slots) m 8 g 221 s.heap 23 [(0, .ref b), (1, .ref (g.2.2 0)), (2, .ref (g.2.2 197)), (3, .ref (g.2.2 220)), (4, zi q.1)] [] q.2) {i : Int} {h : zH} {cells slots : Nat} (hi0 : 0 ≤ i) (hi4 : i ≤ (N : Int) - 4) (hcb : cells ≤ 1000 + i.toNat) (hsb : slots ≤ 20000 + 6 * i.toNat) (ri : zr i) (hh : zh h) (hv : C_LW_law_258 N xs L i h) : zW (zWl p l e s m below meth c b cells slots) m 8 g 221 s.heap 258 [(0, .ref b), (1, .ref (g.2.2 0)), (2, .ref (g.2.2 197)), (3, .ref (g.2.2 220)), (4, zi i)] [] h := by
  unfold C_LW_law_258 at hv
  have rN : zr (N : Int) := by omega
  have hce : cells ≤ 601024 := by omega
  have hsl : slots ≤ 7293034 := by omega
  have X := zXl (e := e) (below := below) C hce hsl
  refine z_aload_n (pc := 258) (q := 1) X d_LW_law_258 rfl ?_
  refine z_aload_n (pc := 259) (q := 3) X d_LW_law_259 rfl ?_
  refine z_callH (k := 2) (pc := 260) (As := [.ref (g.2.2 0), .ref (g.2.2 220)]) (rest := []) C (by omega) (by omega) (fun l hl => c_LW_load hl oX oO hh hv) q581 q0 q582w (by decide +kernel) q580 ⟨⟨by decide, by decide⟩, rfl, rfl⟩ rfl d_LW_law_260 rfl (Nat.le_of_ble_eq_true rfl) (fun r_2 h_1 rr_2 zh_1 hv => ?_)
  have hce1 : cells + 1 ≤ 601024 := by omega
  have hsl1 : slots + 6 ≤ 7293034 := by omega
  have X := zXl (e := e) (below := below) C hce1 hsl1
  refine z_istore (pc := 263) (lv' := [(5, zi r_2), (0, .ref b), (1, .ref (g.2.2 0)), (2, .ref (g.2.2 197)), (3, .ref (g.2.2 220)), (4, zi i)]) X d_LW_law_263 (by decide) rfl ?_
  refine z_aload_n (pc := 265) (q := 3) X d_LW_law_265 rfl ?_
  refine z_callVi (pc := 266) (As := []) (rest := []) X (fun l hl => c_RM_load hl oM zh_1 hv) cf_RM oM rfl mf_RM_load q1165 ⟨⟨by decide, by decide⟩, rfl, rfl⟩ rfl d_LW_law_266 rfl (Nat.le_of_ble_eq_true rfl) (fun r_4 h_3 rr_4 zh_3 hv => ?_)
  refine z_istore (pc := 269) (lv' := [(6, zi r_4), (5, zi r_2), (0, .ref b), (1, .ref (g.2.2 0)), (2, .ref (g.2.2 197)), (3, .ref (g.2.2 220)), (4, zi i)]) X d_LW_law_269 (by decide) rfl ?_
  refine z_aload_n (pc := 271) (q := 4) X d_LW_law_271 rfl ?_
  refine z_callVi (pc := 272) (As := []) (rest := []) X (fun l hl => c_RM_thrown hl oM zh_3 hv) cf_RM oM rfl mf_RM_thrown q1118 ⟨⟨by decide, by decide⟩, rfl, rfl⟩ rfl d_LW_law_272 rfl (Nat.le_of_ble_eq_true rfl) (fun r_6 h_5 rr_6 zh_5 hv => ?_)
  refine z_iload (pc := 275) (q := 1) X d_LW_law_275 rfl ?_
  refine z_icmp_eq (pc := 277) (tgt := 282) X rr_6 rr_2 d_LW_law_277 (by decide) (fun hc => ?_) (fun hc => ?_)
  · replace hv := hv.1 hc
    refine z_iload (pc := 282) (q := 1) X d_LW_law_282 rfl ?_
    refine z_if_ne (pc := 284) (tgt := 299) X rr_2 d_LW_law_284 (by decide) (fun hc => ?_) (fun hc => ?_)
    · replace hv := hv.1 hc
      refine z_goto (pc := 299) (tgt := 1964) X d_LW_law_299 (by decide) ?_
      obtain ⟨v_7, hv⟩ := hv
      refine z_iinc (pc := 1964) (q := 6) (lv' := [(4, zi (i + 4)), (6, zi r_4), (5, zi r_2), (0, .ref b), (1, .ref (g.2.2 0)), (2, .ref (g.2.2 197)), (3, .ref (g.2.2 220))]) X d_LW_law_1964 rfl (by decide) rfl ?_
      refine z_goto (pc := 1967) (tgt := 23) X d_LW_law_1967 (by decide) ?_
      refine z_perm [3, 4, 5, 6, 0] rfl ?_
      exact hL (i + 4, h_5) hv (cells + 1) (slots + 6) (show (0 : Int) ≤ i + 4 by omega) (show i + 4 ≤ (2052 : Int) by omega) (show cells + 1 ≤ 1000 + (i + 4).toNat by omega) (show slots + 6 ≤ 20000 + 6 * (i + 4).toNat by omega) v_7 zh_5
    · replace hv := hv.2 hc
      refine z_aload_n (pc := 287) (q := 5) X d_LW_law_287 rfl ?_
      refine z_iconst (pc := 288) X d_LW_law_288 ?_
      refine z_laldj (pc := 289) (j := 0) X oO rfl_ln (show zr 0 from by decide) ⟨by decide, by decide⟩ rfl d_LW_law_289 ?_
      refine z_iload (pc := 290) (q := 0) X d_LW_law_290 rfl ?_
      refine z_i2l (pc := 292) X rr_4 d_LW_law_292 ?_
      refine z_lif_eq (pc := 293) (tgt := 299) X (zh_5.2 _) (zr_l rr_4) d_LW_law_293 d_LW_law_294 (by decide) (fun hc => ?_) (fun hc => ?_)
      · replace hv := hv.1 hc
        refine z_goto (pc := 299) (tgt := 1964) X d_LW_law_299 (by decide) ?_
        obtain ⟨v_8, hv⟩ := hv
        refine z_iinc (pc := 1964) (q := 6) (lv' := [(4, zi (i + 4)), (6, zi r_4), (5, zi r_2), (0, .ref b), (1, .ref (g.2.2 0)), (2, .ref (g.2.2 197)), (3, .ref (g.2.2 220))]) X d_LW_law_1964 rfl (by decide) rfl ?_
        refine z_goto (pc := 1967) (tgt := 23) X d_LW_law_1967 (by decide) ?_
        refine z_perm [3, 4, 5, 6, 0] rfl ?_
        exact hL (i + 4, h_5) hv (cells + 1) (slots + 6) (show (0 : Int) ≤ i + 4 by omega) (show i + 4 ≤ (2052 : Int) by omega) (show cells + 1 ≤ 1000 + (i + 4).toNat by omega) (show slots + 6 ≤ 20000 + 6 * (i + 4).toNat by omega) v_8 zh_5
      · replace hv := hv.2 hc
        refine z_iconst (pc := 297) X d_LW_law_297 ?_
        exact hv.elim
  · replace hv := hv.2 hc
    refine z_iconst (pc := 280) X d_LW_law_280 ?_
    exact hv.elim
def C_LW_law_302 (N : Nat) (xs : Nat → Int32) (L : Int × zH → Prop) (i : Int) (h : zH) : Prop :=
  zr (i + 1) ∧ ((0 ≤ i + 1 ∧ i + 1 < (N : Int)) ∧ (M_LW_about 0 ((xs (i + 1).toNat).toInt) 220 h (fun r_4 h_3 => zr (i + 1) ∧ ((0 ≤ i + 1 ∧ i + 1 < (N : Int)) ∧ (M_RM_about 197 ((xs (i + 1).toNat).toInt) h_3 (fun r_8 h_7 => M_RM_thrown 197 h_7 (fun r_10 h_9 => (r_10 = r_4 → ((r_4 ≠ 0 → (zr (i + 4) ∧ (L (i + 4, h_9)))) ∧ (r_4 = 0 → ((h_9 220 0 = r_8 → (zr (i + 4) ∧ (L (i + 4, h_9)))) ∧ (h_9 220 0 ≠ r_8 → (False)))))) ∧ (r_10 ≠ r_4 → (False)))))))))
set_option maxHeartbeats 4000000 in
set_option maxRecDepth 100000 in
theorem sc_LW_law_302 {p : Program} {l : Launch} {e : Env} {s : State} {m : MethodId} {below : List Frame} {meth : Method} {c : Code} {b N : Nat} {xs : Nat → Int32} {g : zG} (C : zLC p l s m meth c b N xs g) (hN : N ≤ 2048) (oX : zO 221 0 10) (oM : zO 221 197 11) (oO : zO 221 220 16) (rfl_ln : zln 220 = 1) {L : Int × zH → Prop} (hL : ∀ q : Int × zH, L q → ∀ cells slots : Nat, 0 ≤ q.1 → q.1 ≤ 2052 → cells ≤ 1000 + q.1.toNat → slots ≤ 20000 + 6 * q.1.toNat → zr q.1 → zh q.2 → zW (zWl p l e s m below meth c b cells slots) m 8 g 221 s.heap 23 [(0, .ref b), (1, .ref (g.2.2 0)), (2, .ref (g.2.2 197)), (3, .ref (g.2.2 220)), (4, zi q.1)] [] q.2) {i : Int} {h : zH} {cells slots : Nat} (hi0 : 0 ≤ i) (hi4 : i ≤ (N : Int) - 4) (hcb : cells ≤ 1000 + i.toNat) (hsb : slots ≤ 20000 + 6 * i.toNat) (ri : zr i) (hh : zh h) (hv : C_LW_law_302 N xs L i h) : zW (zWl p l e s m below meth c b cells slots) m 8 g 221 s.heap 302 [(0, .ref b), (1, .ref (g.2.2 0)), (2, .ref (g.2.2 197)), (3, .ref (g.2.2 220)), (4, zi i)] [] h := by
  unfold C_LW_law_302 at hv
  have rN : zr (N : Int) := by omega
  have hce : cells ≤ 601024 := by omega
  have hsl : slots ≤ 7293034 := by omega
  have X := zXl (e := e) (below := below) C hce hsl
  refine z_aload_n (pc := 302) (q := 1) X d_LW_law_302 rfl ?_
  refine z_aload_n (pc := 303) (q := 0) X d_LW_law_303 rfl ?_
  refine z_iload (pc := 304) (q := 4) X d_LW_law_304 rfl ?_
  refine z_iconst (pc := 306) X d_LW_law_306 ?_
  obtain ⟨v_1, hv⟩ := hv
  refine z_iadd (pc := 307) X d_LW_law_307 ?_
  obtain ⟨v_2, hv⟩ := hv
  refine z_sld (pc := 308) C v_1 v_2 d_LW_law_308 ?_
  refine z_aload_n (pc := 309) (q := 3) X d_LW_law_309 rfl ?_
  refine z_callH (k := 3) (pc := 310) (As := [.ref (g.2.2 0), zi ((xs (i + 1).toNat).toInt), .ref (g.2.2 220)]) (rest := []) C (by omega) (by omega) (fun l hl => c_LW_about hl oX (zr_int _) oO hh hv) q608 q0 q609w (by decide +kernel) q607 ⟨⟨by decide, by decide⟩, rfl, rfl⟩ rfl d_LW_law_310 rfl (Nat.le_of_ble_eq_true rfl) (fun r_4 h_3 rr_4 zh_3 hv => ?_)
  have hce1 : cells + 1 ≤ 601024 := by omega
  have hsl1 : slots + 6 ≤ 7293034 := by omega
  have X := zXl (e := e) (below := below) C hce1 hsl1
  refine z_istore (pc := 313) (lv' := [(5, zi r_4), (0, .ref b), (1, .ref (g.2.2 0)), (2, .ref (g.2.2 197)), (3, .ref (g.2.2 220)), (4, zi i)]) X d_LW_law_313 (by decide) rfl ?_
  refine z_aload_n (pc := 315) (q := 3) X d_LW_law_315 rfl ?_
  refine z_aload_n (pc := 316) (q := 1) X d_LW_law_316 rfl ?_
  refine z_iload (pc := 317) (q := 5) X d_LW_law_317 rfl ?_
  refine z_iconst (pc := 319) X d_LW_law_319 ?_
  obtain ⟨v_5, hv⟩ := hv
  refine z_iadd (pc := 320) X d_LW_law_320 ?_
  obtain ⟨v_6, hv⟩ := hv
  refine z_sld (pc := 321) C v_5 v_6 d_LW_law_321 ?_
  refine z_callVi (pc := 322) (As := [zi ((xs (i + 1).toNat).toInt)]) (rest := []) X (fun l hl => c_RM_about hl oM (zr_int _) zh_3 hv) cf_RM oM rfl mf_RM_about q1172 ⟨⟨by decide, by decide⟩, rfl, rfl⟩ rfl d_LW_law_322 rfl (Nat.le_of_ble_eq_true rfl) (fun r_8 h_7 rr_8 zh_7 hv => ?_)
  refine z_istore (pc := 325) (lv' := [(6, zi r_8), (5, zi r_4), (0, .ref b), (1, .ref (g.2.2 0)), (2, .ref (g.2.2 197)), (3, .ref (g.2.2 220)), (4, zi i)]) X d_LW_law_325 (by decide) rfl ?_
  refine z_aload_n (pc := 327) (q := 4) X d_LW_law_327 rfl ?_
  refine z_callVi (pc := 328) (As := []) (rest := []) X (fun l hl => c_RM_thrown hl oM zh_7 hv) cf_RM oM rfl mf_RM_thrown q1118 ⟨⟨by decide, by decide⟩, rfl, rfl⟩ rfl d_LW_law_328 rfl (Nat.le_of_ble_eq_true rfl) (fun r_10 h_9 rr_10 zh_9 hv => ?_)
  refine z_iload (pc := 331) (q := 1) X d_LW_law_331 rfl ?_
  refine z_icmp_eq (pc := 333) (tgt := 338) X rr_10 rr_4 d_LW_law_333 (by decide) (fun hc => ?_) (fun hc => ?_)
  · replace hv := hv.1 hc
    refine z_iload (pc := 338) (q := 1) X d_LW_law_338 rfl ?_
    refine z_if_ne (pc := 340) (tgt := 355) X rr_4 d_LW_law_340 (by decide) (fun hc => ?_) (fun hc => ?_)
    · replace hv := hv.1 hc
      refine z_goto (pc := 355) (tgt := 1964) X d_LW_law_355 (by decide) ?_
      obtain ⟨v_11, hv⟩ := hv
      refine z_iinc (pc := 1964) (q := 6) (lv' := [(4, zi (i + 4)), (6, zi r_8), (5, zi r_4), (0, .ref b), (1, .ref (g.2.2 0)), (2, .ref (g.2.2 197)), (3, .ref (g.2.2 220))]) X d_LW_law_1964 rfl (by decide) rfl ?_
      refine z_goto (pc := 1967) (tgt := 23) X d_LW_law_1967 (by decide) ?_
      refine z_perm [3, 4, 5, 6, 0] rfl ?_
      exact hL (i + 4, h_9) hv (cells + 1) (slots + 6) (show (0 : Int) ≤ i + 4 by omega) (show i + 4 ≤ (2052 : Int) by omega) (show cells + 1 ≤ 1000 + (i + 4).toNat by omega) (show slots + 6 ≤ 20000 + 6 * (i + 4).toNat by omega) v_11 zh_9
    · replace hv := hv.2 hc
      refine z_aload_n (pc := 343) (q := 5) X d_LW_law_343 rfl ?_
      refine z_iconst (pc := 344) X d_LW_law_344 ?_
      refine z_laldj (pc := 345) (j := 0) X oO rfl_ln (show zr 0 from by decide) ⟨by decide, by decide⟩ rfl d_LW_law_345 ?_
      refine z_iload (pc := 346) (q := 0) X d_LW_law_346 rfl ?_
      refine z_i2l (pc := 348) X rr_8 d_LW_law_348 ?_
      refine z_lif_eq (pc := 349) (tgt := 355) X (zh_9.2 _) (zr_l rr_8) d_LW_law_349 d_LW_law_350 (by decide) (fun hc => ?_) (fun hc => ?_)
      · replace hv := hv.1 hc
        refine z_goto (pc := 355) (tgt := 1964) X d_LW_law_355 (by decide) ?_
        obtain ⟨v_12, hv⟩ := hv
        refine z_iinc (pc := 1964) (q := 6) (lv' := [(4, zi (i + 4)), (6, zi r_8), (5, zi r_4), (0, .ref b), (1, .ref (g.2.2 0)), (2, .ref (g.2.2 197)), (3, .ref (g.2.2 220))]) X d_LW_law_1964 rfl (by decide) rfl ?_
        refine z_goto (pc := 1967) (tgt := 23) X d_LW_law_1967 (by decide) ?_
        refine z_perm [3, 4, 5, 6, 0] rfl ?_
        exact hL (i + 4, h_9) hv (cells + 1) (slots + 6) (show (0 : Int) ≤ i + 4 by omega) (show i + 4 ≤ (2052 : Int) by omega) (show cells + 1 ≤ 1000 + (i + 4).toNat by omega) (show slots + 6 ≤ 20000 + 6 * (i + 4).toNat by omega) v_12 zh_9
      · replace hv := hv.2 hc
        refine z_iconst (pc := 353) X d_LW_law_353 ?_
        exact hv.elim
  · replace hv := hv.2 hc
    refine z_iconst (pc := 336) X d_LW_law_336 ?_
    exact hv.elim
def C_LW_law_358 (N : Nat) (xs : Nat → Int32) (L : Int × zH → Prop) (i : Int) (h : zH) : Prop :=
  zr (i + 1) ∧ ((0 ≤ i + 1 ∧ i + 1 < (N : Int)) ∧ (zr (i + 2) ∧ ((0 ≤ i + 2 ∧ i + 2 < (N : Int)) ∧ (zr (i + 3) ∧ ((0 ≤ i + 3 ∧ i + 3 < (N : Int)) ∧ (M_LW_symbol 0 ((xs (i + 1).toNat).toInt) ((xs (i + 2).toNat).toInt) ((xs (i + 3).toNat).toInt) 220 h (fun r_8 h_7 => zr (i + 1) ∧ ((0 ≤ i + 1 ∧ i + 1 < (N : Int)) ∧ (zr (i + 2) ∧ ((0 ≤ i + 2 ∧ i + 2 < (N : Int)) ∧ (zr (i + 3) ∧ ((0 ≤ i + 3 ∧ i + 3 < (N : Int)) ∧ (M_RM_symbol 197 ((xs (i + 1).toNat).toInt) ((xs (i + 2).toNat).toInt) ((xs (i + 3).toNat).toInt) h_7 (fun r_16 h_15 => M_RM_thrown 197 h_15 (fun r_18 h_17 => (r_18 = r_8 → ((r_8 ≠ 0 → (zr (i + 4) ∧ (L (i + 4, h_17)))) ∧ (r_8 = 0 → ((h_17 220 0 = r_16 → (zr (i + 4) ∧ (L (i + 4, h_17)))) ∧ (h_17 220 0 ≠ r_16 → (False)))))) ∧ (r_18 ≠ r_8 → (False)))))))))))))))))
set_option maxHeartbeats 4000000 in
set_option maxRecDepth 100000 in
theorem sc_LW_law_358 {p : Program} {l : Launch} {e : Env} {s : State} {m : MethodId} {below : List Frame} {meth : Method} {c : Code} {b N : Nat} {xs : Nat → Int32} {g : zG} (C : zLC p l s m meth c b N xs g) (hN : N ≤ 2048) (oX : zO 221 0 10) (oM : zO 221 197 11) (oO : zO 221 220 16) (rfl_ln : zln 220 = 1) {L : Int × zH → Prop} (hL : ∀ q : Int × zH, L q → ∀ cells slots : Nat, 0 ≤ q.1 → q.1 ≤ 2052 → cells ≤ 1000 + q.1.toNat → slots ≤ 20000 + 6 * q.1.toNat → zr q.1 → zh q.2 → zW (zWl p l e s m below meth c b cells slots) m 8 g 221 s.heap 23 [(0, .ref b), (1, .ref (g.2.2 0)), (2, .ref (g.2.2 197)), (3, .ref (g.2.2 220)), (4, zi q.1)] [] q.2) {i : Int} {h : zH} {cells slots : Nat} (hi0 : 0 ≤ i) (hi4 : i ≤ (N : Int) - 4) (hcb : cells ≤ 1000 + i.toNat) (hsb : slots ≤ 20000 + 6 * i.toNat) (ri : zr i) (hh : zh h) (hv : C_LW_law_358 N xs L i h) : zW (zWl p l e s m below meth c b cells slots) m 8 g 221 s.heap 358 [(0, .ref b), (1, .ref (g.2.2 0)), (2, .ref (g.2.2 197)), (3, .ref (g.2.2 220)), (4, zi i)] [] h := by
  unfold C_LW_law_358 at hv
  have rN : zr (N : Int) := by omega
  have hce : cells ≤ 601024 := by omega
  have hsl : slots ≤ 7293034 := by omega
  have X := zXl (e := e) (below := below) C hce hsl
  refine z_aload_n (pc := 358) (q := 1) X d_LW_law_358 rfl ?_
  refine z_aload_n (pc := 359) (q := 0) X d_LW_law_359 rfl ?_
  refine z_iload (pc := 360) (q := 4) X d_LW_law_360 rfl ?_
  refine z_iconst (pc := 362) X d_LW_law_362 ?_
  obtain ⟨v_1, hv⟩ := hv
  refine z_iadd (pc := 363) X d_LW_law_363 ?_
  obtain ⟨v_2, hv⟩ := hv
  refine z_sld (pc := 364) C v_1 v_2 d_LW_law_364 ?_
  refine z_aload_n (pc := 365) (q := 0) X d_LW_law_365 rfl ?_
  refine z_iload (pc := 366) (q := 4) X d_LW_law_366 rfl ?_
  refine z_iconst (pc := 368) X d_LW_law_368 ?_
  obtain ⟨v_3, hv⟩ := hv
  refine z_iadd (pc := 369) X d_LW_law_369 ?_
  obtain ⟨v_4, hv⟩ := hv
  refine z_sld (pc := 370) C v_3 v_4 d_LW_law_370 ?_
  refine z_aload_n (pc := 371) (q := 0) X d_LW_law_371 rfl ?_
  refine z_iload (pc := 372) (q := 4) X d_LW_law_372 rfl ?_
  refine z_iconst (pc := 374) X d_LW_law_374 ?_
  obtain ⟨v_5, hv⟩ := hv
  refine z_iadd (pc := 375) X d_LW_law_375 ?_
  obtain ⟨v_6, hv⟩ := hv
  refine z_sld (pc := 376) C v_5 v_6 d_LW_law_376 ?_
  refine z_aload_n (pc := 377) (q := 3) X d_LW_law_377 rfl ?_
  refine z_callH (k := 5) (pc := 378) (As := [.ref (g.2.2 0), zi ((xs (i + 1).toNat).toInt), zi ((xs (i + 2).toNat).toInt), zi ((xs (i + 3).toNat).toInt), .ref (g.2.2 220)]) (rest := []) C (by omega) (by omega) (fun l hl => c_LW_symbol hl oX (zr_int _) (zr_int _) (zr_int _) oO hh hv) q616 q0 q617w (by decide +kernel) q615 ⟨⟨by decide, by decide⟩, rfl, rfl⟩ rfl d_LW_law_378 rfl (Nat.le_of_ble_eq_true rfl) (fun r_8 h_7 rr_8 zh_7 hv => ?_)
  have hce1 : cells + 1 ≤ 601024 := by omega
  have hsl1 : slots + 6 ≤ 7293034 := by omega
  have X := zXl (e := e) (below := below) C hce1 hsl1
  refine z_istore (pc := 381) (lv' := [(5, zi r_8), (0, .ref b), (1, .ref (g.2.2 0)), (2, .ref (g.2.2 197)), (3, .ref (g.2.2 220)), (4, zi i)]) X d_LW_law_381 (by decide) rfl ?_
  refine z_aload_n (pc := 383) (q := 3) X d_LW_law_383 rfl ?_
  refine z_aload_n (pc := 384) (q := 1) X d_LW_law_384 rfl ?_
  refine z_iload (pc := 385) (q := 5) X d_LW_law_385 rfl ?_
  refine z_iconst (pc := 387) X d_LW_law_387 ?_
  obtain ⟨v_9, hv⟩ := hv
  refine z_iadd (pc := 388) X d_LW_law_388 ?_
  obtain ⟨v_10, hv⟩ := hv
  refine z_sld (pc := 389) C v_9 v_10 d_LW_law_389 ?_
  refine z_aload_n (pc := 390) (q := 1) X d_LW_law_390 rfl ?_
  refine z_iload (pc := 391) (q := 5) X d_LW_law_391 rfl ?_
  refine z_iconst (pc := 393) X d_LW_law_393 ?_
  obtain ⟨v_11, hv⟩ := hv
  refine z_iadd (pc := 394) X d_LW_law_394 ?_
  obtain ⟨v_12, hv⟩ := hv
  refine z_sld (pc := 395) C v_11 v_12 d_LW_law_395 ?_
  refine z_aload_n (pc := 396) (q := 1) X d_LW_law_396 rfl ?_
  refine z_iload (pc := 397) (q := 5) X d_LW_law_397 rfl ?_
  refine z_iconst (pc := 399) X d_LW_law_399 ?_
  obtain ⟨v_13, hv⟩ := hv
  refine z_iadd (pc := 400) X d_LW_law_400 ?_
  obtain ⟨v_14, hv⟩ := hv
  refine z_sld (pc := 401) C v_13 v_14 d_LW_law_401 ?_
  refine z_callVi (pc := 402) (As := [zi ((xs (i + 1).toNat).toInt), zi ((xs (i + 2).toNat).toInt), zi ((xs (i + 3).toNat).toInt)]) (rest := []) X (fun l hl => c_RM_symbol hl oM (zr_int _) (zr_int _) (zr_int _) zh_7 hv) cf_RM oM rfl mf_RM_symbol q1197 ⟨⟨by decide, by decide⟩, rfl, rfl⟩ rfl d_LW_law_402 rfl (Nat.le_of_ble_eq_true rfl) (fun r_16 h_15 rr_16 zh_15 hv => ?_)
  refine z_istore (pc := 405) (lv' := [(6, zi r_16), (5, zi r_8), (0, .ref b), (1, .ref (g.2.2 0)), (2, .ref (g.2.2 197)), (3, .ref (g.2.2 220)), (4, zi i)]) X d_LW_law_405 (by decide) rfl ?_
  refine z_aload_n (pc := 407) (q := 4) X d_LW_law_407 rfl ?_
  refine z_callVi (pc := 408) (As := []) (rest := []) X (fun l hl => c_RM_thrown hl oM zh_15 hv) cf_RM oM rfl mf_RM_thrown q1118 ⟨⟨by decide, by decide⟩, rfl, rfl⟩ rfl d_LW_law_408 rfl (Nat.le_of_ble_eq_true rfl) (fun r_18 h_17 rr_18 zh_17 hv => ?_)
  refine z_iload (pc := 411) (q := 1) X d_LW_law_411 rfl ?_
  refine z_icmp_eq (pc := 413) (tgt := 418) X rr_18 rr_8 d_LW_law_413 (by decide) (fun hc => ?_) (fun hc => ?_)
  · replace hv := hv.1 hc
    refine z_iload (pc := 418) (q := 1) X d_LW_law_418 rfl ?_
    refine z_if_ne (pc := 420) (tgt := 435) X rr_8 d_LW_law_420 (by decide) (fun hc => ?_) (fun hc => ?_)
    · replace hv := hv.1 hc
      refine z_goto (pc := 435) (tgt := 1964) X d_LW_law_435 (by decide) ?_
      obtain ⟨v_19, hv⟩ := hv
      refine z_iinc (pc := 1964) (q := 6) (lv' := [(4, zi (i + 4)), (6, zi r_16), (5, zi r_8), (0, .ref b), (1, .ref (g.2.2 0)), (2, .ref (g.2.2 197)), (3, .ref (g.2.2 220))]) X d_LW_law_1964 rfl (by decide) rfl ?_
      refine z_goto (pc := 1967) (tgt := 23) X d_LW_law_1967 (by decide) ?_
      refine z_perm [3, 4, 5, 6, 0] rfl ?_
      exact hL (i + 4, h_17) hv (cells + 1) (slots + 6) (show (0 : Int) ≤ i + 4 by omega) (show i + 4 ≤ (2052 : Int) by omega) (show cells + 1 ≤ 1000 + (i + 4).toNat by omega) (show slots + 6 ≤ 20000 + 6 * (i + 4).toNat by omega) v_19 zh_17
    · replace hv := hv.2 hc
      refine z_aload_n (pc := 423) (q := 5) X d_LW_law_423 rfl ?_
      refine z_iconst (pc := 424) X d_LW_law_424 ?_
      refine z_laldj (pc := 425) (j := 0) X oO rfl_ln (show zr 0 from by decide) ⟨by decide, by decide⟩ rfl d_LW_law_425 ?_
      refine z_iload (pc := 426) (q := 0) X d_LW_law_426 rfl ?_
      refine z_i2l (pc := 428) X rr_16 d_LW_law_428 ?_
      refine z_lif_eq (pc := 429) (tgt := 435) X (zh_17.2 _) (zr_l rr_16) d_LW_law_429 d_LW_law_430 (by decide) (fun hc => ?_) (fun hc => ?_)
      · replace hv := hv.1 hc
        refine z_goto (pc := 435) (tgt := 1964) X d_LW_law_435 (by decide) ?_
        obtain ⟨v_20, hv⟩ := hv
        refine z_iinc (pc := 1964) (q := 6) (lv' := [(4, zi (i + 4)), (6, zi r_16), (5, zi r_8), (0, .ref b), (1, .ref (g.2.2 0)), (2, .ref (g.2.2 197)), (3, .ref (g.2.2 220))]) X d_LW_law_1964 rfl (by decide) rfl ?_
        refine z_goto (pc := 1967) (tgt := 23) X d_LW_law_1967 (by decide) ?_
        refine z_perm [3, 4, 5, 6, 0] rfl ?_
        exact hL (i + 4, h_17) hv (cells + 1) (slots + 6) (show (0 : Int) ≤ i + 4 by omega) (show i + 4 ≤ (2052 : Int) by omega) (show cells + 1 ≤ 1000 + (i + 4).toNat by omega) (show slots + 6 ≤ 20000 + 6 * (i + 4).toNat by omega) v_20 zh_17
      · replace hv := hv.2 hc
        refine z_iconst (pc := 433) X d_LW_law_433 ?_
        exact hv.elim
  · replace hv := hv.2 hc
    refine z_iconst (pc := 416) X d_LW_law_416 ?_
    exact hv.elim
def C_LW_law_438 (N : Nat) (xs : Nat → Int32) (L : Int × zH → Prop) (i : Int) (h : zH) : Prop :=
  zr (i + 1) ∧ ((0 ≤ i + 1 ∧ i + 1 < (N : Int)) ∧ (zr (i + 2) ∧ ((0 ≤ i + 2 ∧ i + 2 < (N : Int)) ∧ (zr (i + 3) ∧ ((0 ≤ i + 3 ∧ i + 3 < (N : Int)) ∧ (M_LW_bucket 0 ((xs (i + 1).toNat).toInt) ((xs (i + 2).toNat).toInt) ((xs (i + 3).toNat).toInt) 220 h (fun r_8 h_7 => zr (i + 1) ∧ ((0 ≤ i + 1 ∧ i + 1 < (N : Int)) ∧ (zr (i + 2) ∧ ((0 ≤ i + 2 ∧ i + 2 < (N : Int)) ∧ (zr (i + 3) ∧ ((0 ≤ i + 3 ∧ i + 3 < (N : Int)) ∧ (M_RM_bucket 197 ((xs (i + 1).toNat).toInt) ((xs (i + 2).toNat).toInt) ((xs (i + 3).toNat).toInt) h_7 (fun r_16 h_15 => M_RM_thrown 197 h_15 (fun r_18 h_17 => (r_18 = r_8 → ((r_8 ≠ 0 → (zr (i + 4) ∧ (L (i + 4, h_17)))) ∧ (r_8 = 0 → ((h_17 220 0 = r_16 → (zr (i + 4) ∧ (L (i + 4, h_17)))) ∧ (h_17 220 0 ≠ r_16 → (False)))))) ∧ (r_18 ≠ r_8 → (False)))))))))))))))))
set_option maxHeartbeats 4000000 in
set_option maxRecDepth 100000 in
theorem sc_LW_law_438 {p : Program} {l : Launch} {e : Env} {s : State} {m : MethodId} {below : List Frame} {meth : Method} {c : Code} {b N : Nat} {xs : Nat → Int32} {g : zG} (C : zLC p l s m meth c b N xs g) (hN : N ≤ 2048) (oX : zO 221 0 10) (oM : zO 221 197 11) (oO : zO 221 220 16) (rfl_ln : zln 220 = 1) {L : Int × zH → Prop} (hL : ∀ q : Int × zH, L q → ∀ cells slots : Nat, 0 ≤ q.1 → q.1 ≤ 2052 → cells ≤ 1000 + q.1.toNat → slots ≤ 20000 + 6 * q.1.toNat → zr q.1 → zh q.2 → zW (zWl p l e s m below meth c b cells slots) m 8 g 221 s.heap 23 [(0, .ref b), (1, .ref (g.2.2 0)), (2, .ref (g.2.2 197)), (3, .ref (g.2.2 220)), (4, zi q.1)] [] q.2) {i : Int} {h : zH} {cells slots : Nat} (hi0 : 0 ≤ i) (hi4 : i ≤ (N : Int) - 4) (hcb : cells ≤ 1000 + i.toNat) (hsb : slots ≤ 20000 + 6 * i.toNat) (ri : zr i) (hh : zh h) (hv : C_LW_law_438 N xs L i h) : zW (zWl p l e s m below meth c b cells slots) m 8 g 221 s.heap 438 [(0, .ref b), (1, .ref (g.2.2 0)), (2, .ref (g.2.2 197)), (3, .ref (g.2.2 220)), (4, zi i)] [] h := by
  unfold C_LW_law_438 at hv
  have rN : zr (N : Int) := by omega
  have hce : cells ≤ 601024 := by omega
  have hsl : slots ≤ 7293034 := by omega
  have X := zXl (e := e) (below := below) C hce hsl
  refine z_aload_n (pc := 438) (q := 1) X d_LW_law_438 rfl ?_
  refine z_aload_n (pc := 439) (q := 0) X d_LW_law_439 rfl ?_
  refine z_iload (pc := 440) (q := 4) X d_LW_law_440 rfl ?_
  refine z_iconst (pc := 442) X d_LW_law_442 ?_
  obtain ⟨v_1, hv⟩ := hv
  refine z_iadd (pc := 443) X d_LW_law_443 ?_
  obtain ⟨v_2, hv⟩ := hv
  refine z_sld (pc := 444) C v_1 v_2 d_LW_law_444 ?_
  refine z_aload_n (pc := 445) (q := 0) X d_LW_law_445 rfl ?_
  refine z_iload (pc := 446) (q := 4) X d_LW_law_446 rfl ?_
  refine z_iconst (pc := 448) X d_LW_law_448 ?_
  obtain ⟨v_3, hv⟩ := hv
  refine z_iadd (pc := 449) X d_LW_law_449 ?_
  obtain ⟨v_4, hv⟩ := hv
  refine z_sld (pc := 450) C v_3 v_4 d_LW_law_450 ?_
  refine z_aload_n (pc := 451) (q := 0) X d_LW_law_451 rfl ?_
  refine z_iload (pc := 452) (q := 4) X d_LW_law_452 rfl ?_
  refine z_iconst (pc := 454) X d_LW_law_454 ?_
  obtain ⟨v_5, hv⟩ := hv
  refine z_iadd (pc := 455) X d_LW_law_455 ?_
  obtain ⟨v_6, hv⟩ := hv
  refine z_sld (pc := 456) C v_5 v_6 d_LW_law_456 ?_
  refine z_aload_n (pc := 457) (q := 3) X d_LW_law_457 rfl ?_
  refine z_callH (k := 5) (pc := 458) (As := [.ref (g.2.2 0), zi ((xs (i + 1).toNat).toInt), zi ((xs (i + 2).toNat).toInt), zi ((xs (i + 3).toNat).toInt), .ref (g.2.2 220)]) (rest := []) C (by omega) (by omega) (fun l hl => c_LW_bucket hl oX (zr_int _) (zr_int _) (zr_int _) oO hh hv) q656 q0 q657w (by decide +kernel) q655 ⟨⟨by decide, by decide⟩, rfl, rfl⟩ rfl d_LW_law_458 rfl (Nat.le_of_ble_eq_true rfl) (fun r_8 h_7 rr_8 zh_7 hv => ?_)
  have hce1 : cells + 1 ≤ 601024 := by omega
  have hsl1 : slots + 6 ≤ 7293034 := by omega
  have X := zXl (e := e) (below := below) C hce1 hsl1
  refine z_istore (pc := 461) (lv' := [(5, zi r_8), (0, .ref b), (1, .ref (g.2.2 0)), (2, .ref (g.2.2 197)), (3, .ref (g.2.2 220)), (4, zi i)]) X d_LW_law_461 (by decide) rfl ?_
  refine z_aload_n (pc := 463) (q := 3) X d_LW_law_463 rfl ?_
  refine z_aload_n (pc := 464) (q := 1) X d_LW_law_464 rfl ?_
  refine z_iload (pc := 465) (q := 5) X d_LW_law_465 rfl ?_
  refine z_iconst (pc := 467) X d_LW_law_467 ?_
  obtain ⟨v_9, hv⟩ := hv
  refine z_iadd (pc := 468) X d_LW_law_468 ?_
  obtain ⟨v_10, hv⟩ := hv
  refine z_sld (pc := 469) C v_9 v_10 d_LW_law_469 ?_
  refine z_aload_n (pc := 470) (q := 1) X d_LW_law_470 rfl ?_
  refine z_iload (pc := 471) (q := 5) X d_LW_law_471 rfl ?_
  refine z_iconst (pc := 473) X d_LW_law_473 ?_
  obtain ⟨v_11, hv⟩ := hv
  refine z_iadd (pc := 474) X d_LW_law_474 ?_
  obtain ⟨v_12, hv⟩ := hv
  refine z_sld (pc := 475) C v_11 v_12 d_LW_law_475 ?_
  refine z_aload_n (pc := 476) (q := 1) X d_LW_law_476 rfl ?_
  refine z_iload (pc := 477) (q := 5) X d_LW_law_477 rfl ?_
  refine z_iconst (pc := 479) X d_LW_law_479 ?_
  obtain ⟨v_13, hv⟩ := hv
  refine z_iadd (pc := 480) X d_LW_law_480 ?_
  obtain ⟨v_14, hv⟩ := hv
  refine z_sld (pc := 481) C v_13 v_14 d_LW_law_481 ?_
  refine z_callVi (pc := 482) (As := [zi ((xs (i + 1).toNat).toInt), zi ((xs (i + 2).toNat).toInt), zi ((xs (i + 3).toNat).toInt)]) (rest := []) X (fun l hl => c_RM_bucket hl oM (zr_int _) (zr_int _) (zr_int _) zh_7 hv) cf_RM oM rfl mf_RM_bucket q1209 ⟨⟨by decide, by decide⟩, rfl, rfl⟩ rfl d_LW_law_482 rfl (Nat.le_of_ble_eq_true rfl) (fun r_16 h_15 rr_16 zh_15 hv => ?_)
  refine z_istore (pc := 485) (lv' := [(6, zi r_16), (5, zi r_8), (0, .ref b), (1, .ref (g.2.2 0)), (2, .ref (g.2.2 197)), (3, .ref (g.2.2 220)), (4, zi i)]) X d_LW_law_485 (by decide) rfl ?_
  refine z_aload_n (pc := 487) (q := 4) X d_LW_law_487 rfl ?_
  refine z_callVi (pc := 488) (As := []) (rest := []) X (fun l hl => c_RM_thrown hl oM zh_15 hv) cf_RM oM rfl mf_RM_thrown q1118 ⟨⟨by decide, by decide⟩, rfl, rfl⟩ rfl d_LW_law_488 rfl (Nat.le_of_ble_eq_true rfl) (fun r_18 h_17 rr_18 zh_17 hv => ?_)
  refine z_iload (pc := 491) (q := 1) X d_LW_law_491 rfl ?_
  refine z_icmp_eq (pc := 493) (tgt := 498) X rr_18 rr_8 d_LW_law_493 (by decide) (fun hc => ?_) (fun hc => ?_)
  · replace hv := hv.1 hc
    refine z_iload (pc := 498) (q := 1) X d_LW_law_498 rfl ?_
    refine z_if_ne (pc := 500) (tgt := 515) X rr_8 d_LW_law_500 (by decide) (fun hc => ?_) (fun hc => ?_)
    · replace hv := hv.1 hc
      refine z_goto (pc := 515) (tgt := 1964) X d_LW_law_515 (by decide) ?_
      obtain ⟨v_19, hv⟩ := hv
      refine z_iinc (pc := 1964) (q := 6) (lv' := [(4, zi (i + 4)), (6, zi r_16), (5, zi r_8), (0, .ref b), (1, .ref (g.2.2 0)), (2, .ref (g.2.2 197)), (3, .ref (g.2.2 220))]) X d_LW_law_1964 rfl (by decide) rfl ?_
      refine z_goto (pc := 1967) (tgt := 23) X d_LW_law_1967 (by decide) ?_
      refine z_perm [3, 4, 5, 6, 0] rfl ?_
      exact hL (i + 4, h_17) hv (cells + 1) (slots + 6) (show (0 : Int) ≤ i + 4 by omega) (show i + 4 ≤ (2052 : Int) by omega) (show cells + 1 ≤ 1000 + (i + 4).toNat by omega) (show slots + 6 ≤ 20000 + 6 * (i + 4).toNat by omega) v_19 zh_17
    · replace hv := hv.2 hc
      refine z_aload_n (pc := 503) (q := 5) X d_LW_law_503 rfl ?_
      refine z_iconst (pc := 504) X d_LW_law_504 ?_
      refine z_laldj (pc := 505) (j := 0) X oO rfl_ln (show zr 0 from by decide) ⟨by decide, by decide⟩ rfl d_LW_law_505 ?_
      refine z_iload (pc := 506) (q := 0) X d_LW_law_506 rfl ?_
      refine z_i2l (pc := 508) X rr_16 d_LW_law_508 ?_
      refine z_lif_eq (pc := 509) (tgt := 515) X (zh_17.2 _) (zr_l rr_16) d_LW_law_509 d_LW_law_510 (by decide) (fun hc => ?_) (fun hc => ?_)
      · replace hv := hv.1 hc
        refine z_goto (pc := 515) (tgt := 1964) X d_LW_law_515 (by decide) ?_
        obtain ⟨v_20, hv⟩ := hv
        refine z_iinc (pc := 1964) (q := 6) (lv' := [(4, zi (i + 4)), (6, zi r_16), (5, zi r_8), (0, .ref b), (1, .ref (g.2.2 0)), (2, .ref (g.2.2 197)), (3, .ref (g.2.2 220))]) X d_LW_law_1964 rfl (by decide) rfl ?_
        refine z_goto (pc := 1967) (tgt := 23) X d_LW_law_1967 (by decide) ?_
        refine z_perm [3, 4, 5, 6, 0] rfl ?_
        exact hL (i + 4, h_17) hv (cells + 1) (slots + 6) (show (0 : Int) ≤ i + 4 by omega) (show i + 4 ≤ (2052 : Int) by omega) (show cells + 1 ≤ 1000 + (i + 4).toNat by omega) (show slots + 6 ≤ 20000 + 6 * (i + 4).toNat by omega) v_20 zh_17
      · replace hv := hv.2 hc
        refine z_iconst (pc := 513) X d_LW_law_513 ?_
        exact hv.elim
  · replace hv := hv.2 hc
    refine z_iconst (pc := 496) X d_LW_law_496 ?_
    exact hv.elim
def C_LW_law_518 (N : Nat) (xs : Nat → Int32) (L : Int × zH → Prop) (i : Int) (h : zH) : Prop :=
  zr (i + 1) ∧ ((0 ≤ i + 1 ∧ i + 1 < (N : Int)) ∧ (zr (i + 2) ∧ ((0 ≤ i + 2 ∧ i + 2 < (N : Int)) ∧ (zr (i + 3) ∧ ((0 ≤ i + 3 ∧ i + 3 < (N : Int)) ∧ (M_LW_slot 0 ((xs (i + 1).toNat).toInt) ((xs (i + 2).toNat).toInt) ((xs (i + 3).toNat).toInt) 220 h (fun r_8 h_7 => zr (i + 1) ∧ ((0 ≤ i + 1 ∧ i + 1 < (N : Int)) ∧ (zr (i + 2) ∧ ((0 ≤ i + 2 ∧ i + 2 < (N : Int)) ∧ (zr (i + 3) ∧ ((0 ≤ i + 3 ∧ i + 3 < (N : Int)) ∧ (M_RM_slot 197 ((xs (i + 1).toNat).toInt) ((xs (i + 2).toNat).toInt) ((xs (i + 3).toNat).toInt) h_7 (fun r_16 h_15 => M_RM_thrown 197 h_15 (fun r_18 h_17 => (r_18 = r_8 → ((r_8 ≠ 0 → (zr (i + 4) ∧ (L (i + 4, h_17)))) ∧ (r_8 = 0 → ((h_17 220 0 = r_16 → (zr (i + 4) ∧ (L (i + 4, h_17)))) ∧ (h_17 220 0 ≠ r_16 → (False)))))) ∧ (r_18 ≠ r_8 → (False)))))))))))))))))
set_option maxHeartbeats 4000000 in
set_option maxRecDepth 100000 in
theorem sc_LW_law_518 {p : Program} {l : Launch} {e : Env} {s : State} {m : MethodId} {below : List Frame} {meth : Method} {c : Code} {b N : Nat} {xs : Nat → Int32} {g : zG} (C : zLC p l s m meth c b N xs g) (hN : N ≤ 2048) (oX : zO 221 0 10) (oM : zO 221 197 11) (oO : zO 221 220 16) (rfl_ln : zln 220 = 1) {L : Int × zH → Prop} (hL : ∀ q : Int × zH, L q → ∀ cells slots : Nat, 0 ≤ q.1 → q.1 ≤ 2052 → cells ≤ 1000 + q.1.toNat → slots ≤ 20000 + 6 * q.1.toNat → zr q.1 → zh q.2 → zW (zWl p l e s m below meth c b cells slots) m 8 g 221 s.heap 23 [(0, .ref b), (1, .ref (g.2.2 0)), (2, .ref (g.2.2 197)), (3, .ref (g.2.2 220)), (4, zi q.1)] [] q.2) {i : Int} {h : zH} {cells slots : Nat} (hi0 : 0 ≤ i) (hi4 : i ≤ (N : Int) - 4) (hcb : cells ≤ 1000 + i.toNat) (hsb : slots ≤ 20000 + 6 * i.toNat) (ri : zr i) (hh : zh h) (hv : C_LW_law_518 N xs L i h) : zW (zWl p l e s m below meth c b cells slots) m 8 g 221 s.heap 518 [(0, .ref b), (1, .ref (g.2.2 0)), (2, .ref (g.2.2 197)), (3, .ref (g.2.2 220)), (4, zi i)] [] h := by
  unfold C_LW_law_518 at hv
  have rN : zr (N : Int) := by omega
  have hce : cells ≤ 601024 := by omega
  have hsl : slots ≤ 7293034 := by omega
  have X := zXl (e := e) (below := below) C hce hsl
  refine z_aload_n (pc := 518) (q := 1) X d_LW_law_518 rfl ?_
  refine z_aload_n (pc := 519) (q := 0) X d_LW_law_519 rfl ?_
  refine z_iload (pc := 520) (q := 4) X d_LW_law_520 rfl ?_
  refine z_iconst (pc := 522) X d_LW_law_522 ?_
  obtain ⟨v_1, hv⟩ := hv
  refine z_iadd (pc := 523) X d_LW_law_523 ?_
  obtain ⟨v_2, hv⟩ := hv
  refine z_sld (pc := 524) C v_1 v_2 d_LW_law_524 ?_
  refine z_aload_n (pc := 525) (q := 0) X d_LW_law_525 rfl ?_
  refine z_iload (pc := 526) (q := 4) X d_LW_law_526 rfl ?_
  refine z_iconst (pc := 528) X d_LW_law_528 ?_
  obtain ⟨v_3, hv⟩ := hv
  refine z_iadd (pc := 529) X d_LW_law_529 ?_
  obtain ⟨v_4, hv⟩ := hv
  refine z_sld (pc := 530) C v_3 v_4 d_LW_law_530 ?_
  refine z_aload_n (pc := 531) (q := 0) X d_LW_law_531 rfl ?_
  refine z_iload (pc := 532) (q := 4) X d_LW_law_532 rfl ?_
  refine z_iconst (pc := 534) X d_LW_law_534 ?_
  obtain ⟨v_5, hv⟩ := hv
  refine z_iadd (pc := 535) X d_LW_law_535 ?_
  obtain ⟨v_6, hv⟩ := hv
  refine z_sld (pc := 536) C v_5 v_6 d_LW_law_536 ?_
  refine z_aload_n (pc := 537) (q := 3) X d_LW_law_537 rfl ?_
  refine z_callH (k := 5) (pc := 538) (As := [.ref (g.2.2 0), zi ((xs (i + 1).toNat).toInt), zi ((xs (i + 2).toNat).toInt), zi ((xs (i + 3).toNat).toInt), .ref (g.2.2 220)]) (rest := []) C (by omega) (by omega) (fun l hl => c_LW_slot hl oX (zr_int _) (zr_int _) (zr_int _) oO hh hv) q664 q0 q665w (by decide +kernel) q663 ⟨⟨by decide, by decide⟩, rfl, rfl⟩ rfl d_LW_law_538 rfl (Nat.le_of_ble_eq_true rfl) (fun r_8 h_7 rr_8 zh_7 hv => ?_)
  have hce1 : cells + 1 ≤ 601024 := by omega
  have hsl1 : slots + 6 ≤ 7293034 := by omega
  have X := zXl (e := e) (below := below) C hce1 hsl1
  refine z_istore (pc := 541) (lv' := [(5, zi r_8), (0, .ref b), (1, .ref (g.2.2 0)), (2, .ref (g.2.2 197)), (3, .ref (g.2.2 220)), (4, zi i)]) X d_LW_law_541 (by decide) rfl ?_
  refine z_aload_n (pc := 543) (q := 3) X d_LW_law_543 rfl ?_
  refine z_aload_n (pc := 544) (q := 1) X d_LW_law_544 rfl ?_
  refine z_iload (pc := 545) (q := 5) X d_LW_law_545 rfl ?_
  refine z_iconst (pc := 547) X d_LW_law_547 ?_
  obtain ⟨v_9, hv⟩ := hv
  refine z_iadd (pc := 548) X d_LW_law_548 ?_
  obtain ⟨v_10, hv⟩ := hv
  refine z_sld (pc := 549) C v_9 v_10 d_LW_law_549 ?_
  refine z_aload_n (pc := 550) (q := 1) X d_LW_law_550 rfl ?_
  refine z_iload (pc := 551) (q := 5) X d_LW_law_551 rfl ?_
  refine z_iconst (pc := 553) X d_LW_law_553 ?_
  obtain ⟨v_11, hv⟩ := hv
  refine z_iadd (pc := 554) X d_LW_law_554 ?_
  obtain ⟨v_12, hv⟩ := hv
  refine z_sld (pc := 555) C v_11 v_12 d_LW_law_555 ?_
  refine z_aload_n (pc := 556) (q := 1) X d_LW_law_556 rfl ?_
  refine z_iload (pc := 557) (q := 5) X d_LW_law_557 rfl ?_
  refine z_iconst (pc := 559) X d_LW_law_559 ?_
  obtain ⟨v_13, hv⟩ := hv
  refine z_iadd (pc := 560) X d_LW_law_560 ?_
  obtain ⟨v_14, hv⟩ := hv
  refine z_sld (pc := 561) C v_13 v_14 d_LW_law_561 ?_
  refine z_callVi (pc := 562) (As := [zi ((xs (i + 1).toNat).toInt), zi ((xs (i + 2).toNat).toInt), zi ((xs (i + 3).toNat).toInt)]) (rest := []) X (fun l hl => c_RM_slot hl oM (zr_int _) (zr_int _) (zr_int _) zh_7 hv) cf_RM oM rfl mf_RM_slot q1214 ⟨⟨by decide, by decide⟩, rfl, rfl⟩ rfl d_LW_law_562 rfl (Nat.le_of_ble_eq_true rfl) (fun r_16 h_15 rr_16 zh_15 hv => ?_)
  refine z_istore (pc := 565) (lv' := [(6, zi r_16), (5, zi r_8), (0, .ref b), (1, .ref (g.2.2 0)), (2, .ref (g.2.2 197)), (3, .ref (g.2.2 220)), (4, zi i)]) X d_LW_law_565 (by decide) rfl ?_
  refine z_aload_n (pc := 567) (q := 4) X d_LW_law_567 rfl ?_
  refine z_callVi (pc := 568) (As := []) (rest := []) X (fun l hl => c_RM_thrown hl oM zh_15 hv) cf_RM oM rfl mf_RM_thrown q1118 ⟨⟨by decide, by decide⟩, rfl, rfl⟩ rfl d_LW_law_568 rfl (Nat.le_of_ble_eq_true rfl) (fun r_18 h_17 rr_18 zh_17 hv => ?_)
  refine z_iload (pc := 571) (q := 1) X d_LW_law_571 rfl ?_
  refine z_icmp_eq (pc := 573) (tgt := 578) X rr_18 rr_8 d_LW_law_573 (by decide) (fun hc => ?_) (fun hc => ?_)
  · replace hv := hv.1 hc
    refine z_iload (pc := 578) (q := 1) X d_LW_law_578 rfl ?_
    refine z_if_ne (pc := 580) (tgt := 595) X rr_8 d_LW_law_580 (by decide) (fun hc => ?_) (fun hc => ?_)
    · replace hv := hv.1 hc
      refine z_goto (pc := 595) (tgt := 1964) X d_LW_law_595 (by decide) ?_
      obtain ⟨v_19, hv⟩ := hv
      refine z_iinc (pc := 1964) (q := 6) (lv' := [(4, zi (i + 4)), (6, zi r_16), (5, zi r_8), (0, .ref b), (1, .ref (g.2.2 0)), (2, .ref (g.2.2 197)), (3, .ref (g.2.2 220))]) X d_LW_law_1964 rfl (by decide) rfl ?_
      refine z_goto (pc := 1967) (tgt := 23) X d_LW_law_1967 (by decide) ?_
      refine z_perm [3, 4, 5, 6, 0] rfl ?_
      exact hL (i + 4, h_17) hv (cells + 1) (slots + 6) (show (0 : Int) ≤ i + 4 by omega) (show i + 4 ≤ (2052 : Int) by omega) (show cells + 1 ≤ 1000 + (i + 4).toNat by omega) (show slots + 6 ≤ 20000 + 6 * (i + 4).toNat by omega) v_19 zh_17
    · replace hv := hv.2 hc
      refine z_aload_n (pc := 583) (q := 5) X d_LW_law_583 rfl ?_
      refine z_iconst (pc := 584) X d_LW_law_584 ?_
      refine z_laldj (pc := 585) (j := 0) X oO rfl_ln (show zr 0 from by decide) ⟨by decide, by decide⟩ rfl d_LW_law_585 ?_
      refine z_iload (pc := 586) (q := 0) X d_LW_law_586 rfl ?_
      refine z_i2l (pc := 588) X rr_16 d_LW_law_588 ?_
      refine z_lif_eq (pc := 589) (tgt := 595) X (zh_17.2 _) (zr_l rr_16) d_LW_law_589 d_LW_law_590 (by decide) (fun hc => ?_) (fun hc => ?_)
      · replace hv := hv.1 hc
        refine z_goto (pc := 595) (tgt := 1964) X d_LW_law_595 (by decide) ?_
        obtain ⟨v_20, hv⟩ := hv
        refine z_iinc (pc := 1964) (q := 6) (lv' := [(4, zi (i + 4)), (6, zi r_16), (5, zi r_8), (0, .ref b), (1, .ref (g.2.2 0)), (2, .ref (g.2.2 197)), (3, .ref (g.2.2 220))]) X d_LW_law_1964 rfl (by decide) rfl ?_
        refine z_goto (pc := 1967) (tgt := 23) X d_LW_law_1967 (by decide) ?_
        refine z_perm [3, 4, 5, 6, 0] rfl ?_
        exact hL (i + 4, h_17) hv (cells + 1) (slots + 6) (show (0 : Int) ≤ i + 4 by omega) (show i + 4 ≤ (2052 : Int) by omega) (show cells + 1 ≤ 1000 + (i + 4).toNat by omega) (show slots + 6 ≤ 20000 + 6 * (i + 4).toNat by omega) v_20 zh_17
      · replace hv := hv.2 hc
        refine z_iconst (pc := 593) X d_LW_law_593 ?_
        exact hv.elim
  · replace hv := hv.2 hc
    refine z_iconst (pc := 576) X d_LW_law_576 ?_
    exact hv.elim
def C_LW_law_598 (N : Nat) (xs : Nat → Int32) (L : Int × zH → Prop) (i : Int) (h : zH) : Prop :=
  zr (i + 1) ∧ ((0 ≤ i + 1 ∧ i + 1 < (N : Int)) ∧ (M_LW_item 0 ((xs (i + 1).toNat).toInt) 220 h (fun r_4 h_3 => zr (i + 1) ∧ ((0 ≤ i + 1 ∧ i + 1 < (N : Int)) ∧ (M_RM_item 197 ((xs (i + 1).toNat).toInt) h_3 (fun r_8 h_7 => M_RM_thrown 197 h_7 (fun r_10 h_9 => (r_10 = r_4 → ((r_4 ≠ 0 → (zr (i + 4) ∧ (L (i + 4, h_9)))) ∧ (r_4 = 0 → ((h_9 220 0 = r_8 → (zr (i + 4) ∧ (L (i + 4, h_9)))) ∧ (h_9 220 0 ≠ r_8 → (False)))))) ∧ (r_10 ≠ r_4 → (False)))))))))
set_option maxHeartbeats 4000000 in
set_option maxRecDepth 100000 in
theorem sc_LW_law_598 {p : Program} {l : Launch} {e : Env} {s : State} {m : MethodId} {below : List Frame} {meth : Method} {c : Code} {b N : Nat} {xs : Nat → Int32} {g : zG} (C : zLC p l s m meth c b N xs g) (hN : N ≤ 2048) (oX : zO 221 0 10) (oM : zO 221 197 11) (oO : zO 221 220 16) (rfl_ln : zln 220 = 1) {L : Int × zH → Prop} (hL : ∀ q : Int × zH, L q → ∀ cells slots : Nat, 0 ≤ q.1 → q.1 ≤ 2052 → cells ≤ 1000 + q.1.toNat → slots ≤ 20000 + 6 * q.1.toNat → zr q.1 → zh q.2 → zW (zWl p l e s m below meth c b cells slots) m 8 g 221 s.heap 23 [(0, .ref b), (1, .ref (g.2.2 0)), (2, .ref (g.2.2 197)), (3, .ref (g.2.2 220)), (4, zi q.1)] [] q.2) {i : Int} {h : zH} {cells slots : Nat} (hi0 : 0 ≤ i) (hi4 : i ≤ (N : Int) - 4) (hcb : cells ≤ 1000 + i.toNat) (hsb : slots ≤ 20000 + 6 * i.toNat) (ri : zr i) (hh : zh h) (hv : C_LW_law_598 N xs L i h) : zW (zWl p l e s m below meth c b cells slots) m 8 g 221 s.heap 598 [(0, .ref b), (1, .ref (g.2.2 0)), (2, .ref (g.2.2 197)), (3, .ref (g.2.2 220)), (4, zi i)] [] h := by
  unfold C_LW_law_598 at hv
  have rN : zr (N : Int) := by omega
  have hce : cells ≤ 601024 := by omega
  have hsl : slots ≤ 7293034 := by omega
  have X := zXl (e := e) (below := below) C hce hsl
  refine z_aload_n (pc := 598) (q := 1) X d_LW_law_598 rfl ?_
  refine z_aload_n (pc := 599) (q := 0) X d_LW_law_599 rfl ?_
  refine z_iload (pc := 600) (q := 4) X d_LW_law_600 rfl ?_
  refine z_iconst (pc := 602) X d_LW_law_602 ?_
  obtain ⟨v_1, hv⟩ := hv
  refine z_iadd (pc := 603) X d_LW_law_603 ?_
  obtain ⟨v_2, hv⟩ := hv
  refine z_sld (pc := 604) C v_1 v_2 d_LW_law_604 ?_
  refine z_aload_n (pc := 605) (q := 3) X d_LW_law_605 rfl ?_
  refine z_callH (k := 3) (pc := 606) (As := [.ref (g.2.2 0), zi ((xs (i + 1).toNat).toInt), .ref (g.2.2 220)]) (rest := []) C (by omega) (by omega) (fun l hl => c_LW_item hl oX (zr_int _) oO hh hv) q672 q0 q673w (by decide +kernel) q671 ⟨⟨by decide, by decide⟩, rfl, rfl⟩ rfl d_LW_law_606 rfl (Nat.le_of_ble_eq_true rfl) (fun r_4 h_3 rr_4 zh_3 hv => ?_)
  have hce1 : cells + 1 ≤ 601024 := by omega
  have hsl1 : slots + 6 ≤ 7293034 := by omega
  have X := zXl (e := e) (below := below) C hce1 hsl1
  refine z_istore (pc := 609) (lv' := [(5, zi r_4), (0, .ref b), (1, .ref (g.2.2 0)), (2, .ref (g.2.2 197)), (3, .ref (g.2.2 220)), (4, zi i)]) X d_LW_law_609 (by decide) rfl ?_
  refine z_aload_n (pc := 611) (q := 3) X d_LW_law_611 rfl ?_
  refine z_aload_n (pc := 612) (q := 1) X d_LW_law_612 rfl ?_
  refine z_iload (pc := 613) (q := 5) X d_LW_law_613 rfl ?_
  refine z_iconst (pc := 615) X d_LW_law_615 ?_
  obtain ⟨v_5, hv⟩ := hv
  refine z_iadd (pc := 616) X d_LW_law_616 ?_
  obtain ⟨v_6, hv⟩ := hv
  refine z_sld (pc := 617) C v_5 v_6 d_LW_law_617 ?_
  refine z_callVi (pc := 618) (As := [zi ((xs (i + 1).toNat).toInt)]) (rest := []) X (fun l hl => c_RM_item hl oM (zr_int _) zh_3 hv) cf_RM oM rfl mf_RM_item q1219 ⟨⟨by decide, by decide⟩, rfl, rfl⟩ rfl d_LW_law_618 rfl (Nat.le_of_ble_eq_true rfl) (fun r_8 h_7 rr_8 zh_7 hv => ?_)
  refine z_istore (pc := 621) (lv' := [(6, zi r_8), (5, zi r_4), (0, .ref b), (1, .ref (g.2.2 0)), (2, .ref (g.2.2 197)), (3, .ref (g.2.2 220)), (4, zi i)]) X d_LW_law_621 (by decide) rfl ?_
  refine z_aload_n (pc := 623) (q := 4) X d_LW_law_623 rfl ?_
  refine z_callVi (pc := 624) (As := []) (rest := []) X (fun l hl => c_RM_thrown hl oM zh_7 hv) cf_RM oM rfl mf_RM_thrown q1118 ⟨⟨by decide, by decide⟩, rfl, rfl⟩ rfl d_LW_law_624 rfl (Nat.le_of_ble_eq_true rfl) (fun r_10 h_9 rr_10 zh_9 hv => ?_)
  refine z_iload (pc := 627) (q := 1) X d_LW_law_627 rfl ?_
  refine z_icmp_eq (pc := 629) (tgt := 634) X rr_10 rr_4 d_LW_law_629 (by decide) (fun hc => ?_) (fun hc => ?_)
  · replace hv := hv.1 hc
    refine z_iload (pc := 634) (q := 1) X d_LW_law_634 rfl ?_
    refine z_if_ne (pc := 636) (tgt := 651) X rr_4 d_LW_law_636 (by decide) (fun hc => ?_) (fun hc => ?_)
    · replace hv := hv.1 hc
      refine z_goto (pc := 651) (tgt := 1964) X d_LW_law_651 (by decide) ?_
      obtain ⟨v_11, hv⟩ := hv
      refine z_iinc (pc := 1964) (q := 6) (lv' := [(4, zi (i + 4)), (6, zi r_8), (5, zi r_4), (0, .ref b), (1, .ref (g.2.2 0)), (2, .ref (g.2.2 197)), (3, .ref (g.2.2 220))]) X d_LW_law_1964 rfl (by decide) rfl ?_
      refine z_goto (pc := 1967) (tgt := 23) X d_LW_law_1967 (by decide) ?_
      refine z_perm [3, 4, 5, 6, 0] rfl ?_
      exact hL (i + 4, h_9) hv (cells + 1) (slots + 6) (show (0 : Int) ≤ i + 4 by omega) (show i + 4 ≤ (2052 : Int) by omega) (show cells + 1 ≤ 1000 + (i + 4).toNat by omega) (show slots + 6 ≤ 20000 + 6 * (i + 4).toNat by omega) v_11 zh_9
    · replace hv := hv.2 hc
      refine z_aload_n (pc := 639) (q := 5) X d_LW_law_639 rfl ?_
      refine z_iconst (pc := 640) X d_LW_law_640 ?_
      refine z_laldj (pc := 641) (j := 0) X oO rfl_ln (show zr 0 from by decide) ⟨by decide, by decide⟩ rfl d_LW_law_641 ?_
      refine z_iload (pc := 642) (q := 0) X d_LW_law_642 rfl ?_
      refine z_i2l (pc := 644) X rr_8 d_LW_law_644 ?_
      refine z_lif_eq (pc := 645) (tgt := 651) X (zh_9.2 _) (zr_l rr_8) d_LW_law_645 d_LW_law_646 (by decide) (fun hc => ?_) (fun hc => ?_)
      · replace hv := hv.1 hc
        refine z_goto (pc := 651) (tgt := 1964) X d_LW_law_651 (by decide) ?_
        obtain ⟨v_12, hv⟩ := hv
        refine z_iinc (pc := 1964) (q := 6) (lv' := [(4, zi (i + 4)), (6, zi r_8), (5, zi r_4), (0, .ref b), (1, .ref (g.2.2 0)), (2, .ref (g.2.2 197)), (3, .ref (g.2.2 220))]) X d_LW_law_1964 rfl (by decide) rfl ?_
        refine z_goto (pc := 1967) (tgt := 23) X d_LW_law_1967 (by decide) ?_
        refine z_perm [3, 4, 5, 6, 0] rfl ?_
        exact hL (i + 4, h_9) hv (cells + 1) (slots + 6) (show (0 : Int) ≤ i + 4 by omega) (show i + 4 ≤ (2052 : Int) by omega) (show cells + 1 ≤ 1000 + (i + 4).toNat by omega) (show slots + 6 ≤ 20000 + 6 * (i + 4).toNat by omega) v_12 zh_9
      · replace hv := hv.2 hc
        refine z_iconst (pc := 649) X d_LW_law_649 ?_
        exact hv.elim
  · replace hv := hv.2 hc
    refine z_iconst (pc := 632) X d_LW_law_632 ?_
    exact hv.elim
def C_LW_law_654 (N : Nat) (xs : Nat → Int32) (L : Int × zH → Prop) (i : Int) (h : zH) : Prop :=
  zr (i + 1) ∧ ((0 ≤ i + 1 ∧ i + 1 < (N : Int)) ∧ (zr (i + 2) ∧ ((0 ≤ i + 2 ∧ i + 2 < (N : Int)) ∧ (M_LW_tape 0 ((xs (i + 1).toNat).toInt) ((xs (i + 2).toNat).toInt) 220 h (fun r_6 h_5 => zr (i + 1) ∧ ((0 ≤ i + 1 ∧ i + 1 < (N : Int)) ∧ (zr (i + 2) ∧ ((0 ≤ i + 2 ∧ i + 2 < (N : Int)) ∧ (M_RM_tape 197 ((xs (i + 1).toNat).toInt) ((xs (i + 2).toNat).toInt) h_5 (fun r_12 h_11 => M_RM_thrown 197 h_11 (fun r_14 h_13 => (r_14 = r_6 → ((r_6 ≠ 0 → (zr (i + 4) ∧ (L (i + 4, h_13)))) ∧ (r_6 = 0 → ((h_13 220 0 = r_12 → (zr (i + 4) ∧ (L (i + 4, h_13)))) ∧ (h_13 220 0 ≠ r_12 → (False)))))) ∧ (r_14 ≠ r_6 → (False)))))))))))))
set_option maxHeartbeats 4000000 in
set_option maxRecDepth 100000 in
theorem sc_LW_law_654 {p : Program} {l : Launch} {e : Env} {s : State} {m : MethodId} {below : List Frame} {meth : Method} {c : Code} {b N : Nat} {xs : Nat → Int32} {g : zG} (C : zLC p l s m meth c b N xs g) (hN : N ≤ 2048) (oX : zO 221 0 10) (oM : zO 221 197 11) (oO : zO 221 220 16) (rfl_ln : zln 220 = 1) {L : Int × zH → Prop} (hL : ∀ q : Int × zH, L q → ∀ cells slots : Nat, 0 ≤ q.1 → q.1 ≤ 2052 → cells ≤ 1000 + q.1.toNat → slots ≤ 20000 + 6 * q.1.toNat → zr q.1 → zh q.2 → zW (zWl p l e s m below meth c b cells slots) m 8 g 221 s.heap 23 [(0, .ref b), (1, .ref (g.2.2 0)), (2, .ref (g.2.2 197)), (3, .ref (g.2.2 220)), (4, zi q.1)] [] q.2) {i : Int} {h : zH} {cells slots : Nat} (hi0 : 0 ≤ i) (hi4 : i ≤ (N : Int) - 4) (hcb : cells ≤ 1000 + i.toNat) (hsb : slots ≤ 20000 + 6 * i.toNat) (ri : zr i) (hh : zh h) (hv : C_LW_law_654 N xs L i h) : zW (zWl p l e s m below meth c b cells slots) m 8 g 221 s.heap 654 [(0, .ref b), (1, .ref (g.2.2 0)), (2, .ref (g.2.2 197)), (3, .ref (g.2.2 220)), (4, zi i)] [] h := by
  unfold C_LW_law_654 at hv
  have rN : zr (N : Int) := by omega
  have hce : cells ≤ 601024 := by omega
  have hsl : slots ≤ 7293034 := by omega
  have X := zXl (e := e) (below := below) C hce hsl
  refine z_aload_n (pc := 654) (q := 1) X d_LW_law_654 rfl ?_
  refine z_aload_n (pc := 655) (q := 0) X d_LW_law_655 rfl ?_
  refine z_iload (pc := 656) (q := 4) X d_LW_law_656 rfl ?_
  refine z_iconst (pc := 658) X d_LW_law_658 ?_
  obtain ⟨v_1, hv⟩ := hv
  refine z_iadd (pc := 659) X d_LW_law_659 ?_
  obtain ⟨v_2, hv⟩ := hv
  refine z_sld (pc := 660) C v_1 v_2 d_LW_law_660 ?_
  refine z_aload_n (pc := 661) (q := 0) X d_LW_law_661 rfl ?_
  refine z_iload (pc := 662) (q := 4) X d_LW_law_662 rfl ?_
  refine z_iconst (pc := 664) X d_LW_law_664 ?_
  obtain ⟨v_3, hv⟩ := hv
  refine z_iadd (pc := 665) X d_LW_law_665 ?_
  obtain ⟨v_4, hv⟩ := hv
  refine z_sld (pc := 666) C v_3 v_4 d_LW_law_666 ?_
  refine z_aload_n (pc := 667) (q := 3) X d_LW_law_667 rfl ?_
  refine z_callH (k := 4) (pc := 668) (As := [.ref (g.2.2 0), zi ((xs (i + 1).toNat).toInt), zi ((xs (i + 2).toNat).toInt), .ref (g.2.2 220)]) (rest := []) C (by omega) (by omega) (fun l hl => c_LW_tape hl oX (zr_int _) (zr_int _) oO hh hv) q684 q0 q685w (by decide +kernel) q683 ⟨⟨by decide, by decide⟩, rfl, rfl⟩ rfl d_LW_law_668 rfl (Nat.le_of_ble_eq_true rfl) (fun r_6 h_5 rr_6 zh_5 hv => ?_)
  have hce1 : cells + 1 ≤ 601024 := by omega
  have hsl1 : slots + 6 ≤ 7293034 := by omega
  have X := zXl (e := e) (below := below) C hce1 hsl1
  refine z_istore (pc := 671) (lv' := [(5, zi r_6), (0, .ref b), (1, .ref (g.2.2 0)), (2, .ref (g.2.2 197)), (3, .ref (g.2.2 220)), (4, zi i)]) X d_LW_law_671 (by decide) rfl ?_
  refine z_aload_n (pc := 673) (q := 3) X d_LW_law_673 rfl ?_
  refine z_aload_n (pc := 674) (q := 1) X d_LW_law_674 rfl ?_
  refine z_iload (pc := 675) (q := 5) X d_LW_law_675 rfl ?_
  refine z_iconst (pc := 677) X d_LW_law_677 ?_
  obtain ⟨v_7, hv⟩ := hv
  refine z_iadd (pc := 678) X d_LW_law_678 ?_
  obtain ⟨v_8, hv⟩ := hv
  refine z_sld (pc := 679) C v_7 v_8 d_LW_law_679 ?_
  refine z_aload_n (pc := 680) (q := 1) X d_LW_law_680 rfl ?_
  refine z_iload (pc := 681) (q := 5) X d_LW_law_681 rfl ?_
  refine z_iconst (pc := 683) X d_LW_law_683 ?_
  obtain ⟨v_9, hv⟩ := hv
  refine z_iadd (pc := 684) X d_LW_law_684 ?_
  obtain ⟨v_10, hv⟩ := hv
  refine z_sld (pc := 685) C v_9 v_10 d_LW_law_685 ?_
  refine z_callVi (pc := 686) (As := [zi ((xs (i + 1).toNat).toInt), zi ((xs (i + 2).toNat).toInt)]) (rest := []) X (fun l hl => c_RM_tape hl oM (zr_int _) (zr_int _) zh_5 hv) cf_RM oM rfl mf_RM_tape q1227 ⟨⟨by decide, by decide⟩, rfl, rfl⟩ rfl d_LW_law_686 rfl (Nat.le_of_ble_eq_true rfl) (fun r_12 h_11 rr_12 zh_11 hv => ?_)
  refine z_istore (pc := 689) (lv' := [(6, zi r_12), (5, zi r_6), (0, .ref b), (1, .ref (g.2.2 0)), (2, .ref (g.2.2 197)), (3, .ref (g.2.2 220)), (4, zi i)]) X d_LW_law_689 (by decide) rfl ?_
  refine z_aload_n (pc := 691) (q := 4) X d_LW_law_691 rfl ?_
  refine z_callVi (pc := 692) (As := []) (rest := []) X (fun l hl => c_RM_thrown hl oM zh_11 hv) cf_RM oM rfl mf_RM_thrown q1118 ⟨⟨by decide, by decide⟩, rfl, rfl⟩ rfl d_LW_law_692 rfl (Nat.le_of_ble_eq_true rfl) (fun r_14 h_13 rr_14 zh_13 hv => ?_)
  refine z_iload (pc := 695) (q := 1) X d_LW_law_695 rfl ?_
  refine z_icmp_eq (pc := 697) (tgt := 702) X rr_14 rr_6 d_LW_law_697 (by decide) (fun hc => ?_) (fun hc => ?_)
  · replace hv := hv.1 hc
    refine z_iload (pc := 702) (q := 1) X d_LW_law_702 rfl ?_
    refine z_if_ne (pc := 704) (tgt := 719) X rr_6 d_LW_law_704 (by decide) (fun hc => ?_) (fun hc => ?_)
    · replace hv := hv.1 hc
      refine z_goto (pc := 719) (tgt := 1964) X d_LW_law_719 (by decide) ?_
      obtain ⟨v_15, hv⟩ := hv
      refine z_iinc (pc := 1964) (q := 6) (lv' := [(4, zi (i + 4)), (6, zi r_12), (5, zi r_6), (0, .ref b), (1, .ref (g.2.2 0)), (2, .ref (g.2.2 197)), (3, .ref (g.2.2 220))]) X d_LW_law_1964 rfl (by decide) rfl ?_
      refine z_goto (pc := 1967) (tgt := 23) X d_LW_law_1967 (by decide) ?_
      refine z_perm [3, 4, 5, 6, 0] rfl ?_
      exact hL (i + 4, h_13) hv (cells + 1) (slots + 6) (show (0 : Int) ≤ i + 4 by omega) (show i + 4 ≤ (2052 : Int) by omega) (show cells + 1 ≤ 1000 + (i + 4).toNat by omega) (show slots + 6 ≤ 20000 + 6 * (i + 4).toNat by omega) v_15 zh_13
    · replace hv := hv.2 hc
      refine z_aload_n (pc := 707) (q := 5) X d_LW_law_707 rfl ?_
      refine z_iconst (pc := 708) X d_LW_law_708 ?_
      refine z_laldj (pc := 709) (j := 0) X oO rfl_ln (show zr 0 from by decide) ⟨by decide, by decide⟩ rfl d_LW_law_709 ?_
      refine z_iload (pc := 710) (q := 0) X d_LW_law_710 rfl ?_
      refine z_i2l (pc := 712) X rr_12 d_LW_law_712 ?_
      refine z_lif_eq (pc := 713) (tgt := 719) X (zh_13.2 _) (zr_l rr_12) d_LW_law_713 d_LW_law_714 (by decide) (fun hc => ?_) (fun hc => ?_)
      · replace hv := hv.1 hc
        refine z_goto (pc := 719) (tgt := 1964) X d_LW_law_719 (by decide) ?_
        obtain ⟨v_16, hv⟩ := hv
        refine z_iinc (pc := 1964) (q := 6) (lv' := [(4, zi (i + 4)), (6, zi r_12), (5, zi r_6), (0, .ref b), (1, .ref (g.2.2 0)), (2, .ref (g.2.2 197)), (3, .ref (g.2.2 220))]) X d_LW_law_1964 rfl (by decide) rfl ?_
        refine z_goto (pc := 1967) (tgt := 23) X d_LW_law_1967 (by decide) ?_
        refine z_perm [3, 4, 5, 6, 0] rfl ?_
        exact hL (i + 4, h_13) hv (cells + 1) (slots + 6) (show (0 : Int) ≤ i + 4 by omega) (show i + 4 ≤ (2052 : Int) by omega) (show cells + 1 ≤ 1000 + (i + 4).toNat by omega) (show slots + 6 ≤ 20000 + 6 * (i + 4).toNat by omega) v_16 zh_13
      · replace hv := hv.2 hc
        refine z_iconst (pc := 717) X d_LW_law_717 ?_
        exact hv.elim
  · replace hv := hv.2 hc
    refine z_iconst (pc := 700) X d_LW_law_700 ?_
    exact hv.elim
def C_LW_law_722 (N : Nat) (xs : Nat → Int32) (L : Int × zH → Prop) (i : Int) (h : zH) : Prop :=
  zr (i + 1) ∧ ((0 ≤ i + 1 ∧ i + 1 < (N : Int)) ∧ (zr (i + 2) ∧ ((0 ≤ i + 2 ∧ i + 2 < (N : Int)) ∧ (zr (i + 3) ∧ ((0 ≤ i + 3 ∧ i + 3 < (N : Int)) ∧ (M_LW_setCount 0 ((xs (i + 1).toNat).toInt) ((xs (i + 2).toNat).toInt) ((xs (i + 3).toNat).toInt) 220 h (fun r_8 h_7 => zr (i + 1) ∧ ((0 ≤ i + 1 ∧ i + 1 < (N : Int)) ∧ (zr (i + 2) ∧ ((0 ≤ i + 2 ∧ i + 2 < (N : Int)) ∧ (zr (i + 3) ∧ ((0 ≤ i + 3 ∧ i + 3 < (N : Int)) ∧ (M_RM_setCount 197 ((xs (i + 1).toNat).toInt) ((xs (i + 2).toNat).toInt) ((xs (i + 3).toNat).toInt) h_7 (fun r_16 h_15 => M_RM_thrown 197 h_15 (fun r_18 h_17 => (r_18 = r_8 → ((r_8 ≠ 0 → (zr (i + 4) ∧ (L (i + 4, h_17)))) ∧ (r_8 = 0 → ((h_17 220 0 = r_16 → (zr (i + 4) ∧ (L (i + 4, h_17)))) ∧ (h_17 220 0 ≠ r_16 → (False)))))) ∧ (r_18 ≠ r_8 → (False)))))))))))))))))
set_option maxHeartbeats 4000000 in
set_option maxRecDepth 100000 in
theorem sc_LW_law_722 {p : Program} {l : Launch} {e : Env} {s : State} {m : MethodId} {below : List Frame} {meth : Method} {c : Code} {b N : Nat} {xs : Nat → Int32} {g : zG} (C : zLC p l s m meth c b N xs g) (hN : N ≤ 2048) (oX : zO 221 0 10) (oM : zO 221 197 11) (oO : zO 221 220 16) (rfl_ln : zln 220 = 1) {L : Int × zH → Prop} (hL : ∀ q : Int × zH, L q → ∀ cells slots : Nat, 0 ≤ q.1 → q.1 ≤ 2052 → cells ≤ 1000 + q.1.toNat → slots ≤ 20000 + 6 * q.1.toNat → zr q.1 → zh q.2 → zW (zWl p l e s m below meth c b cells slots) m 8 g 221 s.heap 23 [(0, .ref b), (1, .ref (g.2.2 0)), (2, .ref (g.2.2 197)), (3, .ref (g.2.2 220)), (4, zi q.1)] [] q.2) {i : Int} {h : zH} {cells slots : Nat} (hi0 : 0 ≤ i) (hi4 : i ≤ (N : Int) - 4) (hcb : cells ≤ 1000 + i.toNat) (hsb : slots ≤ 20000 + 6 * i.toNat) (ri : zr i) (hh : zh h) (hv : C_LW_law_722 N xs L i h) : zW (zWl p l e s m below meth c b cells slots) m 8 g 221 s.heap 722 [(0, .ref b), (1, .ref (g.2.2 0)), (2, .ref (g.2.2 197)), (3, .ref (g.2.2 220)), (4, zi i)] [] h := by
  unfold C_LW_law_722 at hv
  have rN : zr (N : Int) := by omega
  have hce : cells ≤ 601024 := by omega
  have hsl : slots ≤ 7293034 := by omega
  have X := zXl (e := e) (below := below) C hce hsl
  refine z_aload_n (pc := 722) (q := 1) X d_LW_law_722 rfl ?_
  refine z_aload_n (pc := 723) (q := 0) X d_LW_law_723 rfl ?_
  refine z_iload (pc := 724) (q := 4) X d_LW_law_724 rfl ?_
  refine z_iconst (pc := 726) X d_LW_law_726 ?_
  obtain ⟨v_1, hv⟩ := hv
  refine z_iadd (pc := 727) X d_LW_law_727 ?_
  obtain ⟨v_2, hv⟩ := hv
  refine z_sld (pc := 728) C v_1 v_2 d_LW_law_728 ?_
  refine z_aload_n (pc := 729) (q := 0) X d_LW_law_729 rfl ?_
  refine z_iload (pc := 730) (q := 4) X d_LW_law_730 rfl ?_
  refine z_iconst (pc := 732) X d_LW_law_732 ?_
  obtain ⟨v_3, hv⟩ := hv
  refine z_iadd (pc := 733) X d_LW_law_733 ?_
  obtain ⟨v_4, hv⟩ := hv
  refine z_sld (pc := 734) C v_3 v_4 d_LW_law_734 ?_
  refine z_aload_n (pc := 735) (q := 0) X d_LW_law_735 rfl ?_
  refine z_iload (pc := 736) (q := 4) X d_LW_law_736 rfl ?_
  refine z_iconst (pc := 738) X d_LW_law_738 ?_
  obtain ⟨v_5, hv⟩ := hv
  refine z_iadd (pc := 739) X d_LW_law_739 ?_
  obtain ⟨v_6, hv⟩ := hv
  refine z_sld (pc := 740) C v_5 v_6 d_LW_law_740 ?_
  refine z_aload_n (pc := 741) (q := 3) X d_LW_law_741 rfl ?_
  refine z_callH (k := 5) (pc := 742) (As := [.ref (g.2.2 0), zi ((xs (i + 1).toNat).toInt), zi ((xs (i + 2).toNat).toInt), zi ((xs (i + 3).toNat).toInt), .ref (g.2.2 220)]) (rest := []) C (by omega) (by omega) (fun l hl => c_LW_setCount hl oX (zr_int _) (zr_int _) (zr_int _) oO hh hv) q701 q0 q702w (by decide +kernel) q700 ⟨⟨by decide, by decide⟩, rfl, rfl⟩ rfl d_LW_law_742 rfl (Nat.le_of_ble_eq_true rfl) (fun r_8 h_7 rr_8 zh_7 hv => ?_)
  have hce1 : cells + 1 ≤ 601024 := by omega
  have hsl1 : slots + 6 ≤ 7293034 := by omega
  have X := zXl (e := e) (below := below) C hce1 hsl1
  refine z_istore (pc := 745) (lv' := [(5, zi r_8), (0, .ref b), (1, .ref (g.2.2 0)), (2, .ref (g.2.2 197)), (3, .ref (g.2.2 220)), (4, zi i)]) X d_LW_law_745 (by decide) rfl ?_
  refine z_aload_n (pc := 747) (q := 3) X d_LW_law_747 rfl ?_
  refine z_aload_n (pc := 748) (q := 1) X d_LW_law_748 rfl ?_
  refine z_iload (pc := 749) (q := 5) X d_LW_law_749 rfl ?_
  refine z_iconst (pc := 751) X d_LW_law_751 ?_
  obtain ⟨v_9, hv⟩ := hv
  refine z_iadd (pc := 752) X d_LW_law_752 ?_
  obtain ⟨v_10, hv⟩ := hv
  refine z_sld (pc := 753) C v_9 v_10 d_LW_law_753 ?_
  refine z_aload_n (pc := 754) (q := 1) X d_LW_law_754 rfl ?_
  refine z_iload (pc := 755) (q := 5) X d_LW_law_755 rfl ?_
  refine z_iconst (pc := 757) X d_LW_law_757 ?_
  obtain ⟨v_11, hv⟩ := hv
  refine z_iadd (pc := 758) X d_LW_law_758 ?_
  obtain ⟨v_12, hv⟩ := hv
  refine z_sld (pc := 759) C v_11 v_12 d_LW_law_759 ?_
  refine z_aload_n (pc := 760) (q := 1) X d_LW_law_760 rfl ?_
  refine z_iload (pc := 761) (q := 5) X d_LW_law_761 rfl ?_
  refine z_iconst (pc := 763) X d_LW_law_763 ?_
  obtain ⟨v_13, hv⟩ := hv
  refine z_iadd (pc := 764) X d_LW_law_764 ?_
  obtain ⟨v_14, hv⟩ := hv
  refine z_sld (pc := 765) C v_13 v_14 d_LW_law_765 ?_
  refine z_callVi (pc := 766) (As := [zi ((xs (i + 1).toNat).toInt), zi ((xs (i + 2).toNat).toInt), zi ((xs (i + 3).toNat).toInt)]) (rest := []) X (fun l hl => c_RM_setCount hl oM (zr_int _) (zr_int _) (zr_int _) zh_7 hv) cf_RM oM rfl mf_RM_setCount q1231 ⟨⟨by decide, by decide⟩, rfl, rfl⟩ rfl d_LW_law_766 rfl (Nat.le_of_ble_eq_true rfl) (fun r_16 h_15 rr_16 zh_15 hv => ?_)
  refine z_istore (pc := 769) (lv' := [(6, zi r_16), (5, zi r_8), (0, .ref b), (1, .ref (g.2.2 0)), (2, .ref (g.2.2 197)), (3, .ref (g.2.2 220)), (4, zi i)]) X d_LW_law_769 (by decide) rfl ?_
  refine z_aload_n (pc := 771) (q := 4) X d_LW_law_771 rfl ?_
  refine z_callVi (pc := 772) (As := []) (rest := []) X (fun l hl => c_RM_thrown hl oM zh_15 hv) cf_RM oM rfl mf_RM_thrown q1118 ⟨⟨by decide, by decide⟩, rfl, rfl⟩ rfl d_LW_law_772 rfl (Nat.le_of_ble_eq_true rfl) (fun r_18 h_17 rr_18 zh_17 hv => ?_)
  refine z_iload (pc := 775) (q := 1) X d_LW_law_775 rfl ?_
  refine z_icmp_eq (pc := 777) (tgt := 782) X rr_18 rr_8 d_LW_law_777 (by decide) (fun hc => ?_) (fun hc => ?_)
  · replace hv := hv.1 hc
    refine z_iload (pc := 782) (q := 1) X d_LW_law_782 rfl ?_
    refine z_if_ne (pc := 784) (tgt := 799) X rr_8 d_LW_law_784 (by decide) (fun hc => ?_) (fun hc => ?_)
    · replace hv := hv.1 hc
      refine z_goto (pc := 799) (tgt := 1964) X d_LW_law_799 (by decide) ?_
      obtain ⟨v_19, hv⟩ := hv
      refine z_iinc (pc := 1964) (q := 6) (lv' := [(4, zi (i + 4)), (6, zi r_16), (5, zi r_8), (0, .ref b), (1, .ref (g.2.2 0)), (2, .ref (g.2.2 197)), (3, .ref (g.2.2 220))]) X d_LW_law_1964 rfl (by decide) rfl ?_
      refine z_goto (pc := 1967) (tgt := 23) X d_LW_law_1967 (by decide) ?_
      refine z_perm [3, 4, 5, 6, 0] rfl ?_
      exact hL (i + 4, h_17) hv (cells + 1) (slots + 6) (show (0 : Int) ≤ i + 4 by omega) (show i + 4 ≤ (2052 : Int) by omega) (show cells + 1 ≤ 1000 + (i + 4).toNat by omega) (show slots + 6 ≤ 20000 + 6 * (i + 4).toNat by omega) v_19 zh_17
    · replace hv := hv.2 hc
      refine z_aload_n (pc := 787) (q := 5) X d_LW_law_787 rfl ?_
      refine z_iconst (pc := 788) X d_LW_law_788 ?_
      refine z_laldj (pc := 789) (j := 0) X oO rfl_ln (show zr 0 from by decide) ⟨by decide, by decide⟩ rfl d_LW_law_789 ?_
      refine z_iload (pc := 790) (q := 0) X d_LW_law_790 rfl ?_
      refine z_i2l (pc := 792) X rr_16 d_LW_law_792 ?_
      refine z_lif_eq (pc := 793) (tgt := 799) X (zh_17.2 _) (zr_l rr_16) d_LW_law_793 d_LW_law_794 (by decide) (fun hc => ?_) (fun hc => ?_)
      · replace hv := hv.1 hc
        refine z_goto (pc := 799) (tgt := 1964) X d_LW_law_799 (by decide) ?_
        obtain ⟨v_20, hv⟩ := hv
        refine z_iinc (pc := 1964) (q := 6) (lv' := [(4, zi (i + 4)), (6, zi r_16), (5, zi r_8), (0, .ref b), (1, .ref (g.2.2 0)), (2, .ref (g.2.2 197)), (3, .ref (g.2.2 220))]) X d_LW_law_1964 rfl (by decide) rfl ?_
        refine z_goto (pc := 1967) (tgt := 23) X d_LW_law_1967 (by decide) ?_
        refine z_perm [3, 4, 5, 6, 0] rfl ?_
        exact hL (i + 4, h_17) hv (cells + 1) (slots + 6) (show (0 : Int) ≤ i + 4 by omega) (show i + 4 ≤ (2052 : Int) by omega) (show cells + 1 ≤ 1000 + (i + 4).toNat by omega) (show slots + 6 ≤ 20000 + 6 * (i + 4).toNat by omega) v_20 zh_17
      · replace hv := hv.2 hc
        refine z_iconst (pc := 797) X d_LW_law_797 ?_
        exact hv.elim
  · replace hv := hv.2 hc
    refine z_iconst (pc := 780) X d_LW_law_780 ?_
    exact hv.elim
def C_LW_law_802 (N : Nat) (xs : Nat → Int32) (L : Int × zH → Prop) (i : Int) (h : zH) : Prop :=
  zr (i + 1) ∧ ((0 ≤ i + 1 ∧ i + 1 < (N : Int)) ∧ (zr (i + 2) ∧ ((0 ≤ i + 2 ∧ i + 2 < (N : Int)) ∧ (M_LW_insert 0 ((xs (i + 1).toNat).toInt) ((xs (i + 2).toNat).toInt) 220 h (fun r_6 h_5 => zr (i + 1) ∧ ((0 ≤ i + 1 ∧ i + 1 < (N : Int)) ∧ (zr (i + 2) ∧ ((0 ≤ i + 2 ∧ i + 2 < (N : Int)) ∧ (M_RM_insert 197 ((xs (i + 1).toNat).toInt) ((xs (i + 2).toNat).toInt) h_5 (fun r_12 h_11 => M_RM_thrown 197 h_11 (fun r_14 h_13 => (r_14 = r_6 → ((r_6 ≠ 0 → (zr (i + 4) ∧ (L (i + 4, h_13)))) ∧ (r_6 = 0 → ((h_13 220 0 = r_12 → (zr (i + 4) ∧ (L (i + 4, h_13)))) ∧ (h_13 220 0 ≠ r_12 → (False)))))) ∧ (r_14 ≠ r_6 → (False)))))))))))))
set_option maxHeartbeats 4000000 in
set_option maxRecDepth 100000 in
theorem sc_LW_law_802 {p : Program} {l : Launch} {e : Env} {s : State} {m : MethodId} {below : List Frame} {meth : Method} {c : Code} {b N : Nat} {xs : Nat → Int32} {g : zG} (C : zLC p l s m meth c b N xs g) (hN : N ≤ 2048) (oX : zO 221 0 10) (oM : zO 221 197 11) (oO : zO 221 220 16) (rfl_ln : zln 220 = 1) {L : Int × zH → Prop} (hL : ∀ q : Int × zH, L q → ∀ cells slots : Nat, 0 ≤ q.1 → q.1 ≤ 2052 → cells ≤ 1000 + q.1.toNat → slots ≤ 20000 + 6 * q.1.toNat → zr q.1 → zh q.2 → zW (zWl p l e s m below meth c b cells slots) m 8 g 221 s.heap 23 [(0, .ref b), (1, .ref (g.2.2 0)), (2, .ref (g.2.2 197)), (3, .ref (g.2.2 220)), (4, zi q.1)] [] q.2) {i : Int} {h : zH} {cells slots : Nat} (hi0 : 0 ≤ i) (hi4 : i ≤ (N : Int) - 4) (hcb : cells ≤ 1000 + i.toNat) (hsb : slots ≤ 20000 + 6 * i.toNat) (ri : zr i) (hh : zh h) (hv : C_LW_law_802 N xs L i h) : zW (zWl p l e s m below meth c b cells slots) m 8 g 221 s.heap 802 [(0, .ref b), (1, .ref (g.2.2 0)), (2, .ref (g.2.2 197)), (3, .ref (g.2.2 220)), (4, zi i)] [] h := by
  unfold C_LW_law_802 at hv
  have rN : zr (N : Int) := by omega
  have hce : cells ≤ 601024 := by omega
  have hsl : slots ≤ 7293034 := by omega
  have X := zXl (e := e) (below := below) C hce hsl
  refine z_aload_n (pc := 802) (q := 1) X d_LW_law_802 rfl ?_
  refine z_aload_n (pc := 803) (q := 0) X d_LW_law_803 rfl ?_
  refine z_iload (pc := 804) (q := 4) X d_LW_law_804 rfl ?_
  refine z_iconst (pc := 806) X d_LW_law_806 ?_
  obtain ⟨v_1, hv⟩ := hv
  refine z_iadd (pc := 807) X d_LW_law_807 ?_
  obtain ⟨v_2, hv⟩ := hv
  refine z_sld (pc := 808) C v_1 v_2 d_LW_law_808 ?_
  refine z_aload_n (pc := 809) (q := 0) X d_LW_law_809 rfl ?_
  refine z_iload (pc := 810) (q := 4) X d_LW_law_810 rfl ?_
  refine z_iconst (pc := 812) X d_LW_law_812 ?_
  obtain ⟨v_3, hv⟩ := hv
  refine z_iadd (pc := 813) X d_LW_law_813 ?_
  obtain ⟨v_4, hv⟩ := hv
  refine z_sld (pc := 814) C v_3 v_4 d_LW_law_814 ?_
  refine z_aload_n (pc := 815) (q := 3) X d_LW_law_815 rfl ?_
  refine z_callH (k := 4) (pc := 816) (As := [.ref (g.2.2 0), zi ((xs (i + 1).toNat).toInt), zi ((xs (i + 2).toNat).toInt), .ref (g.2.2 220)]) (rest := []) C (by omega) (by omega) (fun l hl => c_LW_insert hl oX (zr_int _) (zr_int _) oO hh hv) q741 q0 q742w (by decide +kernel) q740 ⟨⟨by decide, by decide⟩, rfl, rfl⟩ rfl d_LW_law_816 rfl (Nat.le_of_ble_eq_true rfl) (fun r_6 h_5 rr_6 zh_5 hv => ?_)
  have hce1 : cells + 1 ≤ 601024 := by omega
  have hsl1 : slots + 6 ≤ 7293034 := by omega
  have X := zXl (e := e) (below := below) C hce1 hsl1
  refine z_istore (pc := 819) (lv' := [(5, zi r_6), (0, .ref b), (1, .ref (g.2.2 0)), (2, .ref (g.2.2 197)), (3, .ref (g.2.2 220)), (4, zi i)]) X d_LW_law_819 (by decide) rfl ?_
  refine z_aload_n (pc := 821) (q := 3) X d_LW_law_821 rfl ?_
  refine z_aload_n (pc := 822) (q := 1) X d_LW_law_822 rfl ?_
  refine z_iload (pc := 823) (q := 5) X d_LW_law_823 rfl ?_
  refine z_iconst (pc := 825) X d_LW_law_825 ?_
  obtain ⟨v_7, hv⟩ := hv
  refine z_iadd (pc := 826) X d_LW_law_826 ?_
  obtain ⟨v_8, hv⟩ := hv
  refine z_sld (pc := 827) C v_7 v_8 d_LW_law_827 ?_
  refine z_aload_n (pc := 828) (q := 1) X d_LW_law_828 rfl ?_
  refine z_iload (pc := 829) (q := 5) X d_LW_law_829 rfl ?_
  refine z_iconst (pc := 831) X d_LW_law_831 ?_
  obtain ⟨v_9, hv⟩ := hv
  refine z_iadd (pc := 832) X d_LW_law_832 ?_
  obtain ⟨v_10, hv⟩ := hv
  refine z_sld (pc := 833) C v_9 v_10 d_LW_law_833 ?_
  refine z_callVi (pc := 834) (As := [zi ((xs (i + 1).toNat).toInt), zi ((xs (i + 2).toNat).toInt)]) (rest := []) X (fun l hl => c_RM_insert hl oM (zr_int _) (zr_int _) zh_5 hv) cf_RM oM rfl mf_RM_insert q1240 ⟨⟨by decide, by decide⟩, rfl, rfl⟩ rfl d_LW_law_834 rfl (Nat.le_of_ble_eq_true rfl) (fun r_12 h_11 rr_12 zh_11 hv => ?_)
  refine z_istore (pc := 837) (lv' := [(6, zi r_12), (5, zi r_6), (0, .ref b), (1, .ref (g.2.2 0)), (2, .ref (g.2.2 197)), (3, .ref (g.2.2 220)), (4, zi i)]) X d_LW_law_837 (by decide) rfl ?_
  refine z_aload_n (pc := 839) (q := 4) X d_LW_law_839 rfl ?_
  refine z_callVi (pc := 840) (As := []) (rest := []) X (fun l hl => c_RM_thrown hl oM zh_11 hv) cf_RM oM rfl mf_RM_thrown q1118 ⟨⟨by decide, by decide⟩, rfl, rfl⟩ rfl d_LW_law_840 rfl (Nat.le_of_ble_eq_true rfl) (fun r_14 h_13 rr_14 zh_13 hv => ?_)
  refine z_iload (pc := 843) (q := 1) X d_LW_law_843 rfl ?_
  refine z_icmp_eq (pc := 845) (tgt := 850) X rr_14 rr_6 d_LW_law_845 (by decide) (fun hc => ?_) (fun hc => ?_)
  · replace hv := hv.1 hc
    refine z_iload (pc := 850) (q := 1) X d_LW_law_850 rfl ?_
    refine z_if_ne (pc := 852) (tgt := 867) X rr_6 d_LW_law_852 (by decide) (fun hc => ?_) (fun hc => ?_)
    · replace hv := hv.1 hc
      refine z_goto (pc := 867) (tgt := 1964) X d_LW_law_867 (by decide) ?_
      obtain ⟨v_15, hv⟩ := hv
      refine z_iinc (pc := 1964) (q := 6) (lv' := [(4, zi (i + 4)), (6, zi r_12), (5, zi r_6), (0, .ref b), (1, .ref (g.2.2 0)), (2, .ref (g.2.2 197)), (3, .ref (g.2.2 220))]) X d_LW_law_1964 rfl (by decide) rfl ?_
      refine z_goto (pc := 1967) (tgt := 23) X d_LW_law_1967 (by decide) ?_
      refine z_perm [3, 4, 5, 6, 0] rfl ?_
      exact hL (i + 4, h_13) hv (cells + 1) (slots + 6) (show (0 : Int) ≤ i + 4 by omega) (show i + 4 ≤ (2052 : Int) by omega) (show cells + 1 ≤ 1000 + (i + 4).toNat by omega) (show slots + 6 ≤ 20000 + 6 * (i + 4).toNat by omega) v_15 zh_13
    · replace hv := hv.2 hc
      refine z_aload_n (pc := 855) (q := 5) X d_LW_law_855 rfl ?_
      refine z_iconst (pc := 856) X d_LW_law_856 ?_
      refine z_laldj (pc := 857) (j := 0) X oO rfl_ln (show zr 0 from by decide) ⟨by decide, by decide⟩ rfl d_LW_law_857 ?_
      refine z_iload (pc := 858) (q := 0) X d_LW_law_858 rfl ?_
      refine z_i2l (pc := 860) X rr_12 d_LW_law_860 ?_
      refine z_lif_eq (pc := 861) (tgt := 867) X (zh_13.2 _) (zr_l rr_12) d_LW_law_861 d_LW_law_862 (by decide) (fun hc => ?_) (fun hc => ?_)
      · replace hv := hv.1 hc
        refine z_goto (pc := 867) (tgt := 1964) X d_LW_law_867 (by decide) ?_
        obtain ⟨v_16, hv⟩ := hv
        refine z_iinc (pc := 1964) (q := 6) (lv' := [(4, zi (i + 4)), (6, zi r_12), (5, zi r_6), (0, .ref b), (1, .ref (g.2.2 0)), (2, .ref (g.2.2 197)), (3, .ref (g.2.2 220))]) X d_LW_law_1964 rfl (by decide) rfl ?_
        refine z_goto (pc := 1967) (tgt := 23) X d_LW_law_1967 (by decide) ?_
        refine z_perm [3, 4, 5, 6, 0] rfl ?_
        exact hL (i + 4, h_13) hv (cells + 1) (slots + 6) (show (0 : Int) ≤ i + 4 by omega) (show i + 4 ≤ (2052 : Int) by omega) (show cells + 1 ≤ 1000 + (i + 4).toNat by omega) (show slots + 6 ≤ 20000 + 6 * (i + 4).toNat by omega) v_16 zh_13
      · replace hv := hv.2 hc
        refine z_iconst (pc := 865) X d_LW_law_865 ?_
        exact hv.elim
  · replace hv := hv.2 hc
    refine z_iconst (pc := 848) X d_LW_law_848 ?_
    exact hv.elim
def C_LW_law_870 (N : Nat) (xs : Nat → Int32) (L : Int × zH → Prop) (i : Int) (h : zH) : Prop :=
  zr (i + 1) ∧ ((0 ≤ i + 1 ∧ i + 1 < (N : Int)) ∧ (M_LW_remove 0 ((xs (i + 1).toNat).toInt) 220 h (fun r_4 h_3 => zr (i + 1) ∧ ((0 ≤ i + 1 ∧ i + 1 < (N : Int)) ∧ (M_RM_remove 197 ((xs (i + 1).toNat).toInt) h_3 (fun r_8 h_7 => M_RM_thrown 197 h_7 (fun r_10 h_9 => (r_10 = r_4 → ((r_4 ≠ 0 → (zr (i + 4) ∧ (L (i + 4, h_9)))) ∧ (r_4 = 0 → ((h_9 220 0 = r_8 → (zr (i + 4) ∧ (L (i + 4, h_9)))) ∧ (h_9 220 0 ≠ r_8 → (False)))))) ∧ (r_10 ≠ r_4 → (False)))))))))
set_option maxHeartbeats 4000000 in
set_option maxRecDepth 100000 in
theorem sc_LW_law_870 {p : Program} {l : Launch} {e : Env} {s : State} {m : MethodId} {below : List Frame} {meth : Method} {c : Code} {b N : Nat} {xs : Nat → Int32} {g : zG} (C : zLC p l s m meth c b N xs g) (hN : N ≤ 2048) (oX : zO 221 0 10) (oM : zO 221 197 11) (oO : zO 221 220 16) (rfl_ln : zln 220 = 1) {L : Int × zH → Prop} (hL : ∀ q : Int × zH, L q → ∀ cells slots : Nat, 0 ≤ q.1 → q.1 ≤ 2052 → cells ≤ 1000 + q.1.toNat → slots ≤ 20000 + 6 * q.1.toNat → zr q.1 → zh q.2 → zW (zWl p l e s m below meth c b cells slots) m 8 g 221 s.heap 23 [(0, .ref b), (1, .ref (g.2.2 0)), (2, .ref (g.2.2 197)), (3, .ref (g.2.2 220)), (4, zi q.1)] [] q.2) {i : Int} {h : zH} {cells slots : Nat} (hi0 : 0 ≤ i) (hi4 : i ≤ (N : Int) - 4) (hcb : cells ≤ 1000 + i.toNat) (hsb : slots ≤ 20000 + 6 * i.toNat) (ri : zr i) (hh : zh h) (hv : C_LW_law_870 N xs L i h) : zW (zWl p l e s m below meth c b cells slots) m 8 g 221 s.heap 870 [(0, .ref b), (1, .ref (g.2.2 0)), (2, .ref (g.2.2 197)), (3, .ref (g.2.2 220)), (4, zi i)] [] h := by
  unfold C_LW_law_870 at hv
  have rN : zr (N : Int) := by omega
  have hce : cells ≤ 601024 := by omega
  have hsl : slots ≤ 7293034 := by omega
  have X := zXl (e := e) (below := below) C hce hsl
  refine z_aload_n (pc := 870) (q := 1) X d_LW_law_870 rfl ?_
  refine z_aload_n (pc := 871) (q := 0) X d_LW_law_871 rfl ?_
  refine z_iload (pc := 872) (q := 4) X d_LW_law_872 rfl ?_
  refine z_iconst (pc := 874) X d_LW_law_874 ?_
  obtain ⟨v_1, hv⟩ := hv
  refine z_iadd (pc := 875) X d_LW_law_875 ?_
  obtain ⟨v_2, hv⟩ := hv
  refine z_sld (pc := 876) C v_1 v_2 d_LW_law_876 ?_
  refine z_aload_n (pc := 877) (q := 3) X d_LW_law_877 rfl ?_
  refine z_callH (k := 3) (pc := 878) (As := [.ref (g.2.2 0), zi ((xs (i + 1).toNat).toInt), .ref (g.2.2 220)]) (rest := []) C (by omega) (by omega) (fun l hl => c_LW_remove hl oX (zr_int _) oO hh hv) q761 q0 q762w (by decide +kernel) q760 ⟨⟨by decide, by decide⟩, rfl, rfl⟩ rfl d_LW_law_878 rfl (Nat.le_of_ble_eq_true rfl) (fun r_4 h_3 rr_4 zh_3 hv => ?_)
  have hce1 : cells + 1 ≤ 601024 := by omega
  have hsl1 : slots + 6 ≤ 7293034 := by omega
  have X := zXl (e := e) (below := below) C hce1 hsl1
  refine z_istore (pc := 881) (lv' := [(5, zi r_4), (0, .ref b), (1, .ref (g.2.2 0)), (2, .ref (g.2.2 197)), (3, .ref (g.2.2 220)), (4, zi i)]) X d_LW_law_881 (by decide) rfl ?_
  refine z_aload_n (pc := 883) (q := 3) X d_LW_law_883 rfl ?_
  refine z_aload_n (pc := 884) (q := 1) X d_LW_law_884 rfl ?_
  refine z_iload (pc := 885) (q := 5) X d_LW_law_885 rfl ?_
  refine z_iconst (pc := 887) X d_LW_law_887 ?_
  obtain ⟨v_5, hv⟩ := hv
  refine z_iadd (pc := 888) X d_LW_law_888 ?_
  obtain ⟨v_6, hv⟩ := hv
  refine z_sld (pc := 889) C v_5 v_6 d_LW_law_889 ?_
  refine z_callVi (pc := 890) (As := [zi ((xs (i + 1).toNat).toInt)]) (rest := []) X (fun l hl => c_RM_remove hl oM (zr_int _) zh_3 hv) cf_RM oM rfl mf_RM_remove q1251 ⟨⟨by decide, by decide⟩, rfl, rfl⟩ rfl d_LW_law_890 rfl (Nat.le_of_ble_eq_true rfl) (fun r_8 h_7 rr_8 zh_7 hv => ?_)
  refine z_istore (pc := 893) (lv' := [(6, zi r_8), (5, zi r_4), (0, .ref b), (1, .ref (g.2.2 0)), (2, .ref (g.2.2 197)), (3, .ref (g.2.2 220)), (4, zi i)]) X d_LW_law_893 (by decide) rfl ?_
  refine z_aload_n (pc := 895) (q := 4) X d_LW_law_895 rfl ?_
  refine z_callVi (pc := 896) (As := []) (rest := []) X (fun l hl => c_RM_thrown hl oM zh_7 hv) cf_RM oM rfl mf_RM_thrown q1118 ⟨⟨by decide, by decide⟩, rfl, rfl⟩ rfl d_LW_law_896 rfl (Nat.le_of_ble_eq_true rfl) (fun r_10 h_9 rr_10 zh_9 hv => ?_)
  refine z_iload (pc := 899) (q := 1) X d_LW_law_899 rfl ?_
  refine z_icmp_eq (pc := 901) (tgt := 906) X rr_10 rr_4 d_LW_law_901 (by decide) (fun hc => ?_) (fun hc => ?_)
  · replace hv := hv.1 hc
    refine z_iload (pc := 906) (q := 1) X d_LW_law_906 rfl ?_
    refine z_if_ne (pc := 908) (tgt := 923) X rr_4 d_LW_law_908 (by decide) (fun hc => ?_) (fun hc => ?_)
    · replace hv := hv.1 hc
      refine z_goto (pc := 923) (tgt := 1964) X d_LW_law_923 (by decide) ?_
      obtain ⟨v_11, hv⟩ := hv
      refine z_iinc (pc := 1964) (q := 6) (lv' := [(4, zi (i + 4)), (6, zi r_8), (5, zi r_4), (0, .ref b), (1, .ref (g.2.2 0)), (2, .ref (g.2.2 197)), (3, .ref (g.2.2 220))]) X d_LW_law_1964 rfl (by decide) rfl ?_
      refine z_goto (pc := 1967) (tgt := 23) X d_LW_law_1967 (by decide) ?_
      refine z_perm [3, 4, 5, 6, 0] rfl ?_
      exact hL (i + 4, h_9) hv (cells + 1) (slots + 6) (show (0 : Int) ≤ i + 4 by omega) (show i + 4 ≤ (2052 : Int) by omega) (show cells + 1 ≤ 1000 + (i + 4).toNat by omega) (show slots + 6 ≤ 20000 + 6 * (i + 4).toNat by omega) v_11 zh_9
    · replace hv := hv.2 hc
      refine z_aload_n (pc := 911) (q := 5) X d_LW_law_911 rfl ?_
      refine z_iconst (pc := 912) X d_LW_law_912 ?_
      refine z_laldj (pc := 913) (j := 0) X oO rfl_ln (show zr 0 from by decide) ⟨by decide, by decide⟩ rfl d_LW_law_913 ?_
      refine z_iload (pc := 914) (q := 0) X d_LW_law_914 rfl ?_
      refine z_i2l (pc := 916) X rr_8 d_LW_law_916 ?_
      refine z_lif_eq (pc := 917) (tgt := 923) X (zh_9.2 _) (zr_l rr_8) d_LW_law_917 d_LW_law_918 (by decide) (fun hc => ?_) (fun hc => ?_)
      · replace hv := hv.1 hc
        refine z_goto (pc := 923) (tgt := 1964) X d_LW_law_923 (by decide) ?_
        obtain ⟨v_12, hv⟩ := hv
        refine z_iinc (pc := 1964) (q := 6) (lv' := [(4, zi (i + 4)), (6, zi r_8), (5, zi r_4), (0, .ref b), (1, .ref (g.2.2 0)), (2, .ref (g.2.2 197)), (3, .ref (g.2.2 220))]) X d_LW_law_1964 rfl (by decide) rfl ?_
        refine z_goto (pc := 1967) (tgt := 23) X d_LW_law_1967 (by decide) ?_
        refine z_perm [3, 4, 5, 6, 0] rfl ?_
        exact hL (i + 4, h_9) hv (cells + 1) (slots + 6) (show (0 : Int) ≤ i + 4 by omega) (show i + 4 ≤ (2052 : Int) by omega) (show cells + 1 ≤ 1000 + (i + 4).toNat by omega) (show slots + 6 ≤ 20000 + 6 * (i + 4).toNat by omega) v_12 zh_9
      · replace hv := hv.2 hc
        refine z_iconst (pc := 921) X d_LW_law_921 ?_
        exact hv.elim
  · replace hv := hv.2 hc
    refine z_iconst (pc := 904) X d_LW_law_904 ?_
    exact hv.elim
def C_LW_law_926 (N : Nat) (xs : Nat → Int32) (L : Int × zH → Prop) (i : Int) (h : zH) : Prop :=
  M_LW_encode 0 220 h (fun r_2 h_1 => M_RM_encode 197 h_1 (fun r_4 h_3 => M_RM_thrown 197 h_3 (fun r_6 h_5 => (r_6 = r_2 → ((r_2 ≠ 0 → (zr (i + 4) ∧ (L (i + 4, h_5)))) ∧ (r_2 = 0 → ((h_5 220 0 = r_4 → (zr (i + 4) ∧ (L (i + 4, h_5)))) ∧ (h_5 220 0 ≠ r_4 → (False)))))) ∧ (r_6 ≠ r_2 → (False)))))
set_option maxHeartbeats 4000000 in
set_option maxRecDepth 100000 in
theorem sc_LW_law_926 {p : Program} {l : Launch} {e : Env} {s : State} {m : MethodId} {below : List Frame} {meth : Method} {c : Code} {b N : Nat} {xs : Nat → Int32} {g : zG} (C : zLC p l s m meth c b N xs g) (hN : N ≤ 2048) (oX : zO 221 0 10) (oM : zO 221 197 11) (oO : zO 221 220 16) (rfl_ln : zln 220 = 1) {L : Int × zH → Prop} (hL : ∀ q : Int × zH, L q → ∀ cells slots : Nat, 0 ≤ q.1 → q.1 ≤ 2052 → cells ≤ 1000 + q.1.toNat → slots ≤ 20000 + 6 * q.1.toNat → zr q.1 → zh q.2 → zW (zWl p l e s m below meth c b cells slots) m 8 g 221 s.heap 23 [(0, .ref b), (1, .ref (g.2.2 0)), (2, .ref (g.2.2 197)), (3, .ref (g.2.2 220)), (4, zi q.1)] [] q.2) {i : Int} {h : zH} {cells slots : Nat} (hi0 : 0 ≤ i) (hi4 : i ≤ (N : Int) - 4) (hcb : cells ≤ 1000 + i.toNat) (hsb : slots ≤ 20000 + 6 * i.toNat) (ri : zr i) (hh : zh h) (hv : C_LW_law_926 N xs L i h) : zW (zWl p l e s m below meth c b cells slots) m 8 g 221 s.heap 926 [(0, .ref b), (1, .ref (g.2.2 0)), (2, .ref (g.2.2 197)), (3, .ref (g.2.2 220)), (4, zi i)] [] h := by
  unfold C_LW_law_926 at hv
  have rN : zr (N : Int) := by omega
  have hce : cells ≤ 601024 := by omega
  have hsl : slots ≤ 7293034 := by omega
  have X := zXl (e := e) (below := below) C hce hsl
  refine z_aload_n (pc := 926) (q := 1) X d_LW_law_926 rfl ?_
  refine z_aload_n (pc := 927) (q := 3) X d_LW_law_927 rfl ?_
  refine z_callH (k := 2) (pc := 928) (As := [.ref (g.2.2 0), .ref (g.2.2 220)]) (rest := []) C (by omega) (by omega) (fun l hl => c_LW_encode hl oX oO hh hv) q773 q0 q774w (by decide +kernel) q772 ⟨⟨by decide, by decide⟩, rfl, rfl⟩ rfl d_LW_law_928 rfl (Nat.le_of_ble_eq_true rfl) (fun r_2 h_1 rr_2 zh_1 hv => ?_)
  have hce1 : cells + 1 ≤ 601024 := by omega
  have hsl1 : slots + 6 ≤ 7293034 := by omega
  have X := zXl (e := e) (below := below) C hce1 hsl1
  refine z_istore (pc := 931) (lv' := [(5, zi r_2), (0, .ref b), (1, .ref (g.2.2 0)), (2, .ref (g.2.2 197)), (3, .ref (g.2.2 220)), (4, zi i)]) X d_LW_law_931 (by decide) rfl ?_
  refine z_aload_n (pc := 933) (q := 3) X d_LW_law_933 rfl ?_
  refine z_callVi (pc := 934) (As := []) (rest := []) X (fun l hl => c_RM_encode hl oM zh_1 hv) cf_RM oM rfl mf_RM_encode q1258 ⟨⟨by decide, by decide⟩, rfl, rfl⟩ rfl d_LW_law_934 rfl (Nat.le_of_ble_eq_true rfl) (fun r_4 h_3 rr_4 zh_3 hv => ?_)
  refine z_istore (pc := 937) (lv' := [(6, zi r_4), (5, zi r_2), (0, .ref b), (1, .ref (g.2.2 0)), (2, .ref (g.2.2 197)), (3, .ref (g.2.2 220)), (4, zi i)]) X d_LW_law_937 (by decide) rfl ?_
  refine z_aload_n (pc := 939) (q := 4) X d_LW_law_939 rfl ?_
  refine z_callVi (pc := 940) (As := []) (rest := []) X (fun l hl => c_RM_thrown hl oM zh_3 hv) cf_RM oM rfl mf_RM_thrown q1118 ⟨⟨by decide, by decide⟩, rfl, rfl⟩ rfl d_LW_law_940 rfl (Nat.le_of_ble_eq_true rfl) (fun r_6 h_5 rr_6 zh_5 hv => ?_)
  refine z_iload (pc := 943) (q := 1) X d_LW_law_943 rfl ?_
  refine z_icmp_eq (pc := 945) (tgt := 950) X rr_6 rr_2 d_LW_law_945 (by decide) (fun hc => ?_) (fun hc => ?_)
  · replace hv := hv.1 hc
    refine z_iload (pc := 950) (q := 1) X d_LW_law_950 rfl ?_
    refine z_if_ne (pc := 952) (tgt := 967) X rr_2 d_LW_law_952 (by decide) (fun hc => ?_) (fun hc => ?_)
    · replace hv := hv.1 hc
      refine z_goto (pc := 967) (tgt := 1964) X d_LW_law_967 (by decide) ?_
      obtain ⟨v_7, hv⟩ := hv
      refine z_iinc (pc := 1964) (q := 6) (lv' := [(4, zi (i + 4)), (6, zi r_4), (5, zi r_2), (0, .ref b), (1, .ref (g.2.2 0)), (2, .ref (g.2.2 197)), (3, .ref (g.2.2 220))]) X d_LW_law_1964 rfl (by decide) rfl ?_
      refine z_goto (pc := 1967) (tgt := 23) X d_LW_law_1967 (by decide) ?_
      refine z_perm [3, 4, 5, 6, 0] rfl ?_
      exact hL (i + 4, h_5) hv (cells + 1) (slots + 6) (show (0 : Int) ≤ i + 4 by omega) (show i + 4 ≤ (2052 : Int) by omega) (show cells + 1 ≤ 1000 + (i + 4).toNat by omega) (show slots + 6 ≤ 20000 + 6 * (i + 4).toNat by omega) v_7 zh_5
    · replace hv := hv.2 hc
      refine z_aload_n (pc := 955) (q := 5) X d_LW_law_955 rfl ?_
      refine z_iconst (pc := 956) X d_LW_law_956 ?_
      refine z_laldj (pc := 957) (j := 0) X oO rfl_ln (show zr 0 from by decide) ⟨by decide, by decide⟩ rfl d_LW_law_957 ?_
      refine z_iload (pc := 958) (q := 0) X d_LW_law_958 rfl ?_
      refine z_i2l (pc := 960) X rr_4 d_LW_law_960 ?_
      refine z_lif_eq (pc := 961) (tgt := 967) X (zh_5.2 _) (zr_l rr_4) d_LW_law_961 d_LW_law_962 (by decide) (fun hc => ?_) (fun hc => ?_)
      · replace hv := hv.1 hc
        refine z_goto (pc := 967) (tgt := 1964) X d_LW_law_967 (by decide) ?_
        obtain ⟨v_8, hv⟩ := hv
        refine z_iinc (pc := 1964) (q := 6) (lv' := [(4, zi (i + 4)), (6, zi r_4), (5, zi r_2), (0, .ref b), (1, .ref (g.2.2 0)), (2, .ref (g.2.2 197)), (3, .ref (g.2.2 220))]) X d_LW_law_1964 rfl (by decide) rfl ?_
        refine z_goto (pc := 1967) (tgt := 23) X d_LW_law_1967 (by decide) ?_
        refine z_perm [3, 4, 5, 6, 0] rfl ?_
        exact hL (i + 4, h_5) hv (cells + 1) (slots + 6) (show (0 : Int) ≤ i + 4 by omega) (show i + 4 ≤ (2052 : Int) by omega) (show cells + 1 ≤ 1000 + (i + 4).toNat by omega) (show slots + 6 ≤ 20000 + 6 * (i + 4).toNat by omega) v_8 zh_5
      · replace hv := hv.2 hc
        refine z_iconst (pc := 965) X d_LW_law_965 ?_
        exact hv.elim
  · replace hv := hv.2 hc
    refine z_iconst (pc := 948) X d_LW_law_948 ?_
    exact hv.elim
def C_LW_law_970 (N : Nat) (xs : Nat → Int32) (L : Int × zH → Prop) (i : Int) (h : zH) : Prop :=
  M_LW_decode 0 220 h (fun r_2 h_1 => M_RM_decode 197 h_1 (fun r_4 h_3 => M_RM_thrown 197 h_3 (fun r_6 h_5 => (r_6 = r_2 → ((r_2 ≠ 0 → (zr (i + 4) ∧ (L (i + 4, h_5)))) ∧ (r_2 = 0 → ((h_5 220 0 = r_4 → (zr (i + 4) ∧ (L (i + 4, h_5)))) ∧ (h_5 220 0 ≠ r_4 → (False)))))) ∧ (r_6 ≠ r_2 → (False)))))
set_option maxHeartbeats 4000000 in
set_option maxRecDepth 100000 in
theorem sc_LW_law_970 {p : Program} {l : Launch} {e : Env} {s : State} {m : MethodId} {below : List Frame} {meth : Method} {c : Code} {b N : Nat} {xs : Nat → Int32} {g : zG} (C : zLC p l s m meth c b N xs g) (hN : N ≤ 2048) (oX : zO 221 0 10) (oM : zO 221 197 11) (oO : zO 221 220 16) (rfl_ln : zln 220 = 1) {L : Int × zH → Prop} (hL : ∀ q : Int × zH, L q → ∀ cells slots : Nat, 0 ≤ q.1 → q.1 ≤ 2052 → cells ≤ 1000 + q.1.toNat → slots ≤ 20000 + 6 * q.1.toNat → zr q.1 → zh q.2 → zW (zWl p l e s m below meth c b cells slots) m 8 g 221 s.heap 23 [(0, .ref b), (1, .ref (g.2.2 0)), (2, .ref (g.2.2 197)), (3, .ref (g.2.2 220)), (4, zi q.1)] [] q.2) {i : Int} {h : zH} {cells slots : Nat} (hi0 : 0 ≤ i) (hi4 : i ≤ (N : Int) - 4) (hcb : cells ≤ 1000 + i.toNat) (hsb : slots ≤ 20000 + 6 * i.toNat) (ri : zr i) (hh : zh h) (hv : C_LW_law_970 N xs L i h) : zW (zWl p l e s m below meth c b cells slots) m 8 g 221 s.heap 970 [(0, .ref b), (1, .ref (g.2.2 0)), (2, .ref (g.2.2 197)), (3, .ref (g.2.2 220)), (4, zi i)] [] h := by
  unfold C_LW_law_970 at hv
  have rN : zr (N : Int) := by omega
  have hce : cells ≤ 601024 := by omega
  have hsl : slots ≤ 7293034 := by omega
  have X := zXl (e := e) (below := below) C hce hsl
  refine z_aload_n (pc := 970) (q := 1) X d_LW_law_970 rfl ?_
  refine z_aload_n (pc := 971) (q := 3) X d_LW_law_971 rfl ?_
  refine z_callH (k := 2) (pc := 972) (As := [.ref (g.2.2 0), .ref (g.2.2 220)]) (rest := []) C (by omega) (by omega) (fun l hl => c_LW_decode hl oX oO hh hv) q802 q0 q803w (by decide +kernel) q801 ⟨⟨by decide, by decide⟩, rfl, rfl⟩ rfl d_LW_law_972 rfl (Nat.le_of_ble_eq_true rfl) (fun r_2 h_1 rr_2 zh_1 hv => ?_)
  have hce1 : cells + 1 ≤ 601024 := by omega
  have hsl1 : slots + 6 ≤ 7293034 := by omega
  have X := zXl (e := e) (below := below) C hce1 hsl1
  refine z_istore (pc := 975) (lv' := [(5, zi r_2), (0, .ref b), (1, .ref (g.2.2 0)), (2, .ref (g.2.2 197)), (3, .ref (g.2.2 220)), (4, zi i)]) X d_LW_law_975 (by decide) rfl ?_
  refine z_aload_n (pc := 977) (q := 3) X d_LW_law_977 rfl ?_
  refine z_callVi (pc := 978) (As := []) (rest := []) X (fun l hl => c_RM_decode hl oM zh_1 hv) cf_RM oM rfl mf_RM_decode q1274 ⟨⟨by decide, by decide⟩, rfl, rfl⟩ rfl d_LW_law_978 rfl (Nat.le_of_ble_eq_true rfl) (fun r_4 h_3 rr_4 zh_3 hv => ?_)
  refine z_istore (pc := 981) (lv' := [(6, zi r_4), (5, zi r_2), (0, .ref b), (1, .ref (g.2.2 0)), (2, .ref (g.2.2 197)), (3, .ref (g.2.2 220)), (4, zi i)]) X d_LW_law_981 (by decide) rfl ?_
  refine z_aload_n (pc := 983) (q := 4) X d_LW_law_983 rfl ?_
  refine z_callVi (pc := 984) (As := []) (rest := []) X (fun l hl => c_RM_thrown hl oM zh_3 hv) cf_RM oM rfl mf_RM_thrown q1118 ⟨⟨by decide, by decide⟩, rfl, rfl⟩ rfl d_LW_law_984 rfl (Nat.le_of_ble_eq_true rfl) (fun r_6 h_5 rr_6 zh_5 hv => ?_)
  refine z_iload (pc := 987) (q := 1) X d_LW_law_987 rfl ?_
  refine z_icmp_eq (pc := 989) (tgt := 994) X rr_6 rr_2 d_LW_law_989 (by decide) (fun hc => ?_) (fun hc => ?_)
  · replace hv := hv.1 hc
    refine z_iload (pc := 994) (q := 1) X d_LW_law_994 rfl ?_
    refine z_if_ne (pc := 996) (tgt := 1011) X rr_2 d_LW_law_996 (by decide) (fun hc => ?_) (fun hc => ?_)
    · replace hv := hv.1 hc
      refine z_goto (pc := 1011) (tgt := 1964) X d_LW_law_1011 (by decide) ?_
      obtain ⟨v_7, hv⟩ := hv
      refine z_iinc (pc := 1964) (q := 6) (lv' := [(4, zi (i + 4)), (6, zi r_4), (5, zi r_2), (0, .ref b), (1, .ref (g.2.2 0)), (2, .ref (g.2.2 197)), (3, .ref (g.2.2 220))]) X d_LW_law_1964 rfl (by decide) rfl ?_
      refine z_goto (pc := 1967) (tgt := 23) X d_LW_law_1967 (by decide) ?_
      refine z_perm [3, 4, 5, 6, 0] rfl ?_
      exact hL (i + 4, h_5) hv (cells + 1) (slots + 6) (show (0 : Int) ≤ i + 4 by omega) (show i + 4 ≤ (2052 : Int) by omega) (show cells + 1 ≤ 1000 + (i + 4).toNat by omega) (show slots + 6 ≤ 20000 + 6 * (i + 4).toNat by omega) v_7 zh_5
    · replace hv := hv.2 hc
      refine z_aload_n (pc := 999) (q := 5) X d_LW_law_999 rfl ?_
      refine z_iconst (pc := 1000) X d_LW_law_1000 ?_
      refine z_laldj (pc := 1001) (j := 0) X oO rfl_ln (show zr 0 from by decide) ⟨by decide, by decide⟩ rfl d_LW_law_1001 ?_
      refine z_iload (pc := 1002) (q := 0) X d_LW_law_1002 rfl ?_
      refine z_i2l (pc := 1004) X rr_4 d_LW_law_1004 ?_
      refine z_lif_eq (pc := 1005) (tgt := 1011) X (zh_5.2 _) (zr_l rr_4) d_LW_law_1005 d_LW_law_1006 (by decide) (fun hc => ?_) (fun hc => ?_)
      · replace hv := hv.1 hc
        refine z_goto (pc := 1011) (tgt := 1964) X d_LW_law_1011 (by decide) ?_
        obtain ⟨v_8, hv⟩ := hv
        refine z_iinc (pc := 1964) (q := 6) (lv' := [(4, zi (i + 4)), (6, zi r_4), (5, zi r_2), (0, .ref b), (1, .ref (g.2.2 0)), (2, .ref (g.2.2 197)), (3, .ref (g.2.2 220))]) X d_LW_law_1964 rfl (by decide) rfl ?_
        refine z_goto (pc := 1967) (tgt := 23) X d_LW_law_1967 (by decide) ?_
        refine z_perm [3, 4, 5, 6, 0] rfl ?_
        exact hL (i + 4, h_5) hv (cells + 1) (slots + 6) (show (0 : Int) ≤ i + 4 by omega) (show i + 4 ≤ (2052 : Int) by omega) (show cells + 1 ≤ 1000 + (i + 4).toNat by omega) (show slots + 6 ≤ 20000 + 6 * (i + 4).toNat by omega) v_8 zh_5
      · replace hv := hv.2 hc
        refine z_iconst (pc := 1009) X d_LW_law_1009 ?_
        exact hv.elim
  · replace hv := hv.2 hc
    refine z_iconst (pc := 992) X d_LW_law_992 ?_
    exact hv.elim
def C_LW_law_1014 (N : Nat) (xs : Nat → Int32) (L : Int × zH → Prop) (i : Int) (h : zH) : Prop :=
  zr (i + 1) ∧ ((0 ≤ i + 1 ∧ i + 1 < (N : Int)) ∧ (zr (i + 2) ∧ ((0 ≤ i + 2 ∧ i + 2 < (N : Int)) ∧ (M_LW_setDigit 0 ((xs (i + 1).toNat).toInt) ((xs (i + 2).toNat).toInt) 220 h (fun r_6 h_5 => zr (i + 1) ∧ ((0 ≤ i + 1 ∧ i + 1 < (N : Int)) ∧ (zr (i + 2) ∧ ((0 ≤ i + 2 ∧ i + 2 < (N : Int)) ∧ (M_RM_setDigit 197 ((xs (i + 1).toNat).toInt) ((xs (i + 2).toNat).toInt) h_5 (fun r_12 h_11 => M_RM_thrown 197 h_11 (fun r_14 h_13 => (r_14 = r_6 → ((r_6 ≠ 0 → (zr (i + 4) ∧ (L (i + 4, h_13)))) ∧ (r_6 = 0 → ((h_13 220 0 = r_12 → (zr (i + 4) ∧ (L (i + 4, h_13)))) ∧ (h_13 220 0 ≠ r_12 → (False)))))) ∧ (r_14 ≠ r_6 → (False)))))))))))))
set_option maxHeartbeats 4000000 in
set_option maxRecDepth 100000 in
theorem sc_LW_law_1014 {p : Program} {l : Launch} {e : Env} {s : State} {m : MethodId} {below : List Frame} {meth : Method} {c : Code} {b N : Nat} {xs : Nat → Int32} {g : zG} (C : zLC p l s m meth c b N xs g) (hN : N ≤ 2048) (oX : zO 221 0 10) (oM : zO 221 197 11) (oO : zO 221 220 16) (rfl_ln : zln 220 = 1) {L : Int × zH → Prop} (hL : ∀ q : Int × zH, L q → ∀ cells slots : Nat, 0 ≤ q.1 → q.1 ≤ 2052 → cells ≤ 1000 + q.1.toNat → slots ≤ 20000 + 6 * q.1.toNat → zr q.1 → zh q.2 → zW (zWl p l e s m below meth c b cells slots) m 8 g 221 s.heap 23 [(0, .ref b), (1, .ref (g.2.2 0)), (2, .ref (g.2.2 197)), (3, .ref (g.2.2 220)), (4, zi q.1)] [] q.2) {i : Int} {h : zH} {cells slots : Nat} (hi0 : 0 ≤ i) (hi4 : i ≤ (N : Int) - 4) (hcb : cells ≤ 1000 + i.toNat) (hsb : slots ≤ 20000 + 6 * i.toNat) (ri : zr i) (hh : zh h) (hv : C_LW_law_1014 N xs L i h) : zW (zWl p l e s m below meth c b cells slots) m 8 g 221 s.heap 1014 [(0, .ref b), (1, .ref (g.2.2 0)), (2, .ref (g.2.2 197)), (3, .ref (g.2.2 220)), (4, zi i)] [] h := by
  unfold C_LW_law_1014 at hv
  have rN : zr (N : Int) := by omega
  have hce : cells ≤ 601024 := by omega
  have hsl : slots ≤ 7293034 := by omega
  have X := zXl (e := e) (below := below) C hce hsl
  refine z_aload_n (pc := 1014) (q := 1) X d_LW_law_1014 rfl ?_
  refine z_aload_n (pc := 1015) (q := 0) X d_LW_law_1015 rfl ?_
  refine z_iload (pc := 1016) (q := 4) X d_LW_law_1016 rfl ?_
  refine z_iconst (pc := 1018) X d_LW_law_1018 ?_
  obtain ⟨v_1, hv⟩ := hv
  refine z_iadd (pc := 1019) X d_LW_law_1019 ?_
  obtain ⟨v_2, hv⟩ := hv
  refine z_sld (pc := 1020) C v_1 v_2 d_LW_law_1020 ?_
  refine z_aload_n (pc := 1021) (q := 0) X d_LW_law_1021 rfl ?_
  refine z_iload (pc := 1022) (q := 4) X d_LW_law_1022 rfl ?_
  refine z_iconst (pc := 1024) X d_LW_law_1024 ?_
  obtain ⟨v_3, hv⟩ := hv
  refine z_iadd (pc := 1025) X d_LW_law_1025 ?_
  obtain ⟨v_4, hv⟩ := hv
  refine z_sld (pc := 1026) C v_3 v_4 d_LW_law_1026 ?_
  refine z_aload_n (pc := 1027) (q := 3) X d_LW_law_1027 rfl ?_
  refine z_callH (k := 4) (pc := 1028) (As := [.ref (g.2.2 0), zi ((xs (i + 1).toNat).toInt), zi ((xs (i + 2).toNat).toInt), .ref (g.2.2 220)]) (rest := []) C (by omega) (by omega) (fun l hl => c_LW_setDigit hl oX (zr_int _) (zr_int _) oO hh hv) q819 q0 q820w (by decide +kernel) q818 ⟨⟨by decide, by decide⟩, rfl, rfl⟩ rfl d_LW_law_1028 rfl (Nat.le_of_ble_eq_true rfl) (fun r_6 h_5 rr_6 zh_5 hv => ?_)
  have hce1 : cells + 1 ≤ 601024 := by omega
  have hsl1 : slots + 6 ≤ 7293034 := by omega
  have X := zXl (e := e) (below := below) C hce1 hsl1
  refine z_istore (pc := 1031) (lv' := [(5, zi r_6), (0, .ref b), (1, .ref (g.2.2 0)), (2, .ref (g.2.2 197)), (3, .ref (g.2.2 220)), (4, zi i)]) X d_LW_law_1031 (by decide) rfl ?_
  refine z_aload_n (pc := 1033) (q := 3) X d_LW_law_1033 rfl ?_
  refine z_aload_n (pc := 1034) (q := 1) X d_LW_law_1034 rfl ?_
  refine z_iload (pc := 1035) (q := 5) X d_LW_law_1035 rfl ?_
  refine z_iconst (pc := 1037) X d_LW_law_1037 ?_
  obtain ⟨v_7, hv⟩ := hv
  refine z_iadd (pc := 1038) X d_LW_law_1038 ?_
  obtain ⟨v_8, hv⟩ := hv
  refine z_sld (pc := 1039) C v_7 v_8 d_LW_law_1039 ?_
  refine z_aload_n (pc := 1040) (q := 1) X d_LW_law_1040 rfl ?_
  refine z_iload (pc := 1041) (q := 5) X d_LW_law_1041 rfl ?_
  refine z_iconst (pc := 1043) X d_LW_law_1043 ?_
  obtain ⟨v_9, hv⟩ := hv
  refine z_iadd (pc := 1044) X d_LW_law_1044 ?_
  obtain ⟨v_10, hv⟩ := hv
  refine z_sld (pc := 1045) C v_9 v_10 d_LW_law_1045 ?_
  refine z_callVi (pc := 1046) (As := [zi ((xs (i + 1).toNat).toInt), zi ((xs (i + 2).toNat).toInt)]) (rest := []) X (fun l hl => c_RM_setDigit hl oM (zr_int _) (zr_int _) zh_5 hv) cf_RM oM rfl mf_RM_setDigit q1294 ⟨⟨by decide, by decide⟩, rfl, rfl⟩ rfl d_LW_law_1046 rfl (Nat.le_of_ble_eq_true rfl) (fun r_12 h_11 rr_12 zh_11 hv => ?_)
  refine z_istore (pc := 1049) (lv' := [(6, zi r_12), (5, zi r_6), (0, .ref b), (1, .ref (g.2.2 0)), (2, .ref (g.2.2 197)), (3, .ref (g.2.2 220)), (4, zi i)]) X d_LW_law_1049 (by decide) rfl ?_
  refine z_aload_n (pc := 1051) (q := 4) X d_LW_law_1051 rfl ?_
  refine z_callVi (pc := 1052) (As := []) (rest := []) X (fun l hl => c_RM_thrown hl oM zh_11 hv) cf_RM oM rfl mf_RM_thrown q1118 ⟨⟨by decide, by decide⟩, rfl, rfl⟩ rfl d_LW_law_1052 rfl (Nat.le_of_ble_eq_true rfl) (fun r_14 h_13 rr_14 zh_13 hv => ?_)
  refine z_iload (pc := 1055) (q := 1) X d_LW_law_1055 rfl ?_
  refine z_icmp_eq (pc := 1057) (tgt := 1062) X rr_14 rr_6 d_LW_law_1057 (by decide) (fun hc => ?_) (fun hc => ?_)
  · replace hv := hv.1 hc
    refine z_iload (pc := 1062) (q := 1) X d_LW_law_1062 rfl ?_
    refine z_if_ne (pc := 1064) (tgt := 1079) X rr_6 d_LW_law_1064 (by decide) (fun hc => ?_) (fun hc => ?_)
    · replace hv := hv.1 hc
      refine z_goto (pc := 1079) (tgt := 1964) X d_LW_law_1079 (by decide) ?_
      obtain ⟨v_15, hv⟩ := hv
      refine z_iinc (pc := 1964) (q := 6) (lv' := [(4, zi (i + 4)), (6, zi r_12), (5, zi r_6), (0, .ref b), (1, .ref (g.2.2 0)), (2, .ref (g.2.2 197)), (3, .ref (g.2.2 220))]) X d_LW_law_1964 rfl (by decide) rfl ?_
      refine z_goto (pc := 1967) (tgt := 23) X d_LW_law_1967 (by decide) ?_
      refine z_perm [3, 4, 5, 6, 0] rfl ?_
      exact hL (i + 4, h_13) hv (cells + 1) (slots + 6) (show (0 : Int) ≤ i + 4 by omega) (show i + 4 ≤ (2052 : Int) by omega) (show cells + 1 ≤ 1000 + (i + 4).toNat by omega) (show slots + 6 ≤ 20000 + 6 * (i + 4).toNat by omega) v_15 zh_13
    · replace hv := hv.2 hc
      refine z_aload_n (pc := 1067) (q := 5) X d_LW_law_1067 rfl ?_
      refine z_iconst (pc := 1068) X d_LW_law_1068 ?_
      refine z_laldj (pc := 1069) (j := 0) X oO rfl_ln (show zr 0 from by decide) ⟨by decide, by decide⟩ rfl d_LW_law_1069 ?_
      refine z_iload (pc := 1070) (q := 0) X d_LW_law_1070 rfl ?_
      refine z_i2l (pc := 1072) X rr_12 d_LW_law_1072 ?_
      refine z_lif_eq (pc := 1073) (tgt := 1079) X (zh_13.2 _) (zr_l rr_12) d_LW_law_1073 d_LW_law_1074 (by decide) (fun hc => ?_) (fun hc => ?_)
      · replace hv := hv.1 hc
        refine z_goto (pc := 1079) (tgt := 1964) X d_LW_law_1079 (by decide) ?_
        obtain ⟨v_16, hv⟩ := hv
        refine z_iinc (pc := 1964) (q := 6) (lv' := [(4, zi (i + 4)), (6, zi r_12), (5, zi r_6), (0, .ref b), (1, .ref (g.2.2 0)), (2, .ref (g.2.2 197)), (3, .ref (g.2.2 220))]) X d_LW_law_1964 rfl (by decide) rfl ?_
        refine z_goto (pc := 1967) (tgt := 23) X d_LW_law_1967 (by decide) ?_
        refine z_perm [3, 4, 5, 6, 0] rfl ?_
        exact hL (i + 4, h_13) hv (cells + 1) (slots + 6) (show (0 : Int) ≤ i + 4 by omega) (show i + 4 ≤ (2052 : Int) by omega) (show cells + 1 ≤ 1000 + (i + 4).toNat by omega) (show slots + 6 ≤ 20000 + 6 * (i + 4).toNat by omega) v_16 zh_13
      · replace hv := hv.2 hc
        refine z_iconst (pc := 1077) X d_LW_law_1077 ?_
        exact hv.elim
  · replace hv := hv.2 hc
    refine z_iconst (pc := 1060) X d_LW_law_1060 ?_
    exact hv.elim

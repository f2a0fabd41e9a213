/-! load, and the calls that look -/
theorem s_layP {p1 : Nat} (hl : zln p1 = 193) (hp : p1 < 203 ∧ 197 < p1) {h : zH} {K : zH → Prop} {sc mc : Nat} {P : zP} (e4 : h 197 4 = (sc : Int)) (e5 : h 197 5 = (mc : Int)) (eP : rPg h p1 0 = P) (v : VP sc mc P) (hk : ∀ h', TR h' 197 P.1 mc → (∀ k j, k < 206 ∨ 213 < k → h' k j = h k j) → K h') : M_RM_layTables 197 p1 h K := by
  obtain ⟨⟨⟨v1, v2, v3, v4⟩, v5, v6, v7⟩, -⟩ := v
  refine s_layTables (p := 197) zl206 (by rw [hl]; decide) (by omega) ⟨v1, v2⟩ v4 e4 e5 (fun j hj => ?_) v6 v5 v7 hk
  have := rP_ct eP hj
  rw [Nat.zero_add] at this
  exact this
theorem TR_keep {h h' : zH} {c : Nat → Int} {mc : Nat} (e : ∀ a b, 206 ≤ a → a ≤ 211 → h' a b = h a b) (t : TR h 197 c mc) : TR h' 197 c mc := by
  intro m hm
  obtain ⟨t1, t2, t3⟩ := t m hm
  refine ⟨fun s hs => (e _ _ (by omega) (by omega)).trans (t1 s hs), fun b hb => ⟨(e _ _ (by omega) (by omega)).trans (t2 b hb).1, (e _ _ (by omega) (by omega)).trans (t2 b hb).2⟩, fun k hk => ?_⟩
  obtain ⟨y1, y2, y3⟩ := t3 k hk
  exact ⟨(e _ _ (by omega) (by omega)).trans y1, (e _ _ (by omega) (by omega)).trans y2, (e _ _ (by omega) (by omega)).trans y3⟩
theorem RI_lay {h h' : zH} {A : zSt} (c : RI h A) (e : ∀ k j, k < 206 ∨ 213 < k → h' k j = h k j) : RI h' A := RI_keep c (fun a b q => e a b (by omega))
def lA (P : zP) : zL := ly P.2.1 P.2.2.1.toNat
theorem VP_items {sc mc : Nat} {P : zP} (v : VP sc mc P) : ∀ j : Nat, (j : Int) < P.2.2.1 → 0 ≤ P.2.1 j ∧ P.2.1 j < 20 := by
  intro j hj
  have := v.2.2.1 j hj
  have h1 := v.1.1
  omega
theorem s_listP {q a : Nat} (hqa : q + 2 < a ∨ a + 2 < q) {h : zH} {K : zH → Prop} {sc mc : Nat} {P : zP} (v : VP sc mc P) (eP : cPg h a = P) (hk : ∀ h', LC h' q (lA P) → (∀ k j, k < q ∨ q + 2 < k → h' k j = h k j) → K h') : M_Symbols_list q a h K :=
  s_list hqa (cP_ni eP) v.2.1 (fun j hj => cP_it eP hj) (VP_items v) hk
theorem s_layMP {p1 : Nat} (hl : zln p1 = 193) (hp : 197 < p1 ∧ p1 < 203) {h : zH} {K : zH → Prop} {sc mc : Nat} {P : zP} (v : VP sc mc P) (eP : rPg h p1 0 = P) (hk : ∀ h', LR h' 197 (lA P) → (∀ k j, ¬ (k = 197 ∧ j = 31) → k ≠ 218 → k ≠ 219 → h' k j = h k j) → K h') : M_RM_layMessage 197 p1 h K :=
  s_layMessage (p := 197) hl (by omega) (by have := rP_ni eP; rw [Nat.zero_add] at this; exact this) v.2.1 (fun j hj => by have := rP_it eP hj; rw [Nat.zero_add] at this; exact this) (VP_items v) hk
theorem VL_A {sc mc : Nat} {P : zP} (v : VP sc mc P) : VL sc mc (lA P) := ly_VL v
def sp_load (A : zSt) : zOu := if rE A.tx A.len ≠ -9 then (1, 0, A) else (0, (rn A.tx A.len : Int), zAk (rsc A.tx A.len) (rM A.tx A.len) (rPage A.tx A.len) A.len A.tx 0 A.hi (fun _ => 0) A.sv)
theorem c_load {A : zSt} (v : VA A) : CS (fun h K => M_LW_load 0 220 h K) A (sp_load A) := by
  intro h K c hk
  have eo : sp_load A = if rE A.tx A.len ≠ -9 then (1, 0, A) else (0, (rn A.tx A.len : Int), zAk (rsc A.tx A.len) (rM A.tx A.len) (rPage A.tx A.len) A.len A.tx 0 A.hi (fun _ => 0) A.sv) := rfl
  generalize sp_load A = o at *
  have hm := v.1.1.1.2.2.2
  show M_LW_load 0 220 h K
  unfold M_LW_load M_AS_load
  simp only [Nat.reduceAdd]
  refine s_read (p := 1) c.2.2.2.2.1 (fun h1 f1 t1 => ⟨fun q => ?_, fun q => ⟨by trivial, ?_⟩⟩)
  · rw [if_neg (fun q2 => q2 q)] at eo
    obtain ⟨o1, o2, o3, o4, o5⟩ := t1 q
    obtain ⟨d1, d2, d3⟩ := rE_ok q
    have hv := rPage_ok q
    rintro h2 rfl h3 rfl
    rw [zs_k (show 1 ≠ 5 by decide), o1, o2]
    unfold M_State_begin M_Tape_becomeEmpty
    rintro h4 rfl h5 rfl h6 rfl h7 rfl h8 rfl h9 rfl h10 rfl
    simp only [Nat.reduceAdd]
    have e16 : zcp (zcp (zs (zs h1 5 1 (rsc A.tx A.len : Int)) 5 2 (rM A.tx A.len : Int)) 3 0 38 0 24) 4 0 39 0 40 1 6 = (rn A.tx A.len : Int) := by
      rw [zcp_k (by decide), zcp_k (by decide), zs_k (by decide), zs_k (by decide), o3]
    rw [e16]
    generalize eg : zs (zs (zs (zs (zs (zcp (zcp (zs (zs h1 5 1 (rsc A.tx A.len : Int)) 5 2 (rM A.tx A.len : Int)) 3 0 38 0 24) 4 0 39 0 40) 37 3 (rn A.tx A.len : Int)) 40 3 0) 40 4 0) 43 0 512) 43 1 512 = g
    have gF : ∀ a b, a ≠ 5 → a ≠ 37 → a ≠ 38 → a ≠ 39 → a ≠ 40 → a ≠ 43 → g a b = h1 a b := by
      intro a b q1 q2 q3 q4 q5 q6
      rw [← eg, zs_k q6, zs_k q6, zs_k q5, zs_k q5, zs_k q2, zcp_k q4, zcp_k q3, zs_k q1, zs_k q1]
    have g38 : ∀ b, b < 24 → g 38 b = cR A.tx A.len (rsc A.tx A.len) (rM A.tx A.len) b := by
      intro b hb
      rw [← eg, zs_k (by decide), zs_k (by decide), zs_k (by decide), zs_k (by decide), zs_k (by decide), zcp_k (by decide), zcp_in hb, zs_k (by decide), zs_k (by decide)]
      exact o4 b hb
    have g39 : ∀ j, j < rn A.tx A.len → g 39 j = rit A.tx A.len j := by
      intro j hj
      rw [← eg, zs_k (by decide), zs_k (by decide), zs_k (by decide), zs_k (by decide), zs_k (by decide), zcp_in (by omega), zcp_k (by decide), zs_k (by decide), zs_k (by decide)]
      exact o5 j hj
    have g37 : g 37 3 = (rn A.tx A.len : Int) := by
      rw [← eg, zs_k (by decide), zs_k (by decide), zs_k (by decide), zs_k (by decide), zs_eq]
    have g403 : g 40 3 = 0 := by rw [← eg, zs_k (by decide), zs_k (by decide), zs_j (by decide), zs_eq]
    have g404 : g 40 4 = 0 := by rw [← eg, zs_k (by decide), zs_k (by decide), zs_eq]
    have g430 : g 43 0 = 512 := by rw [← eg, zs_j (by decide), zs_eq]
    have g431 : g 43 1 = 512 := by rw [← eg, zs_eq]
    have g51 : g 5 1 = (rsc A.tx A.len : Int) := by rw [← eg, zs_k (by decide), zs_k (by decide), zs_k (by decide), zs_k (by decide), zs_k (by decide), zcp_k (by decide), zcp_k (by decide), zs_j (by decide), zs_eq]
    have g52 : g 5 2 = (rM A.tx A.len : Int) := by rw [← eg, zs_k (by decide), zs_k (by decide), zs_k (by decide), zs_k (by decide), zs_k (by decide), zcp_k (by decide), zcp_k (by decide), zs_eq]
    clear eg e16
    have gT : cT g 40 = (rPage A.tx A.len).2.2.2 := by
      refine (cT_ext (pl := fun _ => 0) (dg := fun _ => 0) g403 g404 g430 g431 (fun j hj => by omega) (fun j hj => by omega)).trans ?_
      rfl
    have gP : cPg g 37 = rPage A.tx A.len := by
      have e1 : cPg g 37 = (tr 24 (g 38), tr (g 37 3).toNat (g 39), g 37 3, cT g 40) := rfl
      rw [e1, gT, g37, tr_congr g38, tr_congr (g := rit A.tx A.len) (fun j hj => g39 j (by omega))]
      rfl
    refine s_makeAll (c := (rPage A.tx A.len).1) (fun j hj => cP_ct gP hj) hv.1.2.1 (fun h11 t11 f11 => ?_)
    unfold M_History_forget M_Saves_empty
    rintro h12 rfl h13 rfl h14 rfl
    simp only [Nat.reduceAdd]
    have hF : ∀ a b, a < 161 → ¬ (5 ≤ a ∧ a ≤ 43) → ¬ (a = 1 ∧ 4 ≤ b) → a ≠ 3 → a ≠ 4 → ¬ (a = 44 ∧ b = 2) → a ≠ 160 → zs (zs (zs h11 44 2 0) 160 0 0) 160 1 0 a b = h a b := by
      intro a b q1 q2 q3 q4 q5 q6 q7
      rw [zs_k q7, zs_k q7]
      have : zs h11 44 2 0 a b = h11 a b := by unfold zs; rw [if_neg q6]
      rw [this, f11 a b (by omega), gF a b (by omega) (by omega) (by omega) (by omega) (by omega) (by omega), f1 a b (by omega) (by omega) (by omega)]
    have hG : ∀ a b, a < 44 → a < 7 ∨ 36 < a → zs (zs (zs h11 44 2 0) 160 0 0) 160 1 0 a b = g a b := by
      intro a b q1 q2
      rw [zs_k (by omega), zs_k (by omega), zs_k (by omega), f11 a b (by omega)]
    obtain ⟨nx, n1, n2, n3, n4⟩ := c.2.2.2.2.2.1
    refine cs_val hk eo (show rM A.tx A.len ≤ 3 by omega) ⟨(hG _ _ (by omega) (by omega)).trans g51, (hG _ _ (by omega) (by omega)).trans g52, (cPg_same (fun k j q1 q2 => hG _ _ (by omega) (by omega))).trans gP, fun m hm1 => ?_, Ct_keep c.2.2.2.2.1 (hF _ _ (by omega) (by omega) (by omega) (by omega) (by omega) (by omega) (by omega)) (fun j => hF _ _ (by omega) (by omega) (by omega) (by omega) (by omega) (by omega) (by omega)), ⟨nx, n1, (hF _ _ (by omega) (by omega) (by omega) (by omega) (by omega) (by omega) (by omega)).trans n2, ?_, fun i (hi : i < 0) => by omega⟩, fun i hi => ⟨?_, fun u => absurd rfl u⟩⟩ (fun a b q1 q2 => ?_) ?_
    · have hm1' : m < rM A.tx A.len := hm1
      exact TC_keep (fun a b q1 q2 => by rw [zs_k (by omega), zs_k (by omega), zs_k (by omega)]) (t11 m (by omega) (hv.1.2.2.2 m hm1'))
    · rw [zs_k (by decide), zs_k (by decide), zs_eq]; rfl
    · show zs (zs (zs h11 44 2 0) 160 0 0) 160 1 0 160 i = 0
      by_cases e : i = 1
      · rw [e, zs_eq]
      · rw [zs_j e, show i = 0 by omega, zs_eq]
    · rw [zs_k (by omega), zs_k (by omega), zs_k (by omega), f11 a b (by omega), gF a b (by omega) (by omega) (by omega) (by omega) (by omega) (by omega), f1 a b (by omega) (by omega) (by omega)]
    · rw [hG _ _ (by omega) (by omega), g37]
  · rw [if_pos q] at eo
    exact cs_ex hk eo (by decide) (CI_keep hm c (fun a b q1 q2 q3 q4 => f1 a b (by omega) (by omega) (by omega))) (fun a b q1 q2 => f1 a b (by omega) (by omega) (by omega))
theorem r_load {A : zSt} : RS1 (fun h K => M_RM_load 197 h K) A (sp_load A) := by
  intro h K c hk
  have eo : sp_load A = if rE A.tx A.len ≠ -9 then (1, 0, A) else (0, (rn A.tx A.len : Int), zAk (rsc A.tx A.len) (rM A.tx A.len) (rPage A.tx A.len) A.len A.tx 0 A.hi (fun _ => 0) A.sv) := rfl
  generalize sp_load A = o at *
  show M_RM_load 197 h K
  unfold M_RM_load B_RM_load_13
  refine s_readAll (p := 197) zl199 c.2.2.2.1 (fun r h1 f1 t1 t0 => ?_)
  have c1 : RI h1 A := RI_keep c (fun a b q => f1 a b (by omega) (by omega))
  by_cases q : rE A.tx A.len = -9
  · rw [if_neg (fun q2 => q2 q)] at eo
    obtain ⟨er, o1, o2, o3, o4, o5, o6, o7⟩ := t1 q
    obtain ⟨d1, d2, d3⟩ := rE_ok q
    refine ⟨fun q2 => by omega, fun _ => s_refused (fun q3 => absurd q3 (by decide)) (fun _ => ⟨fun _ => ?_, fun q3 => absurd rfl q3⟩)⟩
    simp only [Nat.reduceAdd]
    rintro h2 rfl h3 rfl
    rw [zs_j (show 6 ≠ 0 by decide), zs_j (show 7 ≠ 4 by decide), zs_j (show 7 ≠ 0 by decide), o1, o2]
    generalize eg : zs (zs (zs h1 197 0 0) 197 4 (rsc A.tx A.len : Int)) 197 5 (rM A.tx A.len : Int) = g
    have gF : ∀ a b, ¬ (a = 197 ∧ (b = 0 ∨ b = 4 ∨ b = 5)) → g a b = h1 a b := by
      intro a b q1
      rw [← eg]
      unfold zs
      rw [if_neg (by omega), if_neg (by omega), if_neg (by omega)]
    have g4 : g 197 4 = (rsc A.tx A.len : Int) := by rw [← eg, zs_j (by decide), zs_eq]
    have g5 : g 197 5 = (rM A.tx A.len : Int) := by rw [← eg, zs_eq]
    have g0 : g 197 0 = 0 := by rw [← eg, zs_j (by decide), zs_j (by decide), zs_eq]
    clear eg
    refine s_copyPage (p0 := 199) (p2 := 200) (o1 := 0) (o3 := 0) (by decide) (by rw [zl199]; decide) (by rw [zl200]; decide) (by rw [zl199]; decide) (by rw [zl200]; decide) (fun h4 e4 f4 => ?_) rfl rfl
    rintro h5 rfl h6 rfl h7 rfl h8 rfl h9 rfl
    generalize eg : zs (zs (zs (zs (zs h4 200 191 512) 200 192 512) 197 13 0) 205 0 0) 205 1 0 = f
    have fF : ∀ a b, ¬ (a = 197 ∧ b = 13) → a ≠ 200 → a ≠ 205 → f a b = g a b := by
      intro a b q1 q2 q3
      rw [← f4 a b (by omega), ← eg, zs_k q3, zs_k q3]
      have : ∀ x : zH, zs x 197 13 0 a b = x a b := fun x => by unfold zs; rw [if_neg q1]
      rw [this, zs_k q2, zs_k q2]
    have f200 : ∀ j, j < 191 → f 200 j = h1 199 j := by
      intro j hj
      rw [← eg, zs_k (by decide), zs_k (by decide), zs_k (by decide), zs_j (by omega), zs_j (by omega)]
      have := e4 j (by omega)
      rw [Nat.zero_add] at this
      rw [this, gF _ _ (by omega)]
    have f191 : f 200 191 = 512 := by rw [← eg, zs_k (by decide), zs_k (by decide), zs_k (by decide), zs_j (by decide), zs_eq]
    have f192 : f 200 192 = 512 := by rw [← eg, zs_k (by decide), zs_k (by decide), zs_k (by decide), zs_eq]
    have f13 : f 197 13 = 0 := by rw [← eg, zs_k (by decide), zs_k (by decide), zs_eq]
    have f205 : ∀ i, i < 2 → f 205 i = 0 := by
      intro i hi
      rw [← eg]
      by_cases e : i = 1
      · rw [e, zs_eq]
      · rw [zs_j e, show i = 0 by omega, zs_eq]
    clear eg
    have fT : rT f 200 0 = (rPage A.tx A.len).2.2.2 := by
      refine (rT_ext (o := 0) (pl := fun _ => 0) (dg := fun _ => 0) (np := 0) (nd := 0) (a := 512) (b := 512) ?_ ?_ f191 f192 (fun j hj => by omega) (fun j hj => by omega)).trans rfl
      · rw [Nat.zero_add, f200 189 (by decide)]; exact o6
      · rw [Nat.zero_add, f200 190 (by decide)]; exact o7
    have f188 : f 200 188 = (rn A.tx A.len : Int) := by rw [f200 188 (by decide)]; exact o3
    have fP : rPg f 200 0 = rPage A.tx A.len := by
      have e1 : rPg f 200 0 = (tr 24 (fun j => f 200 (0 + j)), tr (f 200 (0 + 188)).toNat (fun j => f 200 (0 + 24 + j)), f 200 (0 + 188), rT f 200 0) := rfl
      rw [e1, fT, Nat.zero_add, f188, tr_congr (f := fun j => f 200 (0 + j)) (g := cR A.tx A.len (rsc A.tx A.len) (rM A.tx A.len)) (fun j hj => by rw [Nat.zero_add, f200 j (by omega)]; exact o4 j hj), tr_congr (f := fun j => f 200 (0 + 24 + j)) (g := rit A.tx A.len) (fun j hj => by rw [Nat.zero_add, f200 _ (by omega)]; exact o5 j (by omega))]
      rfl
    refine rs_val hk eo ⟨(fF _ _ (by omega) (by omega) (by omega)).trans g4, (fF _ _ (by omega) (by omega) (by omega)).trans g5, fP, Rt_keep c1.2.2.2.1 ((fF _ _ (by omega) (by omega) (by omega)).trans (gF _ _ (by omega))) (fun j => (fF _ _ (by omega) (by omega) (by omega)).trans (gF _ _ (by omega))), ⟨f13, fun i (hi : i < 0) => by omega⟩, fun i hi => ⟨f205 i hi, fun u => absurd rfl u⟩⟩ ((fF _ _ (by omega) (by omega) (by omega)).trans g0) (fun a b q1 => ?_) f188
    rw [fF a b (by omega) (by omega) (by omega), gF a b (by omega), f1 a b (by omega) (by omega)]
  · rw [if_pos q] at eo
    have er := (t0 q).1
    refine ⟨fun _ => s_refused (fun _ => ⟨fun q3 => absurd q3 (by decide), fun _ => ?_⟩) (fun q3 => absurd q3 (by decide)), fun q2 => absurd er q2⟩
    exact rs_ex hk eo (by decide) (RI_z c1) zs_eq (fun a b q1 => (zs0_f a b q1).trans (f1 a b (by omega) (by omega)))

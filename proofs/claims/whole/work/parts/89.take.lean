/-! taken, failure, unfit, digitsWith, product, bestModel -/
def vk (c : Nat → Int) (T : zT) (k : Nat) (w : Int) : Int := if w = 0 then (if k < tn c T then sy c T k else -9) else if w = 1 then (if k ≤ tn c T ∧ (k : Int) < T.2.2.1 then hd c T k else -9) else if w = 2 then (if k ≤ tn c T ∧ (k : Int) < T.2.2.1 then (tk c T k).1 else -9) else (if k < tn c T then (tk c T k).1 - (tk c T (k + 1)).1 else -9)
def sp_taken (A : zSt) (k w : Int) : zOu := if ¬ (0 ≤ k ∧ k < A.P.2.2.2.2.2.1) then (1, 0, A) else if ¬ (0 ≤ w ∧ w ≤ 3) then (2, 0, A) else (0, vk A.P.1 A.P.2.2.2 k.toNat w, A)
theorem c_taken {A : zSt} (v : VA A) {k w : Int} : CS (fun h K => M_LW_taken 0 k w 220 h K) A (sp_taken A k w) := by
  intro h K ci hk
  have eo : sp_taken A k w = if ¬ (0 ≤ k ∧ k < A.P.2.2.2.2.2.1) then (1, 0, A) else if ¬ (0 ≤ w ∧ w ≤ 3) then (2, 0, A) else (0, vk A.P.1 A.P.2.2.2 k.toNat w, A) := rfl
  generalize sp_taken A k w = o at *
  have hm := CI_mc v
  have cT3 := cP_T ci.2.2.1
  have np := cT_np cT3
  have b2 := v.1.2.2.2.1
  simp only [Nat.reduceAdd] at np
  show M_LW_taken 0 k w 220 h K
  unfold M_LW_taken M_AS_taken
  simp only [Nat.reduceAdd]
  refine s_hasPlanned (by rw [np]; exact b2.2) (fun q => ⟨fun _ => ⟨fun q2 => Or.inr ⟨by trivial, ?_⟩, fun q2 => ⟨fun q3 => ?_, fun q3 => Or.inr ⟨by trivial, ?_⟩⟩⟩, fun q3 => absurd q3 (by decide)⟩) (fun q => ⟨fun q3 => absurd rfl q3, fun _ => Or.inl ⟨by trivial, ?_⟩⟩)
  · rw [if_neg (by omega), if_pos (by omega)] at eo
    exact cs_ex hk eo (by decide) ci (fun _ _ _ _ => rfl)
  · rw [if_neg (by omega), if_neg (by omega)] at eo
    refine s_takeAll (q := 164) (t := 40) (by omega) (by omega) v.1.1 ci.2.2.2.1 cT3 v.1.2.2.2 (fun h1 t1 f1 => ?_)
    have c1 := CI_keep hm ci (fun a b q1 q2 q3 q4 => f1 a b (by omega))
    have hF : ∀ a b, 197 ≤ a → a ≠ 220 → h1 a b = h a b := fun a b q1 q2 => f1 a b (by omega)
    obtain ⟨y1, y2, y3, y4, -⟩ := t1
    refine ⟨fun q4 => ⟨by omega, cs_val hk eo hm c1 hF ?_⟩, fun q4 => ⟨by omega, cs_val hk eo hm c1 hF ?_⟩, fun q4 => ⟨by omega, cs_val hk eo hm c1 hF ?_⟩, fun q4 => ⟨by omega, cs_val hk eo hm c1 hF ?_⟩⟩
    · unfold vk; rw [if_neg (by omega), if_neg (by omega), if_neg (by omega)]; exact y4 _ (by omega)
    · unfold vk; rw [if_pos q4]; exact y1 _ (by omega)
    · unfold vk; rw [if_neg (by omega), if_pos q4]; exact y2 _ (by omega)
    · unfold vk; rw [if_neg (by omega), if_neg (by omega), if_pos q4]; exact y3 _ (by omega)
  · rw [if_neg (by omega), if_pos (by omega)] at eo
    exact cs_ex hk eo (by decide) ci (fun _ _ _ _ => rfl)
  · rw [if_pos (by omega)] at eo
    exact cs_ex hk eo (by decide) ci (fun _ _ _ _ => rfl)
/-- the reference lays the tables and takes the page at p1 -/
theorem s_layTake {p1 : Nat} (hl : zln p1 = 193) (hp : p1 < 203 ∧ 197 < p1) {h : zH} {K : Int → zH → Prop} {sc mc : Nat} {P : zP} (e4 : h 197 4 = (sc : Int)) (e5 : h 197 5 = (mc : Int)) (eP : rPg h p1 0 = P) (v : VP sc mc P) (hk : ∀ r h', TR h' 197 P.1 mc → TKR h' 197 P.1 P.2.2.2 → (∀ k j, k < 206 ∨ 216 < k → ¬ (k = 197 ∧ j = 27) → h' k j = h k j) → (r = 1 ∧ tin P.1 P.2.2.2) ∨ (r = 0 ∧ ¬ tin P.1 P.2.2.2) → K r h') : M_RM_layTables 197 p1 h (fun h1 => M_RM_take 197 p1 h1 K) := by
  refine s_layP hl hp e4 e5 eP v (fun h1 t1 f1 => ?_)
  have eP1 : rPg h1 p1 0 = P := (rPg_same (fun b => f1 _ _ (by omega))).trans eP
  refine s_rtake (p := 197) hl (by omega) v.1 t1 (rP_T eP1) v.2.2.2 (fun r h2 o2 k2 f2 => hk r h2 (TR_keep (fun a b q1 q2 => f2 _ _ (by omega) (by omega) (by omega) (by omega)) t1) k2 (fun k j q1 q2 => (f2 k j q2 (by omega) (by omega) (by omega)).trans (f1 k j (by omega))) o2)
theorem r_taken {A : zSt} (v : VA A) {k w : Int} : RS1 (fun h K => M_RM_taken 197 k w h K) A (sp_taken A k w) := by
  intro h K ci hk
  have eo : sp_taken A k w = if ¬ (0 ≤ k ∧ k < A.P.2.2.2.2.2.1) then (1, 0, A) else if ¬ (0 ≤ w ∧ w ≤ 3) then (2, 0, A) else (0, vk A.P.1 A.P.2.2.2 k.toNat w, A) := rfl
  generalize sp_taken A k w = o at *
  have b2 := v.1.2.2.2.1
  have b3 := v.1.2.2.2.2.1
  show M_RM_taken 197 k w h K
  unfold M_RM_taken B_RM_taken_30
  refine s_isPlanned b2 (rT_np (rP_T ci.2.2.1)) (fun q => ⟨fun _ => s_in (fun q2 => ⟨fun _ => s_refused (fun q3 => absurd q3 (by decide)) (fun _ => ⟨fun _ => ?_, fun q3 => absurd rfl q3⟩), fun q3 => absurd q3 (by decide)⟩) (fun q2 => ⟨fun q3 => absurd rfl q3, fun _ => ?_⟩), fun q3 => absurd q3 (by decide)⟩) (fun q => ⟨fun q3 => absurd rfl q3, fun _ => ?_⟩)
  · rw [if_neg (by omega), if_neg (by omega)] at eo
    have c1 := RI_z (u := 0) ci
    refine s_layTake zl200 (by omega) c1.1 c1.2.1 c1.2.2.1 v.1 (fun r h2 t2 k2 f2 o2 => ?_)
    have c2 : RI h2 A := RI_keep c1 (fun a b q => f2 a b (by omega) (by omega))
    have g0 : h2 197 0 = 0 := by rw [f2 _ _ (by omega) (by omega), zs_eq]
    have hF : ∀ a b, a < 197 ∨ a = 220 → h2 a b = h a b := fun a b q => by rw [f2 a b (by omega) (by omega), zs0_f a b q]
    obtain ⟨y0, y1, y2, y3⟩ := k2
    have tb : ∀ i : Nat, (i : Int) ≤ A.P.2.2.2.2.2.1 → 0 ≤ (tk A.P.1 A.P.2.2.2 i).1 ∧ (tk A.P.1 A.P.2.2.2 i).1 ≤ 80 := fun i hi => by
      have := (tk_ok v.1.1 v.1.2.2.2 (k := i) hi).1
      omega
    have tl := tn_le (c := A.P.1) (T := A.P.2.2.2) b2.1
    have yes : k.toNat ≤ tn A.P.1 A.P.2.2.2 → (k.toNat < tn A.P.1 A.P.2.2.2 ∨ w = 1 ∨ w = 2) → B_RM_taken_86 K 197 k w 1 h2 := by
      intro q4 q5
      unfold B_RM_taken_86
      refine ⟨fun _ => ⟨fun w0 => ⟨fun w1 => ⟨fun w2 => ?_, fun w2 => ⟨by omega, rs_val hk eo c2 g0 hF ?_⟩⟩, fun w1 => ⟨by omega, rs_val hk eo c2 g0 hF ?_⟩⟩, fun w0 => ⟨by omega, rs_val hk eo c2 g0 hF ?_⟩⟩, fun q6 => absurd q6 (by decide)⟩
      · have z1 := y3 k.toNat (by omega)
        have z2 := y3 (k.toNat + 1) (by omega)
        simp only [Nat.reduceAdd] at z1 z2 ⊢
        rw [show (k + 1).toNat = k.toNat + 1 by omega, z1, z2]
        have x1 := tb k.toNat (by omega)
        have x2 := tb (k.toNat + 1) (by omega)
        refine ⟨by omega, by omega, by omega, by omega, rs_val hk eo c2 g0 hF ?_⟩
        unfold vk; rw [if_neg w0, if_neg w1, if_neg w2, if_pos (by omega)]
      · unfold vk; rw [if_neg w0, if_neg w1, if_pos w2, if_pos ⟨q4, show ((k.toNat : Nat) : Int) < A.P.2.2.2.2.2.1 by omega⟩]; exact y3 _ q4
      · unfold vk; rw [if_neg w0, if_pos w1, if_pos ⟨q4, show ((k.toNat : Nat) : Int) < A.P.2.2.2.2.2.1 by omega⟩]; exact y2 _ q4 (show ((k.toNat : Nat) : Int) < A.P.2.2.2.2.2.1 by omega)
      · unfold vk; rw [if_pos w0, if_pos (by omega)]; exact y1 _ (by omega)
    have no : (tn A.P.1 A.P.2.2.2 < k.toNat ∨ (k.toNat = tn A.P.1 A.P.2.2.2 ∧ w ≠ 1 ∧ w ≠ 2)) → B_RM_taken_86 K 197 k w 0 h2 := by
      intro q4
      unfold B_RM_taken_86
      refine ⟨fun q6 => absurd rfl q6, fun _ => rs_val hk eo c2 g0 hF ?_⟩
      unfold vk
      (repeat' split) <;> omega
    unfold B_RM_taken_81 B_RM_taken_85
    rw [y0]
    exact ⟨fun q4 => yes (by omega) (by omega), fun q4 => ⟨fun q5 => no (by omega), fun q5 => ⟨fun q6 => yes (by omega) (by omega), fun q6 => ⟨fun q7 => no (by omega), fun q7 => yes (by omega) (by omega)⟩⟩⟩⟩
  · rw [if_neg (by omega), if_pos (by omega)] at eo
    exact s_refused (fun _ => ⟨fun q3 => absurd q3 (by decide), fun _ => rs_no ci hk eo (by decide)⟩) (fun q3 => absurd q3 (by decide))
  · rw [if_pos (by omega)] at eo
    exact s_refused (fun _ => ⟨fun q3 => absurd q3 (by decide), fun _ => rs_no ci hk eo (by decide)⟩) (fun q3 => absurd q3 (by decide))
def sp_failure (A : zSt) : zOu := (0, (if ((tn A.P.1 A.P.2.2.2 : Nat) : Int) < A.P.2.2.2.2.2.1 then ((tn A.P.1 A.P.2.2.2 : Nat) : Int) else -9), A)
theorem c_failure {A : zSt} (v : VA A) : CN (fun h K => M_AS_failure 0 h K) A (sp_failure A).2.1 (sp_failure A).2.2 := by
  intro h K ci hk
  have hm := CI_mc v
  show M_AS_failure 0 h K
  unfold M_AS_failure
  refine s_takeAll (q := 164) (t := 40) (by omega) (by omega) v.1.1 ci.2.2.2.1 (cP_T ci.2.2.1) v.1.2.2.2 (fun h1 t1 f1 => ?_)
  show K (h1 164 6) h1
  rw [t1.2.2.2.2.1]
  exact hk h1 (CI_keep hm ci (fun a b q1 q2 q3 q4 => f1 a b (by omega))) (fun a b q => f1 a b (by omega))
theorem r_failure {A : zSt} (v : VA A) : RS1 (fun h K => M_RM_failure 197 h K) A (sp_failure A) := by
  intro h K ci hk
  show M_RM_failure 197 h K
  unfold M_RM_failure M_RM_fails
  rintro h1 rfl
  have c1 := RI_z (u := 0) ci
  refine s_layTake zl200 (by omega) c1.1 c1.2.1 c1.2.2.1 v.1 (fun r h2 t2 k2 f2 o2 => ?_)
  have c2 : RI h2 A := RI_keep c1 (fun a b q => f2 a b (by omega) (by omega))
  have g0 : h2 197 0 = 0 := by rw [f2 _ _ (by omega) (by omega), zs_eq]
  have hF : ∀ a b, a < 197 ∨ a = 220 → h2 a b = h a b := fun a b q => by rw [f2 a b (by omega) (by omega), zs0_f a b q]
  have np : h2 200 189 = A.P.2.2.2.2.2.1 := rT_np (rP_T c2.2.2.1)
  simp only [Nat.reduceAdd]
  rw [np, k2.1, zl200]
  refine ⟨by decide, fun q => ⟨fun _ => hk _ _ c2 g0 (fun _ => ?_) hF, fun q2 => absurd rfl q2⟩, fun q => ⟨fun q2 => absurd q2 (by decide), fun _ => hk _ _ c2 g0 (fun _ => ?_) hF⟩⟩
  · exact (if_neg (by omega)).symm
  · exact (if_pos q).symm
def sp_unfit (A : zSt) : zOu := (0, uF A.P.1 (lA A.P), A)
theorem c_unfit {A : zSt} (v : VA A) : CN (fun h K => M_AS_unfit 0 h K) A (sp_unfit A).2.1 (sp_unfit A).2.2 := by
  intro h K ci hk
  have hm := CI_mc v
  show M_AS_unfit 0 h K
  unfold M_AS_unfit
  exact s_listUnfit (q := 161) (a := 37) (by omega) (by omega) v.1 ci.2.2.1 ci.2.2.2.1 (fun h1 l1 f1 => hk h1 (CI_keep hm ci (fun a b q1 q2 q3 q4 => f1 a b (by omega))) (fun a b q => f1 a b (by omega)))
/-- the reference lays tables and message of the page at p1 -/
theorem s_layBoth {p1 : Nat} (hl : zln p1 = 193) (hp : p1 < 203 ∧ 197 < p1) {h : zH} {K : zH → Prop} {sc mc : Nat} {P : zP} (e4 : h 197 4 = (sc : Int)) (e5 : h 197 5 = (mc : Int)) (eP : rPg h p1 0 = P) (v : VP sc mc P) (hk : ∀ h', TR h' 197 P.1 mc → LR h' 197 (lA P) → (∀ k j, k < 206 ∨ (213 < k ∧ k < 218) ∨ 219 < k → ¬ (k = 197 ∧ j = 31) → h' k j = h k j) → K h') : M_RM_layTables 197 p1 h (fun h1 => M_RM_layMessage 197 p1 h1 K) := by
  refine s_layP hl hp e4 e5 eP v (fun h1 t1 f1 => ?_)
  have eP1 : rPg h1 p1 0 = P := (rPg_same (fun b => f1 _ _ (by omega))).trans eP
  exact s_layMP hl (by omega) v eP1 (fun h2 l2 f2 => hk h2 (TR_keep (fun a b q1 q2 => f2 _ _ (by omega) (by omega) (by omega)) t1) l2 (fun k j q1 q2 => (f2 k j q2 (by omega) (by omega)).trans (f1 k j (by omega))))
theorem r_unfit {A : zSt} (v : VA A) : RS1 (fun h K => M_RM_unfit 197 h K) A (sp_unfit A) := by
  intro h K ci hk
  show M_RM_unfit 197 h K
  unfold M_RM_unfit
  rintro h1 rfl
  have c1 := RI_z (u := 0) ci
  refine s_layBoth zl200 (by omega) c1.1 c1.2.1 c1.2.2.1 v.1 (fun h2 t2 l2 f2 => s_unfitOf v.1.1 t2 l2 (VL_A v.1) ?_)
  exact hk _ _ (RI_keep c1 (fun a b q => f2 a b (by omega) (by omega))) (by rw [f2 _ _ (by omega) (by omega), zs_eq]; rfl) (fun _ => rfl) (fun a b q => by rw [f2 a b (by omega) (by omega), zs0_f a b q])
def oL (L : zL) (m : Int) : zL := (L.1, L.2.1, L.2.2.1, fun _ => m)
theorem VL_o {sc mc : Nat} {L : zL} (v : VL sc mc L) {m : Int} (hm : 0 ≤ m ∧ m < mc) : VL sc mc (oL L m) := ⟨v.1, fun j hj => ⟨(v.2 j hj).1, hm⟩⟩
def sp_digitsWith (A : zSt) (m : Int) : zOu := if ¬ (0 ≤ m ∧ m < A.mc) then (1, 0, A) else (0, (if uF A.P.1 (oL (lA A.P) m) = -9 then (enT A.P.1 (oL (lA A.P) m)).2.2.2.1 else -9), A)
theorem c_digitsWith {A : zSt} (v : VA A) {m : Int} : CS (fun h K => M_LW_digitsWith 0 m 220 h K) A (sp_digitsWith A m) := by
  intro h K ci hk
  have eo : sp_digitsWith A m = if ¬ (0 ≤ m ∧ m < A.mc) then (1, 0, A) else (0, (if uF A.P.1 (oL (lA A.P) m) = -9 then (enT A.P.1 (oL (lA A.P) m)).2.2.2.1 else -9), A) := rfl
  generalize sp_digitsWith A m = o at *
  have hm := CI_mc v
  show M_LW_digitsWith 0 m 220 h K
  unfold M_LW_digitsWith M_AS_digitsWith
  simp only [Nat.reduceAdd]
  refine s_hasModel ci.2.1 (fun q => ⟨fun _ => ?_, fun q3 => absurd q3 (by decide)⟩) (fun q => ⟨fun q3 => absurd rfl q3, fun _ => ⟨by trivial, ?_⟩⟩)
  · rw [if_neg (by omega)] at eo
    refine s_listP (q := 161) (a := 37) (by omega) v.1 ci.2.2.1 (fun h1 l1 f1 => ?_)
    have vl := VL_A v.1
    unfold M_Symbols_useOneModel
    refine yp1 40 (fun i h' => (∀ j, j < i → h' 163 j = m) ∧ ∀ a b, a ≠ 163 → h' a b = h1 a b) ⟨fun j hj => by omega, fun _ _ _ => rfl⟩ ?_
    rintro i h2 L hi ⟨g1, g2⟩ hL
    show F_Symbols_useOneModel_2 _ L 161 m (i : Int) h2
    unfold F_Symbols_useOneModel_2
    refine ⟨fun q2 => ?_, fun q2 => ⟨by omega, ?_⟩⟩
    · have ei : i = 40 := by omega
      subst ei
      have l2 : LC h2 161 (oL (lA A.P) m) := ⟨(g2 _ _ (by omega)).trans l1.1, fun j hj => ⟨(g2 _ _ (by omega)).trans (l1.2 j hj).1, g1 j (by have h9 : j < (lA A.P).1 := hj
                                                                                                                                             have := vl.1
                                                                                                                                             omega)⟩⟩
      have t2 : TCs h2 A.P.1 A.mc := TCs_keep hm (fun a b q1 q2 => (g2 _ _ (by omega)).trans (f1 _ _ (by omega))) ci.2.2.2.1
      have hF2 : ∀ a b, a < 161 ∨ 163 < a → h2 a b = h a b := fun a b q => (g2 a b (by omega)).trans (f1 a b (by omega))
      refine s_firstUnfit v.1.1 t2 l2 (VL_o vl q) ⟨fun qu => ?_, fun qu => ?_⟩
      · rw [if_pos qu] at eo
        refine s_fill (q := 161) (t := 176) (by omega) (by omega) v.1.1 t2 l2 (VL_o vl q) qu (fun h3 e3 f3 => ?_)
        exact cs_val hk eo hm (CI_keep hm ci (fun a b q1 q2 q3 q4 => (f3 a b (by omega)).trans (hF2 a b (by omega)))) (fun a b q1 q2 => (f3 a b (by omega)).trans (hF2 a b (by omega))) (cT_nd e3)
      · rw [if_neg qu] at eo
        exact cs_val hk eo hm (CI_keep hm ci (fun a b q1 q2 q3 q4 => hF2 a b (by omega))) (fun a b q1 q2 => hF2 a b (by omega)) rfl
    · rw [Int.toNat_natCast]
      rintro h3 rfl
      refine ⟨by omega, hL _ (by omega) ⟨fun j hj => ?_, fun a b q3 => ?_⟩⟩
      · show zs h2 163 i m 163 j = m
        by_cases e : j = i
        · rw [e, zs_eq]
        · rw [zs_j e, g1 j (by omega)]
      · show zs h2 163 i m a b = h1 a b
        rw [zs_k q3, g2 a b q3]
  · rw [if_pos (by omega)] at eo
    exact cs_ex hk eo (by decide) ci (fun _ _ _ _ => rfl)
theorem r_digitsWith {A : zSt} (v : VA A) {m : Int} : RS1 (fun h K => M_RM_digitsWith 197 m h K) A (sp_digitsWith A m) := by
  intro h K ci hk
  have eo : sp_digitsWith A m = if ¬ (0 ≤ m ∧ m < A.mc) then (1, 0, A) else (0, (if uF A.P.1 (oL (lA A.P) m) = -9 then (enT A.P.1 (oL (lA A.P) m)).2.2.2.1 else -9), A) := rfl
  generalize sp_digitsWith A m = o at *
  show M_RM_digitsWith 197 m h K
  unfold M_RM_digitsWith B_RM_digitsWith_14
  refine s_isModel (CI_mc v) ci.2.1 (fun q => ⟨fun q3 => absurd q3 (by decide), fun _ => s_refused (fun q3 => absurd q3 (by decide)) (fun _ => ⟨fun _ => ?_, fun q3 => absurd rfl q3⟩)⟩) (fun q => ⟨fun _ => ?_, fun q3 => absurd rfl q3⟩)
  · rw [if_neg (by omega)] at eo
    have c1 := RI_z (u := 0) ci
    have vl := VL_A v.1
    refine s_layBoth zl200 (by omega) c1.1 c1.2.1 c1.2.2.1 v.1 (fun h1 t1 l1 f1 => ?_)
    refine yp1 (lA A.P).1 (fun i h' => (∀ j, j < i → h' 219 j = m) ∧ ∀ a b, a ≠ 219 → h' a b = h1 a b) ⟨fun j hj => by omega, fun _ _ _ => rfl⟩ ?_
    rintro i h2 L hi ⟨g1, g2⟩ hL
    show F_RM_digitsWith_40 K L 197 m (i : Int) h2
    have e31 : h2 197 31 = (((lA A.P).1 : Nat) : Int) := (g2 _ _ (by omega)).trans l1.1
    have v40 := vl.1
    unfold F_RM_digitsWith_40
    rw [e31]
    refine ⟨fun q2 => ?_, fun q2 => ⟨by omega, ?_⟩⟩
    · have ei : i = (lA A.P).1 := by omega
      subst ei
      have l2 : LR h2 197 (oL (lA A.P) m) := ⟨e31, fun j hj => ⟨(g2 _ _ (by omega)).trans (l1.2 j hj).1, g1 j hj⟩⟩
      have t2 : TR h2 197 A.P.1 A.mc := TR_keep (fun a b q1 q2 => g2 _ _ (by omega)) t1
      have c2 : RI h2 A := RI_keep c1 (fun a b q => (g2 a b (by omega)).trans (f1 a b (by omega) (by omega)))
      have g0 : h2 197 0 = 0 := by rw [g2 _ _ (by omega), f1 _ _ (by omega) (by omega), zs_eq]
      have hF : ∀ a b, a < 197 ∨ a = 220 → h2 a b = h a b := fun a b q => by rw [g2 a b (by omega), f1 a b (by omega) (by omega), zs0_f a b q]
      refine s_unfitOf v.1.1 t2 l2 (VL_o vl q) ⟨fun qu => ?_, fun qu => ?_⟩
      · rw [if_pos qu] at eo
        refine s_encodeTo (p := 197) (p1 := 201) zl201 (by omega) v.1.1 t2 l2 (VL_o vl q) qu (fun h3 e3 f3 _ => ?_)
        exact rs_val hk eo (RI_keep c2 (fun a b q => f3 a b (by omega))) ((f3 _ _ (by omega)).trans g0) (fun a b q => (f3 a b (by omega)).trans (hF a b q)) (rT_nd e3)
      · rw [if_neg qu] at eo
        exact rs_val hk eo c2 g0 hF rfl
    · rw [Int.toNat_natCast]
      rintro h3 rfl
      refine ⟨by omega, hL _ (by omega) ⟨fun j hj => ?_, fun a b q3 => ?_⟩⟩
      · show zs h2 219 i m 219 j = m
        by_cases e : j = i
        · rw [e, zs_eq]
        · rw [zs_j e, g1 j (by omega)]
      · show zs h2 219 i m a b = h1 a b
        rw [zs_k q3, g2 a b q3]
  · rw [if_pos (by omega)] at eo
    exact s_refused (fun _ => ⟨fun q3 => absurd q3 (by decide), fun _ => rs_no ci hk eo (by decide)⟩) (fun q3 => absurd q3 (by decide))
def pv (A : zSt) (k n m : Nat) : Int := pd (pg (fF (cm A.P.1 m)) (lA A.P) k) n
def sp_product (A : zSt) (m k n : Int) : zOu := if ¬ ((0 ≤ m ∧ m < A.mc) ∧ (0 ≤ k ∧ k < ((lA A.P).1 : Int))) then (1, 0, A) else if ¬ (1 ≤ n ∧ n ≤ 12) then (2, 0, A) else (0, pv A k.toNat n.toNat m.toNat, A)
theorem c_product {A : zSt} (v : VA A) {m k n : Int} : CS (fun h K => M_LW_product 0 m k n 220 h K) A (sp_product A m k n) := by
  intro h K ci hk
  have eo : sp_product A m k n = if ¬ ((0 ≤ m ∧ m < A.mc) ∧ (0 ≤ k ∧ k < ((lA A.P).1 : Int))) then (1, 0, A) else if ¬ (1 ≤ n ∧ n ≤ 12) then (2, 0, A) else (0, pv A k.toNat n.toNat m.toNat, A) := rfl
  generalize sp_product A m k n = o at *
  have hm := CI_mc v
  have vl := VL_A v.1
  have v40 := vl.1
  show M_LW_product 0 m k n 220 h K
  unfold M_LW_product M_AS_product
  simp only [Nat.reduceAdd]
  refine s_listP (q := 161) (a := 37) (by omega) v.1 ci.2.2.1 (fun h1 l1 f1 => ?_)
  have c1 : CI h1 A := CI_keep hm ci (fun a b q1 q2 q3 q4 => f1 a b (by omega))
  have hF : ∀ a b, 197 ≤ a → a ≠ 220 → h1 a b = h a b := fun a b q1 q2 => f1 a b (by omega)
  refine s_hasModel c1.2.1 (fun qm => ⟨fun q => absurd q (by decide), fun _ => s_symHas (q := 161) (by rw [l1.1]; omega) (fun qk => ⟨fun _ => ⟨fun q => Or.inr ⟨by trivial, ?_⟩, fun q => ⟨fun q2 => ?_, fun q2 => Or.inr ⟨by trivial, ?_⟩⟩⟩, fun q => absurd q (by decide)⟩) (fun qk => ⟨fun q => absurd rfl q, fun _ => Or.inl ⟨by trivial, ?_⟩⟩)⟩) (fun qm => ⟨fun _ => Or.inl ⟨by trivial, ?_⟩, fun q => absurd rfl q⟩)
  all_goals (first | rw [l1.1] at qk | skip)
  · rw [if_neg (by omega), if_pos (by omega)] at eo
    exact cs_ex hk eo (by decide) c1 hF
  · rw [if_neg (by omega), if_neg (by omega)] at eo
    refine s_of (by omega) ?_
    have := s_multiply (q := 161) (h := h1) (K := fun r_10 h_9 => ∀ h2 : zH, h2 = zs h_9 220 0 r_10 → K 0 h2) v.1.1 c1.2.2.2.1 l1 vl (m := m.toNat) (k := k.toNat) (n := n.toNat) (by omega) (by omega) (by omega) (cs_val hk eo hm c1 hF rfl)
    rw [show ((k.toNat : Nat) : Int) = k by omega, show ((n.toNat : Nat) : Int) = n by omega] at this
    exact this
  · rw [if_neg (by omega), if_pos (by omega)] at eo
    exact cs_ex hk eo (by decide) c1 hF
  · rw [if_pos (by omega)] at eo
    exact cs_ex hk eo (by decide) c1 hF
  · rw [if_pos (by omega)] at eo
    exact cs_ex hk eo (by decide) c1 hF
theorem s_isSequenced {h : zH} {K : Int → zH → Prop} {sc mc : Nat} {P : zP} {x : Int} (v : VP sc mc P) (eP : rPg h 200 0 = P) (hk : ∀ r h', LR h' 197 (lA P) → (∀ k j, ¬ (k = 197 ∧ j = 31) → k ≠ 218 → k ≠ 219 → h' k j = h k j) → (r = 1 ∧ (0 ≤ x ∧ x < ((lA P).1 : Int))) ∨ (r = 0 ∧ ¬ (0 ≤ x ∧ x < ((lA P).1 : Int))) → K r h') : M_RM_isSequenced 197 x h K := by
  unfold M_RM_isSequenced
  have vl := VL_A v
  have v40 := vl.1
  refine s_layMP zl200 (by omega) v eP (fun h1 l1 f1 => ?_)
  rw [l1.1]
  exact ⟨by omega, s_in (fun q => ⟨Or.inr rfl, hk 1 h1 l1 f1 (Or.inl ⟨rfl, by omega⟩)⟩) (fun q => ⟨Or.inl rfl, hk 0 h1 l1 f1 (Or.inr ⟨rfl, by omega⟩)⟩)⟩
theorem r_product {A : zSt} (v : VA A) {m k n : Int} : RS1 (fun h K => M_RM_product 197 m k n h K) A (sp_product A m k n) := by
  intro h K ci hk
  have eo : sp_product A m k n = if ¬ ((0 ≤ m ∧ m < A.mc) ∧ (0 ≤ k ∧ k < ((lA A.P).1 : Int))) then (1, 0, A) else if ¬ (1 ≤ n ∧ n ≤ 12) then (2, 0, A) else (0, pv A k.toNat n.toNat m.toNat, A) := rfl
  generalize sp_product A m k n = o at *
  have vl := VL_A v.1
  have v40 := vl.1
  show M_RM_product 197 m k n h K
  unfold M_RM_product B_RM_product_17 B_RM_product_38
  refine s_isModel (CI_mc v) ci.2.1 (fun qm => ⟨fun q => absurd q (by decide), fun _ => s_isSequenced (x := k) v.1 ci.2.2.1 (fun r h1 l1 f1 out => ?_)⟩) (fun qm => ⟨fun _ => ?_, fun q => absurd rfl q⟩)
  · have c1 : RI h1 A := RI_keep ci (fun a b q => f1 a b (by omega) (by omega) (by omega))
    have hF : ∀ a b, a < 197 ∨ a = 220 → h1 a b = h a b := fun a b q => f1 a b (by omega) (by omega) (by omega)
    rcases out with ⟨rfl, qk⟩ | ⟨rfl, qk⟩
    · refine ⟨fun _ => s_in (fun qn => ⟨fun _ => s_refused (fun q3 => absurd q3 (by decide)) (fun _ => ⟨fun _ => ?_, fun q3 => absurd rfl q3⟩), fun q3 => absurd q3 (by decide)⟩) (fun qn => ⟨fun q3 => absurd rfl q3, fun _ => s_refused (fun _ => ⟨fun q3 => absurd q3 (by decide), fun _ => ?_⟩) (fun q3 => absurd q3 (by decide))⟩), fun q => absurd q (by decide)⟩
      · rw [if_neg (by omega), if_neg (by omega)] at eo
        have c2 := RI_z (u := 0) c1
        refine s_layP zl200 (by omega) c2.1 c2.2.1 c2.2.2.1 v.1 (fun h3 t3 f3 => ?_)
        have l3 : LR h3 197 (lA A.P) := LR_keep ((f3 _ _ (by omega)).trans (zs_j (by omega))) (fun a b q1 q2 => (f3 _ _ (by omega)).trans (zs_k (by omega))) l1
        have := s_productOf (p := 197) (h := h3) (K := K) v.1.1 t3 l3 vl (m := m.toNat) (k := k.toNat) (n := n.toNat) (by omega) (by omega) (by omega) (rs_val hk eo (RI_lay c2 f3) (by rw [f3 _ _ (by omega), zs_eq]) (fun a b q => by rw [f3 a b (by omega), zs0_f a b q, hF a b q]) rfl)
        rw [show ((k.toNat : Nat) : Int) = k by omega, show ((n.toNat : Nat) : Int) = n by omega, show ((m.toNat : Nat) : Int) = m by omega] at this
        exact this
      · rw [if_neg (by omega), if_pos (by omega)] at eo
        exact rs_ex hk eo (by decide) (RI_z c1) zs_eq (fun a b q => by rw [zs0_f a b q, hF a b q])
    · refine ⟨fun q => absurd rfl q, fun _ => s_refused (fun _ => ⟨fun q3 => absurd q3 (by decide), fun _ => ?_⟩) (fun q3 => absurd q3 (by decide))⟩
      rw [if_pos (by omega)] at eo
      exact rs_ex hk eo (by decide) (RI_z c1) zs_eq (fun a b q => by rw [zs0_f a b q, hF a b q])
  · rw [if_pos (by omega)] at eo
    exact s_refused (fun _ => ⟨fun q3 => absurd q3 (by decide), fun _ => rs_no ci hk eo (by decide)⟩) (fun q3 => absurd q3 (by decide))
def bm (f : Nat → Int) : Nat → Nat
  | 0 => 0
  | i + 1 => if f (bm f i) < f (i + 1) then i + 1 else bm f i
theorem bm_le {f : Nat → Int} : ∀ {i : Nat}, bm f i ≤ i := by
  intro i
  induction i with
  | zero => exact Nat.le_refl 0
  | succ i ih => unfold bm; split <;> omega
def sp_bestModel (A : zSt) (k n : Int) : zOu := if ¬ (0 ≤ k ∧ k < ((lA A.P).1 : Int)) then (1, 0, A) else if ¬ (1 ≤ n ∧ n ≤ 12) then (2, 0, A) else (0, ((bm (pv A k.toNat n.toNat) (A.mc - 1) : Nat) : Int), A)
theorem c_bestModel {A : zSt} (v : VA A) {k n : Int} : CS (fun h K => M_LW_bestModel 0 k n 220 h K) A (sp_bestModel A k n) := by
  intro h K ci hk
  have eo : sp_bestModel A k n = if ¬ (0 ≤ k ∧ k < ((lA A.P).1 : Int)) then (1, 0, A) else if ¬ (1 ≤ n ∧ n ≤ 12) then (2, 0, A) else (0, ((bm (pv A k.toNat n.toNat) (A.mc - 1) : Nat) : Int), A) := rfl
  generalize sp_bestModel A k n = o at *
  have hm := CI_mc v
  have hm1 := v.1.1.1.2.2.1
  have vl := VL_A v.1
  have v40 := vl.1
  show M_LW_bestModel 0 k n 220 h K
  unfold M_LW_bestModel M_AS_bestModel
  simp only [Nat.reduceAdd]
  refine s_listP (q := 161) (a := 37) (by omega) v.1 ci.2.2.1 (fun h1 l1 f1 => ?_)
  have c1 : CI h1 A := CI_keep hm ci (fun a b q1 q2 q3 q4 => f1 a b (by omega))
  have hF : ∀ a b, 197 ≤ a → a ≠ 220 → h1 a b = h a b := fun a b q1 q2 => f1 a b (by omega)
  refine s_symHas (q := 161) (by rw [l1.1]; omega) (fun qk => ⟨fun _ => ⟨fun q => Or.inr ⟨by trivial, ?_⟩, fun q => ⟨fun q2 => ?_, fun q2 => Or.inr ⟨by trivial, ?_⟩⟩⟩, fun q => absurd q (by decide)⟩) (fun qk => ⟨fun q => absurd rfl q, fun _ => Or.inl ⟨by trivial, ?_⟩⟩)
  all_goals rw [l1.1] at qk
  · rw [if_neg (by omega), if_pos (by omega)] at eo
    exact cs_ex hk eo (by decide) c1 hF
  · rw [if_neg (by omega), if_neg (by omega)] at eo
    have mul : ∀ (m : Nat) (Q : Int → zH → Prop), m < A.mc → Q (pv A k.toNat n.toNat m) h1 → M_Symbols_multiply 161 (7 + 10 * m) k n h1 Q := by
      intro m Q h9 hQ
      have := s_multiply (q := 161) (h := h1) (K := Q) v.1.1 c1.2.2.2.1 l1 vl (m := m) (k := k.toNat) (n := n.toNat) h9 (by omega) (by omega) hQ
      rw [show ((k.toNat : Nat) : Int) = k by omega, show ((n.toNat : Nat) : Int) = n by omega] at this
      exact this
    refine s_of (by omega) (mul 0 _ (by omega) ?_)
    refine ypG (A.mc - 1) (fun i s => s = (((bm (pv A k.toNat n.toNat) i : Nat) : Int), pv A k.toNat n.toNat (bm (pv A k.toNat n.toNat) i), (i : Int) + 1, h1)) rfl ?_
    rintro i s L hi rfl hL
    show F_AS_bestModel_79 _ _ L 0 k n ((bm (pv A k.toNat n.toNat) i : Nat) : Int) (pv A k.toNat n.toNat (bm (pv A k.toNat n.toNat) i)) ((i : Int) + 1) h1
    unfold F_AS_bestModel_79
    simp only [Nat.reduceAdd]
    rw [c1.2.1]
    refine ⟨fun q3 => ?_, fun q3 => s_of (by omega) ?_⟩
    · have ei : i = A.mc - 1 := by omega
      rw [ei]
      exact cs_val hk eo hm c1 hF rfl
    · rw [show ((i : Int) + 1).toNat = i + 1 by omega]
      refine mul (i + 1) _ (by omega) ⟨fun q4 => ⟨by omega, hL _ (by omega) ?_⟩, fun q4 => ⟨by omega, hL _ (by omega) ?_⟩⟩
      · have : bm (pv A k.toNat n.toNat) (i + 1) = bm (pv A k.toNat n.toNat) i := if_neg (by omega)
        rw [this]
        rfl
      · have : bm (pv A k.toNat n.toNat) (i + 1) = i + 1 := if_pos q4
        rw [this]
        rfl
  · rw [if_neg (by omega), if_pos (by omega)] at eo
    exact cs_ex hk eo (by decide) c1 hF
  · rw [if_pos (by omega)] at eo
    exact cs_ex hk eo (by decide) c1 hF
theorem r_bestModel {A : zSt} (v : VA A) {k n : Int} : RS1 (fun h K => M_RM_bestModel 197 k n h K) A (sp_bestModel A k n) := by
  intro h K ci hk
  have eo : sp_bestModel A k n = if ¬ (0 ≤ k ∧ k < ((lA A.P).1 : Int)) then (1, 0, A) else if ¬ (1 ≤ n ∧ n ≤ 12) then (2, 0, A) else (0, ((bm (pv A k.toNat n.toNat) (A.mc - 1) : Nat) : Int), A) := rfl
  generalize sp_bestModel A k n = o at *
  have hm := CI_mc v
  have hm1 := v.1.1.1.2.2.1
  have vl := VL_A v.1
  have v40 := vl.1
  show M_RM_bestModel 197 k n h K
  unfold M_RM_bestModel B_RM_bestModel_30
  refine s_isSequenced (x := k) v.1 ci.2.2.1 (fun r h1 l1 f1 out => ?_)
  have c1 : RI h1 A := RI_keep ci (fun a b q => f1 a b (by omega) (by omega) (by omega))
  have hF : ∀ a b, a < 197 ∨ a = 220 → h1 a b = h a b := fun a b q => f1 a b (by omega) (by omega) (by omega)
  rcases out with ⟨rfl, qk⟩ | ⟨rfl, qk⟩
  · refine ⟨fun _ => s_in (fun qn => ⟨fun _ => s_refused (fun q3 => absurd q3 (by decide)) (fun _ => ⟨fun _ => ?_, fun q3 => absurd rfl q3⟩), fun q3 => absurd q3 (by decide)⟩) (fun qn => ⟨fun q3 => absurd rfl q3, fun _ => s_refused (fun _ => ⟨fun q3 => absurd q3 (by decide), fun _ => ?_⟩) (fun q3 => absurd q3 (by decide))⟩), fun q => absurd q (by decide)⟩
    · rw [if_neg (by omega), if_neg (by omega)] at eo
      have c2 := RI_z (u := 0) c1
      refine s_layP zl200 (by omega) c2.1 c2.2.1 c2.2.2.1 v.1 (fun h3 t3 f3 => ?_)
      have l3 : LR h3 197 (lA A.P) := LR_keep ((f3 _ _ (by omega)).trans (zs_j (by omega))) (fun a b q1 q2 => (f3 _ _ (by omega)).trans (zs_k (by omega))) l1
      have c3 := RI_lay c2 f3
      have mul : ∀ (m : Nat) (Q : Int → zH → Prop), m < A.mc → Q (pv A k.toNat n.toNat m) h3 → M_RM_productOf 197 (m : Int) k n h3 Q := by
        intro m Q h9 hQ
        have := s_productOf (p := 197) (h := h3) (K := Q) v.1.1 t3 l3 vl (m := m) (k := k.toNat) (n := n.toNat) h9 (by omega) (by omega) hQ
        rw [show ((k.toNat : Nat) : Int) = k by omega, show ((n.toNat : Nat) : Int) = n by omega] at this
        exact this
      refine ypG (A.mc - 1) (fun i s => s = (((bm (pv A k.toNat n.toNat) i : Nat) : Int), (i : Int) + 1, h3)) rfl ?_
      rintro i s L hi rfl hL
      show F_RM_bestModel_51 K L 197 k n ((bm (pv A k.toNat n.toNat) i : Nat) : Int) ((i : Int) + 1) h3
      have bl := bm_le (f := pv A k.toNat n.toNat) (i := i)
      unfold F_RM_bestModel_51
      rw [c3.2.1]
      refine ⟨fun q3 => ?_, fun q3 => ?_⟩
      · have ei : i = A.mc - 1 := by omega
        rw [ei]
        exact rs_val hk eo c3 (by rw [f3 _ _ (by omega), zs_eq]) (fun a b q => by rw [f3 a b (by omega), zs0_f a b q, hF a b q]) rfl
      · rw [show (i : Int) + 1 = ((i + 1 : Nat) : Int) by omega]
        refine mul (i + 1) _ (by omega) (mul _ _ (by omega) ⟨fun q4 => ⟨by omega, hL _ (by omega) ?_⟩, fun q4 => ⟨by omega, hL _ (by omega) ?_⟩⟩)
        · have : bm (pv A k.toNat n.toNat) (i + 1) = bm (pv A k.toNat n.toNat) i := if_neg (by omega)
          rw [this]
        · have : bm (pv A k.toNat n.toNat) (i + 1) = i + 1 := if_pos q4
          rw [this]
    · rw [if_neg (by omega), if_pos (by omega)] at eo
      exact rs_ex hk eo (by decide) (RI_z c1) zs_eq (fun a b q => by rw [zs0_f a b q, hF a b q])
  · refine ⟨fun q => absurd rfl q, fun _ => s_refused (fun _ => ⟨fun q3 => absurd q3 (by decide), fun _ => ?_⟩) (fun q3 => absurd q3 (by decide))⟩
    rw [if_pos (by omega)] at eo
    exact rs_ex hk eo (by decide) (RI_z c1) zs_eq (fun a b q => by rw [zs0_f a b q, hF a b q])

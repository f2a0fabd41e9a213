/-! save, restore -/
def sp_save (A : zSt) (x : Int) : zOu := if ¬ (0 ≤ x ∧ x < 2) then (1, 0, A) else (0, A.P.2.2.1, zAk A.sc A.mc A.P A.len A.tx A.n A.hi (zup A.us x.toNat 1) (fun i => if i = x.toNat then A.P else A.sv i))
theorem v_save {A : zSt} (v : VA A) {x : Int} : VA (sp_save A x).2.2 := by
  unfold sp_save
  split
  · exact v
  · refine ⟨v.1, v.2.1, v.2.2.1, fun i hi u => ?_⟩
    show VP A.sc A.mc (if i = x.toNat then A.P else A.sv i)
    by_cases q : i = x.toNat
    · rw [if_pos q]; exact v.1
    · rw [if_neg q]
      have u' : zup A.us x.toNat 1 i ≠ 0 := u
      rw [zup_ne q] at u'
      exact v.2.2.2 i hi u'
theorem c_save {A : zSt} (v : VA A) {x : Int} : CS (fun h K => M_LW_save 0 x 220 h K) A (sp_save A x) := by
  intro h K ci hk
  have eo : sp_save A x = if ¬ (0 ≤ x ∧ x < 2) then (1, 0, A) else (0, A.P.2.2.1, zAk A.sc A.mc A.P A.len A.tx A.n A.hi (zup A.us x.toNat 1) (fun i => if i = x.toNat then A.P else A.sv i)) := rfl
  generalize sp_save A x = o at *
  have hm := CI_mc v
  have c3 := ci.2.2.1
  obtain ⟨b1, b2, b3⟩ := VP_b v.1
  show M_LW_save 0 x 220 h K
  unfold M_LW_save M_AS_save
  simp only [Nat.reduceAdd]
  refine s_isSaveSlot (fun q => ⟨fun _ => ⟨q, ?_⟩, fun q3 => absurd q3 (by decide)⟩) (fun q => ⟨fun q3 => absurd rfl q3, fun _ => ⟨by trivial, ?_⟩⟩)
  · rw [if_neg (by omega)] at eo
    refine s_stateCopy (p0 := 146 + 7 * x.toNat) (p1 := 37) (by omega) (by rw [cP_ni c3]; exact b1) (by rw [cT_np (cP_T c3)]; exact b2) (by rw [cT_nd (cP_T c3)]; exact b3) (fun h1 e1 f1 => ⟨q, ?_⟩)
    rintro h2 rfl
    have hF : ∀ a b, a < 146 + 7 * x.toNat ∨ 146 + 7 * x.toNat + 6 < a → ¬ (a = 160 ∧ b = x.toNat) → zs h1 160 x.toNat 1 a b = h a b := by
      intro a b q1 q2
      rw [← f1 a b q1]
      unfold zs
      rw [if_neg q2]
    obtain ⟨c1, c2, c3, c4, c5, c6, c7⟩ := ci
    refine cs_val hk eo hm ⟨(hF _ _ (by omega) (by omega)).trans c1, (hF _ _ (by omega) (by omega)).trans c2, (cPg_same (fun k j q1 q2 => hF _ _ (by omega) (by omega))).trans c3, TCs_keep hm (fun a b q1 q2 => hF _ _ (by omega) (by omega)) c4, Ct_keep c5 (hF _ _ (by omega) (by omega)) (fun j => hF _ _ (by omega) (by omega)), HC_keep (fun a b q1 q2 => hF _ _ (by omega) (by omega)) c6, fun i hi => ⟨?_, fun u => ?_⟩⟩ (fun a b q1 q2 => hF a b (by omega) (by omega)) ?_
    · show zs h1 160 x.toNat 1 160 i = zup A.us x.toNat 1 i
      by_cases e : i = x.toNat
      · rw [e, zs_eq, zup_self]
      · rw [zup_ne e, hF _ _ (by omega) (by omega), (c7 i hi).1]
    · show _ = if i = x.toNat then A.P else A.sv i
      by_cases e : i = x.toNat
      · rw [if_pos e, e]
        exact (cPg_same (fun k j q1 q2 => zs_k (by omega))).trans (e1.trans c3)
      · have u' : zup A.us x.toNat 1 i ≠ 0 := u
        rw [zup_ne e] at u'
        rw [if_neg e]
        exact (cPg_same (fun k j q1 q2 => hF _ _ (by omega) (by omega))).trans ((c7 i hi).2 u')
    · rw [hF _ _ (by omega) (by omega)]; exact cP_ni c3
  · rw [if_pos (by omega)] at eo
    exact cs_ex hk eo (by decide) ci (fun _ _ _ _ => rfl)
theorem r_save {A : zSt} (v : VA A) {x : Int} : RS1 (fun h K => M_RM_save 197 x h K) A (sp_save A x) := by
  intro h K ci hk
  have eo : sp_save A x = if ¬ (0 ≤ x ∧ x < 2) then (1, 0, A) else (0, A.P.2.2.1, zAk A.sc A.mc A.P A.len A.tx A.n A.hi (zup A.us x.toNat 1) (fun i => if i = x.toNat then A.P else A.sv i)) := rfl
  generalize sp_save A x = o at *
  obtain ⟨b1, b2, b3⟩ := VP_b v.1
  show M_RM_save 197 x h K
  unfold M_RM_save B_RM_save_16
  refine s_in (fun q => ⟨fun q3 => absurd q3 (by decide), fun _ => s_refused (fun q3 => absurd q3 (by decide)) (fun _ => ⟨fun _ => ⟨by omega, ?_⟩, fun q3 => absurd rfl q3⟩)⟩) (fun q => ⟨fun _ => ?_, fun q3 => absurd rfl q3⟩)
  · rw [if_neg (by omega)] at eo
    simp only [Nat.reduceAdd]
    rintro h1 rfl
    refine ⟨by omega, ?_⟩
    generalize eg : zs (zs h 197 0 0) 205 x.toNat 1 = g
    have gF : ∀ a b, ¬ (a = 197 ∧ b = 0) → ¬ (a = 205 ∧ b = x.toNat) → g a b = h a b := by
      intro a b q1 q2
      rw [← eg]
      unfold zs
      rw [if_neg q2, if_neg q1]
    have g0 : g 197 0 = 0 := by rw [← eg, zs_k (by decide), zs_eq]
    have g205 : g 205 x.toNat = 1 := by rw [← eg, zs_eq]
    clear eg
    obtain ⟨c1, c2, c3, c4, ⟨c5, c6⟩, c7⟩ := ci
    have eP1 : rPg g 200 0 = A.P := (rPg_same (fun b => gF _ _ (by omega) (by omega))).trans c3
    refine s_copyPage (p0 := 200) (p2 := 204) (o1 := 0) (o3 := 193 * x.toNat) (by decide) (by rw [zl200]; decide) (by rw [zl204]; omega) (by rw [zl200]; decide) (by rw [zl204]; decide) (fun h2 e2 f2 => ?_) rfl (by omega)
    have hF : ∀ a b, a ≠ 204 → ¬ (a = 197 ∧ b = 0) → ¬ (a = 205 ∧ b = x.toNat) → h2 a b = h a b := fun a b q1 q2 q3 => (f2 a b (by omega)).trans (gF a b q2 q3)
    refine rs_val hk eo ⟨(hF _ _ (by omega) (by omega) (by omega)).trans c1, (hF _ _ (by omega) (by omega) (by omega)).trans c2, (rPg_same (fun b => hF _ _ (by omega) (by omega) (by omega))).trans c3, Rt_keep c4 (hF _ _ (by omega) (by omega) (by omega)) (fun j => hF _ _ (by omega) (by omega) (by omega)), ⟨(hF _ _ (by omega) (by omega) (by omega)).trans c5, fun i hi => (rPg_same (fun b => hF _ _ (by omega) (by omega) (by omega))).trans (c6 i hi)⟩, fun i hi => ⟨?_, fun u => ?_⟩⟩ ((f2 _ _ (by omega)).trans g0) (fun a b q => hF a b (by omega) (by omega) (by omega)) ?_
    · show h2 205 i = zup A.us x.toNat 1 i
      by_cases e : i = x.toNat
      · rw [e, zup_self, f2 _ _ (by omega), g205]
      · rw [zup_ne e, hF _ _ (by omega) (by omega) (by omega), (c7 i hi).1]
    · show _ = if i = x.toNat then A.P else A.sv i
      by_cases e : i = x.toNat
      · rw [if_pos e, e]
        refine Eq.trans (rPg_eq e2 ?_ ?_ ?_) eP1
        · rw [rP_ni eP1]; exact b1
        · rw [rT_np (rP_T eP1)]; exact b2
        · rw [rT_nd (rP_T eP1)]; exact b3
      · have u' : zup A.us x.toNat 1 i ≠ 0 := u
        rw [zup_ne e] at u'
        rw [if_neg e]
        have ei := (c7 i hi).2 u'
        obtain ⟨d1, d2, d3⟩ := VP_b (v.2.2.2 i hi u')
        refine Eq.trans (rPg_eq (fun j hj => (f2 _ _ (by omega)).trans (gF _ _ (by omega) (by omega))) ?_ ?_ ?_) ei
        · rw [rP_ni ei]; exact d1
        · rw [rT_np (rP_T ei)]; exact d2
        · rw [rT_nd (rP_T ei)]; exact d3
    · rw [hF _ _ (by omega) (by omega) (by omega)]; exact rP_ni c3
  · rw [if_pos (by omega)] at eo
    exact s_refused (fun _ => ⟨fun q3 => absurd q3 (by decide), fun _ => rs_no ci hk eo (by decide)⟩) (fun q3 => absurd q3 (by decide))
def sp_restore (A : zSt) (x : Int) : zOu := if ¬ (0 ≤ x ∧ x < 2) then (1, 0, A) else if A.us x.toNat = 0 then (2, 0, A) else (0, (A.sv x.toNat).2.2.1, zAk A.sc A.mc (A.sv x.toNat) A.len A.tx 0 A.hi A.us A.sv)
theorem v_restore {A : zSt} (v : VA A) {x : Int} : VA (sp_restore A x).2.2 := by
  unfold sp_restore
  split
  · exact v
  split
  · exact v
  · exact ⟨v.2.2.2 x.toNat (by omega) (by assumption), show 0 ≤ 14 by omega, fun i (hi : i < 0) => by omega, v.2.2.2⟩
theorem c_restore {A : zSt} (v : VA A) {x : Int} : CS (fun h K => M_LW_restore 0 x 220 h K) A (sp_restore A x) := by
  intro h K ci hk
  have eo : sp_restore A x = if ¬ (0 ≤ x ∧ x < 2) then (1, 0, A) else if A.us x.toNat = 0 then (2, 0, A) else (0, (A.sv x.toNat).2.2.1, zAk A.sc A.mc (A.sv x.toNat) A.len A.tx 0 A.hi A.us A.sv) := rfl
  generalize sp_restore A x = o at *
  have hm := CI_mc v
  show M_LW_restore 0 x 220 h K
  unfold M_LW_restore M_AS_restore
  simp only [Nat.reduceAdd]
  refine s_isSaveSlot (fun q => ⟨fun _ => ⟨q, ?_⟩, fun q3 => absurd q3 (by decide)⟩) (fun q => ⟨fun q3 => absurd rfl q3, fun _ => Or.inl ⟨by trivial, ?_⟩⟩)
  · rw [if_neg (by omega)] at eo
    obtain ⟨u1, u2⟩ := ci.2.2.2.2.2.2 x.toNat (by omega)
    rw [u1]
    refine ⟨fun qu => ⟨q, ?_⟩, fun qu => Or.inr ⟨by trivial, ?_⟩⟩
    · rw [if_neg qu] at eo
      have e0 := u2 qu
      have vn := v.2.2.2 x.toNat (by omega) qu
      obtain ⟨b1, b2, b3⟩ := VP_b vn
      refine s_stateCopy (p0 := 37) (p1 := 146 + 7 * x.toNat) (by omega) (by rw [cP_ni e0]; exact b1) (by rw [cT_np (cP_T e0)]; exact b2) (by rw [cT_nd (cP_T e0)]; exact b3) (fun h1 e1 f1 => ?_)
      have eP := e1.trans e0
      refine s_makeAll (c := (A.sv x.toNat).1) (fun j hj => cP_ct eP hj) vn.1.2.1 (fun h4 t4 f4 => ?_)
      unfold M_History_forget
      rintro h5 rfl
      have hF : ∀ a b, a < 7 ∨ 43 < a → ¬ (a = 44 ∧ b = 2) → zs h4 44 2 0 a b = h a b := by
        intro a b q1 q2
        rw [← f1 a b (by omega), ← f4 a b (by omega)]
        unfold zs
        rw [if_neg q2]
      obtain ⟨c1, c2, c3, c4, c5, ⟨nx, n1, n2, n3, n4⟩, c7⟩ := ci
      have eP5 : cPg (zs h4 44 2 0) 37 = A.sv x.toNat := (cPg_same (fun k j q1 q2 => (zs_k (by omega)).trans (f4 _ _ (by omega)))).trans eP
      refine cs_val hk eo hm ⟨(hF _ _ (by omega) (by omega)).trans c1, (hF _ _ (by omega) (by omega)).trans c2, eP5, fun m hm1 => ?_, Ct_keep c5 (hF _ _ (by omega) (by omega)) (fun j => hF _ _ (by omega) (by omega)), ⟨nx, n1, (hF _ _ (by omega) (by omega)).trans n2, zs_eq, fun i (hi : i < 0) => by omega⟩, fun i hi => ⟨(hF _ _ (by omega) (by omega)).trans (c7 i hi).1, fun u => (cPg_same (fun k j q1 q2 => hF _ _ (by omega) (by omega))).trans ((c7 i hi).2 u)⟩⟩ (fun a b q1 q2 => hF a b (by omega) (by omega)) (cP_ni eP5)
      have hm1' : m < A.mc := hm1
      exact TC_keep (fun a b q1 q2 => zs_k (by omega)) (t4 m (by omega) (vn.1.2.2.2 m hm1'))
    · rw [if_pos qu] at eo
      exact cs_ex hk eo (by decide) ci (fun _ _ _ _ => rfl)
  · rw [if_pos (by omega)] at eo
    exact cs_ex hk eo (by decide) ci (fun _ _ _ _ => rfl)
theorem r_restore {A : zSt} (v : VA A) {x : Int} : RS1 (fun h K => M_RM_restore 197 x h K) A (sp_restore A x) := by
  intro h K ci hk
  have eo : sp_restore A x = if ¬ (0 ≤ x ∧ x < 2) then (1, 0, A) else if A.us x.toNat = 0 then (2, 0, A) else (0, (A.sv x.toNat).2.2.1, zAk A.sc A.mc (A.sv x.toNat) A.len A.tx 0 A.hi A.us A.sv) := rfl
  generalize sp_restore A x = o at *
  show M_RM_restore 197 x h K
  unfold M_RM_restore B_RM_restore_29
  refine s_in (fun q => ⟨fun _ => ⟨by omega, ?_⟩, fun q3 => absurd q3 (by decide)⟩) (fun q => ⟨fun q3 => absurd rfl q3, fun _ => ?_⟩)
  · rw [if_neg (by omega)] at eo
    simp only [Nat.reduceAdd]
    obtain ⟨u1, u2⟩ := ci.2.2.2.2.2 x.toNat (by omega)
    rw [u1]
    refine ⟨fun qu => s_refused (fun q3 => absurd q3 (by decide)) (fun _ => ⟨fun _ => ⟨by omega, ?_⟩, fun q3 => absurd rfl q3⟩), fun qu => ?_⟩
    · rw [if_neg qu] at eo
      have vn := v.2.2.2 x.toNat (by omega) qu
      obtain ⟨b1, b2, b3⟩ := VP_b vn
      have e0 : rPg (zs h 197 0 0) 204 (193 * x.toNat) = A.sv x.toNat := (rPg_same (fun b => zs_k (by decide))).trans (u2 qu)
      refine s_copyPage (p0 := 204) (p2 := 200) (o1 := 193 * x.toNat) (o3 := 0) (by decide) (by rw [zl204]; omega) (by rw [zl200]; decide) (by rw [zl204]; decide) (by rw [zl200]; decide) (fun h2 e2 f2 => ?_) (by omega) rfl
      rintro h3 rfl
      have hF : ∀ a b, a ≠ 200 → ¬ (a = 197 ∧ (b = 0 ∨ b = 13)) → zs h2 197 13 0 a b = h a b := by
        intro a b q1 q2
        have : zs h2 197 13 0 a b = h2 a b := by unfold zs; rw [if_neg (by omega)]
        rw [this, f2 a b (by omega)]
        unfold zs
        rw [if_neg (by omega)]
      have eP : rPg (zs h2 197 13 0) 200 0 = A.sv x.toNat := by
        refine Eq.trans (rPg_eq (c := 204) (o := 193 * x.toNat) (fun j hj => (zs_k (by decide)).trans (e2 j hj)) ?_ ?_ ?_) e0
        · rw [rP_ni e0]; exact b1
        · rw [rT_np (rP_T e0)]; exact b2
        · rw [rT_nd (rP_T e0)]; exact b3
      obtain ⟨c1, c2, c3, c4, ⟨c5, c6⟩, c7⟩ := ci
      exact rs_val hk eo ⟨(hF _ _ (by omega) (by omega)).trans c1, (hF _ _ (by omega) (by omega)).trans c2, eP, Rt_keep c4 (hF _ _ (by omega) (by omega)) (fun j => hF _ _ (by omega) (by omega)), ⟨zs_eq, fun i (hi : i < 0) => by omega⟩, fun i hi => ⟨(hF _ _ (by omega) (by omega)).trans (c7 i hi).1, fun u => (rPg_same (fun b => hF _ _ (by omega) (by omega))).trans ((c7 i hi).2 u)⟩⟩ (by rw [zs_j (by decide), f2 _ _ (by omega), zs_eq]) (fun a b q => hF a b (by omega) (by omega)) (rP_ni eP)
    · rw [if_pos qu] at eo
      exact s_refused (fun _ => ⟨fun q3 => absurd q3 (by decide), fun _ => rs_no ci hk eo (by decide)⟩) (fun q3 => absurd q3 (by decide))
  · rw [if_pos (by omega)] at eo
    exact s_refused (fun _ => ⟨fun q3 => absurd q3 (by decide), fun _ => rs_no ci hk eo (by decide)⟩) (fun q3 => absurd q3 (by decide))

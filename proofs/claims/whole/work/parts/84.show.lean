/-! about, symbol, bucket, slot, item, tape -/
def va (A : zSt) (x : Int) : Int := if x = 0 then (A.sc : Int) else if x = 1 then (A.mc : Int) else if x = 2 then A.P.2.2.1 else if x = 3 then ((lA A.P).1 : Int) else if x = 4 then A.P.2.2.2.2.2.2.1 else if x = 5 then A.P.2.2.2.2.2.1 else if tin A.P.1 A.P.2.2.2 then 1 else 0
def sp_about (A : zSt) (x : Int) : zOu := if x < 0 ∨ 6 < x then (1, 0, A) else (0, va A x, A)
theorem c_about {A : zSt} (v : VA A) {x : Int} : CS (fun h K => M_LW_about 0 x 220 h K) A (sp_about A x) := by
  intro h K c hk
  have eo : sp_about A x = if x < 0 ∨ 6 < x then (1, 0, A) else (0, va A x, A) := rfl
  generalize sp_about A x = o at *
  have hm := v.1.1.1.2.2.2
  have c3 := c.2.2.1
  have fr : ∀ a b, 197 ≤ a → a ≠ 220 → h a b = h a b := fun _ _ _ _ => rfl
  show M_LW_about 0 x 220 h K
  unfold M_LW_about M_AS_about
  simp only [Nat.reduceAdd]
  refine ⟨fun q => ⟨by trivial, ?_⟩, fun q => ?_, fun q => ?_, fun q => ?_, fun q => ?_, fun q => ?_, fun q => ?_, fun q => ?_⟩
  · rw [if_pos q] at eo
    exact cs_ex hk eo (by decide) c fr
  all_goals rw [if_neg (by omega)] at eo
  · exact cs_val hk eo hm c fr (by rw [c.1]; unfold va; rw [if_pos q])
  · exact cs_val hk eo hm c fr (by rw [c.2.1]; unfold va; rw [if_neg (by omega), if_pos q])
  · exact cs_val hk eo hm c fr (by rw [cP_ni c3]; unfold va; rw [if_neg (by omega), if_neg (by omega), if_pos q])
  · refine s_listP (q := 161) (a := 37) (by omega) v.1 c3 (fun h1 l1 f1 => ?_)
    exact cs_val hk eo hm (CI_keep hm c (fun a b q1 q2 q3 q4 => f1 a b (by omega))) (fun a b q1 q2 => f1 a b (by omega)) (by rw [l1.1]; unfold va; rw [if_neg (by omega), if_neg (by omega), if_neg (by omega), if_pos q])
  · exact cs_val hk eo hm c fr (by rw [cT_nd (cP_T c3)]; unfold va; rw [if_neg (by omega), if_neg (by omega), if_neg (by omega), if_neg (by omega), if_pos q])
  · exact cs_val hk eo hm c fr (by rw [cT_np (cP_T c3)]; unfold va; rw [if_neg (by omega), if_neg (by omega), if_neg (by omega), if_neg (by omega), if_neg (by omega), if_pos q])
  · refine s_takeAll (q := 164) (t := 40) (by omega) (by omega) v.1.1 c.2.2.2.1 (cP_T c3) v.1.2.2.2 (fun h1 t1 f1 => ?_)
    have ev : va A x = if tin A.P.1 A.P.2.2.2 then 1 else 0 := by
      unfold va
      rw [if_neg (by omega), if_neg (by omega), if_neg (by omega), if_neg (by omega), if_neg (by omega), if_neg (by omega)]
    have c1 := CI_keep hm c (fun a b q1 q2 q3 q4 => f1 a b (by omega))
    rcases t1.2.2.2.2.2 with ⟨y1, y2⟩ | ⟨y1, y2⟩
    · rw [if_pos y2] at ev
      refine ⟨fun q => by omega, fun q => cs_val hk eo hm c1 (fun a b q1 q2 => f1 a b (by omega)) ev.symm⟩
    · rw [if_neg y2] at ev
      refine ⟨fun q => cs_val hk eo hm c1 (fun a b q1 q2 => f1 a b (by omega)) ev.symm, fun q => by omega⟩
theorem r_about {A : zSt} (v : VA A) {x : Int} : RS1 (fun h K => M_RM_about 197 x h K) A (sp_about A x) := by
  intro h K c hk
  have eo : sp_about A x = if x < 0 ∨ 6 < x then (1, 0, A) else (0, va A x, A) := rfl
  generalize sp_about A x = o at *
  show M_RM_about 197 x h K
  unfold M_RM_about B_RM_about_18
  refine s_in (fun q => ⟨fun q2 => absurd q2 (by decide), fun _ => s_refused (fun q3 => absurd q3 (by decide)) (fun _ => ⟨fun _ => ?_, fun q3 => absurd rfl q3⟩)⟩) (fun q => ⟨fun _ => s_refused (fun _ => ⟨fun q3 => absurd q3 (by decide), fun _ => ?_⟩) (fun q3 => absurd q3 (by decide)), fun q2 => absurd rfl q2⟩)
  · rw [if_neg (by omega)] at eo
    have c1 : RI (zs h 197 0 0) A := RI_z c
    have c3 := c1.2.2.1
    have t1 : zs h 197 0 0 197 0 = 0 := zs_eq
    have n1 : zs h 197 0 0 200 188 = A.P.2.2.1 := rP_ni c3
    have n2 : zs h 197 0 0 200 189 = A.P.2.2.2.2.2.1 := rT_np (rP_T c3)
    have n3 : zs h 197 0 0 200 190 = A.P.2.2.2.2.2.2.1 := rT_nd (rP_T c3)
    have hF := zs0_f (h := h) (u := 0)
    generalize zs h 197 0 0 = h1 at *
    simp only [Nat.reduceAdd]
    refine ⟨fun q => ?_, fun q => ?_, fun q => ?_, fun q => ?_, fun q => ?_, fun q => ?_, fun q => ?_⟩
    · refine s_layP zl200 (by omega) c1.1 c1.2.1 c3 v.1 (fun h2 l2 f2 => ?_)
      have c2 := RI_lay c1 f2
      refine s_rtake (p := 197) (p1 := 200) zl200 (by omega) v.1.1 l2 (rP_T c2.2.2.1) v.1.2.2.2 (fun r h3 o3 k3 f3 => ?_)
      have ev : va A x = if tin A.P.1 A.P.2.2.2 then 1 else 0 := by
        unfold va
        rw [if_neg (by omega), if_neg (by omega), if_neg (by omega), if_neg (by omega), if_neg (by omega), if_neg (by omega)]
      have c4 : RI h3 A := RI_keep c2 (fun a b q => f3 a b (by omega) (by omega) (by omega) (by omega))
      have t4 : h3 197 0 = 0 := by rw [f3 _ _ (by omega) (by omega) (by omega) (by omega), f2 _ _ (by omega), t1]
      have hF4 : ∀ a b, a < 197 ∨ a = 220 → h3 a b = h a b := fun a b q => by rw [f3 a b (by omega) (by omega) (by omega) (by omega), f2 a b (by omega), hF a b q]
      rcases o3 with ⟨y1, y2⟩ | ⟨y1, y2⟩
      · rw [if_pos y2] at ev
        exact ⟨fun q => by omega, fun q => rs_val hk eo c4 t4 hF4 ev.symm⟩
      · rw [if_neg y2] at ev
        exact ⟨fun q => rs_val hk eo c4 t4 hF4 ev.symm, fun q => by omega⟩
    · exact rs_val hk eo c1 t1 hF (by rw [c1.1]; unfold va; rw [if_pos q])
    · exact rs_val hk eo c1 t1 hF (by rw [c1.2.1]; unfold va; rw [if_neg (by omega), if_pos q])
    · exact rs_val hk eo c1 t1 hF (by rw [n1]; unfold va; rw [if_neg (by omega), if_neg (by omega), if_pos q])
    · refine s_layMP zl200 (by omega) v.1 c3 (fun h2 l2 f2 => ?_)
      refine rs_val hk eo (RI_keep c1 (fun a b q => f2 a b (by omega) (by omega) (by omega))) (by rw [f2 _ _ (by omega) (by omega) (by omega), t1]) (fun a b q => by rw [f2 a b (by omega) (by omega) (by omega), hF a b q]) (by rw [l2.1]; unfold va; rw [if_neg (by omega), if_neg (by omega), if_neg (by omega), if_pos q])
    · exact rs_val hk eo c1 t1 hF (by rw [n3]; unfold va; rw [if_neg (by omega), if_neg (by omega), if_neg (by omega), if_neg (by omega), if_pos q])
    · exact rs_val hk eo c1 t1 hF (by rw [n2]; unfold va; rw [if_neg (by omega), if_neg (by omega), if_neg (by omega), if_neg (by omega), if_neg (by omega), if_pos q])
  · rw [if_pos (by omega)] at eo
    exact rs_no c hk eo (by decide)
def sp_symbol (A : zSt) (m s w : Int) : zOu := if ¬ ((0 ≤ m ∧ m < A.mc) ∧ (0 ≤ s ∧ s < A.sc)) then (1, 0, A) else if ¬ (0 ≤ w ∧ w ≤ 1) then (2, 0, A) else (0, (if w = 0 then A.P.1 (8 * m + s).toNat else fF (cm A.P.1 m.toNat) s.toNat), A)
theorem c_symbol {A : zSt} (v : VA A) {m s w : Int} : CS (fun h K => M_LW_symbol 0 m s w 220 h K) A (sp_symbol A m s w) := by
  intro h K c hk
  have eo : sp_symbol A m s w = if ¬ ((0 ≤ m ∧ m < A.mc) ∧ (0 ≤ s ∧ s < A.sc)) then (1, 0, A) else if ¬ (0 ≤ w ∧ w ≤ 1) then (2, 0, A) else (0, (if w = 0 then A.P.1 (8 * m + s).toNat else fF (cm A.P.1 m.toNat) s.toNat), A) := rfl
  generalize sp_symbol A m s w = o at *
  obtain ⟨s1, s2, m1, m2⟩ := v.1.1.1
  have c3 := c.2.2.1
  have fr : ∀ a b, 197 ≤ a → a ≠ 220 → h a b = h a b := fun _ _ _ _ => rfl
  show M_LW_symbol 0 m s w 220 h K
  unfold M_LW_symbol M_AS_symbol M_State_countOf
  simp only [Nat.reduceAdd]
  refine s_hasModel c.2.1 (fun qm => ⟨fun q => absurd q (by decide), fun _ => s_hasSymbol c.1 (fun qs => ⟨fun _ => ⟨fun q => Or.inr ⟨by trivial, ?_⟩, fun q => ⟨fun q2 => ⟨fun q3 => ?_, fun q3 => ?_⟩, fun q2 => Or.inr ⟨by trivial, ?_⟩⟩⟩, fun q => absurd q (by decide)⟩) (fun qs => ⟨fun q => absurd rfl q, fun _ => Or.inl ⟨by trivial, ?_⟩⟩)⟩) (fun qm => ⟨fun _ => Or.inl ⟨by trivial, ?_⟩, fun q => absurd rfl q⟩)
  · rw [if_neg (by omega), if_pos (by omega)] at eo
    exact cs_ex hk eo (by decide) c fr
  · rw [if_neg (by omega), if_neg (by omega)] at eo
    refine s_of (by omega) (s_frequencyOf (by omega) ?_)
    have tm := (c.2.2.2.1 m.toNat (by omega)).1 s.toNat (by omega)
    exact cs_val hk eo m2 c fr (by rw [tm, if_neg q3])
  · rw [if_neg (by omega), if_neg (by omega)] at eo
    refine s_countIn (p1 := 38) (by decide +kernel) (by omega) (by omega) ?_
    refine cs_val hk eo m2 c fr ?_
    rw [if_pos q3, cP_ct c3 (by omega), show m * 8 + s = 8 * m + s by omega]
  · rw [if_neg (by omega), if_pos (by omega)] at eo
    exact cs_ex hk eo (by decide) c fr
  · rw [if_pos (by omega)] at eo
    exact cs_ex hk eo (by decide) c fr
  · rw [if_pos (by omega)] at eo
    exact cs_ex hk eo (by decide) c fr
theorem r_symbol {A : zSt} (v : VA A) {m s w : Int} : RS1 (fun h K => M_RM_symbol 197 m s w h K) A (sp_symbol A m s w) := by
  intro h K c hk
  have eo : sp_symbol A m s w = if ¬ ((0 ≤ m ∧ m < A.mc) ∧ (0 ≤ s ∧ s < A.sc)) then (1, 0, A) else if ¬ (0 ≤ w ∧ w ≤ 1) then (2, 0, A) else (0, (if w = 0 then A.P.1 (8 * m + s).toNat else fF (cm A.P.1 m.toNat) s.toNat), A) := rfl
  generalize sp_symbol A m s w = o at *
  obtain ⟨s1, s2, m1, m2⟩ := v.1.1.1
  show M_RM_symbol 197 m s w h K
  unfold M_RM_symbol B_RM_symbol_17 B_RM_symbol_36
  have no : ¬ ((0 ≤ m ∧ m < A.mc) ∧ (0 ≤ s ∧ s < A.sc)) → M_RM_refused 197 1 h (fun r_2 h_1 => (r_2 = 0 → (M_RM_layTables 197 (197 + 3) h_1 (fun h_3 => (w ≠ 0 → (zr (8 * m) ∧ (zr ((8 * m) + s) ∧ ((0 ≤ (8 * m) + s ∧ (8 * m) + s < 24) ∧ (K (h_3 (197 + 9) (((8 * m) + s).toNat)) h_3))))) ∧ (w = 0 → (zr (8 * m) ∧ (zr ((8 * m) + s) ∧ ((0 ≤ (8 * m) + s ∧ (8 * m) + s < 193) ∧ (K (h_3 (197 + 3) (((8 * m) + s).toNat)) h_3)))))))) ∧ (r_2 ≠ 0 → (K 0 h_1))) := by
    intro q
    rw [if_pos q] at eo
    exact s_refused (fun _ => ⟨fun q3 => absurd q3 (by decide), fun _ => rs_no c hk eo (by decide)⟩) (fun q3 => absurd q3 (by decide))
  refine s_isModel m2 c.2.1 (fun qm => ⟨fun q => absurd q (by decide), fun _ => s_isSymbol s2 c.1 (fun qs => ⟨fun _ => s_in (fun qw => ⟨fun _ => ?_, fun q => absurd q (by decide)⟩) (fun qw => ⟨fun q => absurd rfl q, fun _ => ?_⟩), fun q => absurd q (by decide)⟩) (fun qs => ⟨fun q => absurd rfl q, fun _ => no (by omega)⟩)⟩) (fun qm => ⟨fun _ => no (by omega), fun q => absurd rfl q⟩)
  · rw [if_neg (by omega), if_neg (by omega)] at eo
    refine s_refused (fun q3 => absurd q3 (by decide)) (fun _ => ⟨fun _ => ?_, fun q3 => absurd rfl q3⟩)
    have c1 : RI (zs h 197 0 0) A := RI_z c
    refine s_layP zl200 (by omega) c1.1 c1.2.1 c1.2.2.1 v.1 (fun h2 l2 f2 => ?_)
    have c2 := RI_lay c1 f2
    have t2 : h2 197 0 = 0 := by rw [f2 _ _ (by omega), zs_eq]
    have hF : ∀ a b, a < 197 ∨ a = 220 → h2 a b = h a b := fun a b q => by rw [f2 a b (by omega), zs0_f a b q]
    refine ⟨fun q => ⟨by omega, by omega, by omega, rs_val hk eo c2 t2 hF ?_⟩, fun q => ⟨by omega, by omega, by omega, rs_val hk eo c2 t2 hF ?_⟩⟩
    · rw [if_neg q, ← (l2 m.toNat (by omega)).1 s.toNat (by omega), show (8 * m + s).toNat = 8 * m.toNat + s.toNat by omega]
    · rw [if_pos q]
      have := rP_ct c2.2.2.1 (j := (8 * m + s).toNat) (by omega)
      rw [Nat.zero_add] at this
      exact this
  · rw [if_neg (by omega), if_pos (by omega)] at eo
    exact s_refused (fun _ => ⟨fun q3 => absurd q3 (by decide), fun _ => rs_no c hk eo (by decide)⟩) (fun q3 => absurd q3 (by decide))
def sp_bucket (A : zSt) (m s w : Int) : zOu := if ¬ ((0 ≤ m ∧ m < A.mc) ∧ (0 ≤ s ∧ s < 8)) then (1, 0, A) else if ¬ (0 ≤ w ∧ w ≤ 1) then (2, 0, A) else (0, (if w = 0 then (cBn (fF (cm A.P.1 m.toNat)) 8).1 s.toNat else (cBn (fF (cm A.P.1 m.toNat)) 8).2.2 s.toNat), A)
theorem c_bucket {A : zSt} (v : VA A) {m s w : Int} : CS (fun h K => M_LW_bucket 0 m s w 220 h K) A (sp_bucket A m s w) := by
  intro h K c hk
  have eo : sp_bucket A m s w = if ¬ ((0 ≤ m ∧ m < A.mc) ∧ (0 ≤ s ∧ s < 8)) then (1, 0, A) else if ¬ (0 ≤ w ∧ w ≤ 1) then (2, 0, A) else (0, (if w = 0 then (cBn (fF (cm A.P.1 m.toNat)) 8).1 s.toNat else (cBn (fF (cm A.P.1 m.toNat)) 8).2.2 s.toNat), A) := rfl
  generalize sp_bucket A m s w = o at *
  obtain ⟨s1, s2, m1, m2⟩ := v.1.1.1
  have fr : ∀ a b, 197 ≤ a → a ≠ 220 → h a b = h a b := fun _ _ _ _ => rfl
  show M_LW_bucket 0 m s w 220 h K
  unfold M_LW_bucket M_AS_bucket
  simp only [Nat.reduceAdd]
  refine s_hasModel c.2.1 (fun qm => ⟨fun q => absurd q (by decide), fun _ => ⟨fun qs => Or.inl ⟨by trivial, ?_⟩, fun qs => ⟨fun qs2 => ⟨fun q => Or.inr ⟨by trivial, ?_⟩, fun q => ⟨fun q2 => s_of (by omega) ⟨fun q3 => ⟨by omega, ?_⟩, fun q3 => ⟨by omega, ?_⟩⟩, fun q2 => Or.inr ⟨by trivial, ?_⟩⟩⟩, fun qs2 => Or.inl ⟨by trivial, ?_⟩⟩⟩⟩) (fun qm => ⟨fun _ => Or.inl ⟨by trivial, ?_⟩, fun q => absurd rfl q⟩)
  · rw [if_pos (by omega)] at eo
    exact cs_ex hk eo (by decide) c fr
  · rw [if_neg (by omega), if_pos (by omega)] at eo
    exact cs_ex hk eo (by decide) c fr
  · rw [if_neg (by omega), if_neg (by omega)] at eo
    have tm := ((c.2.2.2.1 m.toNat (by omega)).2.1 s.toNat (by omega)).2
    exact cs_val hk eo m2 c fr (by rw [tm, if_neg q3])
  · rw [if_neg (by omega), if_neg (by omega)] at eo
    have tm := ((c.2.2.2.1 m.toNat (by omega)).2.1 s.toNat (by omega)).1
    exact cs_val hk eo m2 c fr (by rw [tm, if_pos q3])
  · rw [if_neg (by omega), if_pos (by omega)] at eo
    exact cs_ex hk eo (by decide) c fr
  · rw [if_pos (by omega)] at eo
    exact cs_ex hk eo (by decide) c fr
  · rw [if_pos (by omega)] at eo
    exact cs_ex hk eo (by decide) c fr
theorem r_bucket {A : zSt} (v : VA A) {m s w : Int} : RS1 (fun h K => M_RM_bucket 197 m s w h K) A (sp_bucket A m s w) := by
  intro h K c hk
  have eo : sp_bucket A m s w = if ¬ ((0 ≤ m ∧ m < A.mc) ∧ (0 ≤ s ∧ s < 8)) then (1, 0, A) else if ¬ (0 ≤ w ∧ w ≤ 1) then (2, 0, A) else (0, (if w = 0 then (cBn (fF (cm A.P.1 m.toNat)) 8).1 s.toNat else (cBn (fF (cm A.P.1 m.toNat)) 8).2.2 s.toNat), A) := rfl
  generalize sp_bucket A m s w = o at *
  obtain ⟨s1, s2, m1, m2⟩ := v.1.1.1
  show M_RM_bucket 197 m s w h K
  unfold M_RM_bucket B_RM_bucket_21 B_RM_bucket_40
  refine s_isModel m2 c.2.1 (fun qm => ⟨fun q => absurd q (by decide), fun _ => s_in (fun qs => ⟨fun _ => s_in (fun qw => ⟨fun _ => ?_, fun q => absurd q (by decide)⟩) (fun qw => ⟨fun q => absurd rfl q, fun _ => ?_⟩), fun q => absurd q (by decide)⟩) (fun qs => ⟨fun q => absurd rfl q, fun _ => ?_⟩)⟩) (fun qm => ⟨fun _ => ?_, fun q => absurd rfl q⟩)
  · rw [if_neg (by omega), if_neg (by omega)] at eo
    refine s_refused (fun q3 => absurd q3 (by decide)) (fun _ => ⟨fun _ => ?_, fun q3 => absurd rfl q3⟩)
    have c1 : RI (zs h 197 0 0) A := RI_z c
    refine s_layP zl200 (by omega) c1.1 c1.2.1 c1.2.2.1 v.1 (fun h2 l2 f2 => ?_)
    have c2 := RI_lay c1 f2
    have t2 : h2 197 0 = 0 := by rw [f2 _ _ (by omega), zs_eq]
    have hF : ∀ a b, a < 197 ∨ a = 220 → h2 a b = h a b := fun a b q => by rw [f2 a b (by omega), zs0_f a b q]
    have lm := (l2 m.toNat (by omega)).2.1 s.toNat (by omega)
    rw [show 8 * m.toNat + s.toNat = (8 * m + s).toNat by omega] at lm
    refine ⟨fun q => ⟨by omega, by omega, by omega, rs_val hk eo c2 t2 hF ?_⟩, fun q => ⟨by omega, by omega, by omega, rs_val hk eo c2 t2 hF ?_⟩⟩
    · rw [if_neg q]; exact lm.2
    · rw [if_pos q]; exact lm.1
  · rw [if_neg (by omega), if_pos (by omega)] at eo
    exact s_refused (fun _ => ⟨fun q3 => absurd q3 (by decide), fun _ => rs_no c hk eo (by decide)⟩) (fun q3 => absurd q3 (by decide))
  · rw [if_pos (by omega)] at eo
    exact s_refused (fun _ => ⟨fun q3 => absurd q3 (by decide), fun _ => rs_no c hk eo (by decide)⟩) (fun q3 => absurd q3 (by decide))
  · rw [if_pos (by omega)] at eo
    exact s_refused (fun _ => ⟨fun q3 => absurd q3 (by decide), fun _ => rs_no c hk eo (by decide)⟩) (fun q3 => absurd q3 (by decide))
def sp_slot (A : zSt) (m s w : Int) : zOu := if ¬ ((0 ≤ m ∧ m < A.mc) ∧ (0 ≤ s ∧ s < 32)) then (1, 0, A) else if ¬ (0 ≤ w ∧ w ≤ 1) then (2, 0, A) else (0, (if w = 0 then fS (fF (cm A.P.1 m.toNat)) s.toNat else fI (fF (cm A.P.1 m.toNat)) s.toNat), A)
theorem c_slot {A : zSt} (v : VA A) {m s w : Int} : CS (fun h K => M_LW_slot 0 m s w 220 h K) A (sp_slot A m s w) := by
  intro h K c hk
  have eo : sp_slot A m s w = if ¬ ((0 ≤ m ∧ m < A.mc) ∧ (0 ≤ s ∧ s < 32)) then (1, 0, A) else if ¬ (0 ≤ w ∧ w ≤ 1) then (2, 0, A) else (0, (if w = 0 then fS (fF (cm A.P.1 m.toNat)) s.toNat else fI (fF (cm A.P.1 m.toNat)) s.toNat), A) := rfl
  generalize sp_slot A m s w = o at *
  obtain ⟨s1, s2, m1, m2⟩ := v.1.1.1
  have fr : ∀ a b, 197 ≤ a → a ≠ 220 → h a b = h a b := fun _ _ _ _ => rfl
  show M_LW_slot 0 m s w 220 h K
  unfold M_LW_slot M_AS_slot
  simp only [Nat.reduceAdd]
  refine s_hasModel c.2.1 (fun qm => ⟨fun q => absurd q (by decide), fun _ => ⟨fun qs => Or.inl ⟨by trivial, ?_⟩, fun qs => ⟨fun qs2 => ⟨fun q => Or.inr ⟨by trivial, ?_⟩, fun q => ⟨fun q2 => s_of (by omega) ⟨fun q3 => ⟨by omega, ?_⟩, fun q3 => ⟨by omega, ?_⟩⟩, fun q2 => Or.inr ⟨by trivial, ?_⟩⟩⟩, fun qs2 => Or.inl ⟨by trivial, ?_⟩⟩⟩⟩) (fun qm => ⟨fun _ => Or.inl ⟨by trivial, ?_⟩, fun q => absurd rfl q⟩)
  · rw [if_pos (by omega)] at eo
    exact cs_ex hk eo (by decide) c fr
  · rw [if_neg (by omega), if_pos (by omega)] at eo
    exact cs_ex hk eo (by decide) c fr
  · rw [if_neg (by omega), if_neg (by omega)] at eo
    have tm := ((c.2.2.2.1 m.toNat (by omega)).2.2 s.toNat (by omega)).2.1
    exact cs_val hk eo m2 c fr (by rw [tm, if_neg q3])
  · rw [if_neg (by omega), if_neg (by omega)] at eo
    have tm := ((c.2.2.2.1 m.toNat (by omega)).2.2 s.toNat (by omega)).1
    exact cs_val hk eo m2 c fr (by rw [tm, if_pos q3])
  · rw [if_neg (by omega), if_pos (by omega)] at eo
    exact cs_ex hk eo (by decide) c fr
  · rw [if_pos (by omega)] at eo
    exact cs_ex hk eo (by decide) c fr
  · rw [if_pos (by omega)] at eo
    exact cs_ex hk eo (by decide) c fr
theorem r_slot {A : zSt} (v : VA A) {m s w : Int} : RS1 (fun h K => M_RM_slot 197 m s w h K) A (sp_slot A m s w) := by
  intro h K c hk
  have eo : sp_slot A m s w = if ¬ ((0 ≤ m ∧ m < A.mc) ∧ (0 ≤ s ∧ s < 32)) then (1, 0, A) else if ¬ (0 ≤ w ∧ w ≤ 1) then (2, 0, A) else (0, (if w = 0 then fS (fF (cm A.P.1 m.toNat)) s.toNat else fI (fF (cm A.P.1 m.toNat)) s.toNat), A) := rfl
  generalize sp_slot A m s w = o at *
  obtain ⟨s1, s2, m1, m2⟩ := v.1.1.1
  show M_RM_slot 197 m s w h K
  unfold M_RM_slot B_RM_slot_21 B_RM_slot_40
  refine s_isModel m2 c.2.1 (fun qm => ⟨fun q => absurd q (by decide), fun _ => s_in (fun qs => ⟨fun _ => s_in (fun qw => ⟨fun _ => ?_, fun q => absurd q (by decide)⟩) (fun qw => ⟨fun q => absurd rfl q, fun _ => ?_⟩), fun q => absurd q (by decide)⟩) (fun qs => ⟨fun q => absurd rfl q, fun _ => ?_⟩)⟩) (fun qm => ⟨fun _ => ?_, fun q => absurd rfl q⟩)
  · rw [if_neg (by omega), if_neg (by omega)] at eo
    refine s_refused (fun q3 => absurd q3 (by decide)) (fun _ => ⟨fun _ => ?_, fun q3 => absurd rfl q3⟩)
    have c1 : RI (zs h 197 0 0) A := RI_z c
    refine s_layP zl200 (by omega) c1.1 c1.2.1 c1.2.2.1 v.1 (fun h2 l2 f2 => ?_)
    have c2 := RI_lay c1 f2
    have t2 : h2 197 0 = 0 := by rw [f2 _ _ (by omega), zs_eq]
    have hF : ∀ a b, a < 197 ∨ a = 220 → h2 a b = h a b := fun a b q => by rw [f2 a b (by omega), zs0_f a b q]
    have lm := (l2 m.toNat (by omega)).2.2 s.toNat (by omega)
    rw [show 32 * m.toNat + s.toNat = (32 * m + s).toNat by omega] at lm
    refine ⟨fun q => ⟨by omega, by omega, by omega, rs_val hk eo c2 t2 hF ?_⟩, fun q => ⟨by omega, by omega, by omega, rs_val hk eo c2 t2 hF ?_⟩⟩
    · rw [if_neg q]; exact lm.2.1
    · rw [if_pos q]; exact lm.1
  · rw [if_neg (by omega), if_pos (by omega)] at eo
    exact s_refused (fun _ => ⟨fun q3 => absurd q3 (by decide), fun _ => rs_no c hk eo (by decide)⟩) (fun q3 => absurd q3 (by decide))
  · rw [if_pos (by omega)] at eo
    exact s_refused (fun _ => ⟨fun q3 => absurd q3 (by decide), fun _ => rs_no c hk eo (by decide)⟩) (fun q3 => absurd q3 (by decide))
  · rw [if_pos (by omega)] at eo
    exact s_refused (fun _ => ⟨fun q3 => absurd q3 (by decide), fun _ => rs_no c hk eo (by decide)⟩) (fun q3 => absurd q3 (by decide))
def sp_item (A : zSt) (x : Int) : zOu := if ¬ (0 ≤ x ∧ x < A.P.2.2.1) then (1, 0, A) else (0, A.P.2.1 x.toNat, A)
theorem c_item {A : zSt} (v : VA A) {x : Int} : CS (fun h K => M_LW_item 0 x 220 h K) A (sp_item A x) := by
  intro h K c hk
  have eo : sp_item A x = if ¬ (0 ≤ x ∧ x < A.P.2.2.1) then (1, 0, A) else (0, A.P.2.1 x.toNat, A) := rfl
  generalize sp_item A x = o at *
  have hm := v.1.1.1.2.2.2
  have c3 := c.2.2.1
  have n3 := cP_ni c3
  have b := v.1.2.1
  have fr : ∀ a b, 197 ≤ a → a ≠ 220 → h a b = h a b := fun _ _ _ _ => rfl
  show M_LW_item 0 x 220 h K
  unfold M_LW_item M_AS_item
  simp only [Nat.reduceAdd]
  refine s_hasItem (by rw [n3]; exact b.2) (fun q => ⟨fun _ => ⟨by omega, ?_⟩, fun q2 => absurd q2 (by decide)⟩) (fun q => ⟨fun q2 => absurd rfl q2, fun _ => ⟨by trivial, ?_⟩⟩)
  · rw [if_neg (by omega)] at eo
    exact cs_val hk eo hm c fr (cP_it c3 (by omega))
  · rw [if_pos (by omega)] at eo
    exact cs_ex hk eo (by decide) c fr
theorem r_item {A : zSt} (v : VA A) {x : Int} : RS1 (fun h K => M_RM_item 197 x h K) A (sp_item A x) := by
  intro h K c hk
  have eo : sp_item A x = if ¬ (0 ≤ x ∧ x < A.P.2.2.1) then (1, 0, A) else (0, A.P.2.1 x.toNat, A) := rfl
  generalize sp_item A x = o at *
  have c3 := c.2.2.1
  have b := v.1.2.1
  show M_RM_item 197 x h K
  unfold M_RM_item B_RM_item_14
  refine s_isItem b (rP_ni c3) (fun q => ⟨fun q2 => absurd q2 (by decide), fun _ => s_refused (fun q3 => absurd q3 (by decide)) (fun _ => ⟨fun _ => ⟨by omega, by omega, ?_⟩, fun q3 => absurd rfl q3⟩)⟩) (fun q => ⟨fun _ => s_refused (fun _ => ⟨fun q3 => absurd q3 (by decide), fun _ => ?_⟩) (fun q3 => absurd q3 (by decide)), fun q2 => absurd rfl q2⟩)
  · rw [if_neg (by omega)] at eo
    refine rs_val hk eo (RI_z c) zs_eq zs0_f ?_
    have := rP_it (RI_z (u := 0) c).2.2.1 (j := x.toNat) (by omega)
    rw [← this, show 0 + 24 + x.toNat = (24 + x).toNat by omega]
  · rw [if_pos (by omega)] at eo
    exact rs_no c hk eo (by decide)
def mo (A : zSt) (w : Int) : Int := if w = 0 then A.P.2.2.2.2.2.2.1 else if w = 1 then A.P.2.2.2.2.2.1 else 2
def vt (A : zSt) (w k : Int) : Int := if w = 0 then A.P.2.2.2.2.1 k.toNat else if w = 1 then A.P.2.2.2.1 k.toNat else if k = 0 then A.P.2.2.2.2.2.2.2.1 else A.P.2.2.2.2.2.2.2.2
def sp_tape (A : zSt) (w k : Int) : zOu := if ¬ (0 ≤ w ∧ w ≤ 2) then (1, 0, A) else if ¬ (0 ≤ k ∧ k < mo A w) then (2, 0, A) else (0, vt A w k, A)
theorem c_tape {A : zSt} (v : VA A) {w k : Int} : CS (fun h K => M_LW_tape 0 w k 220 h K) A (sp_tape A w k) := by
  intro h K c hk
  have eo : sp_tape A w k = if ¬ (0 ≤ w ∧ w ≤ 2) then (1, 0, A) else if ¬ (0 ≤ k ∧ k < mo A w) then (2, 0, A) else (0, vt A w k, A) := rfl
  generalize sp_tape A w k = o at *
  have hm := v.1.1.1.2.2.2
  have c3 := c.2.2.1
  have cT3 := cP_T c3
  have np := cT_np cT3
  have nd := cT_nd cT3
  obtain ⟨b1, b2, -⟩ := v.1.2.2.2
  simp only [Nat.reduceAdd] at np nd
  have fr : ∀ a b, 197 ≤ a → a ≠ 220 → h a b = h a b := fun _ _ _ _ => rfl
  show M_LW_tape 0 w k 220 h K
  unfold M_LW_tape M_AS_tape B_AS_tape_46 B_AS_tape_66
  simp only [Nat.reduceAdd]
  have no : (0 ≤ w ∧ w ≤ 2) → ¬ (0 ≤ k ∧ k < mo A w) → K 2 h := by
    intro q1 q2
    rw [if_neg (by omega), if_pos q2] at eo
    exact cs_ex hk eo (by decide) c fr
  have no1 : ¬ (0 ≤ w ∧ w ≤ 2) → K 1 h := by
    intro q1
    rw [if_pos q1] at eo
    exact cs_ex hk eo (by decide) c fr
  have yes : (0 ≤ w ∧ w ≤ 2) → (0 ≤ k ∧ k < mo A w) → ∀ r, r = vt A w k → ∀ h2 : zH, h2 = zs h 220 0 r → K 0 h2 := by
    intro q1 q2 r er
    rw [if_neg (by omega), if_neg (by omega)] at eo
    exact cs_val hk eo hm c fr er
  have h66 : 0 ≤ w ∧ w ≤ 2 → w ≠ 1 → w ≠ 0 → (w ≠ 2 → (3 = 1 ∧ K 1 h) ∨ (True ∧ K 2 h)) ∧ (w = 2 → M_AS_isHead k h (fun r_2 h_1 => (r_2 = 0 → (3 = 1 ∧ K 1 h_1) ∨ (True ∧ K 2 h_1)) ∧ (r_2 ≠ 0 → ((0 ≤ k ∧ k < 2) ∧ ∀ h2 : zH, h2 = zs h_1 220 0 (h_1 43 k.toNat) → K 0 h2)))) := by
    intro q0 q1 q2
    have em : mo A w = 2 := by unfold mo; rw [if_neg q2, if_neg q1]
    have ev : vt A w k = if k = 0 then A.P.2.2.2.2.2.2.2.1 else A.P.2.2.2.2.2.2.2.2 := by unfold vt; rw [if_neg q2, if_neg q1]
    refine ⟨fun q => by omega, fun _ => s_isHead (fun q => ⟨fun q3 => absurd q3 (by decide), fun _ => ⟨q, yes q0 (by omega) _ ?_⟩⟩) (fun q => ⟨fun _ => Or.inr ⟨trivial, no q0 (by omega)⟩, fun q3 => absurd rfl q3⟩)⟩
    rw [ev]
    by_cases e : k = 0
    · rw [if_pos e, e]; exact cT_a cT3
    · rw [if_neg e, show k = 1 by omega]; exact cT_b cT3
  refine ⟨fun q => Or.inl ⟨by trivial, no1 (by omega)⟩, fun q => ⟨fun q2 => ⟨fun q3 => ⟨fun q4 => h66 ⟨q, q2⟩ q4 q3, fun q4 => ?_⟩, fun q3 => ?_⟩, fun q2 => Or.inl ⟨by trivial, no1 (by omega)⟩⟩⟩
  · have em : mo A w = A.P.2.2.2.2.2.1 := by unfold mo; rw [if_neg q3, if_pos q4]
    have ev : vt A w k = A.P.2.2.2.1 k.toNat := by unfold vt; rw [if_neg q3, if_pos q4]
    refine s_hasPlanned (by rw [np]; exact b1.2) (fun q5 => ⟨fun q6 => absurd q6 (by decide), fun _ => ⟨by omega, yes ⟨q, q2⟩ (by omega) _ ?_⟩⟩) (fun q5 => ⟨fun _ => ⟨fun _ => Or.inr ⟨by trivial, no ⟨q, q2⟩ (by omega)⟩, fun q6 => by omega⟩, fun q6 => absurd rfl q6⟩)
    rw [ev]
    exact cT_pl cT3 (by omega)
  · have em : mo A w = A.P.2.2.2.2.2.2.1 := by unfold mo; rw [if_pos q3]
    have ev : vt A w k = A.P.2.2.2.2.1 k.toNat := by unfold vt; rw [if_pos q3]
    refine s_hasDigit (by rw [nd]; exact b2.2) (fun q5 => ⟨fun q6 => absurd q6 (by decide), fun _ => ⟨by omega, yes ⟨q, q2⟩ (by omega) _ ?_⟩⟩) (fun q5 => ⟨fun _ => ⟨fun _ => ⟨fun _ => Or.inr ⟨by trivial, no ⟨q, q2⟩ (by omega)⟩, fun q6 => by omega⟩, fun q6 => by omega⟩, fun q6 => absurd rfl q6⟩)
    rw [ev]
    exact cT_dg cT3 (by omega)
theorem r_tape {A : zSt} (v : VA A) {w k : Int} : RS1 (fun h K => M_RM_tape 197 w k h K) A (sp_tape A w k) := by
  intro h K c hk
  have eo : sp_tape A w k = if ¬ (0 ≤ w ∧ w ≤ 2) then (1, 0, A) else if ¬ (0 ≤ k ∧ k < mo A w) then (2, 0, A) else (0, vt A w k, A) := rfl
  generalize sp_tape A w k = o at *
  have c1 : RI (zs h 197 0 0) A := RI_z c
  have rT3 := rP_T c1.2.2.1
  have np : h 200 189 = A.P.2.2.2.2.2.1 := rT_np (rP_T c.2.2.1)
  have nd : h 200 190 = A.P.2.2.2.2.2.2.1 := rT_nd (rP_T c.2.2.1)
  obtain ⟨b1, b2, -⟩ := v.1.2.2.2
  show M_RM_tape 197 w k h K
  unfold M_RM_tape
  have all : ∀ u : Int, u = mo A w → B_RM_tape_32 K 197 w k u h := by
    intro u eu
    have hmo : 0 ≤ u ∧ u ≤ 80 := by rw [eu]; unfold mo; (repeat' split) <;> omega
    unfold B_RM_tape_32 B_RM_tape_68
    refine s_in (fun q => ⟨fun _ => ⟨by omega, s_in (fun q2 => ⟨fun _ => s_refused (fun q3 => absurd q3 (by decide)) (fun _ => ⟨fun _ => ?_, fun q3 => absurd rfl q3⟩), fun q3 => absurd q3 (by decide)⟩) (fun q2 => ⟨fun q3 => absurd rfl q3, fun _ => ?_⟩)⟩, fun q3 => absurd q3 (by decide)⟩) (fun q => ⟨fun q3 => absurd rfl q3, fun _ => ?_⟩)
    · rw [if_neg (by omega), if_neg (by omega)] at eo
      refine ⟨fun w0 => ⟨fun w1 => ⟨?_, ?_, rs_val hk eo c1 zs_eq zs0_f ?_⟩, fun w1 => ⟨?_, ?_, rs_val hk eo c1 zs_eq zs0_f ?_⟩⟩, fun w0 => ⟨?_, ?_, rs_val hk eo c1 zs_eq zs0_f ?_⟩⟩
      · have em : mo A w = 2 := by unfold mo; rw [if_neg w0, if_neg w1]
        omega
      · have em : mo A w = 2 := by unfold mo; rw [if_neg w0, if_neg w1]
        omega
      · have em : mo A w = 2 := by unfold mo; rw [if_neg w0, if_neg w1]
        unfold vt
        rw [if_neg w0, if_neg w1]
        by_cases e : k = 0
        · rw [if_pos e, e]; exact rT_a rT3
        · rw [if_neg e, show k = 1 by omega]; exact rT_b rT3
      · have em : mo A w = A.P.2.2.2.2.2.1 := by unfold mo; rw [if_neg w0, if_pos w1]
        omega
      · have em : mo A w = A.P.2.2.2.2.2.1 := by unfold mo; rw [if_neg w0, if_pos w1]
        omega
      · have em : mo A w = A.P.2.2.2.2.2.1 := by unfold mo; rw [if_neg w0, if_pos w1]
        unfold vt
        rw [if_neg w0, if_pos w1, ← rT_pl rT3 (j := k.toNat) (by omega), show 0 + 64 + k.toNat = (64 + k).toNat by omega]
      · have em : mo A w = A.P.2.2.2.2.2.2.1 := by unfold mo; rw [if_pos w0]
        omega
      · have em : mo A w = A.P.2.2.2.2.2.2.1 := by unfold mo; rw [if_pos w0]
        omega
      · have em : mo A w = A.P.2.2.2.2.2.2.1 := by unfold mo; rw [if_pos w0]
        unfold vt
        rw [if_pos w0, ← rT_dg rT3 (j := k.toNat) (by omega), show 0 + 104 + k.toNat = (104 + k).toNat by omega]
    · rw [if_neg (by omega), if_pos (by omega)] at eo
      exact s_refused (fun _ => ⟨fun q3 => absurd q3 (by decide), fun _ => rs_no c hk eo (by decide)⟩) (fun q3 => absurd q3 (by decide))
    · rw [if_pos (by omega)] at eo
      exact s_refused (fun _ => ⟨fun q3 => absurd q3 (by decide), fun _ => rs_no c hk eo (by decide)⟩) (fun q3 => absurd q3 (by decide))
  refine ⟨fun w0 => ⟨fun w1 => all _ ?_, fun w1 => all _ ?_⟩, fun w0 => all _ ?_⟩
  · unfold mo; rw [if_neg w0, if_neg w1]
  · unfold mo; rw [if_neg w0, if_pos w1]; exact np
  · unfold mo; rw [if_pos w0]; exact nd

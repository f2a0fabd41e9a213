/-! actions: counts, items -/
theorem tr_up {n k : Nat} {f : Nat → Int} {v : Int} (h : k < n) : tr n (zup f k v) = zup (tr n f) k v := by
  funext i
  unfold tr zup
  by_cases e : i = k
  · rw [if_pos (by omega), if_pos e, if_pos e]
  · rw [if_neg e, if_neg e]
theorem CI_mc {A : zSt} (v : VA A) : A.mc ≤ 3 := v.1.1.1.2.2.2
theorem VA_set {A : zSt} (v : VA A) {P : zP} (hP : VP A.sc A.mc P) : VA (zAP (rem A) P) := ⟨hP, (rem_ok v).2.1, (rem_ok v).2.2.1, (rem_ok v).2.2.2⟩
theorem cm_up {c : Nat → Int} {m s : Nat} {v : Int} (hs : s < 8) : cm (zup c (8 * m + s) v) m = zup (cm c m) s v := by
  unfold cm
  rw [← tr_up hs]
  refine tr_congr (fun j hj => ?_)
  show zup c (8 * m + s) v (8 * m + j) = zup (fun s => c (8 * m + s)) s v j
  by_cases e : j = s
  · rw [e, zup_self, zup_self]
  · rw [zup_ne e, zup_ne (by omega)]
theorem cm_other {c : Nat → Int} {m m' s : Nat} {v : Int} (hs : s < 8) (hm : m' ≠ m) : cm (zup c (8 * m + s) v) m' = cm c m' := by
  unfold cm
  exact tr_congr (fun j hj => zup_ne (by omega))
theorem VC_up {sc mc : Nat} {c : Nat → Int} (h : VC sc mc c) {m s : Nat} {v : Int} (hm : m < mc) (hs : s < sc) (hv : 0 ≤ v ∧ v ≤ 99) (ht : sm (cm c m) 8 - c (8 * m + s) + v ≠ 0) : VC sc mc (zup c (8 * m + s) v) := by
  obtain ⟨h1, h2, h3, h4⟩ := h
  refine ⟨h1, fun j hj => ?_, fun m' s' a1 a2 a3 => ?_, fun m' a1 => ?_⟩
  · by_cases e : j = 8 * m + s
    · rw [e, zup_self]; exact hv
    · rw [zup_ne e]; exact h2 j hj
  · rw [zup_ne (by omega)]; exact h3 m' s' a1 a2 a3
  · by_cases e : m' = m
    · rw [e, cm_up (by omega)]
      have h5 : sm (zup (cm c m) s v) 8 = sm (cm c m) 8 - cm c m s + v := sm_up (by omega)
      have h6 : 0 ≤ sm (zup (cm c m) s v) 8 := by
        refine sm_nonneg (fun j hj => ?_)
        by_cases e2 : j = s
        · rw [e2, zup_self]; exact hv.1
        · rw [zup_ne e2, cm_at hj]; exact (h2 _ (by omega)).1
      rw [cm_at (by omega)] at h5
      omega
    · rw [cm_other (by omega) e]; exact h4 m' a1
theorem s_sumOfCounts {h : zH} {K : Int → zH → Prop} {c : Nat → Int} {m : Nat} (hm : m < 3) (hc : ∀ j, j < 24 → h 38 j = c j) (h9 : ∀ j, j < 24 → 0 ≤ c j ∧ c j ≤ 99) (hk : K (sm (cm c m) 8) h) : M_State_sumOfCounts 37 (m : Int) h K := by
  unfold M_State_sumOfCounts
  refine yp2 8 (fun i x h' => h' = h ∧ x = sm (cm c m) i ∧ 0 ≤ x ∧ x ≤ 99 * i) ⟨rfl, rfl, by omega, by omega⟩ ?_
  rintro i x h' L hi ⟨rfl, e, b1, b2⟩ hL
  show F_State_sumOfCounts_4 K L 37 (m : Int) x (i : Int) h'
  unfold F_State_sumOfCounts_4
  refine ⟨fun q => ?_, fun q => ?_⟩
  · have ei : i = 8 := by omega
    subst ei
    rw [e]; exact hk
  · refine s_countIn (p1 := 38) (by decide +kernel) (by omega) (by omega) ?_
    rw [show ((m : Int) * 8 + (i : Int)).toNat = 8 * m + i by omega, hc _ (by omega)]
    have := h9 (8 * m + i) (by omega)
    refine ⟨by omega, ?_⟩
    rintro y rfl
    refine ⟨by omega, hL _ _ (by omega) ⟨rfl, ?_, by omega, by omega⟩⟩
    show _ = sm (cm c m) i + cm c m i
    rw [cm_at (by omega), e]
def sp_setCount (A : zSt) (m s c : Int) : zOu := if ¬ ((0 ≤ m ∧ m < A.mc) ∧ (0 ≤ s ∧ s < A.sc)) then (1, 0, A) else if ¬ (0 ≤ c ∧ c ≤ 99) then (2, 0, A) else if sm (cm A.P.1 m.toNat) 8 - A.P.1 (8 * m.toNat + s.toNat) + c = 0 then (3, 0, A) else (0, A.P.1 (8 * m.toNat + s.toNat), zAP (rem A) ((zup A.P.1 (8 * m.toNat + s.toNat) c, A.P.2)))
theorem v_setCount {A : zSt} (v : VA A) {m s c : Int} : VA (sp_setCount A m s c).2.2 := by
  unfold sp_setCount
  split
  · exact v
  split
  · exact v
  split
  · exact v
  · exact VA_set v ⟨VC_up v.1.1 (by omega) (by omega) (by omega) (by assumption), v.1.2⟩
theorem s_remake {h h' : zH} {K : zH → Prop} {A : zSt} {P : zP} (v : VC A.sc A.mc P.1) (c : CI h A) (e : ∀ a b, a < 161 → ¬ (7 ≤ a ∧ a ≤ 43) → ¬ (a = 1 ∧ 4 ≤ b) → a ≠ 3 → a ≠ 4 → h' a b = h a b) (eP : cPg h' 37 = P) (hk : ∀ h'', CI h'' (zAP A P) → (∀ a b, a < 7 ∨ 36 < a → h'' a b = h' a b) → K h'') : M_Models_makeAll 5 38 h' K := by
  refine s_makeAll (c := P.1) (fun j hj => cP_ct eP hj) v.2.1 (fun h2 t2 f2 => hk h2 (CI_set c (fun a b q1 q2 q3 q4 q5 => (f2 a b (by omega)).trans (e a b q1 q2 q3 q4 q5)) ((cPg_same (fun k j q1 q2 => f2 _ _ (by omega))).trans eP) (fun m hm => t2 m ?_ (v.2.2.2 m hm))) f2)
  have := v.1.2.2.2
  have hm' : m < A.mc := hm
  omega
theorem c_setCount {A : zSt} (v : VA A) {m s c : Int} : CS (fun h K => M_LW_setCount 0 m s c 220 h K) A (sp_setCount A m s c) := by
  intro h K ci hk
  have eo : sp_setCount A m s c = if ¬ ((0 ≤ m ∧ m < A.mc) ∧ (0 ≤ s ∧ s < A.sc)) then (1, 0, A) else if ¬ (0 ≤ c ∧ c ≤ 99) then (2, 0, A) else if sm (cm A.P.1 m.toNat) 8 - A.P.1 (8 * m.toNat + s.toNat) + c = 0 then (3, 0, A) else (0, A.P.1 (8 * m.toNat + s.toNat), zAP (rem A) ((zup A.P.1 (8 * m.toNat + s.toNat) c, A.P.2))) := rfl
  generalize sp_setCount A m s c = o at *
  obtain ⟨s1, s2, m1, m2⟩ := v.1.1.1
  have c3 := ci.2.2.1
  have fr : ∀ a b, 197 ≤ a → a ≠ 220 → h a b = h a b := fun _ _ _ _ => rfl
  show M_LW_setCount 0 m s c 220 h K
  unfold M_LW_setCount M_AS_setCount M_State_countOf
  simp only [Nat.reduceAdd]
  refine s_hasModel ci.2.1 (fun qm => ⟨fun q => absurd q (by decide), fun _ => s_hasSymbol ci.1 (fun qs => ⟨fun _ => ⟨fun q => Or.inr (Or.inl ⟨by trivial, ?_⟩), fun q => ⟨fun q2 => ?_, fun q2 => Or.inr (Or.inl ⟨by trivial, ?_⟩)⟩⟩, fun q => absurd q (by decide)⟩) (fun qs => ⟨fun q => absurd rfl q, fun _ => Or.inl ⟨by trivial, ?_⟩⟩)⟩) (fun qm => ⟨fun _ => Or.inl ⟨by trivial, ?_⟩, fun q => absurd rfl q⟩)
  · rw [if_neg (by omega), if_pos (by omega)] at eo
    exact cs_ex hk eo (by decide) ci fr
  · rw [if_neg (by omega), if_neg (by omega)] at eo
    refine s_countIn (p1 := 38) (by decide +kernel) (by omega) (by omega) ?_
    have ek : (m * 8 + s).toNat = 8 * m.toNat + s.toNat := by omega
    rw [ek, cP_ct c3 (by omega)]
    have em : m = ((m.toNat : Nat) : Int) := by omega
    have h9 := v.1.1.2.1
    rw [em]
    refine s_sumOfCounts (c := A.P.1) (by omega) (fun j hj => cP_ct c3 hj) h9 ?_
    rw [← em]
    have b1 := h9 (8 * m.toNat + s.toNat) (by omega)
    have b2 : 0 ≤ sm (cm A.P.1 m.toNat) 8 := sm_nonneg (fun j hj => by rw [cm_at hj]; exact (h9 _ (by omega)).1)
    have b3 : sm (cm A.P.1 m.toNat) 8 ≤ sm (fun _ => 99) 8 := sm_le (fun j hj => by rw [cm_at hj]; exact (h9 _ (by omega)).2)
    have b4 : sm (fun _ => 99) 8 = 792 := by decide
    refine ⟨by omega, by omega, fun q3 => ?_, fun q3 => Or.inr (Or.inr ⟨by trivial, ?_⟩)⟩
    · rw [if_neg q3] at eo
      refine s_remember v ci (fun h1 c1 f1 => ?_)
      unfold M_State_changeCount
      refine s_isCountPlace (by omega) (by omega) ⟨fun q => absurd q (by decide), fun _ => ⟨by omega, by omega, by omega, ?_⟩⟩
      rw [ek]
      rintro h2 rfl
      have c13 : cPg h1 37 = A.P := c1.2.2.1
      have eP : cPg (zs h1 38 (8 * m.toNat + s.toNat) c) 37 = (zup A.P.1 (8 * m.toNat + s.toNat) c, A.P.2) := by
        have e1 : cPg (zs h1 38 (8 * m.toNat + s.toNat) c) 37 = (tr 24 (zs h1 38 (8 * m.toNat + s.toNat) c 38), (cPg h1 37).2) := by
          unfold cPg cT
          rw [zs_row' (show (37 : Nat) ≠ 38 by decide), zs_row' (show 37 + 2 ≠ 38 by decide), zs_row' (show 37 + 3 ≠ 38 by decide), zs_row' (show 37 + 3 + 1 ≠ 38 by decide), zs_row' (show 37 + 3 + 2 ≠ 38 by decide), zs_row' (show 37 + 3 + 3 ≠ 38 by decide)]
        rw [e1, zs_row, tr_up (by omega), c13]
        have : tr 24 (h1 38) = A.P.1 := by rw [← c13]; rfl
        rw [this]
      refine s_remake (A := rem A) (P := (zup A.P.1 (8 * m.toNat + s.toNat) c, A.P.2)) (VC_up v.1.1 (by omega) (by omega) (by omega) q3) c1 (fun a b q1 q2 q3 q4 q5 => zs_k (by omega)) eP (fun h3 c3' f3 => ?_)
      exact cs_val hk eo m2 c3' (fun a b q1 q2 => by rw [f3 a b (by omega), zs_k (by omega), f1 a b (by omega)]) rfl
    · rw [if_pos q3] at eo
      exact cs_ex hk eo (by decide) ci fr
  · rw [if_neg (by omega), if_pos (by omega)] at eo
    exact cs_ex hk eo (by decide) ci fr
  · rw [if_pos (by omega)] at eo
    exact cs_ex hk eo (by decide) ci fr
  · rw [if_pos (by omega)] at eo
    exact cs_ex hk eo (by decide) ci fr
/-- sum with one left out -/
def sx (f : Nat → Int) (s : Nat) : Nat → Int
  | 0 => 0
  | n + 1 => sx f s n + if n = s then 0 else f n
theorem sx_eq {f : Nat → Int} {s : Nat} : ∀ {n : Nat}, sx f s n = sm f n - if s < n then f s else 0 := by
  intro n
  induction n with
  | zero => show (0 : Int) = 0 - _; rw [if_neg (by omega)]; rfl
  | succ n ih =>
    show sx f s n + (if n = s then 0 else f n) = sm f n + f n - if s < n + 1 then f s else 0
    rw [ih]
    by_cases e : n = s
    · rw [if_pos e, if_neg (by omega), if_pos (by omega), e]; omega
    · rw [if_neg e]
      by_cases e2 : s < n
      · rw [if_pos e2, if_pos (by omega)]; omega
      · rw [if_neg e2, if_neg (by omega)]; omega
theorem r_setCount {A : zSt} (v : VA A) {m s c : Int} : RS1 (fun h K => M_RM_setCount 197 m s c h K) A (sp_setCount A m s c) := by
  intro h K ci hk
  have eo : sp_setCount A m s c = if ¬ ((0 ≤ m ∧ m < A.mc) ∧ (0 ≤ s ∧ s < A.sc)) then (1, 0, A) else if ¬ (0 ≤ c ∧ c ≤ 99) then (2, 0, A) else if sm (cm A.P.1 m.toNat) 8 - A.P.1 (8 * m.toNat + s.toNat) + c = 0 then (3, 0, A) else (0, A.P.1 (8 * m.toNat + s.toNat), zAP (rem A) ((zup A.P.1 (8 * m.toNat + s.toNat) c, A.P.2))) := rfl
  generalize sp_setCount A m s c = o at *
  obtain ⟨s1, s2, m1, m2⟩ := v.1.1.1
  have h9 := v.1.1.2.1
  have c3 := ci.2.2.1
  show M_RM_setCount 197 m s c h K
  unfold M_RM_setCount
  have no : ¬ ((0 ≤ m ∧ m < A.mc) ∧ (0 ≤ s ∧ s < A.sc)) → zLoop (fun L q => F_RM_setCount_29 K L 197 m s c 0 q.1 q.2.1 q.2.2) (c, 0, h) := by
    intro q
    rw [if_pos q] at eo
    refine ypG 0 (fun _ s => s = (c, 0, h)) rfl ?_
    rintro i s' L hi rfl hL
    show F_RM_setCount_29 K L 197 m s c 0 c 0 h
    have go : B_RM_setCount_76 K 197 m s c 0 c h := by
      unfold B_RM_setCount_76 B_RM_setCount_112
      exact ⟨fun q2 => absurd rfl q2, fun _ => s_refused (fun _ => ⟨fun q3 => absurd q3 (by decide), fun _ => rs_no ci hk eo (by decide)⟩) (fun q3 => absurd q3 (by decide))⟩
    unfold F_RM_setCount_29
    exact ⟨fun _ => go, fun _ => ⟨fun _ => go, fun q2 => absurd rfl q2⟩⟩
  refine s_isModel m2 ci.2.1 (fun qm => ⟨fun q => absurd q (by decide), fun _ => s_isSymbol s2 ci.1 (fun qs => ⟨fun q => absurd q (by decide), fun _ => ?_⟩) (fun qs => ⟨fun _ => no (by omega), fun q => absurd rfl q⟩)⟩) (fun qm => ⟨fun _ => no (by omega), fun q => absurd rfl q⟩)
  rw [if_neg (by omega)] at eo
  refine yp2 A.sc (fun i x h' => h' = h ∧ ((0 ≤ c ∧ c ≤ 99) → x = c + sx (cm A.P.1 m.toNat) s.toNat i ∧ 0 ≤ sx (cm A.P.1 m.toNat) s.toNat i ∧ sx (cm A.P.1 m.toNat) s.toNat i ≤ 99 * i)) ⟨rfl, fun _ => ⟨by show c = c + 0; omega, by show (0 : Int) ≤ 0; omega, by show (0 : Int) ≤ 99 * 0; omega⟩⟩ ?_
  rintro i x h' L hi ⟨rfl, hx⟩ hL
  show F_RM_setCount_29 K L 197 m s c 1 x (i : Int) h'
  unfold F_RM_setCount_29
  rw [ci.1]
  refine ⟨fun q => ?_, fun q => ⟨fun q2 => absurd q2 (by decide), fun _ => ⟨fun q2 => ⟨by omega, by omega, by omega, ?_⟩, fun q2 => ?_⟩⟩⟩
  · have ei : i = A.sc := by omega
    rw [ei] at hx
    clear hL
    have etot : (0 ≤ c ∧ c ≤ 99) → x = sm (cm A.P.1 m.toNat) 8 - A.P.1 (8 * m.toNat + s.toNat) + c := by
      intro q2
      have e2 := (hx q2).1
      rw [sx_eq, if_pos (by omega), cm_at (by omega)] at e2
      have e3 : sm (cm A.P.1 m.toNat) (A.sc + (8 - A.sc)) = sm (cm A.P.1 m.toNat) A.sc := sm_tail (fun j a1 a2 => by rw [cm_at (by omega)]; exact v.1.1.2.2.1 m.toNat j (by omega) a1 (by omega))
      rw [show A.sc + (8 - A.sc) = 8 by omega] at e3
      omega
    unfold B_RM_setCount_76 B_RM_setCount_112
    refine ⟨fun _ => s_in (fun q2 => ⟨fun _ => ⟨fun q3 => ?_, fun q3 => ?_⟩, fun q3 => absurd q3 (by decide)⟩) (fun q2 => ⟨fun q3 => absurd rfl q3, fun _ => ?_⟩), fun q2 => absurd q2 (by decide)⟩
    · have := etot q2
      rw [if_neg (by omega), if_neg (by omega)] at eo
      refine s_refused (fun q3 => absurd q3 (by decide)) (fun _ => ⟨fun _ => ?_, fun q3 => absurd rfl q3⟩)
      refine s_note v (RI_z ci) (fun h1 c1 f1 => ⟨by omega, by omega, by omega, ?_⟩)
      rintro y rfl
      refine ⟨by omega, by omega, by omega, ?_⟩
      rw [show (8 * m + s).toNat = 8 * m.toNat + s.toNat by omega]
      rintro h2 rfl
      have c13 : rPg h1 200 0 = A.P := c1.2.2.1
      have eP : rPg (zs h1 200 (8 * m.toNat + s.toNat) c) 200 0 = (zup A.P.1 (8 * m.toNat + s.toNat) c, A.P.2) := by
        have b := VP_b v.1
        have x0 : ∀ j, 24 ≤ j → zs h1 200 (8 * m.toNat + s.toNat) c 200 (0 + j) = h1 200 (0 + j) := fun j hj => zs_j (by omega)
        have e2 : (rPg (zs h1 200 (8 * m.toNat + s.toNat) c) 200 0).2 = (rPg h1 200 0).2 := by
          have y1 : ∀ j, zs h1 200 (8 * m.toNat + s.toNat) c 200 (0 + 24 + j) = h1 200 (0 + 24 + j) := fun j => zs_j (by omega)
          have y2 : ∀ j, zs h1 200 (8 * m.toNat + s.toNat) c 200 (0 + 64 + j) = h1 200 (0 + 64 + j) := fun j => zs_j (by omega)
          have y3 : ∀ j, zs h1 200 (8 * m.toNat + s.toNat) c 200 (0 + 104 + j) = h1 200 (0 + 104 + j) := fun j => zs_j (by omega)
          unfold rPg rT
          simp only [y1, y2, y3]
          rw [x0 188 (by omega), x0 189 (by omega), x0 190 (by omega), x0 191 (by omega), x0 192 (by omega)]
        have e1 : (rPg (zs h1 200 (8 * m.toNat + s.toNat) c) 200 0).1 = zup A.P.1 (8 * m.toNat + s.toNat) c := by
          rw [← c13]
          show tr 24 (fun j => zs h1 200 (8 * m.toNat + s.toNat) c 200 (0 + j)) = zup (tr 24 (fun j => h1 200 (0 + j))) (8 * m.toNat + s.toNat) c
          rw [← tr_up (by omega)]
          refine tr_congr (fun j hj => ?_)
          rw [Nat.zero_add]
          show zs h1 200 (8 * m.toNat + s.toNat) c 200 j = _
          rw [zs_row]
          show (if j = 8 * m.toNat + s.toNat then c else h1 200 j) = if j = 8 * m.toNat + s.toNat then c else h1 200 (0 + j)
          rw [Nat.zero_add]
        rw [c13] at e2
        exact Prod.ext e1 e2
      refine rs_val hk eo (RI_set c1 (fun a b q => zs_k (by omega)) eP) (by rw [zs_k (by decide), f1 _ _ (by omega) (by omega), zs_eq]) (fun a b q => by rw [zs_k (by omega), f1 a b (by omega) (by omega), zs0_f a b q]) ?_
      have := rP_ct c13 (j := 8 * m.toNat + s.toNat) (by omega)
      rw [Nat.zero_add] at this
      exact this
    · have := etot q2
      rw [if_neg (by omega), if_pos (by omega)] at eo
      exact s_refused (fun _ => ⟨fun q3 => absurd q3 (by decide), fun _ => rs_no ci hk eo (by decide)⟩) (fun q3 => absurd q3 (by decide))
    · rw [if_pos (by omega)] at eo
      exact s_refused (fun _ => ⟨fun q3 => absurd q3 (by decide), fun _ => rs_no ci hk eo (by decide)⟩) (fun q3 => absurd q3 (by decide))
  · rintro y rfl
    have e0 := rP_ct c3 (j := 8 * m.toNat + i) (by omega)
    rw [Nat.zero_add] at e0
    have e1 : h' (197 + 3) (8 * m + (i : Int)).toNat = A.P.1 (8 * m.toNat + i) := by rw [show (8 * m + (i : Int)).toNat = 8 * m.toNat + i by omega]; exact e0
    rw [e1]
    have b1 := h9 (8 * m.toNat + i) (by omega)
    have es : sx (cm A.P.1 m.toNat) s.toNat (i + 1) = sx (cm A.P.1 m.toNat) s.toNat i + A.P.1 (8 * m.toNat + i) := by
      show _ + (if i = s.toNat then 0 else cm A.P.1 m.toNat i) = _
      rw [if_neg (by omega), cm_at (by omega)]
    refine ⟨by omega, hL _ _ (by omega) ⟨rfl, fun q3 => ?_⟩⟩
    obtain ⟨x1, x2, x3⟩ := hx q3
    rw [es, zw_id (by omega)]
    omega
  · rintro y rfl
    have es : sx (cm A.P.1 m.toNat) s.toNat (i + 1) = sx (cm A.P.1 m.toNat) s.toNat i := by
      show _ + (if i = s.toNat then 0 else cm A.P.1 m.toNat i) = _
      rw [if_pos (by omega)]; omega
    refine ⟨by omega, hL _ _ (by omega) ⟨rfl, fun q3 => ?_⟩⟩
    obtain ⟨x1, x2, x3⟩ := hx q3
    rw [es, zw_id (by omega)]
    omega
def insP (P : zP) (i : Nat) (v : Int) : zP := (P.1, tr (P.2.2.1 + 1).toNat (ins P.2.1 i v), P.2.2.1 + 1, P.2.2.2)
def drpP (P : zP) (i : Nat) : zP := (P.1, tr (P.2.2.1 - 1).toNat (drp P.2.1 i), P.2.2.1 - 1, P.2.2.2)
theorem VP_ins {sc mc : Nat} {P : zP} (v : VP sc mc P) {i : Nat} {x : Int} (hi : (i : Int) ≤ P.2.2.1) (hn : P.2.2.1 < 40) (hx : thing sc mc x) : VP sc mc (insP P i x) := by
  obtain ⟨v1, v2, v3, v4⟩ := v
  refine ⟨v1, ⟨show 0 ≤ P.2.2.1 + 1 by omega, show P.2.2.1 + 1 ≤ 40 by omega⟩, fun j hj => ?_, v4⟩
  have hj' : (j : Int) < P.2.2.1 + 1 := hj
  show (0 ≤ tr (P.2.2.1 + 1).toNat (ins P.2.1 i x) j ∧ tr (P.2.2.1 + 1).toNat (ins P.2.1 i x) j < sc) ∨ (10 ≤ tr (P.2.2.1 + 1).toNat (ins P.2.1 i x) j ∧ tr (P.2.2.1 + 1).toNat (ins P.2.1 i x) j < 10 + mc)
  rw [tr_at (by omega)]
  unfold ins
  split
  · exact v3 j (by omega)
  · split
    · exact hx
    · exact v3 (j - 1) (by omega)
theorem VP_drp {sc mc : Nat} {P : zP} (v : VP sc mc P) {i : Nat} (hi : (i : Int) < P.2.2.1) : VP sc mc (drpP P i) := by
  obtain ⟨v1, v2, v3, v4⟩ := v
  refine ⟨v1, ⟨show 0 ≤ P.2.2.1 - 1 by omega, show P.2.2.1 - 1 ≤ 40 by omega⟩, fun j hj => ?_, v4⟩
  have hj' : (j : Int) < P.2.2.1 - 1 := hj
  show (0 ≤ tr (P.2.2.1 - 1).toNat (drp P.2.1 i) j ∧ tr (P.2.2.1 - 1).toNat (drp P.2.1 i) j < sc) ∨ (10 ≤ tr (P.2.2.1 - 1).toNat (drp P.2.1 i) j ∧ tr (P.2.2.1 - 1).toNat (drp P.2.1 i) j < 10 + mc)
  rw [tr_at (by omega)]
  unfold drp
  split
  · exact v3 j (by omega)
  · exact v3 (j + 1) (by omega)
theorem s_addP {a : Nat} {h : zH} {K : zH → Prop} {P : zP} {i : Nat} {v : Int} (eP : cPg h a = P) (n0 : 0 ≤ P.2.2.1) (hi : (i : Int) ≤ P.2.2.1) (hn : P.2.2.1 < 40) (hk : ∀ h', cPg h' a = insP P i v → (∀ k j, ¬ (k = a ∧ j = 3) → k ≠ a + 2 → h' k j = h k j) → K h') {x : Int} (ex : x = (i : Int)) : M_State_addItem a x v h K := by
  refine s_addItem (n := P.2.2.1.toNat) (by omega) (by omega) (by rw [cP_ni eP]; omega) (fun h1 e1 e2 f1 => hk h1 ?_ f1) ex
  refine cP_upd eP (fun j hj => f1 _ _ (by omega) (by omega)) (by rw [e1]; omega) (fun j hj => ?_) ((cT_eq (f1 _ _ (by omega) (by omega)) (f1 _ _ (by omega) (by omega)) (f1 _ _ (by omega) (by omega)) (f1 _ _ (by omega) (by omega)) (fun j _ => f1 _ _ (by omega) (by omega)) (fun j _ => f1 _ _ (by omega) (by omega))).trans (cP_T eP))
  rw [e2 j (by omega)]
  unfold ins
  split
  · exact cP_it eP (by omega)
  · split
    · rfl
    · exact cP_it eP (by omega)
theorem rT_keep {h h' : zH} {c o : Nat} (e : ∀ j, 64 ≤ j → j < 193 → j ≠ 188 → h' c (o + j) = h c (o + j)) (n2 : h c (o + 189) ≤ 40) (n3 : h c (o + 190) ≤ 80) : rT h' c o = rT h c o := by
  have x1 : tr (h c (o + 189)).toNat (fun j => h' c (o + 64 + j)) = tr (h c (o + 189)).toNat (fun j => h c (o + 64 + j)) := tr_congr (fun j hj => by rw [Nat.add_assoc]; exact e (64 + j) (by omega) (by omega) (by omega))
  have x2 : tr (h c (o + 190)).toNat (fun j => h' c (o + 104 + j)) = tr (h c (o + 190)).toNat (fun j => h c (o + 104 + j)) := tr_congr (fun j hj => by rw [Nat.add_assoc]; exact e (104 + j) (by omega) (by omega) (by omega))
  unfold rT
  rw [e 189 (by omega) (by omega) (by omega), e 190 (by omega) (by omega) (by omega), e 191 (by omega) (by omega) (by omega), e 192 (by omega) (by omega) (by omega), x1, x2]
theorem s_putP {p1 : Nat} (hl : zln p1 = 193) {h : zH} {K : zH → Prop} {sc mc : Nat} {P : zP} (vp : VP sc mc P) {i : Nat} {v : Int} (eP : rPg h p1 0 = P) (hi : (i : Int) ≤ P.2.2.1) (hn : P.2.2.1 < 40) (hk : ∀ h', rPg h' p1 0 = insP P i v → (∀ a b, a ≠ p1 → h' a b = h a b) → K h') {x : Int} (ex : x = (i : Int)) : M_RM_put p1 x v h K := by
  have n1 := rP_ni eP
  rw [Nat.zero_add] at n1
  have n0 := vp.2.1.1
  obtain ⟨-, b2, b3⟩ := VP_b vp
  refine s_put (n := P.2.2.1.toNat) hl (by omega) (by omega) (by rw [n1]; omega) (fun h1 e1 e2 f1 => hk h1 ?_ (fun a b q => f1 a b (by omega))) ex
  refine rP_upd eP (fun j hj => f1 _ _ (by omega)) (by rw [Nat.zero_add, e1]; omega) (fun j hj => ?_) ((rT_keep (fun j q1 q2 q3 => f1 _ _ (by omega)) (by rw [rT_np (rP_T eP)]; exact b2) (by rw [rT_nd (rP_T eP)]; exact b3)).trans (rP_T eP))
  rw [Nat.zero_add, e2 j (by omega)]
  have it : ∀ j : Nat, (j : Int) < P.2.2.1 → h p1 (24 + j) = P.2.1 j := fun j hj => by have := rP_it eP hj; rw [Nat.zero_add] at this; exact this
  unfold ins
  split
  · exact it _ (by omega)
  · split
    · rfl
    · exact it _ (by omega)
theorem s_drpP {a : Nat} {h : zH} {K : zH → Prop} {P : zP} {i : Nat} (eP : cPg h a = P) (hi : (i : Int) < P.2.2.1) (hn : P.2.2.1 ≤ 40) (hk : ∀ h', cPg h' a = drpP P i → (∀ k j, ¬ (k = a ∧ j = 3) → k ≠ a + 2 → h' k j = h k j) → K h') {x : Int} (ex : x = (i : Int)) : M_State_dropItem a x h K := by
  refine s_dropItem (n := P.2.2.1.toNat) (by omega) (by omega) (by rw [cP_ni eP]; omega) (fun h1 e1 e2 f1 => hk h1 ?_ f1) ex
  refine cP_upd eP (fun j hj => f1 _ _ (by omega) (by omega)) (by rw [e1]; omega) (fun j hj => ?_) ((cT_eq (f1 _ _ (by omega) (by omega)) (f1 _ _ (by omega) (by omega)) (f1 _ _ (by omega) (by omega)) (f1 _ _ (by omega) (by omega)) (fun j _ => f1 _ _ (by omega) (by omega)) (fun j _ => f1 _ _ (by omega) (by omega))).trans (cP_T eP))
  rw [e2 j (by omega)]
  unfold drp
  split
  · exact cP_it eP (by omega)
  · exact cP_it eP (by omega)
theorem s_dropP {p1 : Nat} (hl : zln p1 = 193) {h : zH} {K : Int → zH → Prop} {sc mc : Nat} {P : zP} (vp : VP sc mc P) {i : Nat} (eP : rPg h p1 0 = P) (hi : (i : Int) < P.2.2.1) (hk : ∀ h', rPg h' p1 0 = drpP P i → (∀ a b, a ≠ p1 → h' a b = h a b) → K (P.2.1 i) h') {x : Int} (ex : x = (i : Int)) : M_RM_drop p1 x h K := by
  have n1 := rP_ni eP
  rw [Nat.zero_add] at n1
  have n0 := vp.2.1
  obtain ⟨-, b2, b3⟩ := VP_b vp
  have it : ∀ j : Nat, (j : Int) < P.2.2.1 → h p1 (24 + j) = P.2.1 j := fun j hj => by have := rP_it eP hj; rw [Nat.zero_add] at this; exact this
  refine s_drop (n := P.2.2.1.toNat) hl (by omega) (by omega) (by rw [n1]; omega) (fun h1 e1 e2 f1 => ?_) ex
  rw [it i hi]
  refine hk h1 ?_ (fun a b q => f1 a b (by omega))
  refine rP_upd eP (fun j hj => f1 _ _ (by omega)) (by rw [Nat.zero_add, e1]; omega) (fun j hj => ?_) ((rT_keep (fun j q1 q2 q3 => f1 _ _ (by omega)) (by rw [rT_np (rP_T eP)]; exact b2) (by rw [rT_nd (rP_T eP)]; exact b3)).trans (rP_T eP))
  rw [Nat.zero_add, e2 j (by omega)]
  unfold drp
  split
  · exact it _ (by omega)
  · exact it _ (by omega)
def sp_insert (A : zSt) (i x : Int) : zOu := if ¬ (0 ≤ i ∧ i ≤ A.P.2.2.1) then (1, 0, A) else if ¬ thing A.sc A.mc x then (2, 0, A) else if A.P.2.2.1 = 40 then (3, 0, A) else (0, A.P.2.2.1 + 1, zAP (rem A) (insP A.P i.toNat x))
theorem v_insert {A : zSt} (v : VA A) {i x : Int} : VA (sp_insert A i x).2.2 := by
  have n0 := v.1.2.1
  unfold sp_insert
  split
  · exact v
  split
  · exact v
  split
  · exact v
  · rename_i q1 q2 q3
    exact VA_set v (VP_ins v.1 (by omega) (by omega) (Decidable.not_not.mp q2))
theorem c_insert {A : zSt} (v : VA A) {i x : Int} (hx : zr x) : CS (fun h K => M_LW_insert 0 i x 220 h K) A (sp_insert A i x) := by
  intro h K ci hk
  have eo : sp_insert A i x = if ¬ (0 ≤ i ∧ i ≤ A.P.2.2.1) then (1, 0, A) else if ¬ thing A.sc A.mc x then (2, 0, A) else if A.P.2.2.1 = 40 then (3, 0, A) else (0, A.P.2.2.1 + 1, zAP (rem A) (insP A.P i.toNat x)) := rfl
  generalize sp_insert A i x = o at *
  have hm := CI_mc v
  have c3 := ci.2.2.1
  have n1 := cP_ni c3
  have n0 := v.1.2.1
  have fr : ∀ a b, 197 ≤ a → a ≠ 220 → h a b = h a b := fun _ _ _ _ => rfl
  show M_LW_insert 0 i x 220 h K
  unfold M_LW_insert M_AS_insert
  simp only [Nat.reduceAdd]
  rw [n1]
  refine ⟨fun q => Or.inl ⟨by trivial, ?_⟩, fun q => ⟨fun q2 => s_allowItem hx ci.1 ci.2.1 (fun q3 => ⟨fun _ => ?_, fun q4 => absurd q4 (by decide)⟩) (fun q3 => ⟨fun q4 => absurd rfl q4, fun _ => Or.inr (Or.inl ⟨by trivial, ?_⟩)⟩), fun q2 => Or.inl ⟨by trivial, ?_⟩⟩⟩
  · rw [if_pos (by omega)] at eo
    exact cs_ex hk eo (by decide) ci fr
  · rw [if_neg (by omega), if_neg (fun q => q q3)] at eo
    rw [n1]
    refine ⟨fun q4 => ?_, fun q4 => Or.inr (Or.inr ⟨by trivial, ?_⟩)⟩
    · rw [if_neg (by omega)] at eo
      refine s_remember v ci (fun h1 c1 f1 => ?_)
      have c13 : cPg h1 37 = A.P := c1.2.2.1
      refine s_addP (i := i.toNat) c13 n0.1 (by omega) q4 (fun h2 e2 f2 => ?_) (by omega)
      refine cs_val hk eo hm (CI_now (A := rem A) (P := insP A.P i.toNat x) hm c1 (fun a b q1 q2 q3 q4 q5 => f2 a b (by omega) (by omega)) e2 rfl) (fun a b q1 q2 => by rw [f2 a b (by omega) (by omega), f1 a b (by omega)]) (cP_ni e2)
    · rw [if_pos (by omega)] at eo
      exact cs_ex hk eo (by decide) ci fr
  · rw [if_neg (by omega), if_pos q3] at eo
    exact cs_ex hk eo (by decide) ci fr
  · rw [if_pos (by omega)] at eo
    exact cs_ex hk eo (by decide) ci fr
theorem r_insert {A : zSt} (v : VA A) {i x : Int} (hx : zr x) : RS1 (fun h K => M_RM_insert 197 i x h K) A (sp_insert A i x) := by
  intro h K ci hk
  have eo : sp_insert A i x = if ¬ (0 ≤ i ∧ i ≤ A.P.2.2.1) then (1, 0, A) else if ¬ thing A.sc A.mc x then (2, 0, A) else if A.P.2.2.1 = 40 then (3, 0, A) else (0, A.P.2.2.1 + 1, zAP (rem A) (insP A.P i.toNat x)) := rfl
  generalize sp_insert A i x = o at *
  obtain ⟨s1, s2, m1, m2⟩ := v.1.1.1
  have n1 : h 200 188 = A.P.2.2.1 := rP_ni ci.2.2.1
  have n0 := v.1.2.1
  show M_RM_insert 197 i x h K
  unfold M_RM_insert B_RM_insert_53
  simp only [Nat.reduceAdd]
  rw [n1]
  refine s_in (fun q => ⟨fun _ => s_isThing hx s2 m2 ci.1 ci.2.1 (fun q3 => ⟨fun _ => ?_, fun q4 => absurd q4 (by decide)⟩) (fun q3 => ⟨fun q4 => absurd rfl q4, fun _ => ?_⟩), fun q4 => absurd q4 (by decide)⟩) (fun q => ⟨fun q4 => absurd rfl q4, fun _ => ?_⟩)
  · rw [if_neg (by omega), if_neg (fun q => q q3)] at eo
    rw [n1]
    refine ⟨fun q4 => ?_, fun q4 => ?_⟩
    · rw [if_neg q4] at eo
      refine s_refused (fun q3 => absurd q3 (by decide)) (fun _ => ⟨fun _ => ?_, fun q3 => absurd rfl q3⟩)
      refine s_note v (RI_z ci) (fun h1 c1 f1 => ?_)
      have c13 : rPg h1 200 0 = A.P := c1.2.2.1
      refine s_putP (i := i.toNat) zl200 v.1 c13 (by omega) (by omega) (fun h2 e2 f2 => ?_) (by omega)
      refine rs_val hk eo (RI_set c1 (fun a b q => f2 a b (by omega)) e2) (by rw [f2 _ _ (by omega), f1 _ _ (by omega) (by omega), zs_eq]) (fun a b q => by rw [f2 a b (by omega), f1 a b (by omega) (by omega), zs0_f a b q]) (rP_ni e2)
    · rw [if_pos q4] at eo
      exact s_refused (fun _ => ⟨fun q3 => absurd q3 (by decide), fun _ => rs_no ci hk eo (by decide)⟩) (fun q3 => absurd q3 (by decide))
  · rw [if_neg (by omega), if_pos q3] at eo
    exact s_refused (fun _ => ⟨fun q3 => absurd q3 (by decide), fun _ => rs_no ci hk eo (by decide)⟩) (fun q3 => absurd q3 (by decide))
  · rw [if_pos (by omega)] at eo
    exact s_refused (fun _ => ⟨fun q3 => absurd q3 (by decide), fun _ => rs_no ci hk eo (by decide)⟩) (fun q3 => absurd q3 (by decide))
def sp_remove (A : zSt) (i : Int) : zOu := if ¬ (0 ≤ i ∧ i < A.P.2.2.1) then (1, 0, A) else (0, A.P.2.1 i.toNat, zAP (rem A) (drpP A.P i.toNat))
theorem v_remove {A : zSt} (v : VA A) {i : Int} : VA (sp_remove A i).2.2 := by
  unfold sp_remove
  split
  · exact v
  · exact VA_set v (VP_drp v.1 (by omega))
theorem c_remove {A : zSt} (v : VA A) {i : Int} : CS (fun h K => M_LW_remove 0 i 220 h K) A (sp_remove A i) := by
  intro h K ci hk
  have eo : sp_remove A i = if ¬ (0 ≤ i ∧ i < A.P.2.2.1) then (1, 0, A) else (0, A.P.2.1 i.toNat, zAP (rem A) (drpP A.P i.toNat)) := rfl
  generalize sp_remove A i = o at *
  have hm := CI_mc v
  have c3 := ci.2.2.1
  have n1 := cP_ni c3
  have n0 := v.1.2.1
  show M_LW_remove 0 i 220 h K
  unfold M_LW_remove M_AS_remove
  simp only [Nat.reduceAdd]
  refine s_hasItem (by rw [n1]; exact n0.2) (fun q => ⟨fun _ => ⟨by omega, ?_⟩, fun q2 => absurd q2 (by decide)⟩) (fun q => ⟨fun q2 => absurd rfl q2, fun _ => ⟨by trivial, ?_⟩⟩)
  · rw [if_neg (by omega)] at eo
    rintro y rfl
    refine s_remember v ci (fun h1 c1 f1 => ?_)
    have c13 : cPg h1 37 = A.P := c1.2.2.1
    refine s_drpP (i := i.toNat) c13 (by omega) n0.2 (fun h2 e2 f2 => ?_) (by omega)
    refine cs_val hk eo hm (CI_now (A := rem A) (P := drpP A.P i.toNat) hm c1 (fun a b q1 q2 q3 q4 q5 => f2 a b (by omega) (by omega)) e2 rfl) (fun a b q1 q2 => by rw [f2 a b (by omega) (by omega), f1 a b (by omega)]) (cP_it c3 (by omega))
  · rw [if_pos (by omega)] at eo
    exact cs_ex hk eo (by decide) ci (fun _ _ _ _ => rfl)
theorem r_remove {A : zSt} (v : VA A) {i : Int} : RS1 (fun h K => M_RM_remove 197 i h K) A (sp_remove A i) := by
  intro h K ci hk
  have eo : sp_remove A i = if ¬ (0 ≤ i ∧ i < A.P.2.2.1) then (1, 0, A) else (0, A.P.2.1 i.toNat, zAP (rem A) (drpP A.P i.toNat)) := rfl
  generalize sp_remove A i = o at *
  show M_RM_remove 197 i h K
  unfold M_RM_remove B_RM_remove_14
  refine s_isItem v.1.2.1 (rP_ni ci.2.2.1) (fun q => ⟨fun q2 => absurd q2 (by decide), fun _ => s_refused (fun q3 => absurd q3 (by decide)) (fun _ => ⟨fun _ => ?_, fun q3 => absurd rfl q3⟩)⟩) (fun q => ⟨fun _ => ?_, fun q2 => absurd rfl q2⟩)
  · rw [if_neg (by omega)] at eo
    refine s_note v (RI_z ci) (fun h1 c1 f1 => ?_)
    have c13 : rPg h1 200 0 = A.P := c1.2.2.1
    refine s_dropP (i := i.toNat) zl200 v.1 c13 (by omega) (fun h2 e2 f2 => ?_) (by omega)
    exact rs_val hk eo (RI_set c1 (fun a b q => f2 a b (by omega)) e2) (by rw [f2 _ _ (by omega), f1 _ _ (by omega) (by omega), zs_eq]) (fun a b q => by rw [f2 a b (by omega), f1 a b (by omega) (by omega), zs0_f a b q]) rfl
  · rw [if_pos (by omega)] at eo
    exact s_refused (fun _ => ⟨fun q3 => absurd q3 (by decide), fun _ => rs_no ci hk eo (by decide)⟩) (fun q3 => absurd q3 (by decide))

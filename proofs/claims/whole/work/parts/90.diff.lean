/-! difference, effect -/
def s9 (c : Nat → Int) (T : zT) (k : Nat) : Int := if k < tn c T then sy c T k else -9
def l9 (L : zL) (k : Nat) : Int := if k < L.1 then L.2.2.1 k else -9
def gd (c : Nat → Int) (T : zT) (L : zL) (k : Nat) : Int := if l9 L k = s9 c T k then 1 else 0
theorem fz_ones {g : Nat → Int} : ∀ {n : Nat}, (∀ j, j < n → g j ≠ 0) → fz g n = -9 := by
  intro n
  induction n with
  | zero => intro _; rfl
  | succ n ih => intro h; exact fz_none (ih (fun j hj => h j (by omega))) (h n (by omega))
def sp_difference (A : zSt) : zOu := (0, fz (gd A.P.1 A.P.2.2.2 (lA A.P)) 40, A)
theorem c_difference {A : zSt} (v : VA A) : CN (fun h K => M_AS_difference 0 h K) A (sp_difference A).2.1 (sp_difference A).2.2 := by
  intro h K ci hk
  have hm := CI_mc v
  have vl := VL_A v.1
  have v40 := vl.1
  have hk' : ∀ h', CI h' A → (∀ a b, 197 ≤ a → h' a b = h a b) → K (fz (gd A.P.1 A.P.2.2.2 (lA A.P)) 40) h' := hk
  show M_AS_difference 0 h K
  unfold M_AS_difference
  simp only [Nat.reduceAdd]
  refine s_listP (q := 161) (a := 37) (by omega) v.1 ci.2.2.1 (fun h1 l1 f1 => ?_)
  have c1 : CI h1 A := CI_keep hm ci (fun a b q1 q2 q3 q4 => f1 a b (by omega))
  refine s_takeAll (q := 164) (t := 40) (by omega) (by omega) v.1.1 c1.2.2.2.1 (cP_T c1.2.2.1) v.1.2.2.2 (fun h2 t2 f2 => ?_)
  have c2 : CI h2 A := CI_keep hm c1 (fun a b q1 q2 q3 q4 => f2 a b (by omega))
  have l2 : LC h2 161 (lA A.P) := LC_keep (fun a b q1 q2 => f2 a b (by omega)) l1
  have hF : ∀ a b, 197 ≤ a → h2 a b = h a b := fun a b q => (f2 a b (by omega)).trans (f1 a b (by omega))
  refine yp1 40 (fun i h' => h' = h2 ∧ fz (gd A.P.1 A.P.2.2.2 (lA A.P)) i = -9) ⟨rfl, rfl⟩ ?_
  rintro i h' L hi ⟨rfl, gz⟩ hL
  show F_AS_difference_31 K L 0 (i : Int) h'
  unfold F_AS_difference_31
  simp only [Nat.reduceAdd]
  refine ⟨fun q => ?_, fun q => ?_⟩
  · have ei : i = 40 := by omega
    subst ei
    have := hk' h' c2 hF
    rw [gz] at this
    exact this
  · have e9 : h' 165 i = s9 A.P.1 A.P.2.2.2 i := t2.1 i (by omega)
    have key : ∀ u, u = l9 (lA A.P) i → B_AS_difference_62 K L 0 (i : Int) u h' := by
      intro u eu
      unfold B_AS_difference_62
      simp only [Nat.reduceAdd]
      rw [Int.toNat_natCast, e9, eu]
      refine ⟨by omega, fun q2 => ⟨by omega, hL _ (by omega) ⟨rfl, fz_none gz ?_⟩⟩, fun q2 => ?_⟩
      · unfold gd; rw [if_pos q2]; decide
      · have zz : gd A.P.1 A.P.2.2.2 (lA A.P) i = 0 := if_neg q2
        have := hk' h' c2 hF
        rw [fz_in gz zz (by omega)] at this
        exact this
    refine s_symHas (q := 161) (by rw [l2.1]; omega) (fun qk => ⟨fun q2 => absurd q2 (by decide), fun _ => ⟨by omega, key _ ?_⟩⟩) (fun qk => ⟨fun _ => key _ ?_, fun q2 => absurd rfl q2⟩)
    · rw [l2.1] at qk
      rw [Int.toNat_natCast]
      unfold l9
      rw [if_pos (by omega)]
      exact (l2.2 i (by omega)).1
    · rw [l2.1] at qk
      unfold l9
      rw [if_neg (by omega)]
theorem r_difference {A : zSt} (v : VA A) : RS1 (fun h K => M_RM_difference 197 h K) A (sp_difference A) := by
  intro h K ci hk
  have hk' : ∀ r h', RI h' A → h' 197 0 = 0 → r = fz (gd A.P.1 A.P.2.2.2 (lA A.P)) 40 → (∀ a b, a < 197 ∨ a = 220 → h' a b = h a b) → K r h' := fun r h' a b c d => hk r h' a b (fun _ => c) d
  clear hk
  have vl := VL_A v.1
  have v40 := vl.1
  have b2 := v.1.2.2.2.1
  have tl := tn_le (c := A.P.1) (T := A.P.2.2.2) b2.1
  show M_RM_difference 197 h K
  unfold M_RM_difference
  rintro h1 rfl
  have c1 := RI_z (u := 0) ci
  refine s_layBoth zl200 (by omega) c1.1 c1.2.1 c1.2.2.1 v.1 (fun h2 t2 l2 f2 => ?_)
  have c2 : RI h2 A := RI_keep c1 (fun a b q => f2 a b (by omega) (by omega))
  refine s_rtake (p := 197) (p1 := 200) zl200 (by omega) v.1.1 t2 (rP_T c2.2.2.1) v.1.2.2.2 (fun r h3 o3 k3 f3 => ?_)
  have c3 : RI h3 A := RI_keep c2 (fun a b q => f3 a b (by omega) (by omega) (by omega) (by omega))
  have l3 : LR h3 197 (lA A.P) := LR_keep (f3 _ _ (by omega) (by omega) (by omega) (by omega)) (fun a b q1 q2 => f3 _ _ (by omega) (by omega) (by omega) (by omega)) l2
  have g0 : h3 197 0 = 0 := by rw [f3 _ _ (by omega) (by omega) (by omega) (by omega), f2 _ _ (by omega) (by omega), zs_eq]
  have hF : ∀ a b, a < 197 ∨ a = 220 → h3 a b = h a b := fun a b q => by rw [f3 a b (by omega) (by omega) (by omega) (by omega), f2 a b (by omega) (by omega), zs0_f a b q]
  have go : ∀ n : Nat, n ≤ tn A.P.1 A.P.2.2.2 → n ≤ (lA A.P).1 → (n = tn A.P.1 A.P.2.2.2 ∨ n = (lA A.P).1) → zLoop (fun L q => F_RM_difference_55 K L 197 (n : Int) q.1 q.2) (0, h3) := by
    intro n n1 n2 n3
    refine yp1 n (fun i h' => h' = h3 ∧ fz (gd A.P.1 A.P.2.2.2 (lA A.P)) i = -9) ⟨rfl, rfl⟩ ?_
    rintro i h' L hi ⟨rfl, gz⟩ hL
    show F_RM_difference_55 K L 197 (n : Int) (i : Int) h'
    unfold F_RM_difference_55
    rw [k3.1, l3.1]
    refine ⟨fun q => ?_, fun q => ⟨by omega, by omega, ?_⟩⟩
    · have ei : i = n := by omega
      subst ei
      have s9e : ∀ j, tn A.P.1 A.P.2.2.2 ≤ j → s9 A.P.1 A.P.2.2.2 j = -9 := fun j hj => if_neg (by omega)
      have l9e : ∀ j, (lA A.P).1 ≤ j → l9 (lA A.P) j = -9 := fun j hj => if_neg (by omega)
      refine ⟨fun q2 => hk' _ _ c3 g0 ?_ hF, fun q2 => hk' _ _ c3 g0 ?_ hF⟩
      · have zz : gd A.P.1 A.P.2.2.2 (lA A.P) i = 0 := by
          unfold gd
          rw [if_neg]
          intro e
          by_cases q3 : i < tn A.P.1 A.P.2.2.2
          · rw [l9e i (by omega)] at e
            have e2 : s9 A.P.1 A.P.2.2.2 i = sy A.P.1 A.P.2.2.2 i := if_pos q3
            have := sy_ok v.1 (j := i) (by omega)
            omega
          · rw [s9e i (by omega)] at e
            have e2 : l9 (lA A.P) i = (lA A.P).2.2.1 i := if_pos (by omega)
            have := (vl.2 i (by omega)).1
            omega
        exact (fz_in gz zz (by omega)).symm
      · refine (fz_ones (fun j hj => ?_)).symm
        by_cases q3 : j < i
        · exact fz_all gz j q3
        · unfold gd
          rw [l9e j (by omega), s9e j (by omega), if_pos rfl]
          decide
    · rw [Int.toNat_natCast]
      have e1 : h' (197 + 17) i = s9 A.P.1 A.P.2.2.2 i := (k3.2.1 i (by omega)).trans (if_pos (by omega)).symm
      have e2 : h' (197 + 21) i = l9 (lA A.P) i := ((l3.2 i (by omega)).1).trans (if_pos (by omega)).symm
      rw [e1, e2]
      refine ⟨fun q2 => ⟨by omega, hL _ (by omega) ⟨rfl, fz_none gz ?_⟩⟩, fun q2 => hk' _ _ c3 g0 ?_ hF⟩
      · unfold gd; rw [if_pos q2.symm]; decide
      · have zz : gd A.P.1 A.P.2.2.2 (lA A.P) i = 0 := if_neg (fun e => q2 e.symm)
        exact (fz_in gz zz (by omega)).symm
  rw [k3.1, l3.1]
  refine ⟨fun q => ?_, fun q => ?_⟩
  · rintro x rfl
    exact go _ (by omega) (by omega) (Or.inr rfl)
  · rintro x rfl
    exact go _ (by omega) (by omega) (Or.inl rfl)
def cE (c : Nat → Int) (T T' : zT) (j : Nat) : Int := if s9 c T j = s9 c T' j then 0 else 1
def sp_effect (A : zSt) (k x w : Int) : zOu := if ¬ (0 ≤ k ∧ k < A.P.2.2.2.2.2.2.1) then (1, 0, A) else if ¬ ((0 ≤ x ∧ x ≤ 15) ∧ (0 ≤ w ∧ w ≤ 1)) then (2, 0, A) else (0, (if w = 1 then (if tin A.P.1 (dgT A.P.2.2.2 k.toNat x) then 1 else 0) else sm (cE A.P.1 A.P.2.2.2 (dgT A.P.2.2.2 k.toNat x)) 40), A)
theorem s_countOther {q1 q2 : Nat} {h : zH} {K : Int → zH → Prop} {c : Nat → Int} {T T' : zT} (e1 : ∀ k, k < 40 → h (q1 + 1) k = s9 c T k) (e2 : ∀ k, k < 40 → h (q2 + 1) k = s9 c T' k) (hk : K (sm (cE c T T') 40) h) : M_Taking_countOtherSymbols q1 q2 h K := by
  unfold M_Taking_countOtherSymbols
  refine yp2 40 (fun i x h' => h' = h ∧ x = sm (cE c T T') i ∧ 0 ≤ x ∧ x ≤ i) ⟨rfl, rfl, by omega, by omega⟩ ?_
  rintro i x h' L hi ⟨rfl, e, b1, b2⟩ hL
  show F_Taking_countOtherSymbols_4 K L q1 q2 x (i : Int) h'
  unfold F_Taking_countOtherSymbols_4
  refine ⟨fun q => ?_, fun q => ⟨by omega, by omega, ?_⟩⟩
  · have ei : i = 40 := by omega
    subst ei
    rw [e]; exact hk
  · rw [Int.toNat_natCast, e1 i (by omega), e2 i (by omega)]
    have es : sm (cE c T T') (i + 1) = sm (cE c T T') i + if s9 c T i = s9 c T' i then 0 else 1 := rfl
    refine ⟨fun q2 => ⟨by omega, hL _ _ (by omega) ⟨rfl, ?_, by omega, by omega⟩⟩, fun q2 => ⟨by omega, by omega, hL _ _ (by omega) ⟨rfl, ?_, by omega, by omega⟩⟩⟩
    · rw [es, if_pos q2]; omega
    · rw [es, if_neg q2]; omega
theorem c_effect {A : zSt} (v : VA A) {k x w : Int} : CS (fun h K => M_LW_effect 0 k x w 220 h K) A (sp_effect A k x w) := by
  intro h K ci hk
  have eo : sp_effect A k x w = if ¬ (0 ≤ k ∧ k < A.P.2.2.2.2.2.2.1) then (1, 0, A) else if ¬ ((0 ≤ x ∧ x ≤ 15) ∧ (0 ≤ w ∧ w ≤ 1)) then (2, 0, A) else (0, (if w = 1 then (if tin A.P.1 (dgT A.P.2.2.2 k.toNat x) then 1 else 0) else sm (cE A.P.1 A.P.2.2.2 (dgT A.P.2.2.2 k.toNat x)) 40), A) := rfl
  generalize sp_effect A k x w = o at *
  have hm := CI_mc v
  have cT3 := cP_T ci.2.2.1
  have np := cT_np cT3
  have nd := cT_nd cT3
  have b1 := v.1.2.2.2.1
  have b2 := v.1.2.2.2.2.1
  simp only [Nat.reduceAdd] at np nd
  show M_LW_effect 0 k x w 220 h K
  unfold M_LW_effect M_AS_effect
  simp only [Nat.reduceAdd]
  have no2 : (0 ≤ k ∧ k < A.P.2.2.2.2.2.2.1) → ¬ ((0 ≤ x ∧ x ≤ 15) ∧ (0 ≤ w ∧ w ≤ 1)) → K 2 h := by
    intro q1 q2
    rw [if_neg (by omega), if_pos q2] at eo
    exact cs_ex hk eo (by decide) ci (fun _ _ _ _ => rfl)
  refine s_hasDigit (by rw [nd]; exact b2.2) (fun q => ⟨fun _ => s_isDigit (fun q2 => ⟨fun q3 => absurd q3 (by decide), fun _ => ⟨fun q3 => Or.inr ⟨by trivial, no2 (by omega) (by omega)⟩, fun q3 => ⟨fun q4 => ?_, fun q4 => Or.inr ⟨by trivial, no2 (by omega) (by omega)⟩⟩⟩⟩) (fun q2 => ⟨fun _ => Or.inr ⟨by trivial, no2 (by omega) (by omega)⟩, fun q3 => absurd rfl q3⟩), fun q3 => absurd q3 (by decide)⟩) (fun q => ⟨fun q3 => absurd rfl q3, fun _ => Or.inl ⟨by trivial, ?_⟩⟩)
  · rw [if_neg (by omega), if_neg (by omega)] at eo
    refine s_tapeCopy (p0 := 176) (p1 := 40) (by omega) (by rw [np]; exact b1.2) (by rw [nd]; exact b2.2) (fun h1 e1 f1 => ⟨by omega, ?_⟩)
    rintro h2 rfl
    have e2 : cT (zs h1 178 k.toNat x) 176 = dgT A.P.2.2.2 k.toNat x := cT_dgt (t := 176) (e1.trans cT3) (show ((k.toNat : Nat) : Int) < A.P.2.2.2.2.2.2.1 by omega)
    have hF2 : ∀ a b, a < 176 ∨ 179 < a → zs h1 178 k.toNat x a b = h a b := fun a b q => (zs_k (by omega)).trans (f1 a b (by omega))
    have t2 : TCs (zs h1 178 k.toNat x) A.P.1 A.mc := TCs_keep hm (fun a b q1 q2 => hF2 _ _ (by omega)) ci.2.2.2.1
    refine s_takeAll (q := 170) (t := 176) (by omega) (by omega) v.1.1 t2 e2 (VT_dgt v.1.2.2.2 (by omega)) (fun h3 t3 f3 => ?_)
    have hF3 : ∀ a b, a < 170 ∨ 179 < a → h3 a b = h a b := fun a b q => (f3 a b (by omega)).trans (hF2 a b (by omega))
    have c3 : CI h3 A := CI_keep hm ci (fun a b q1 q2 q3 q4 => hF3 a b (by omega))
    refine ⟨fun q5 => ?_, fun q5 => ?_⟩
    · rw [if_neg q5] at eo
      refine s_takeAll (q := 164) (t := 40) (by omega) (by omega) v.1.1 c3.2.2.2.1 (cP_T c3.2.2.1) v.1.2.2.2 (fun h4 t4 f4 => ?_)
      refine s_countOther (c := A.P.1) (T := A.P.2.2.2) (T' := dgT A.P.2.2.2 k.toNat x) t4.1 (fun k hk => (f4 _ _ (by omega)).trans (t3.1 k hk)) ?_
      exact cs_val hk eo hm (CI_keep hm c3 (fun a b q1 q2 q3 q4 => f4 a b (by omega))) (fun a b q1 q2 => (f4 a b (by omega)).trans (hF3 a b (by omega))) rfl
    · rw [if_pos q5] at eo
      rcases t3.2.2.2.2.2 with ⟨y1, y2⟩ | ⟨y1, y2⟩
      · rw [if_pos y2] at eo
        exact ⟨fun q6 => by omega, fun _ => cs_val hk eo hm c3 (fun a b q1 q2 => hF3 a b (by omega)) rfl⟩
      · rw [if_neg y2] at eo
        exact ⟨fun _ => cs_val hk eo hm c3 (fun a b q1 q2 => hF3 a b (by omega)) rfl, fun q6 => by omega⟩
  · rw [if_pos (by omega)] at eo
    exact cs_ex hk eo (by decide) ci (fun _ _ _ _ => rfl)
/-- the reference copies a page to another cell -/
theorem s_copyP {p2 : Nat} (hl : zln p2 = 193) (hp : 200 < p2) {h : zH} {K : zH → Prop} {sc mc : Nat} {P : zP} (v : VP sc mc P) (eP : rPg h 200 0 = P) (hk : ∀ h', rPg h' p2 0 = P → (∀ a b, a ≠ p2 → h' a b = h a b) → K h') : M_RM_copyPage 200 0 p2 0 h K := by
  obtain ⟨b1, b2, b3⟩ := VP_b v
  refine s_copyPage (p0 := 200) (p2 := p2) (o1 := 0) (o3 := 0) (by omega) (by rw [zl200]; decide) (by rw [hl]; decide) (by rw [zl200]; decide) (by rw [hl]; decide) (fun h1 e1 f1 => hk h1 ?_ (fun a b q => f1 a b (by omega))) rfl rfl
  refine Eq.trans (rPg_eq e1 ?_ ?_ ?_) eP
  · rw [rP_ni eP]; exact b1
  · rw [rT_np (rP_T eP)]; exact b2
  · rw [rT_nd (rP_T eP)]; exact b3
theorem r_effect {A : zSt} (v : VA A) {k x w : Int} : RS1 (fun h K => M_RM_effect 197 k x w h K) A (sp_effect A k x w) := by
  intro h K ci hk
  have eo : sp_effect A k x w = if ¬ (0 ≤ k ∧ k < A.P.2.2.2.2.2.2.1) then (1, 0, A) else if ¬ ((0 ≤ x ∧ x ≤ 15) ∧ (0 ≤ w ∧ w ≤ 1)) then (2, 0, A) else (0, (if w = 1 then (if tin A.P.1 (dgT A.P.2.2.2 k.toNat x) then 1 else 0) else sm (cE A.P.1 A.P.2.2.2 (dgT A.P.2.2.2 k.toNat x)) 40), A) := rfl
  generalize sp_effect A k x w = o at *
  have b1 := v.1.2.2.2.1
  have b2 := v.1.2.2.2.2.1
  obtain ⟨d1, d2, d3⟩ := VP_b v.1
  have tl := tn_le (c := A.P.1) (T := A.P.2.2.2) b1.1
  have tl' := tn_le (c := A.P.1) (T := dgT A.P.2.2.2 k.toNat x) b1.1
  have np' : (dgT A.P.2.2.2 k.toNat x).2.2.1 = A.P.2.2.2.2.2.1 := rfl
  rw [np'] at tl'
  show M_RM_effect 197 k x w h K
  unfold M_RM_effect B_RM_effect_35
  have no2 : (0 ≤ k ∧ k < A.P.2.2.2.2.2.2.1) → ¬ ((0 ≤ x ∧ x ≤ 15) ∧ (0 ≤ w ∧ w ≤ 1)) → B_RM_effect_40 K 197 k x w 197 2 h := by
    intro q1 q2
    rw [if_neg (by omega), if_pos q2] at eo
    unfold B_RM_effect_40
    exact s_refused (fun _ => ⟨fun q3 => absurd q3 (by decide), fun _ => rs_no ci hk eo (by decide)⟩) (fun q3 => absurd q3 (by decide))
  refine s_isDigitR b2 (rT_nd (rP_T ci.2.2.1)) (fun q => ⟨fun _ => s_in (fun q2 => ⟨fun q3 => absurd q3 (by decide), fun _ => s_in (fun q3 => ⟨fun _ => ?_, fun q4 => absurd q4 (by decide)⟩) (fun q3 => ⟨fun q4 => absurd rfl q4, fun _ => no2 (by omega) (by omega)⟩)⟩) (fun q2 => ⟨fun _ => no2 (by omega) (by omega), fun q3 => absurd rfl q3⟩), fun q3 => absurd q3 (by decide)⟩) (fun q => ⟨fun q3 => absurd rfl q3, fun _ => ?_⟩)
  · rw [if_neg (by omega), if_neg (by omega)] at eo
    unfold B_RM_effect_40
    refine s_refused (fun q3 => absurd q3 (by decide)) (fun _ => ⟨fun _ => ?_, fun q3 => absurd rfl q3⟩)
    have c1 := RI_z (u := 0) ci
    refine s_layTake zl200 (by omega) c1.1 c1.2.1 c1.2.2.1 v.1 (fun r h2 t2 k2 f2 o2 => ?_)
    have c2 : RI h2 A := RI_keep c1 (fun a b q => f2 a b (by omega) (by omega))
    have g0 : h2 197 0 = 0 := by rw [f2 _ _ (by omega) (by omega), zs_eq]
    have hF : ∀ a b, a < 197 ∨ a = 220 → h2 a b = h a b := fun a b q => by rw [f2 a b (by omega) (by omega), zs0_f a b q]
    refine yp1 40 (fun i h' => (∀ j, j < i → h' 217 j = s9 A.P.1 A.P.2.2.2 j) ∧ ∀ a b, a ≠ 217 → h' a b = h2 a b) ⟨fun j hj => by omega, fun _ _ _ => rfl⟩ ?_
    rintro i h3 L hi ⟨g1, g2⟩ hL
    show F_RM_effect_68 K L 197 k x w (i : Int) h3
    unfold F_RM_effect_68
    simp only [Nat.reduceAdd]
    rw [g2 197 27 (by omega), k2.1]
    refine ⟨fun q4 => ?_, fun q4 => ⟨fun q5 => ⟨by omega, ?_⟩, fun q5 => ⟨by omega, by omega, ?_⟩⟩⟩
    · have ei : i = 40 := by omega
      subst ei
      clear hL
      have c3 : RI h3 A := RI_keep c2 (fun a b q => g2 a b (by omega))
      refine s_copyP zl201 (by omega) v.1 c3.2.2.1 (fun h4 e4 f4 => ⟨by omega, by omega, ?_⟩)
      rintro h5 rfl
      have e5 : rT (zs h4 201 (104 + k).toNat x) 201 0 = dgT A.P.2.2.2 k.toNat x := rT_dgt (rP_T e4) d2 d3 (show ((k.toNat : Nat) : Int) < A.P.2.2.2.2.2.2.1 by omega) (by omega)
      have t5 : TR (zs h4 201 (104 + k).toNat x) 197 A.P.1 A.mc := TR_keep (fun a b q1 q2 => by rw [zs_k (by omega), f4 a b (by omega), g2 a b (by omega)]) t2
      refine s_rtake (p := 197) (p1 := 201) zl201 (by omega) v.1.1 t5 e5 (VT_dgt v.1.2.2.2 (by omega)) (fun r6 h6 o6 k6 f6 => ?_)
      have hF6 : ∀ a b, ¬ (a = 197 ∧ b = 27) → a ≠ 201 → a ≠ 214 → a ≠ 215 → a ≠ 216 → a ≠ 217 → h6 a b = h2 a b := fun a b q1 q2 q3 q4 q5 q6 => by rw [f6 a b q1 q3 q4 q5, zs_k q2, f4 a b q2, g2 a b q6]
      have c6 : RI h6 A := RI_keep c2 (fun a b q => hF6 a b (by omega) (by omega) (by omega) (by omega) (by omega) (by omega))
      have z0 : h6 197 0 = 0 := by rw [hF6 _ _ (by omega) (by omega) (by omega) (by omega) (by omega) (by omega), g0]
      have zF : ∀ a b, a < 197 ∨ a = 220 → h6 a b = h a b := fun a b q => by rw [hF6 a b (by omega) (by omega) (by omega) (by omega) (by omega) (by omega), hF a b q]
      have e217 : ∀ j, j < 40 → h6 217 j = s9 A.P.1 A.P.2.2.2 j := fun j hj => by rw [f6 _ _ (by omega) (by omega) (by omega) (by omega), zs_k (by omega), f4 _ _ (by omega), g1 j hj]
      have np6 : h6 200 189 = A.P.2.2.2.2.2.1 := rT_np (rP_T c6.2.2.1)
      refine yp2 A.P.2.2.2.2.2.1.toNat (fun i y h' => h' = h6 ∧ y = sm (cE A.P.1 A.P.2.2.2 (dgT A.P.2.2.2 k.toNat x)) i ∧ 0 ≤ y ∧ y ≤ i) ⟨rfl, rfl, by omega, by omega⟩ ?_
      rintro i y h' L hi ⟨rfl, e, y1, y2⟩ hL
      show F_RM_effect_148 K L 197 w r6 y (i : Int) h'
      unfold F_RM_effect_148
      simp only [Nat.reduceAdd]
      rw [np6, k6.1]
      have es : sm (cE A.P.1 A.P.2.2.2 (dgT A.P.2.2.2 k.toNat x)) (i + 1) = sm (cE A.P.1 A.P.2.2.2 (dgT A.P.2.2.2 k.toNat x)) i + if s9 A.P.1 A.P.2.2.2 i = s9 A.P.1 (dgT A.P.2.2.2 k.toNat x) i then 0 else 1 := rfl
      have key : i < A.P.2.2.2.2.2.1.toNat → ∀ u, u = s9 A.P.1 (dgT A.P.2.2.2 k.toNat x) i → B_RM_effect_191 K L 197 w r6 (i : Int) y (h' 217 i) u h' := by
        intro q5 u eu
        unfold B_RM_effect_191
        rw [e217 i (by omega), eu]
        refine ⟨fun q6 => ⟨by omega, ?_⟩, fun q6 => ⟨by omega, ?_⟩⟩
        · rintro z rfl
          exact ⟨by omega, hL _ _ (by omega) ⟨rfl, by rw [es, if_neg q6]; omega, by omega, by omega⟩⟩
        · rintro z rfl
          exact ⟨by omega, hL _ _ (by omega) ⟨rfl, by rw [es, if_pos q6]; omega, by omega, by omega⟩⟩
      refine ⟨fun q5 => ⟨fun q6 => ?_, fun q6 => ?_⟩, fun q5 => ⟨by omega, fun q6 => ?_, fun q6 => ⟨by omega, ?_⟩⟩⟩
      · rw [if_pos (by omega)] at eo
        rcases o6 with ⟨y1, y2⟩ | ⟨y1, y2⟩
        · rw [if_pos y2] at eo
          exact ⟨fun q7 => by omega, fun _ => rs_val hk eo c6 z0 zF rfl⟩
        · rw [if_neg y2] at eo
          exact ⟨fun _ => rs_val hk eo c6 z0 zF rfl, fun q7 => by omega⟩
      · rw [if_neg (by omega)] at eo
        refine rs_val hk eo c6 z0 zF ?_
        have ei : i = A.P.2.2.2.2.2.1.toNat := by omega
        rw [e, ei]
        have := sm_tail (c := cE A.P.1 A.P.2.2.2 (dgT A.P.2.2.2 k.toNat x)) (n := A.P.2.2.2.2.2.1.toNat) (d := 40 - A.P.2.2.2.2.2.1.toNat) (fun j q1 q2 => if_pos (by
          unfold s9
          rw [if_neg (by omega), if_neg (by omega)]))
        rw [show A.P.2.2.2.2.2.1.toNat + (40 - A.P.2.2.2.2.2.1.toNat) = 40 by omega] at this
        exact this.symm
      · rw [Int.toNat_natCast]
        exact key (by omega) _ (if_neg (by omega)).symm
      · rw [Int.toNat_natCast]
        exact key (by omega) _ ((k6.2.1 i (by omega)).trans (if_pos (by omega)).symm)
    · rw [Int.toNat_natCast]
      rintro h4 rfl
      refine ⟨by omega, hL _ (by omega) ⟨fun j hj => ?_, fun a b q6 => by rw [zs_k q6, g2 a b q6]⟩⟩
      by_cases e : j = i
      · rw [e, zs_eq]; exact (if_neg (by omega)).symm
      · rw [zs_j e, g1 j (by omega)]
    · rw [Int.toNat_natCast]
      rintro h4 rfl
      refine ⟨by omega, hL _ (by omega) ⟨fun j hj => ?_, fun a b q6 => by rw [zs_k q6, g2 a b q6]⟩⟩
      by_cases e : j = i
      · rw [e, zs_eq, g2 _ _ (by omega)]
        exact (k2.2.1 i (by omega)).trans (if_pos (by omega)).symm
      · rw [zs_j e, g1 j (by omega)]
  · rw [if_pos (by omega)] at eo
    unfold B_RM_effect_40
    exact s_refused (fun _ => ⟨fun q3 => absurd q3 (by decide), fun _ => rs_no ci hk eo (by decide)⟩) (fun q3 => absurd q3 (by decide))

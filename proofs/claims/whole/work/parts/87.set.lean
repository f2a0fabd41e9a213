/-! setDigit, setHead, setPlan, undo, save, restore -/
def dgT (T : zT) (k : Nat) (v : Int) : zT := (T.1, zup T.2.1 k v, T.2.2)
def plT (T : zT) (k : Nat) (v : Int) : zT := (zup T.1 k v, T.2)
def hdT (T : zT) (z : Nat) (x : Int) : zT := (T.1, T.2.1, T.2.2.1, T.2.2.2.1, (if z = 0 then x else T.2.2.2.2.1), (if z = 0 then T.2.2.2.2.2 else x))
theorem cT_dgt {h : zH} {t : Nat} {T : zT} (e : cT h t = T) {k : Nat} {v : Int} (hk : (k : Int) < T.2.2.2.1) : cT (zs h (t + 2) k v) t = dgT T k v := by
  have nd := cT_nd e
  subst e
  unfold cT dgT
  rw [zs_row' (show t ≠ t + 2 by omega), zs_row' (show t + 1 ≠ t + 2 by omega), zs_row' (show t + 3 ≠ t + 2 by omega), zs_row, tr_up (by omega)]
theorem cT_pln {h : zH} {t : Nat} {T : zT} (e : cT h t = T) {k : Nat} {v : Int} (hk : (k : Int) < T.2.2.1) : cT (zs h (t + 1) k v) t = plT T k v := by
  have nd := cT_np e
  subst e
  unfold cT plT
  rw [zs_row' (show t ≠ t + 1 by omega), zs_row' (show t + 2 ≠ t + 1 by omega), zs_row' (show t + 3 ≠ t + 1 by omega), zs_row, tr_up (by omega)]
theorem cT_hd {h : zH} {t : Nat} {T : zT} (e : cT h t = T) {z : Nat} {v : Int} (hz : z < 2) : cT (zs h (t + 3) z v) t = hdT T z v := by
  subst e
  unfold cT hdT
  rw [zs_row' (show t ≠ t + 3 by omega), zs_row' (show t + 1 ≠ t + 3 by omega), zs_row' (show t + 2 ≠ t + 3 by omega)]
  by_cases q : z = 0
  · rw [q, zs_eq, zs_j (by omega)]; rfl
  · rw [show z = 1 by omega, zs_eq, zs_j (by omega)]; rfl
theorem rT_set {h : zH} {c o i : Nat} {v : Int} {pl dg : Nat → Int} {np nd a b : Int} (e : rT h c o = (pl, dg, np, nd, a, b)) (n1 : 0 ≤ np ∧ np ≤ 40) (n2 : 0 ≤ nd ∧ nd ≤ 80) : rT (zs h c (o + i) v) c o = (tr (if i = 189 then v else np).toNat (fun j => if 64 + j = i then v else h c (o + 64 + j)), tr (if i = 190 then v else nd).toNat (fun j => if 104 + j = i then v else h c (o + 104 + j)), (if i = 189 then v else np), (if i = 190 then v else nd), (if i = 191 then v else a), (if i = 192 then v else b)) := by
  have g : ∀ j, zs h c (o + i) v c (o + j) = if j = i then v else h c (o + j) := by
    intro j
    unfold zs
    by_cases q : j = i
    · rw [if_pos ⟨rfl, by omega⟩, if_pos q]
    · rw [if_neg (by omega), if_neg q]
  have e1 := rT_np e
  have e2 := rT_nd e
  have e3 := rT_a e
  have e4 := rT_b e
  unfold rT
  have g1 : (fun j => zs h c (o + i) v c (o + 64 + j)) = fun j => if 64 + j = i then v else h c (o + 64 + j) := by
    funext j
    rw [Nat.add_assoc, g (64 + j)]
  have g2 : (fun j => zs h c (o + i) v c (o + 104 + j)) = fun j => if 104 + j = i then v else h c (o + 104 + j) := by
    funext j
    rw [Nat.add_assoc, g (104 + j)]
  rw [g1, g2, g 189, g 190, g 191, g 192, e1, e2, e3, e4]
  simp only [eq_comm]
theorem rT_dgt {h : zH} {c : Nat} {T : zT} (e : rT h c 0 = T) (n1 : T.2.2.1 ≤ 40) (n2 : T.2.2.2.1 ≤ 80) {k : Nat} {v : Int} (hk : (k : Int) < T.2.2.2.1) {i : Nat} (ei : i = 104 + k) : rT (zs h c i v) c 0 = dgT T k v := by
  have nd := rT_nd e
  have np := rT_np e
  have g : ∀ j, j ≠ i → zs h c i v c (0 + j) = h c (0 + j) := fun j hj => zs_j (by omega)
  subst e
  unfold rT dgT
  rw [g 189 (by omega), g 190 (by omega), g 191 (by omega), g 192 (by omega), ← tr_up (by omega)]
  have x1 : tr (h c (0 + 189)).toNat (fun j => zs h c i v c (0 + 64 + j)) = tr (h c (0 + 189)).toNat (fun j => h c (0 + 64 + j)) := tr_congr (fun j hj => zs_j (by omega))
  have x2 : tr (h c (0 + 190)).toNat (fun j => zs h c i v c (0 + 104 + j)) = tr (h c (0 + 190)).toNat (zup (fun j => h c (0 + 104 + j)) k v) := tr_congr (fun j hj => by
    by_cases q : j = k
    · rw [q, zup_self, show 0 + 104 + k = i by omega, zs_eq]
    · rw [zup_ne q, zs_j (by omega)])
  rw [x1, x2]
theorem rT_pln {h : zH} {c : Nat} {T : zT} (e : rT h c 0 = T) (n1 : T.2.2.1 ≤ 40) (n2 : T.2.2.2.1 ≤ 80) {k : Nat} {v : Int} (hk : (k : Int) < T.2.2.1) {i : Nat} (ei : i = 64 + k) : rT (zs h c i v) c 0 = plT T k v := by
  have nd := rT_nd e
  have np := rT_np e
  have g : ∀ j, j ≠ i → zs h c i v c (0 + j) = h c (0 + j) := fun j hj => zs_j (by omega)
  subst e
  unfold rT plT
  rw [g 189 (by omega), g 190 (by omega), g 191 (by omega), g 192 (by omega), ← tr_up (by omega)]
  have x1 : tr (h c (0 + 190)).toNat (fun j => zs h c i v c (0 + 104 + j)) = tr (h c (0 + 190)).toNat (fun j => h c (0 + 104 + j)) := tr_congr (fun j hj => zs_j (by omega))
  have x2 : tr (h c (0 + 189)).toNat (fun j => zs h c i v c (0 + 64 + j)) = tr (h c (0 + 189)).toNat (zup (fun j => h c (0 + 64 + j)) k v) := tr_congr (fun j hj => by
    by_cases q : j = k
    · rw [q, zup_self, show 0 + 64 + k = i by omega, zs_eq]
    · rw [zup_ne q, zs_j (by omega)])
  rw [x1, x2]
theorem rT_hd {h : zH} {c : Nat} {T : zT} (e : rT h c 0 = T) (n1 : T.2.2.1 ≤ 40) (n2 : T.2.2.2.1 ≤ 80) {z : Nat} {v : Int} (hz : z < 2) {i : Nat} (ei : i = 191 + z) : rT (zs h c i v) c 0 = hdT T z v := by
  have nd := rT_nd e
  have np := rT_np e
  have g : ∀ j, j ≠ i → zs h c i v c (0 + j) = h c (0 + j) := fun j hj => zs_j (by omega)
  subst e
  unfold rT hdT
  rw [g 189 (by omega), g 190 (by omega)]
  have x1 : tr (h c (0 + 190)).toNat (fun j => zs h c i v c (0 + 104 + j)) = tr (h c (0 + 190)).toNat (fun j => h c (0 + 104 + j)) := tr_congr (fun j hj => zs_j (by omega))
  have x2 : tr (h c (0 + 189)).toNat (fun j => zs h c i v c (0 + 64 + j)) = tr (h c (0 + 189)).toNat (fun j => h c (0 + 64 + j)) := tr_congr (fun j hj => zs_j (by omega))
  rw [x1, x2]
  by_cases q : z = 0
  · subst q
    have ei' : i = 191 := by omega
    subst ei'
    rw [g 192 (by omega), show zs h c 191 v c (0 + 191) = v from zs_eq]
    rfl
  · have q1 : z = 1 := by omega
    subst q1
    have ei' : i = 192 := by omega
    subst ei'
    rw [g 191 (by omega), show zs h c 192 v c (0 + 192) = v from zs_eq]
    rfl
theorem VT_dgt {mc : Nat} {T : zT} (h : VT mc T) {k : Nat} {v : Int} (hv : 0 ≤ v ∧ v ≤ 15) : VT mc (dgT T k v) := by
  obtain ⟨h1, h2, h3, h4, h5, h6⟩ := h
  refine ⟨h1, h2, h3, fun j hj => ?_, h5, h6⟩
  show 0 ≤ zup T.2.1 k v j ∧ zup T.2.1 k v j ≤ 15
  by_cases q : j = k
  · rw [q, zup_self]; exact hv
  · rw [zup_ne q]; exact h4 j hj
theorem VT_pln {mc : Nat} {T : zT} (h : VT mc T) {k : Nat} {v : Int} (hv : 0 ≤ v ∧ v < mc) : VT mc (plT T k v) := by
  obtain ⟨h1, h2, h3, h4, h5, h6⟩ := h
  refine ⟨h1, h2, fun j hj => ?_, h4, h5, h6⟩
  show 0 ≤ zup T.1 k v j ∧ zup T.1 k v j < mc
  by_cases q : j = k
  · rw [q, zup_self]; exact hv
  · rw [zup_ne q]; exact h3 j hj
theorem VT_hd {mc : Nat} {T : zT} (h : VT mc T) {z : Nat} {v : Int} (hv : 512 ≤ v ∧ v ≤ 8191) : VT mc (hdT T z v) := by
  obtain ⟨h1, h2, h3, h4, h5, h6⟩ := h
  refine ⟨h1, h2, h3, h4, ?_, ?_⟩
  · show 512 ≤ (if z = 0 then v else T.2.2.2.2.1) ∧ (if z = 0 then v else T.2.2.2.2.1) ≤ 8191
    split
    · exact hv
    · exact h5
  · show 512 ≤ (if z = 0 then T.2.2.2.2.2 else v) ∧ (if z = 0 then T.2.2.2.2.2 else v) ≤ 8191
    split
    · exact h6
    · exact hv
def wT (P : zP) (T : zT) : zP := (P.1, P.2.1, P.2.2.1, T)
theorem VP_wT {sc mc : Nat} {P : zP} (v : VP sc mc P) {T : zT} (hT : VT mc T) : VP sc mc (wT P T) := ⟨v.1, v.2.1, v.2.2.1, hT⟩
def sp_setDigit (A : zSt) (k x : Int) : zOu := if ¬ (0 ≤ k ∧ k < A.P.2.2.2.2.2.2.1) then (1, 0, A) else if ¬ (0 ≤ x ∧ x ≤ 15) then (2, 0, A) else (0, A.P.2.2.2.2.1 k.toNat, zAP (rem A) (wT A.P (dgT A.P.2.2.2 k.toNat x)))
theorem v_setDigit {A : zSt} (v : VA A) {k x : Int} : VA (sp_setDigit A k x).2.2 := by
  unfold sp_setDigit
  split
  · exact v
  split
  · exact v
  · exact VA_set v (VP_wT v.1 (VT_dgt v.1.2.2.2 (by omega)))
theorem c_setDigit {A : zSt} (v : VA A) {k x : Int} : CS (fun h K => M_LW_setDigit 0 k x 220 h K) A (sp_setDigit A k x) := by
  intro h K ci hk
  have eo : sp_setDigit A k x = if ¬ (0 ≤ k ∧ k < A.P.2.2.2.2.2.2.1) then (1, 0, A) else if ¬ (0 ≤ x ∧ x ≤ 15) then (2, 0, A) else (0, A.P.2.2.2.2.1 k.toNat, zAP (rem A) (wT A.P (dgT A.P.2.2.2 k.toNat x))) := rfl
  generalize sp_setDigit A k x = o at *
  have hm := CI_mc v
  have cT3 := cP_T ci.2.2.1
  have nd := cT_nd cT3
  have b2 := v.1.2.2.2.2.1
  simp only [Nat.reduceAdd] at nd
  show M_LW_setDigit 0 k x 220 h K
  unfold M_LW_setDigit M_AS_setDigit
  simp only [Nat.reduceAdd]
  refine s_hasDigit (by rw [nd]; exact b2.2) (fun q => ⟨fun _ => s_isDigit (fun q2 => ⟨fun _ => ⟨by omega, ?_⟩, fun q3 => absurd q3 (by decide)⟩) (fun q2 => ⟨fun q3 => absurd rfl q3, fun _ => Or.inr ⟨by trivial, ?_⟩⟩), fun q3 => absurd q3 (by decide)⟩) (fun q => ⟨fun q3 => absurd rfl q3, fun _ => Or.inl ⟨by trivial, ?_⟩⟩)
  · rw [if_neg (by omega), if_neg (by omega)] at eo
    rintro y rfl
    refine s_remember v ci (fun h1 c1 f1 => ⟨by omega, ?_⟩)
    rintro h2 rfl
    have e2 : cT (zs h1 42 k.toNat x) 40 = dgT A.P.2.2.2 k.toNat x := cT_dgt (t := 40) (cP_T c1.2.2.1) (show ((k.toNat : Nat) : Int) < A.P.2.2.2.2.2.2.1 by omega)
    exact cs_val hk eo hm (CI_now (A := rem A) (P := wT A.P (dgT A.P.2.2.2 k.toNat x)) hm c1 (fun a b q1 q2 q3 q4 q5 => zs_k (by omega)) (cP_tape (P := A.P) c1.2.2.1 (fun k j q1 q2 => zs_k (by omega)) e2) rfl) (fun a b q1 q2 => by rw [zs_k (by omega), f1 a b (by omega)]) (cT_dg cT3 (by omega))
  · rw [if_neg (by omega), if_pos (by omega)] at eo
    exact cs_ex hk eo (by decide) ci (fun _ _ _ _ => rfl)
  · rw [if_pos (by omega)] at eo
    exact cs_ex hk eo (by decide) ci (fun _ _ _ _ => rfl)
theorem r_setDigit {A : zSt} (v : VA A) {k x : Int} : RS1 (fun h K => M_RM_setDigit 197 k x h K) A (sp_setDigit A k x) := by
  intro h K ci hk
  have eo : sp_setDigit A k x = if ¬ (0 ≤ k ∧ k < A.P.2.2.2.2.2.2.1) then (1, 0, A) else if ¬ (0 ≤ x ∧ x ≤ 15) then (2, 0, A) else (0, A.P.2.2.2.2.1 k.toNat, zAP (rem A) (wT A.P (dgT A.P.2.2.2 k.toNat x))) := rfl
  generalize sp_setDigit A k x = o at *
  have b2 := v.1.2.2.2.2.1
  obtain ⟨d1, d2, d3⟩ := VP_b v.1
  show M_RM_setDigit 197 k x h K
  unfold M_RM_setDigit B_RM_setDigit_30
  refine s_isDigitR b2 (rT_nd (rP_T ci.2.2.1)) (fun q => ⟨fun _ => s_in (fun q2 => ⟨fun _ => s_refused (fun q3 => absurd q3 (by decide)) (fun _ => ⟨fun _ => ?_, fun q3 => absurd rfl q3⟩), fun q3 => absurd q3 (by decide)⟩) (fun q2 => ⟨fun q3 => absurd rfl q3, fun _ => ?_⟩), fun q3 => absurd q3 (by decide)⟩) (fun q => ⟨fun q3 => absurd rfl q3, fun _ => ?_⟩)
  · rw [if_neg (by omega), if_neg (by omega)] at eo
    refine s_note v (RI_z ci) (fun h1 c1 f1 => ⟨by omega, by omega, ?_⟩)
    rintro y rfl
    refine ⟨by omega, by omega, ?_⟩
    rintro h2 rfl
    have rT1 := rP_T c1.2.2.1
    have e2 : rT (zs h1 200 (104 + k).toNat x) 200 0 = dgT A.P.2.2.2 k.toNat x := rT_dgt rT1 d2 d3 (show ((k.toNat : Nat) : Int) < A.P.2.2.2.2.2.2.1 by omega) (by omega)
    refine rs_val hk eo (RI_set c1 (fun a b q => zs_k (by omega)) (rP_tape (P := A.P) c1.2.2.1 d1 (fun j hj => zs_j (by omega)) e2)) (by rw [zs_k (by decide), f1 _ _ (by omega) (by omega), zs_eq]) (fun a b q => by rw [zs_k (by omega), f1 a b (by omega) (by omega), zs0_f a b q]) ?_
    have := rT_dg rT1 (j := k.toNat) (show ((k.toNat : Nat) : Int) < A.P.2.2.2.2.2.2.1 by omega)
    rw [show 0 + 104 + k.toNat = (104 + k).toNat by omega] at this
    exact this
  · rw [if_neg (by omega), if_pos (by omega)] at eo
    exact s_refused (fun _ => ⟨fun q3 => absurd q3 (by decide), fun _ => rs_no ci hk eo (by decide)⟩) (fun q3 => absurd q3 (by decide))
  · rw [if_pos (by omega)] at eo
    exact s_refused (fun _ => ⟨fun q3 => absurd q3 (by decide), fun _ => rs_no ci hk eo (by decide)⟩) (fun q3 => absurd q3 (by decide))
def gh (T : zT) (z : Nat) : Int := if z = 0 then T.2.2.2.2.1 else T.2.2.2.2.2
def sp_setHead (A : zSt) (k x : Int) : zOu := if ¬ (0 ≤ k ∧ k < 2) then (1, 0, A) else if ¬ (512 ≤ x ∧ x ≤ 8191) then (2, 0, A) else (0, gh A.P.2.2.2 k.toNat, zAP (rem A) (wT A.P (hdT A.P.2.2.2 k.toNat x)))
theorem v_setHead {A : zSt} (v : VA A) {k x : Int} : VA (sp_setHead A k x).2.2 := by
  unfold sp_setHead
  split
  · exact v
  split
  · exact v
  · exact VA_set v (VP_wT v.1 (VT_hd v.1.2.2.2 (by omega)))
theorem c_setHead {A : zSt} (v : VA A) {k x : Int} : CS (fun h K => M_LW_setHead 0 k x 220 h K) A (sp_setHead A k x) := by
  intro h K ci hk
  have eo : sp_setHead A k x = if ¬ (0 ≤ k ∧ k < 2) then (1, 0, A) else if ¬ (512 ≤ x ∧ x ≤ 8191) then (2, 0, A) else (0, gh A.P.2.2.2 k.toNat, zAP (rem A) (wT A.P (hdT A.P.2.2.2 k.toNat x))) := rfl
  generalize sp_setHead A k x = o at *
  have hm := CI_mc v
  have cT3 := cP_T ci.2.2.1
  show M_LW_setHead 0 k x 220 h K
  unfold M_LW_setHead M_AS_setHead
  simp only [Nat.reduceAdd]
  refine s_isHead (fun q => ⟨fun _ => ⟨fun q2 => Or.inr ⟨by trivial, ?_⟩, fun q2 => ⟨fun q3 => ⟨by omega, ?_⟩, fun q3 => Or.inr ⟨by trivial, ?_⟩⟩⟩, fun q3 => absurd q3 (by decide)⟩) (fun q => ⟨fun q3 => absurd rfl q3, fun _ => Or.inl ⟨by trivial, ?_⟩⟩)
  · rw [if_neg (by omega), if_pos (by omega)] at eo
    exact cs_ex hk eo (by decide) ci (fun _ _ _ _ => rfl)
  · rw [if_neg (by omega), if_neg (by omega)] at eo
    rintro y rfl
    refine s_remember v ci (fun h1 c1 f1 => ⟨by omega, ?_⟩)
    rintro h2 rfl
    have e2 : cT (zs h1 43 k.toNat x) 40 = hdT A.P.2.2.2 k.toNat x := cT_hd (t := 40) (cP_T c1.2.2.1) (by omega)
    refine cs_val hk eo hm (CI_now (A := rem A) (P := wT A.P (hdT A.P.2.2.2 k.toNat x)) hm c1 (fun a b q1 q2 q3 q4 q5 => zs_k (by omega)) (cP_tape (P := A.P) c1.2.2.1 (fun k j q1 q2 => zs_k (by omega)) e2) rfl) (fun a b q1 q2 => by rw [zs_k (by omega), f1 a b (by omega)]) ?_
    unfold gh
    by_cases q0 : k.toNat = 0
    · rw [if_pos q0, q0]; exact cT_a cT3
    · rw [if_neg q0, show k.toNat = 1 by omega]; exact cT_b cT3
  · rw [if_neg (by omega), if_pos (by omega)] at eo
    exact cs_ex hk eo (by decide) ci (fun _ _ _ _ => rfl)
  · rw [if_pos (by omega)] at eo
    exact cs_ex hk eo (by decide) ci (fun _ _ _ _ => rfl)
theorem r_setHead {A : zSt} (v : VA A) {k x : Int} : RS1 (fun h K => M_RM_setHead 197 k x h K) A (sp_setHead A k x) := by
  intro h K ci hk
  have eo : sp_setHead A k x = if ¬ (0 ≤ k ∧ k < 2) then (1, 0, A) else if ¬ (512 ≤ x ∧ x ≤ 8191) then (2, 0, A) else (0, gh A.P.2.2.2 k.toNat, zAP (rem A) (wT A.P (hdT A.P.2.2.2 k.toNat x))) := rfl
  generalize sp_setHead A k x = o at *
  obtain ⟨d1, d2, d3⟩ := VP_b v.1
  show M_RM_setHead 197 k x h K
  unfold M_RM_setHead B_RM_setHead_34
  refine s_in (fun q => ⟨fun _ => s_in (fun q2 => ⟨fun _ => s_refused (fun q3 => absurd q3 (by decide)) (fun _ => ⟨fun _ => ?_, fun q3 => absurd rfl q3⟩), fun q3 => absurd q3 (by decide)⟩) (fun q2 => ⟨fun q3 => absurd rfl q3, fun _ => ?_⟩), fun q3 => absurd q3 (by decide)⟩) (fun q => ⟨fun q3 => absurd rfl q3, fun _ => ?_⟩)
  · rw [if_neg (by omega), if_neg (by omega)] at eo
    refine s_note v (RI_z ci) (fun h1 c1 f1 => ⟨by omega, by omega, ?_⟩)
    rintro y rfl
    refine ⟨by omega, by omega, ?_⟩
    rintro h2 rfl
    have rT1 := rP_T c1.2.2.1
    have e2 : rT (zs h1 200 (191 + k).toNat x) 200 0 = hdT A.P.2.2.2 k.toNat x := rT_hd rT1 d2 d3 (by omega) (by omega)
    refine rs_val hk eo (RI_set c1 (fun a b q => zs_k (by omega)) (rP_tape (P := A.P) c1.2.2.1 d1 (fun j hj => zs_j (by omega)) e2)) (by rw [zs_k (by decide), f1 _ _ (by omega) (by omega), zs_eq]) (fun a b q => by rw [zs_k (by omega), f1 a b (by omega) (by omega), zs0_f a b q]) ?_
    unfold gh
    by_cases q0 : k.toNat = 0
    · rw [if_pos q0, show (191 + k).toNat = 191 by omega]; exact rT_a rT1
    · rw [if_neg q0, show (191 + k).toNat = 192 by omega]; exact rT_b rT1
  · rw [if_neg (by omega), if_pos (by omega)] at eo
    exact s_refused (fun _ => ⟨fun q3 => absurd q3 (by decide), fun _ => rs_no ci hk eo (by decide)⟩) (fun q3 => absurd q3 (by decide))
  · rw [if_pos (by omega)] at eo
    exact s_refused (fun _ => ⟨fun q3 => absurd q3 (by decide), fun _ => rs_no ci hk eo (by decide)⟩) (fun q3 => absurd q3 (by decide))
def sp_setPlan (A : zSt) (k x : Int) : zOu := if ¬ ((0 ≤ k ∧ k < A.P.2.2.2.2.2.1) ∧ (0 ≤ x ∧ x < A.mc)) then (1, 0, A) else (0, A.P.2.2.2.1 k.toNat, zAP (rem A) (wT A.P (plT A.P.2.2.2 k.toNat x)))
theorem v_setPlan {A : zSt} (v : VA A) {k x : Int} : VA (sp_setPlan A k x).2.2 := by
  unfold sp_setPlan
  split
  · exact v
  · exact VA_set v (VP_wT v.1 (VT_pln v.1.2.2.2 (by omega)))
theorem c_setPlan {A : zSt} (v : VA A) {k x : Int} : CS (fun h K => M_LW_setPlan 0 k x 220 h K) A (sp_setPlan A k x) := by
  intro h K ci hk
  have eo : sp_setPlan A k x = if ¬ ((0 ≤ k ∧ k < A.P.2.2.2.2.2.1) ∧ (0 ≤ x ∧ x < A.mc)) then (1, 0, A) else (0, A.P.2.2.2.1 k.toNat, zAP (rem A) (wT A.P (plT A.P.2.2.2 k.toNat x))) := rfl
  generalize sp_setPlan A k x = o at *
  have hm := CI_mc v
  have cT3 := cP_T ci.2.2.1
  have np := cT_np cT3
  have b2 := v.1.2.2.2.1
  simp only [Nat.reduceAdd] at np
  show M_LW_setPlan 0 k x 220 h K
  unfold M_LW_setPlan M_AS_setPlan
  simp only [Nat.reduceAdd]
  refine s_hasPlanned (by rw [np]; exact b2.2) (fun q => ⟨fun q3 => absurd q3 (by decide), fun _ => s_hasModel ci.2.1 (fun q2 => ⟨fun _ => ⟨by omega, ?_⟩, fun q3 => absurd q3 (by decide)⟩) (fun q2 => ⟨fun q3 => absurd rfl q3, fun _ => ⟨by trivial, ?_⟩⟩)⟩) (fun q => ⟨fun _ => ⟨by trivial, ?_⟩, fun q3 => absurd rfl q3⟩)
  · rw [if_neg (by omega)] at eo
    rintro y rfl
    refine s_remember v ci (fun h1 c1 f1 => ⟨by omega, ?_⟩)
    rintro h2 rfl
    have e2 : cT (zs h1 41 k.toNat x) 40 = plT A.P.2.2.2 k.toNat x := cT_pln (t := 40) (cP_T c1.2.2.1) (show ((k.toNat : Nat) : Int) < A.P.2.2.2.2.2.1 by omega)
    exact cs_val hk eo hm (CI_now (A := rem A) (P := wT A.P (plT A.P.2.2.2 k.toNat x)) hm c1 (fun a b q1 q2 q3 q4 q5 => zs_k (by omega)) (cP_tape (P := A.P) c1.2.2.1 (fun k j q1 q2 => zs_k (by omega)) e2) rfl) (fun a b q1 q2 => by rw [zs_k (by omega), f1 a b (by omega)]) (cT_pl cT3 (by omega))
  · rw [if_pos (by omega)] at eo
    exact cs_ex hk eo (by decide) ci (fun _ _ _ _ => rfl)
  · rw [if_pos (by omega)] at eo
    exact cs_ex hk eo (by decide) ci (fun _ _ _ _ => rfl)
theorem r_setPlan {A : zSt} (v : VA A) {k x : Int} : RS1 (fun h K => M_RM_setPlan 197 k x h K) A (sp_setPlan A k x) := by
  intro h K ci hk
  have eo : sp_setPlan A k x = if ¬ ((0 ≤ k ∧ k < A.P.2.2.2.2.2.1) ∧ (0 ≤ x ∧ x < A.mc)) then (1, 0, A) else (0, A.P.2.2.2.1 k.toNat, zAP (rem A) (wT A.P (plT A.P.2.2.2 k.toNat x))) := rfl
  generalize sp_setPlan A k x = o at *
  have b2 := v.1.2.2.2.1
  obtain ⟨d1, d2, d3⟩ := VP_b v.1
  show M_RM_setPlan 197 k x h K
  unfold M_RM_setPlan B_RM_setPlan_21 B_RM_setPlan_22
  refine s_isPlanned b2 (rT_np (rP_T ci.2.2.1)) (fun q => ⟨fun q3 => absurd q3 (by decide), fun _ => s_isModel (CI_mc v) ci.2.1 (fun q2 => ⟨fun q3 => absurd q3 (by decide), fun _ => s_refused (fun q3 => absurd q3 (by decide)) (fun _ => ⟨fun _ => ?_, fun q3 => absurd rfl q3⟩)⟩) (fun q2 => ⟨fun _ => ?_, fun q3 => absurd rfl q3⟩)⟩) (fun q => ⟨fun _ => ?_, fun q3 => absurd rfl q3⟩)
  · rw [if_neg (by omega)] at eo
    refine s_note v (RI_z ci) (fun h1 c1 f1 => ⟨by omega, by omega, ?_⟩)
    rintro y rfl
    refine ⟨by omega, by omega, ?_⟩
    rintro h2 rfl
    have rT1 := rP_T c1.2.2.1
    have e2 : rT (zs h1 200 (64 + k).toNat x) 200 0 = plT A.P.2.2.2 k.toNat x := rT_pln rT1 d2 d3 (show ((k.toNat : Nat) : Int) < A.P.2.2.2.2.2.1 by omega) (by omega)
    refine rs_val hk eo (RI_set c1 (fun a b q => zs_k (by omega)) (rP_tape (P := A.P) c1.2.2.1 d1 (fun j hj => zs_j (by omega)) e2)) (by rw [zs_k (by decide), f1 _ _ (by omega) (by omega), zs_eq]) (fun a b q => by rw [zs_k (by omega), f1 a b (by omega) (by omega), zs0_f a b q]) ?_
    have := rT_pl rT1 (j := k.toNat) (show ((k.toNat : Nat) : Int) < A.P.2.2.2.2.2.1 by omega)
    rw [show 0 + 64 + k.toNat = (64 + k).toNat by omega] at this
    exact this
  · rw [if_pos (by omega)] at eo
    exact s_refused (fun _ => ⟨fun q3 => absurd q3 (by decide), fun _ => rs_no ci hk eo (by decide)⟩) (fun q3 => absurd q3 (by decide))
  · rw [if_pos (by omega)] at eo
    exact s_refused (fun _ => ⟨fun q3 => absurd q3 (by decide), fun _ => rs_no ci hk eo (by decide)⟩) (fun q3 => absurd q3 (by decide))
def sp_undo (A : zSt) : zOu := if A.n = 0 then (1, 0, A) else (0, (A.n : Int) - 1, zAk A.sc A.mc (A.hi (A.n - 1)) A.len A.tx (A.n - 1) A.hi A.us A.sv)
theorem v_undo {A : zSt} (v : VA A) : VA (sp_undo A).2.2 := by
  unfold sp_undo
  split
  · exact v
  · have := v.2.1
    exact ⟨v.2.2.1 (A.n - 1) (by omega), show A.n - 1 ≤ 14 by omega, fun i (hi : i < A.n - 1) => v.2.2.1 i (by omega), v.2.2.2⟩
theorem c_undo {A : zSt} (v : VA A) : CS (fun h K => M_LW_undo 0 220 h K) A (sp_undo A) := by
  intro h K ci hk
  have eo : sp_undo A = if A.n = 0 then (1, 0, A) else (0, (A.n : Int) - 1, zAk A.sc A.mc (A.hi (A.n - 1)) A.len A.tx (A.n - 1) A.hi A.us A.sv) := rfl
  generalize sp_undo A = o at *
  have hm := CI_mc v
  have v14 := v.2.1
  obtain ⟨nx, n1, n2, n3, n4⟩ := ci.2.2.2.2.2.1
  show M_LW_undo 0 220 h K
  unfold M_LW_undo M_AS_undo M_History_giveBack M_History_placeInRing M_Math_floorMod
  simp only [Nat.reduceAdd]
  rw [n3, n2]
  refine ⟨fun q => ⟨by omega, by decide, ?_⟩, fun q => ⟨by trivial, ?_⟩⟩
  · rw [if_neg (by omega)] at eo
    rintro h1 rfl
    rw [zs_eq]
    refine ⟨by omega, ?_⟩
    have ei : (((nx : Int) - 1) % 14).toNat = (nx + 13) % 14 := by omega
    rw [ei]
    have en := n4 (A.n - 1) (by omega)
    rw [show (nx + 14 - A.n + (A.n - 1)) % 14 = (nx + 13) % 14 by omega] at en
    have eP1 : cPg (zs h 44 1 (((nx : Int) - 1) % 14)) (46 + 7 * ((nx + 13) % 14)) = A.hi (A.n - 1) := (cPg_same (fun k j q1 q2 => zs_k (by omega))).trans en
    have vn := v.2.2.1 (A.n - 1) (by omega)
    obtain ⟨b1, b2, b3⟩ := VP_b vn
    refine s_stateCopy (p0 := 37) (p1 := 46 + 7 * ((nx + 13) % 14)) (by omega) (by rw [cP_ni eP1]; exact b1) (by rw [cT_np (cP_T eP1)]; exact b2) (by rw [cT_nd (cP_T eP1)]; exact b3) (fun h2 e2 f2 => ?_)
    rw [f2 44 2 (by omega), zs_j (by decide), n3]
    refine ⟨by omega, ?_⟩
    rintro h3 rfl
    have eP3 : cPg (zs h2 44 2 ((A.n : Int) - 1)) 37 = A.hi (A.n - 1) := (cPg_same (fun k j q1 q2 => zs_k (by omega))).trans (e2.trans eP1)
    refine s_makeAll (c := (A.hi (A.n - 1)).1) (fun j hj => cP_ct eP3 hj) vn.1.2.1 (fun h4 t4 f4 => ?_)
    have hF : ∀ a b, a < 7 ∨ 43 < a → ¬ (a = 44 ∧ (b = 1 ∨ b = 2)) → h4 a b = h a b := by
      intro a b q1 q2
      rw [f4 a b (by omega)]
      have : zs h2 44 2 ((A.n : Int) - 1) a b = h2 a b := by unfold zs; rw [if_neg (by omega)]
      rw [this, f2 a b (by omega)]
      unfold zs
      rw [if_neg (by omega)]
    obtain ⟨c1, c2, c3, c4, c5, c6, c7⟩ := ci
    refine cs_val hk eo hm ⟨(hF _ _ (by omega) (by omega)).trans c1, (hF _ _ (by omega) (by omega)).trans c2, (cPg_same (fun k j q1 q2 => f4 _ _ (by omega))).trans eP3, fun m hm1 => ?_, Ct_keep c5 (hF _ _ (by omega) (by omega)) (fun j => hF _ _ (by omega) (by omega)), ⟨(nx + 13) % 14, by omega, ?_, ?_, fun i hi => ?_⟩, fun i hi => ⟨(hF _ _ (by omega) (by omega)).trans (c7 i hi).1, fun u => (cPg_same (fun k j q1 q2 => hF _ _ (by omega) (by omega))).trans ((c7 i hi).2 u)⟩⟩ (fun a b q1 q2 => hF a b (by omega) (by omega)) ?_
    · have hm1' : m < A.mc := hm1
      exact t4 m (by omega) (vn.1.2.2.2 m hm1')
    · rw [f4 _ _ (by omega), zs_j (by decide), f2 _ _ (by omega), zs_eq]; omega
    · rw [f4 _ _ (by omega), zs_eq]
      show (A.n : Int) - 1 = ((A.n - 1 : Nat) : Int)
      omega
    · have hi' : i < A.n - 1 := hi
      show cPg h4 (46 + 7 * (((nx + 13) % 14 + 14 - (A.n - 1) + i) % 14)) = A.hi i
      rw [← n4 i (by omega), show ((nx + 13) % 14 + 14 - (A.n - 1) + i) % 14 = (nx + 14 - A.n + i) % 14 by omega]
      exact cPg_same (fun k j q1 q2 => hF _ _ (by omega) (by omega))
    · rw [f4 _ _ (by omega), zs_eq]
  · rw [if_pos (by omega)] at eo
    exact cs_ex hk eo (by decide) ci (fun _ _ _ _ => rfl)
theorem r_undo {A : zSt} (v : VA A) : RS1 (fun h K => M_RM_undo 197 h K) A (sp_undo A) := by
  intro h K ci hk
  have eo : sp_undo A = if A.n = 0 then (1, 0, A) else (0, (A.n : Int) - 1, zAk A.sc A.mc (A.hi (A.n - 1)) A.len A.tx (A.n - 1) A.hi A.us A.sv) := rfl
  generalize sp_undo A = o at *
  have v14 := v.2.1
  have e13 := ci.2.2.2.2.1.1
  show M_RM_undo 197 h K
  unfold M_RM_undo B_RM_undo_13
  rw [e13]
  refine ⟨fun q => s_refused (fun q3 => absurd q3 (by decide)) (fun _ => ⟨fun _ => ?_, fun q3 => absurd rfl q3⟩), fun q => ?_⟩
  · rw [if_neg (by omega)] at eo
    rw [zs_j (by decide), e13]
    refine ⟨by omega, ?_⟩
    rintro h1 rfl
    rw [zs_eq]
    refine ⟨by omega, ?_⟩
    obtain ⟨c1, c2, c3, c4, ⟨c5, c6⟩, c7⟩ := ci
    have en := c6 (A.n - 1) (by omega)
    generalize eg : zs (zs h 197 0 0) 197 13 ((A.n : Int) - 1) = g
    have gF : ∀ a b, ¬ (a = 197 ∧ (b = 0 ∨ b = 13)) → g a b = h a b := by
      intro a b q1
      rw [← eg]
      unfold zs
      rw [if_neg (by omega), if_neg (by omega)]
    have g0 : g 197 0 = 0 := by rw [← eg, zs_j (by decide), zs_eq]
    have g13 : g 197 13 = (A.n : Int) - 1 := by rw [← eg, zs_eq]
    clear eg
    have eP1 : rPg g 203 (193 * (A.n - 1)) = A.hi (A.n - 1) := (rPg_same (fun b => gF _ _ (by omega))).trans en
    obtain ⟨b1, b2, b3⟩ := VP_b (v.2.2.1 (A.n - 1) (by omega))
    refine s_copyPage (p0 := 203) (p2 := 200) (o1 := 193 * (A.n - 1)) (o3 := 0) (by decide) (by rw [zl203]; omega) (by rw [zl200]; decide) (by rw [zl203]; decide) (by rw [zl200]; decide) (fun h2 e2 f2 => ?_) (by omega) rfl
    have hF : ∀ a b, a ≠ 200 → ¬ (a = 197 ∧ (b = 0 ∨ b = 13)) → h2 a b = h a b := fun a b q1 q2 => (f2 a b (by omega)).trans (gF a b q2)
    refine rs_val hk eo ⟨(hF _ _ (by omega) (by omega)).trans c1, (hF _ _ (by omega) (by omega)).trans c2, ?_, Rt_keep c4 (hF _ _ (by omega) (by omega)) (fun j => hF _ _ (by omega) (by omega)), ⟨?_, fun i hi => ?_⟩, fun i hi => ⟨(hF _ _ (by omega) (by omega)).trans (c7 i hi).1, fun u => (rPg_same (fun b => hF _ _ (by omega) (by omega))).trans ((c7 i hi).2 u)⟩⟩ ((f2 _ _ (by omega)).trans g0) (fun a b q => hF a b (by omega) (by omega)) ?_
    · refine Eq.trans (rPg_eq e2 ?_ ?_ ?_) eP1
      · rw [rP_ni eP1]; exact b1
      · rw [rT_np (rP_T eP1)]; exact b2
      · rw [rT_nd (rP_T eP1)]; exact b3
    · rw [f2 _ _ (by omega), g13]
      show (A.n : Int) - 1 = ((A.n - 1 : Nat) : Int)
      omega
    · have hi' : i < A.n - 1 := hi
      exact (rPg_same (fun b => hF _ _ (by omega) (by omega))).trans (c6 i (by omega))
    · rw [f2 _ _ (by omega), g13]
  · rw [if_pos (by omega)] at eo
    exact s_refused (fun _ => ⟨fun q3 => absurd q3 (by decide), fun _ => rs_no ci hk eo (by decide)⟩) (fun q3 => absurd q3 (by decide))

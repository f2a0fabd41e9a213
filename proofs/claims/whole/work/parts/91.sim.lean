/-! simulate -/
theorem ushr_ok (x : Int) : 0 ≤ zushr x 33 ∧ zushr x 33 ≤ 2147483647 := by
  unfold zushr
  have e : ((Int32.ofInt 33).toInt64.toUInt64 &&& Int64.toUInt64 63) = 33 := by decide
  rw [e]
  have h : ((Int64.ofInt x).toUInt64 >>> 33).toNat < 2147483648 := by
    rw [UInt64.toNat_shiftRight]
    have : (33 : UInt64).toNat % 64 = 33 := by decide
    rw [this, Nat.shiftRight_eq_div_pow]
    have := (Int64.ofInt x).toUInt64.toNat_lt
    omega
  generalize ((Int64.ofInt x).toUInt64 >>> 33) = w at *
  have : w.toInt64.toInt = (w.toNat : Int) := by
    show w.toBitVec.toInt = _
    rw [BitVec.toInt_eq_toNat_of_lt]
    · rfl
    · show 2 * w.toNat < _
      omega
  omega
def dsT (T : zT) (r : Int) : zT := if 0 < T.2.2.2.1 then dgT T (r / 16 % T.2.2.2.1).toNat (r % 16) else hdT T (r % 2).toNat (512 + r / 2 % 7680)
theorem VT_ds {mc : Nat} {T : zT} (h : VT mc T) {r : Int} (hr : 0 ≤ r) : VT mc (dsT T r) := by
  unfold dsT
  split
  · exact VT_dgt h (by omega)
  · exact VT_hd h (by omega)
theorem dsT_np {T : zT} {r : Int} : (dsT T r).2.2.1 = T.2.2.1 := by
  unfold dsT
  split
  · rfl
  · rfl
theorem s_disturb {t : Nat} {h : zH} {K : zH → Prop} {mc : Nat} {T : zT} {r : Int} (hr : 0 ≤ r) (e : cT h t = T) (v : VT mc T) (hk : ∀ h', cT h' t = dsT T r → (∀ a b, a < t ∨ t + 3 < a → h' a b = h a b) → K h') : M_Tape_disturb t r h K := by
  have nd := cT_nd e
  have b2 := v.2.1
  unfold M_Tape_disturb
  rw [nd]
  refine ⟨fun q => ⟨hr, s_isHead (fun q2 => ⟨fun q3 => absurd q3 (by decide), fun _ => ⟨hr, hr, by omega, by omega, by omega, ?_⟩⟩) (fun q2 => by omega)⟩, fun q => ⟨hr, ⟨by omega, q⟩, ?_⟩⟩
  · rintro h1 rfl
    refine hk _ ?_ (fun a b q3 => zs_k (by omega))
    rw [cT_hd e (by omega)]
    exact (if_neg (by omega)).symm
  · rintro x rfl
    have m1 : 0 ≤ r / 16 % T.2.2.2.1 := Int.emod_nonneg _ (by omega)
    have m2 : r / 16 % T.2.2.2.1 < T.2.2.2.1 := Int.emod_lt_of_pos _ q
    refine s_hasDigit (by rw [nd]; exact b2.2) (fun q2 => ⟨fun q3 => absurd q3 (by decide), fun _ => ⟨hr, by omega, ?_⟩⟩) (fun q2 => by omega)
    rintro h1 rfl
    refine hk _ ?_ (fun a b q3 => zs_k (by omega))
    rw [cT_dgt e (by omega)]
    exact (if_pos q).symm
def nX (x : Int) : Int := zwl ((zwl (x * 6364136223846793005)) + 1442695040888963407)
def rX (x : Int) : Int := zw (zushr x 33)
theorem rX_ok (x : Int) : 0 ≤ rX x := by
  unfold rX
  have := ushr_ok x
  rw [zw_id (by omega)]
  omega
def pt (c : Nat → Int) (T : zT) : Int := if tin c T then 1 else if ((tn c T : Nat) : Int) < T.2.2.1 then 100 else 0
def sQ (c : Nat → Int) (T : zT) (x : Int) : Nat → Int × Int
  | 0 => (x, 0)
  | i + 1 => (nX (sQ c T x i).1, (sQ c T x i).2 + pt c (dsT T (rX (nX (sQ c T x i).1))))
def sp_simulate (A : zSt) (x m : Int) : zOu := if ¬ (1 ≤ m ∧ m ≤ 40) then (1, 0, A) else (0, (sQ A.P.1 A.P.2.2.2 x m.toNat).2, A)
theorem c_simulate {A : zSt} (v : VA A) {x m : Int} : CS (fun h K => M_LW_simulate 0 x m 220 h K) A (sp_simulate A x m) := by
  intro h K ci hk
  have eo : sp_simulate A x m = if ¬ (1 ≤ m ∧ m ≤ 40) then (1, 0, A) else (0, (sQ A.P.1 A.P.2.2.2 x m.toNat).2, A) := rfl
  generalize sp_simulate A x m = o at *
  have hm := CI_mc v
  have b1 := v.1.2.2.2.1
  have b2 := v.1.2.2.2.2.1
  show M_LW_simulate 0 x m 220 h K
  unfold M_LW_simulate M_AS_simulate
  refine ⟨fun q => ⟨by trivial, ?_⟩, fun q => ⟨fun q2 => ?_, fun q2 => ⟨by trivial, ?_⟩⟩⟩
  · rw [if_pos (by omega)] at eo
    exact cs_ex hk eo (by decide) ci (fun _ _ _ _ => rfl)
  · rw [if_neg (by omega)] at eo
    refine ypG m.toNat (fun i s => s.1 = (sQ A.P.1 A.P.2.2.2 x i).2 ∧ s.2.1 = (sQ A.P.1 A.P.2.2.2 x i).1 ∧ s.2.2.1 = (i : Int) ∧ (0 ≤ s.1 ∧ s.1 ≤ 100 * (i : Int)) ∧ ∀ a b, a < 164 ∨ 179 < a → s.2.2.2 a b = h a b) ⟨rfl, rfl, rfl, ⟨Int.le_refl 0, Int.le_refl 0⟩, fun _ _ _ => rfl⟩ ?_
    rintro i ⟨y, z, w, h1⟩ L hi ⟨e1, e2, e3, ⟨d1, d2⟩, f1⟩ hL
    have e1' : y = (sQ A.P.1 A.P.2.2.2 x i).2 := e1
    have e2' : z = (sQ A.P.1 A.P.2.2.2 x i).1 := e2
    have e3' : w = (i : Int) := e3
    have d1' : 0 ≤ y := d1
    have d2' : y ≤ 100 * i := d2
    have f1' : ∀ a b, a < 164 ∨ 179 < a → h1 a b = h a b := f1
    clear e1 e2 e3 d1 d2 f1
    subst e3'
    show F_AS_simulate_31 _ _ L 0 m y z (i : Int) h1
    have c1 : CI h1 A := CI_keep hm ci (fun a b q1 q2 q3 q4 => f1' a b (by omega))
    have cT3 := cP_T c1.2.2.1
    have np := cT_np cT3
    have nd := cT_nd cT3
    simp only [Nat.reduceAdd] at np nd
    unfold F_AS_simulate_31
    simp only [Nat.reduceAdd]
    refine ⟨fun q3 => ?_, fun q3 => ?_⟩
    · have ei : i = m.toNat := by omega
      exact cs_val hk eo hm c1 (fun a b q1 q2 => f1' a b (by omega)) (by rw [e1', ei])
    · rintro x5 ex5
      have ex5' : x5 = nX z := ex5
      clear ex5
      have er := rX_ok x5
      have err : zw (zushr x5 33) = rX x5 := rfl
      rw [err]
      refine s_tapeCopy (p0 := 176) (p1 := 40) (by omega) (by rw [np]; exact b1.2) (by rw [nd]; exact b2.2) (fun h2 g2 f2 => ?_)
      refine s_disturb (t := 176) er (g2.trans cT3) v.1.2.2.2 (fun h3 g3 f3 => ?_)
      have hF3 : ∀ a b, a < 164 ∨ 179 < a → h3 a b = h a b := fun a b q => (f3 a b (by omega)).trans ((f2 a b (by omega)).trans (f1' a b q))
      have t3 : TCs h3 A.P.1 A.mc := TCs_keep hm (fun a b q1 q2 => hF3 a b (by omega)) ci.2.2.2.1
      refine s_takeAll (q := 164) (t := 176) (by omega) (by omega) v.1.1 t3 g3 (VT_ds v.1.2.2.2 er) (fun h4 t4 f4 => ?_)
      have hF4 : ∀ a b, a < 164 ∨ 179 < a → h4 a b = h a b := fun a b q => (f4 a b (by omega)).trans (hF3 a b q)
      have n1 : (sQ A.P.1 A.P.2.2.2 x (i + 1)).1 = x5 := by rw [ex5', e2']; rfl
      have n2 : (sQ A.P.1 A.P.2.2.2 x (i + 1)).2 = y + pt A.P.1 (dsT A.P.2.2.2 (rX x5)) := by rw [ex5', e1', e2']; rfl
      have e6 := t4.2.2.2.2.1
      have step : ∀ y', y' = y + pt A.P.1 (dsT A.P.2.2.2 (rX x5)) → (0 ≤ y' ∧ y' ≤ 100 * ((i : Int) + 1)) → L (y', x5, (i : Int) + 1, h4) := by
        intro y' ey hy
        refine hL _ (by omega) ⟨?_, ?_, ?_, ⟨?_, ?_⟩, hF4⟩
        · rw [n2]; exact ey
        · rw [n1]
        · show (i : Int) + 1 = ((i + 1 : Nat) : Int); omega
        · exact hy.1
        · show y' ≤ 100 * ((i + 1 : Nat) : Int); omega
      rcases t4.2.2.2.2.2 with ⟨y1, y2⟩ | ⟨y1, y2⟩
      · have ep : pt A.P.1 (dsT A.P.2.2.2 (rX x5)) = 1 := if_pos y2
        exact ⟨fun q4 => by omega, fun _ => ⟨by omega, by omega, step _ (by omega) (by omega)⟩⟩
      · refine ⟨fun _ => ?_, fun q4 => by omega⟩
        have ep : pt A.P.1 (dsT A.P.2.2.2 (rX x5)) = if ((tn A.P.1 (dsT A.P.2.2.2 (rX x5)) : Nat) : Int) < (dsT A.P.2.2.2 (rX x5)).2.2.1 then 100 else 0 := if_neg y2
        by_cases q5 : ((tn A.P.1 (dsT A.P.2.2.2 (rX x5)) : Nat) : Int) < (dsT A.P.2.2.2 (rX x5)).2.2.1
        · rw [if_pos q5] at ep e6
          exact ⟨fun q6 => by omega, fun _ => ⟨by omega, by omega, step _ (by omega) (by omega)⟩⟩
        · rw [if_neg q5] at ep e6
          exact ⟨fun _ => ⟨by omega, step _ (by omega) (by omega)⟩, fun q6 => absurd e6 q6⟩
  · rw [if_pos (by omega)] at eo
    exact cs_ex hk eo (by decide) ci (fun _ _ _ _ => rfl)
theorem r_simulate {A : zSt} (v : VA A) {x m : Int} : RS1 (fun h K => M_RM_simulate 197 x m h K) A (sp_simulate A x m) := by
  intro h K ci hk
  have eo : sp_simulate A x m = if ¬ (1 ≤ m ∧ m ≤ 40) then (1, 0, A) else (0, (sQ A.P.1 A.P.2.2.2 x m.toNat).2, A) := rfl
  generalize sp_simulate A x m = o at *
  have b1 := v.1.2.2.2.1
  have b2 := v.1.2.2.2.2.1
  obtain ⟨d1, d2, d3⟩ := VP_b v.1
  show M_RM_simulate 197 x m h K
  unfold M_RM_simulate B_RM_simulate_18
  refine s_in (fun q => ⟨fun q3 => absurd q3 (by decide), fun _ => s_refused (fun q3 => absurd q3 (by decide)) (fun _ => ⟨fun _ => ?_, fun q3 => absurd rfl q3⟩)⟩) (fun q => ⟨fun _ => ?_, fun q3 => absurd rfl q3⟩)
  · rw [if_neg (by omega)] at eo
    have c1 := RI_z (u := 0) ci
    refine s_layP zl200 (by omega) c1.1 c1.2.1 c1.2.2.1 v.1 (fun h1 t1 f1 => ?_)
    have c2 := RI_lay c1 f1
    have g0 : h1 197 0 = 0 := by rw [f1 _ _ (by omega), zs_eq]
    have hF : ∀ a b, a < 197 ∨ a = 220 → h1 a b = h a b := fun a b q => by rw [f1 a b (by omega), zs0_f a b q]
    refine ypG m.toNat (fun i s => s.2.1 = (sQ A.P.1 A.P.2.2.2 x i).2 ∧ s.1 = (sQ A.P.1 A.P.2.2.2 x i).1 ∧ s.2.2.1 = (i : Int) ∧ (0 ≤ s.2.1 ∧ s.2.1 ≤ 100 * (i : Int)) ∧ ∀ a b, a ≠ 202 → ¬ (a = 197 ∧ b = 27) → a ≠ 214 → a ≠ 215 → a ≠ 216 → s.2.2.2 a b = h1 a b) ⟨rfl, rfl, rfl, ⟨Int.le_refl 0, Int.le_refl 0⟩, fun _ _ _ _ _ _ _ => rfl⟩ ?_
    rintro i ⟨z, y, w, h2⟩ L hi ⟨e1, e2, e3, ⟨y1, y2⟩, f2⟩ hL
    have e1' : y = (sQ A.P.1 A.P.2.2.2 x i).2 := e1
    have e2' : z = (sQ A.P.1 A.P.2.2.2 x i).1 := e2
    have e3' : w = (i : Int) := e3
    have y1' : 0 ≤ y := y1
    have y2' : y ≤ 100 * i := y2
    have f2' : ∀ a b, a ≠ 202 → ¬ (a = 197 ∧ b = 27) → a ≠ 214 → a ≠ 215 → a ≠ 216 → h2 a b = h1 a b := f2
    clear e1 e2 e3 y1 y2 f2
    subst e3'
    show F_RM_simulate_43 K L 197 m z y (i : Int) h2
    have c3 : RI h2 A := RI_keep c2 (fun a b q => f2' a b (by omega) (by omega) (by omega) (by omega) (by omega))
    have g3 : h2 197 0 = 0 := (f2' _ _ (by omega) (by omega) (by omega) (by omega) (by omega)).trans g0
    have hF3 : ∀ a b, a < 197 ∨ a = 220 → h2 a b = h a b := fun a b q => (f2' a b (by omega) (by omega) (by omega) (by omega) (by omega)).trans (hF a b q)
    unfold F_RM_simulate_43
    simp only [Nat.reduceAdd]
    refine ⟨fun q3 => ?_, fun q3 => ?_⟩
    · have ei : i = m.toNat := by omega
      exact rs_val hk eo c3 g3 hF3 (by rw [e1', ei])
    · refine s_copyP zl202 (by omega) v.1 c3.2.2.1 (fun h3 e3 f3 => ?_)
      rintro x4 ex4
      have ex4' : x4 = nX z := ex4
      clear ex4
      have er := rX_ok x4
      rintro r err
      have err' : r = rX x4 := err
      clear err
      subst err'
      have rT3 := rP_T e3
      have nd : h3 202 190 = A.P.2.2.2.2.2.2.1 := rT_nd rT3
      rw [nd]
      have n1 : (sQ A.P.1 A.P.2.2.2 x (i + 1)).1 = x4 := by rw [ex4', e2']; rfl
      have n2 : (sQ A.P.1 A.P.2.2.2 x (i + 1)).2 = y + pt A.P.1 (dsT A.P.2.2.2 (rX x4)) := by rw [ex4', e1', e2']; rfl
      have last : ∀ h4, rT h4 202 0 = dsT A.P.2.2.2 (rX x4) → (∀ a b, a ≠ 202 → h4 a b = h2 a b) → B_RM_simulate_148 K L 197 m x4 y (i : Int) h4 := by
        intro h4 e4 f4
        have t4 : TR h4 197 A.P.1 A.mc := TR_keep (fun a b q1 q2 => (f4 a b (by omega)).trans (f2' a b (by omega) (by omega) (by omega) (by omega) (by omega))) t1
        unfold B_RM_simulate_148
        refine s_rtake (p := 197) (p1 := 202) zl202 (by omega) v.1.1 t4 e4 (VT_ds v.1.2.2.2 er) (fun r5 h5 o5 k5 f5 => ?_)
        have hF5 : ∀ a b, a ≠ 202 → ¬ (a = 197 ∧ b = 27) → a ≠ 214 → a ≠ 215 → a ≠ 216 → h5 a b = h1 a b := fun a b q1 q2 q3 q4 q5 => by rw [f5 a b q2 (by omega) (by omega) (by omega), f4 a b q1, f2' a b q1 q2 q3 q4 q5]
        have np5 : h5 202 189 = (dsT A.P.2.2.2 (rX x4)).2.2.1 := by rw [f5 _ _ (by omega) (by omega) (by omega) (by omega)]; exact rT_np e4
        have step : ∀ y', y' = y + pt A.P.1 (dsT A.P.2.2.2 (rX x4)) → (0 ≤ y' ∧ y' ≤ 100 * ((i : Int) + 1)) → L (x4, y', (i : Int) + 1, h5) := by
          intro y' ey hy
          refine hL _ (by omega) ⟨?_, ?_, ?_, ⟨?_, ?_⟩, hF5⟩
          · rw [n2]; exact ey
          · rw [n1]
          · show (i : Int) + 1 = ((i + 1 : Nat) : Int); omega
          · exact hy.1
          · show y' ≤ 100 * ((i + 1 : Nat) : Int); omega
        simp only [Nat.reduceAdd]
        rw [np5, k5.1]
        rcases o5 with ⟨y1, y2⟩ | ⟨y1, y2⟩
        · have ep : pt A.P.1 (dsT A.P.2.2.2 (rX x4)) = 1 := if_pos y2
          refine ⟨fun q4 => by omega, fun _ => ⟨by omega, ?_⟩⟩
          rintro u rfl
          exact ⟨by omega, step _ (by omega) (by omega)⟩
        · have ep : pt A.P.1 (dsT A.P.2.2.2 (rX x4)) = if ((tn A.P.1 (dsT A.P.2.2.2 (rX x4)) : Nat) : Int) < (dsT A.P.2.2.2 (rX x4)).2.2.1 then 100 else 0 := if_neg y2
          refine ⟨fun _ => ⟨fun q5 => ⟨by omega, ?_⟩, fun q5 => ⟨by omega, ?_⟩⟩, fun q4 => by omega⟩
          · rw [if_neg (by omega)] at ep
            rintro u rfl
            exact ⟨by omega, step _ (by omega) (by omega)⟩
          · rw [if_pos q5] at ep
            rintro u rfl
            exact ⟨by omega, step _ (by omega) (by omega)⟩
      have ed : dsT A.P.2.2.2 (rX x4) = if 0 < A.P.2.2.2.2.2.2.1 then dgT A.P.2.2.2 (rX x4 / 16 % A.P.2.2.2.2.2.2.1).toNat (rX x4 % 16) else hdT A.P.2.2.2 (rX x4 % 2).toNat (512 + rX x4 / 2 % 7680) := rfl
      generalize rX x4 = r at *
      refine ⟨fun q4 => ⟨er, by omega, er, by omega, by omega, by omega, ?_⟩, fun q4 => ?_⟩
      · rintro h4 rfl
        refine last _ ?_ (fun a b q5 => (zs_k q5).trans (f3 a b q5))
        rw [ed, if_neg (by omega)]
        exact rT_hd rT3 d2 d3 (by omega) (by omega)
      · have m1 : 0 ≤ r / 16 % A.P.2.2.2.2.2.2.1 := Int.emod_nonneg _ (by omega)
        have m2 : r / 16 % A.P.2.2.2.2.2.2.1 < A.P.2.2.2.2.2.2.1 := Int.emod_lt_of_pos _ q4
        generalize r / 16 % A.P.2.2.2.2.2.2.1 = k at *
        refine ⟨er, ⟨by omega, q4⟩, by omega, er, by omega, ?_⟩
        rintro h4 rfl
        refine last _ ?_ (fun a b q5 => (zs_k q5).trans (f3 a b q5))
        rw [ed, if_pos q4]
        exact rT_dgt rT3 d2 d3 (show ((k.toNat : Nat) : Int) < A.P.2.2.2.2.2.2.1 by omega) (by omega)
  · rw [if_pos (by omega)] at eo
    exact s_refused (fun _ => ⟨fun q3 => absurd q3 (by decide), fun _ => rs_no ci hk eo (by decide)⟩) (fun q3 => absurd q3 (by decide))

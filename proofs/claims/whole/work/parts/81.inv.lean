/-! what ties class and reference -/
abbrev zSt : Type := Nat × Nat × zP × Nat × (Nat → Int) × Nat × (Nat → zP) × (Nat → Int) × (Nat → zP)
abbrev zSt.sc (A : zSt) : Nat := A.1
abbrev zSt.mc (A : zSt) : Nat := A.2.1
abbrev zSt.P (A : zSt) : zP := A.2.2.1
abbrev zSt.len (A : zSt) : Nat := A.2.2.2.1
abbrev zSt.tx (A : zSt) : Nat → Int := A.2.2.2.2.1
abbrev zSt.n (A : zSt) : Nat := A.2.2.2.2.2.1
abbrev zSt.hi (A : zSt) : Nat → zP := A.2.2.2.2.2.2.1
abbrev zSt.us (A : zSt) : Nat → Int := A.2.2.2.2.2.2.2.1
abbrev zSt.sv (A : zSt) : Nat → zP := A.2.2.2.2.2.2.2.2
abbrev zAk (sc mc : Nat) (P : zP) (len : Nat) (tx : Nat → Int) (n : Nat) (hi : Nat → zP) (us : Nat → Int) (sv : Nat → zP) : zSt := (sc, mc, P, len, tx, n, hi, us, sv)
abbrev zAP (A : zSt) (P : zP) : zSt := zAk A.sc A.mc P A.len A.tx A.n A.hi A.us A.sv
def HC (h : zH) (n : Nat) (hi : Nat → zP) : Prop := ∃ nx : Nat, nx < 14 ∧ h 44 1 = (nx : Int) ∧ h 44 2 = (n : Int) ∧ ∀ i, i < n → cPg h (46 + 7 * ((nx + 14 - n + i) % 14)) = hi i
def CI (h : zH) (A : zSt) : Prop := h 5 1 = (A.sc : Int) ∧ h 5 2 = (A.mc : Int) ∧ cPg h 37 = A.P ∧ TCs h A.P.1 A.mc ∧ Ct h 1 A.len A.tx ∧ HC h A.n A.hi ∧ ∀ i, i < 2 → h 160 i = A.us i ∧ (A.us i ≠ 0 → cPg h (146 + 7 * i) = A.sv i)
def RI (h : zH) (A : zSt) : Prop := h 197 4 = (A.sc : Int) ∧ h 197 5 = (A.mc : Int) ∧ rPg h 200 0 = A.P ∧ Rt h 197 A.len A.tx ∧ (h 197 13 = (A.n : Int) ∧ ∀ i, i < A.n → rPg h 203 (193 * i) = A.hi i) ∧ ∀ i, i < 2 → h 205 i = A.us i ∧ (A.us i ≠ 0 → rPg h 204 (193 * i) = A.sv i)
def VA (A : zSt) : Prop := VP A.sc A.mc A.P ∧ A.n ≤ 14 ∧ (∀ i, i < A.n → VP A.sc A.mc (A.hi i)) ∧ ∀ i, i < 2 → A.us i ≠ 0 → VP A.sc A.mc (A.sv i)
/-- a call: number of the exception, answer, what stands then -/
abbrev zOu : Type := Nat × Int × zSt
def CS (M : zH → (Int → zH → Prop) → Prop) (A : zSt) (o : zOu) : Prop := ∀ h K, CI h A → (∀ h', CI h' o.2.2 → (∀ a b, 197 ≤ a → a ≠ 220 → h' a b = h a b) → (o.1 = 0 → h' 220 0 = o.2.1) → K (o.1 : Int) h') → M h K
def CN (M : zH → (Int → zH → Prop) → Prop) (A : zSt) (v : Int) (A' : zSt) : Prop := ∀ h K, CI h A → (∀ h', CI h' A' → (∀ a b, 197 ≤ a → h' a b = h a b) → K v h') → M h K
def RS1 (M : zH → (Int → zH → Prop) → Prop) (A : zSt) (o : zOu) : Prop := ∀ h K, RI h A → (∀ r h', RI h' o.2.2 → h' 197 0 = (o.1 : Int) → (o.1 = 0 → r = o.2.1) → (∀ a b, a < 197 ∨ a = 220 → h' a b = h a b) → K r h') → M h K
theorem TC_keep {h h' : zH} {p : Nat} {c : Nat → Int} (e : ∀ a b, p ≤ a → a ≤ p + 9 → h' a b = h a b) (t : TC h p c) : TC h' p c := by
  obtain ⟨t1, t2, t3⟩ := t
  refine ⟨fun s hs => (e _ _ (by omega) (by omega)).trans (t1 s hs), fun b hb => ⟨(e _ _ (by omega) (by omega)).trans (t2 b hb).1, (e _ _ (by omega) (by omega)).trans (t2 b hb).2⟩, fun k hk => ?_⟩
  obtain ⟨y1, y2, y3⟩ := t3 k hk
  exact ⟨(e _ _ (by omega) (by omega)).trans y1, (e _ _ (by omega) (by omega)).trans y2, (e _ _ (by omega) (by omega)).trans y3⟩
theorem TCs_keep {h h' : zH} {c : Nat → Int} {mc : Nat} (hm : mc ≤ 3) (e : ∀ a b, 7 ≤ a → a ≤ 36 → h' a b = h a b) (t : TCs h c mc) : TCs h' c mc :=
  fun m h1 => TC_keep (fun a b q1 q2 => e a b (by omega) (by omega)) (t m h1)
theorem HC_keep {h h' : zH} {n : Nat} {hi : Nat → zP} (e : ∀ a b, 44 ≤ a → a ≤ 143 → h' a b = h a b) (t : HC h n hi) : HC h' n hi := by
  obtain ⟨nx, h1, h2, h3, h4⟩ := t
  exact ⟨nx, h1, (e _ _ (by omega) (by omega)).trans h2, (e _ _ (by omega) (by omega)).trans h3, fun i hi' => (cPg_same (fun k j q1 q2 => e _ _ (by omega) (by omega))).trans (h4 i hi')⟩
/-- the class: all but page and tables stays -/
theorem CI_set {h h' : zH} {A : zSt} {P : zP} (c : CI h A) (e : ∀ a b, a < 161 → ¬ (7 ≤ a ∧ a ≤ 43) → ¬ (a = 1 ∧ 4 ≤ b) → a ≠ 3 → a ≠ 4 → h' a b = h a b) (eP : cPg h' 37 = P) (eT : TCs h' P.1 A.mc) : CI h' (zAP A P) := by
  obtain ⟨c1, c2, c3, c4, c5, c6, c7⟩ := c
  refine ⟨(e _ _ (by omega) (by omega) (by omega) (by omega) (by omega)).trans c1, (e _ _ (by omega) (by omega) (by omega) (by omega) (by omega)).trans c2, eP, eT, Ct_keep c5 (e _ _ (by omega) (by omega) (by omega) (by omega) (by omega)) (fun j => e _ _ (by omega) (by omega) (by omega) (by omega) (by omega)), HC_keep (fun a b q1 q2 => e _ _ (by omega) (by omega) (by omega) (by omega) (by omega)) c6, fun i hi => ⟨(e _ _ (by omega) (by omega) (by omega) (by omega) (by omega)).trans (c7 i hi).1, fun u => ?_⟩⟩
  exact (cPg_same (fun k j q1 q2 => e _ _ (by omega) (by omega) (by omega) (by omega) (by omega))).trans ((c7 i hi).2 u)
theorem CI_now {h h' : zH} {A : zSt} {P : zP} (hm : A.mc ≤ 3) (c : CI h A) (e : ∀ a b, a < 161 → ¬ (37 ≤ a ∧ a ≤ 43) → ¬ (a = 1 ∧ 4 ≤ b) → a ≠ 3 → a ≠ 4 → h' a b = h a b) (eP : cPg h' 37 = P) (e1 : P.1 = A.P.1) : CI h' (zAP A P) :=
  CI_set c (fun a b q1 q2 q3 q4 q5 => e a b q1 (by omega) q3 q4 q5) eP (by rw [e1]; exact TCs_keep hm (fun a b q1 q2 => e a b (by omega) (by omega) (by omega) (by omega) (by omega)) c.2.2.2.1)
theorem CI_keep {h h' : zH} {A : zSt} (hm : A.mc ≤ 3) (c : CI h A) (e : ∀ a b, a < 161 → ¬ (a = 1 ∧ 4 ≤ b) → a ≠ 3 → a ≠ 4 → h' a b = h a b) : CI h' A :=
  CI_now hm c (fun a b q1 _ q3 q4 q5 => e a b q1 q3 q4 q5) ((cPg_same (fun k j q1 q2 => e _ _ (by omega) (by omega) (by omega) (by omega))).trans c.2.2.1) rfl
theorem rPg_same {h h' : zH} {k o : Nat} (e : ∀ b, h' k b = h k b) : rPg h' k o = rPg h k o := by
  have : h' k = h k := funext e
  unfold rPg rT
  rw [this]
theorem RI_set {h h' : zH} {A : zSt} {P : zP} (c : RI h A) (e : ∀ a b, (a = 197 ∧ (b = 2 ∨ b = 4 ∨ b = 5 ∨ b = 13)) ∨ a = 198 ∨ a = 203 ∨ a = 204 ∨ a = 205 → h' a b = h a b) (eP : rPg h' 200 0 = P) : RI h' (zAP A P) := by
  obtain ⟨c1, c2, c3, c4, ⟨c5, c6⟩, c7⟩ := c
  refine ⟨(e _ _ (by omega)).trans c1, (e _ _ (by omega)).trans c2, eP, Rt_keep c4 (e _ _ (by omega)) (fun j => e _ _ (by omega)), ⟨(e _ _ (by omega)).trans c5, fun i hi => (rPg_same (fun b => e _ _ (by omega))).trans (c6 i hi)⟩, fun i hi => ⟨(e _ _ (by omega)).trans (c7 i hi).1, fun u => (rPg_same (fun b => e _ _ (by omega))).trans ((c7 i hi).2 u)⟩⟩
theorem RI_keep {h h' : zH} {A : zSt} (c : RI h A) (e : ∀ a b, (a = 197 ∧ (b = 2 ∨ b = 4 ∨ b = 5 ∨ b = 13)) ∨ a = 198 ∨ a = 200 ∨ a = 203 ∨ a = 204 ∨ a = 205 → h' a b = h a b) : RI h' A :=
  RI_set c (fun a b q => e a b (by omega)) ((rPg_same (fun b => e _ _ (by omega))).trans c.2.2.1)
/-- parts of a page -/
theorem cP_ct {h : zH} {a : Nat} {P : zP} (e : cPg h a = P) {j : Nat} (hj : j < 24) : h (a + 1) j = P.1 j := by rw [← e]; exact (tr_at hj).symm
theorem cP_ni {h : zH} {a : Nat} {P : zP} (e : cPg h a = P) : h a 3 = P.2.2.1 := by rw [← e]; rfl
theorem cP_it {h : zH} {a : Nat} {P : zP} (e : cPg h a = P) {j : Nat} (hj : (j : Int) < P.2.2.1) : h (a + 2) j = P.2.1 j := by
  have hn := cP_ni e
  rw [← e]
  exact (tr_at (by omega)).symm
theorem cP_T {h : zH} {a : Nat} {P : zP} (e : cPg h a = P) : cT h (a + 3) = P.2.2.2 := by rw [← e]; rfl
theorem rP_ct {h : zH} {c o : Nat} {P : zP} (e : rPg h c o = P) {j : Nat} (hj : j < 24) : h c (o + j) = P.1 j := by rw [← e]; exact (tr_at (f := fun j => h c (o + j)) hj).symm
theorem rP_ni {h : zH} {c o : Nat} {P : zP} (e : rPg h c o = P) : h c (o + 188) = P.2.2.1 := by rw [← e]; rfl
theorem rP_it {h : zH} {c o : Nat} {P : zP} (e : rPg h c o = P) {j : Nat} (hj : (j : Int) < P.2.2.1) : h c (o + 24 + j) = P.2.1 j := by
  have hn := rP_ni e
  rw [← e]
  exact (tr_at (f := fun j => h c (o + 24 + j)) (by omega)).symm
theorem rP_T {h : zH} {c o : Nat} {P : zP} (e : rPg h c o = P) : rT h c o = P.2.2.2 := by rw [← e]; rfl
theorem cP_upd {h h' : zH} {a : Nat} {P : zP} (e : cPg h a = P) {it : Nat → Int} {ni : Int} {T : zT} (e1 : ∀ j, j < 24 → h' (a + 1) j = h (a + 1) j) (e2 : h' a 3 = ni) (e3 : ∀ j : Nat, (j : Int) < ni → h' (a + 2) j = it j) (e4 : cT h' (a + 3) = T) : cPg h' a = (P.1, tr ni.toNat it, ni, T) := by
  unfold cPg
  rw [e2, e4, tr_congr (g := h (a + 1)) e1, tr_congr (g := it) (fun j hj => e3 j (by omega)), ← e]
  rfl
theorem cP_tape {h h' : zH} {a : Nat} {P : zP} (e : cPg h a = P) {T : zT} (e1 : ∀ k j, a ≤ k → k ≤ a + 2 → h' k j = h k j) (e4 : cT h' (a + 3) = T) : cPg h' a = (P.1, P.2.1, P.2.2.1, T) := by
  have e2 : h' a = h a := funext fun j => e1 _ _ (by omega) (by omega)
  have e3 : h' (a + 1) = h (a + 1) := funext fun j => e1 _ _ (by omega) (by omega)
  have e5 : h' (a + 2) = h (a + 2) := funext fun j => e1 _ _ (by omega) (by omega)
  unfold cPg
  rw [e2, e3, e5, e4, ← e]
  rfl
theorem rP_upd {h h' : zH} {c o : Nat} {P : zP} (e : rPg h c o = P) {it : Nat → Int} {ni : Int} {T : zT} (e1 : ∀ j, j < 24 → h' c (o + j) = h c (o + j)) (e2 : h' c (o + 188) = ni) (e3 : ∀ j : Nat, (j : Int) < ni → h' c (o + 24 + j) = it j) (e4 : rT h' c o = T) : rPg h' c o = (P.1, tr ni.toNat it, ni, T) := by
  unfold rPg
  rw [e2, e4, tr_congr (g := fun j => h c (o + j)) e1, tr_congr (g := it) (fun j hj => e3 j (by omega)), ← e]
  rfl
theorem rP_tape {h h' : zH} {c o : Nat} {P : zP} (e : rPg h c o = P) (n40 : P.2.2.1 ≤ 40) {T : zT} (e1 : ∀ j, j < 64 ∨ j = 188 → h' c (o + j) = h c (o + j)) (e4 : rT h' c o = T) : rPg h' c o = (P.1, P.2.1, P.2.2.1, T) := by
  have hn : h c (o + 188) ≤ 40 := by rw [rP_ni e]; exact n40
  have x1 : tr 24 (fun j => h' c (o + j)) = tr 24 (fun j => h c (o + j)) := tr_congr (fun j hj => e1 j (by omega))
  have x2 : tr (h c (o + 188)).toNat (fun j => h' c (o + 24 + j)) = tr (h c (o + 188)).toNat (fun j => h c (o + 24 + j)) := tr_congr (fun j hj => by rw [Nat.add_assoc]; exact e1 (24 + j) (by omega))
  unfold rPg
  rw [e1 188 (by omega), e4, x1, x2, ← e]
  rfl
theorem zl200 : zln 200 = 193 := by decide +kernel
theorem zl201 : zln 201 = 193 := by decide +kernel
theorem zl202 : zln 202 = 193 := by decide +kernel
theorem zl203 : zln 203 = 2702 := by decide +kernel
theorem zl204 : zln 204 = 386 := by decide +kernel
theorem zl199 : zln 199 = 193 := by decide +kernel
theorem zl206 : zln 206 = 24 := by decide +kernel
/-- remembering -/
def rem (A : zSt) : zSt := zAk A.sc A.mc A.P A.len A.tx (if A.n < 14 then A.n + 1 else 14) (if A.n < 14 then (fun i => if i = A.n then A.P else A.hi i) else (fun i => if i = 13 then A.P else A.hi (i + 1))) A.us A.sv
theorem rem_ok {A : zSt} (h : VA A) : VA (rem A) := by
  obtain ⟨h1, h2, h3, h4⟩ := h
  refine ⟨h1, ?_, fun i hi => ?_, h4⟩
  · show (if A.n < 14 then A.n + 1 else 14) ≤ 14
    split <;> omega
  · have hi' : i < if A.n < 14 then A.n + 1 else 14 := hi
    show VP A.sc A.mc ((if A.n < 14 then (fun i => if i = A.n then A.P else A.hi i) else (fun i => if i = 13 then A.P else A.hi (i + 1))) i)
    by_cases q : A.n < 14
    · rw [if_pos q] at hi' ⊢
      show VP A.sc A.mc (if i = A.n then A.P else A.hi i)
      split
      · exact h1
      · exact h3 i (by omega)
    · rw [if_neg q] at hi' ⊢
      show VP A.sc A.mc (if i = 13 then A.P else A.hi (i + 1))
      split
      · exact h1
      · exact h3 (i + 1) (by omega)
theorem VP_b {sc mc : Nat} {P : zP} (v : VP sc mc P) : P.2.2.1 ≤ 40 ∧ P.2.2.2.2.2.1 ≤ 40 ∧ P.2.2.2.2.2.2.1 ≤ 80 := ⟨v.2.1.2, v.2.2.2.1.2, v.2.2.2.2.1.2⟩
theorem s_remember {h : zH} {K : zH → Prop} {A : zSt} (v : VA A) (c : CI h A) (hk : ∀ h', CI h' (rem A) → (∀ a b, a < 44 ∨ 144 ≤ a → h' a b = h a b) → K h') : M_History_remember 44 37 h K := by
  obtain ⟨c1, c2, c3, c4, c5, ⟨nx, n1, n2, n3, n4⟩, c7⟩ := c
  obtain ⟨b1, b2, b3⟩ := VP_b v.1
  have v14 := v.2.1
  have hm := v.1.1.1.2.2.2
  unfold M_History_remember M_History_placeInRing M_Math_floorMod
  rw [n2]
  refine ⟨by decide, ⟨by omega, by omega⟩, ?_⟩
  rw [show (((nx : Int) % 14).toNat) = nx by omega]
  show M_State_copyFrom (46 + 7 * nx) 37 h _
  refine s_stateCopy (by omega) (by rw [cP_ni c3]; exact b1) (by rw [cT_np (cP_T c3)]; exact b2) (by rw [cT_nd (cP_T c3)]; exact b3) (fun h1 e1 f1 => ?_)
  have g1 : h1 44 1 = (nx : Int) := (f1 _ _ (by omega)).trans n2
  rw [g1]
  refine ⟨by omega, by decide, ?_⟩
  rintro h2 rfl
  rw [zs_j (by decide), f1 44 2 (by omega), n3]
  refine ⟨by omega, ?_⟩
  rintro h3 rfl
  have hF : ∀ a b, a < 44 ∨ 144 ≤ a → zs (zs h1 44 1 (((nx : Int) + 1) % 14)) 44 2 (if 14 < (A.n : Int) + 1 then 14 else (A.n : Int) + 1) a b = h a b := by
    intro a b q
    rw [zs_k (by omega), zs_k (by omega), f1 a b (by omega)]
  refine hk _ ⟨(hF _ _ (by omega)).trans c1, (hF _ _ (by omega)).trans c2, (cPg_same (fun k j q1 q2 => hF _ _ (by omega))).trans c3, TCs_keep hm (fun a b q1 q2 => hF _ _ (by omega)) c4, Ct_keep c5 (hF _ _ (by omega)) (fun j => hF _ _ (by omega)), ⟨(nx + 1) % 14, by omega, ?_, ?_, fun i hi => ?_⟩, fun i hi => ⟨(hF _ _ (by omega)).trans (c7 i hi).1, fun u => (cPg_same (fun k j q1 q2 => hF _ _ (by omega))).trans ((c7 i hi).2 u)⟩⟩ hF
  · rw [zs_j (by decide), zs_eq]; omega
  · rw [zs_eq]
    show _ = (((if A.n < 14 then A.n + 1 else 14) : Nat) : Int)
    split <;> split <;> omega
  · have hi' : i < if A.n < 14 then A.n + 1 else 14 := hi
    have e0 : ∀ k, 46 ≤ k → cPg (zs (zs h1 44 1 (((nx : Int) + 1) % 14)) 44 2 (if 14 < (A.n : Int) + 1 then 14 else (A.n : Int) + 1)) k = cPg h1 k := fun k hk => cPg_same (fun a b q1 q2 => by rw [zs_k (by omega), zs_k (by omega)])
    show cPg _ (46 + 7 * (((nx + 1) % 14 + 14 - (if A.n < 14 then A.n + 1 else 14) + i) % 14)) = (if A.n < 14 then (fun i => if i = A.n then A.P else A.hi i) else (fun i => if i = 13 then A.P else A.hi (i + 1))) i
    rw [e0 _ (by omega)]
    by_cases q : A.n < 14
    · rw [if_pos q] at hi' ⊢
      rw [if_pos q]
      show _ = if i = A.n then A.P else A.hi i
      by_cases q2 : i = A.n
      · rw [if_pos q2, show ((nx + 1) % 14 + 14 - (A.n + 1) + i) % 14 = nx by omega, e1, c3]
      · rw [if_neg q2, ← n4 i (by omega), show ((nx + 1) % 14 + 14 - (A.n + 1) + i) % 14 = (nx + 14 - A.n + i) % 14 by omega]
        exact cPg_same (fun a b q3 q4 => f1 _ _ (by omega))
    · rw [if_neg q] at hi' ⊢
      rw [if_neg q]
      show _ = if i = 13 then A.P else A.hi (i + 1)
      by_cases q2 : i = 13
      · rw [if_pos q2, show ((nx + 1) % 14 + 14 - 14 + i) % 14 = nx by omega, e1, c3]
      · rw [if_neg q2, ← n4 (i + 1) (by omega), show ((nx + 1) % 14 + 14 - 14 + i) % 14 = (nx + 14 - A.n + (i + 1)) % 14 by omega]
        exact cPg_same (fun a b q3 q4 => f1 _ _ (by omega))
theorem s_note {h : zH} {K : zH → Prop} {A : zSt} (v : VA A) (c : RI h A) (hk : ∀ h', RI h' (rem A) → (∀ a b, ¬ (a = 197 ∧ b = 13) → a ≠ 203 → h' a b = h a b) → K h') : M_RM_note 197 h K := by
  obtain ⟨c1, c2, c3, c4, ⟨c5, c6⟩, c7⟩ := c
  obtain ⟨b1, b2, b3⟩ := VP_b v.1
  have v14 := v.2.1
  have last : ∀ (h1 : zH) (m : Nat), m < 14 → h1 197 13 = (m : Int) → (∀ a b, ¬ (a = 197 ∧ b = 13) → a ≠ 203 → h1 a b = h a b) → m + 1 = (rem A).n → (∀ i, i < m → rPg h1 203 (193 * i) = (rem A).hi i) → (rem A).hi m = A.P → B_RM_note_50 K 197 h1 := by
    intro h1 m hm g13 f1 em eh eP
    have eP1 : rPg h1 200 0 = A.P := (rPg_same (fun b => f1 _ _ (by omega) (by omega))).trans c3
    unfold B_RM_note_50
    rw [g13]
    refine ⟨by omega, s_copyPage (p0 := 200) (p2 := 203) (o1 := 0) (o3 := 193 * m) (by decide) (by rw [zl200]; decide) (by rw [zl203]; omega) (by rw [zl200]; decide) (by rw [zl203]; decide) (fun h2 e2 f2 => ?_) rfl (by omega)⟩
    have g13' : h2 197 13 = (m : Int) := (f2 _ _ (by omega)).trans g13
    rw [g13']
    refine ⟨by omega, ?_⟩
    rintro h3 rfl
    have hF : ∀ a b, ¬ (a = 197 ∧ b = 13) → a ≠ 203 → zs h2 197 13 ((m : Int) + 1) a b = h a b := by
      intro a b q1 q2
      rw [← f1 a b q1 q2, ← f2 a b (by omega)]
      unfold zs
      rw [if_neg q1]
    refine hk _ ⟨(hF _ _ (by omega) (by omega)).trans c1, (hF _ _ (by omega) (by omega)).trans c2, (rPg_same (fun b => hF _ _ (by omega) (by omega))).trans c3, Rt_keep c4 (hF _ _ (by omega) (by omega)) (fun j => hF _ _ (by omega) (by omega)), ⟨?_, fun i hi => ?_⟩, fun i hi => ⟨(hF _ _ (by omega) (by omega)).trans (c7 i hi).1, fun u => (rPg_same (fun b => hF _ _ (by omega) (by omega))).trans ((c7 i hi).2 u)⟩⟩ hF
    · rw [zs_eq, ← em]; omega
    · rw [← em] at hi
      rw [rPg_same (h := h2) (fun b => zs_k (by decide))]
      by_cases q : i = m
      · rw [q, eP, ← eP1]
        refine rPg_eq (fun j hj => ?_) ?_ ?_ ?_
        · rw [e2 j hj]
        · rw [rP_ni eP1]; exact b1
        · rw [rT_np (rP_T eP1)]; exact b2
        · rw [rT_nd (rP_T eP1)]; exact b3
      · rw [← eh i (by omega)]
        obtain ⟨d1, d2, d3⟩ := VP_b ((rem_ok v).2.2.1 i (by omega))
        have ei := eh i (by omega)
        refine rPg_eq (fun j hj => f2 _ _ (by omega)) ?_ ?_ ?_
        · rw [rP_ni ei]; exact d1
        · rw [rT_np (rP_T ei)]; exact d2
        · rw [rT_nd (rP_T ei)]; exact d3
  unfold M_RM_note
  rw [c5]
  refine ⟨fun q => last h A.n (by omega) c5 (fun _ _ _ _ => rfl) ?_ (fun i hi => ?_) ?_, fun q => ?_⟩
  · show _ = if A.n < 14 then A.n + 1 else 14
    rw [if_pos (by omega)]
  · rw [c6 i hi]
    show _ = (if A.n < 14 then (fun i => if i = A.n then A.P else A.hi i) else (fun i => if i = 13 then A.P else A.hi (i + 1))) i
    rw [if_pos (by omega)]
    exact (if_neg (by omega)).symm
  · show (if A.n < 14 then (fun i => if i = A.n then A.P else A.hi i) else (fun i => if i = 13 then A.P else A.hi (i + 1))) A.n = A.P
    rw [if_pos (by omega)]
    exact if_pos rfl
  · have qn : A.n = 14 := by omega
    refine yp1 2509 (fun i h' => (∀ j, j < i → h' 203 j = h 203 (j + 193)) ∧ (∀ j, i ≤ j → h' 203 j = h 203 j) ∧ ∀ a b, a ≠ 203 → h' a b = h a b) ⟨fun j hj => by omega, fun _ _ => rfl, fun _ _ _ => rfl⟩ ?_
    rintro i h2 L hi ⟨g1, g2, g3⟩ hL
    show F_RM_note_11 K L 197 (i : Int) h2
    unfold F_RM_note_11
    refine ⟨fun cc => ?_, fun cc => ⟨by omega, by omega, by omega, ?_⟩⟩
    · have ei : i = 2509 := by omega
      subst ei
      rw [g3 197 13 (by decide), c5, qn]
      refine ⟨by decide, ?_⟩
      rintro h3 rfl
      refine last _ 13 (by omega) (by rw [zs_eq]; rfl) (fun a b q1 q2 => ?_) ?_ (fun i hi => ?_) ?_
      · rw [← g3 a b q2]; unfold zs; rw [if_neg q1]
      · show _ = if A.n < 14 then A.n + 1 else 14
        rw [if_neg (by omega)]
      · rw [rPg_same (h := h2) (fun b => zs_k (by decide))]
        show _ = (if A.n < 14 then (fun i => if i = A.n then A.P else A.hi i) else (fun i => if i = 13 then A.P else A.hi (i + 1))) i
        rw [if_neg (by omega)]
        show _ = if i = 13 then A.P else A.hi (i + 1)
        rw [if_neg (by omega)]
        have ei := c6 (i + 1) (by omega)
        obtain ⟨d1, d2, d3⟩ := VP_b (v.2.2.1 (i + 1) (by omega))
        rw [← ei]
        refine rPg_eq (fun j hj => ?_) ?_ ?_ ?_
        · rw [g1 _ (by omega)]
          congr 1
          omega
        · rw [rP_ni ei]; exact d1
        · rw [rT_np (rP_T ei)]; exact d2
        · rw [rT_nd (rP_T ei)]; exact d3
      · show (if A.n < 14 then (fun i => if i = A.n then A.P else A.hi i) else (fun i => if i = 13 then A.P else A.hi (i + 1))) 13 = A.P
        rw [if_neg (by omega)]
        exact if_pos rfl
    · rw [Int.toNat_natCast, show ((i : Int) + 193).toNat = i + 193 by omega]
      rintro h3 rfl
      refine ⟨by omega, hL _ (by omega) ⟨fun j hj => ?_, fun j hj => ?_, fun a b q => ?_⟩⟩
      · by_cases e : j = i
        · rw [e]
          show zs h2 203 i _ 203 i = _
          rw [zs_eq]
          exact g2 _ (by omega)
        · show zs h2 203 i _ 203 j = _
          rw [zs_j e, g1 j (by omega)]
      · show zs h2 203 i _ 203 j = _
        rw [zs_j (by omega), g2 j (by omega)]
      · show zs h2 203 i _ a b = _
        rw [zs_k q, g3 a b q]

/-! runScript -/
def ex (sc mc : Nat) (P : zP) (w a t : Int) : Option zP :=
  if w = 1 then (if a = 0 ∧ thing sc mc t ∧ P.2.2.1 < 40 then some (insP P P.2.2.1.toNat t) else none)
  else if w = 2 then (if a = 0 ∧ t < P.2.2.1 then some (drpP P t.toNat) else none)
  else if w = 3 then (if a = 0 ∧ t = 0 ∧ uF P.1 (lA P) = -9 then some (encP P) else none)
  else if w = 4 then (if a = 0 ∧ t = 0 ∧ cD P then some (decP P) else none)
  else if w = 5 then (if t < P.2.2.2.2.2.2.1 then some (wT P (dgT P.2.2.2 t.toNat a)) else none)
  else if w = 6 then (if a = 0 ∧ P.2.2.2.2.2.2.1 = t then some P else none)
  else if w = 7 then (if a = 0 ∧ t < 2 ∧ ((tin P.1 P.2.2.2 ∧ t = 1) ∨ (¬ tin P.1 P.2.2.2 ∧ t ≠ 1)) then some P else none)
  else if w = 8 then (if t < ((tn P.1 P.2.2.2 : Nat) : Int) ∧ sy P.1 P.2.2.2 t.toNat = a then some P else none)
  else none
theorem ex1 {sc mc : Nat} {P : zP} {w a t : Int} (h : w = 1) : ex sc mc P w a t = if a = 0 ∧ thing sc mc t ∧ P.2.2.1 < 40 then some (insP P P.2.2.1.toNat t) else none := if_pos h
theorem ex2 {sc mc : Nat} {P : zP} {w a t : Int} (h : w = 2) : ex sc mc P w a t = if a = 0 ∧ t < P.2.2.1 then some (drpP P t.toNat) else none := by
  unfold ex; rw [if_neg (by omega), if_pos h]
theorem ex3 {sc mc : Nat} {P : zP} {w a t : Int} (h : w = 3) : ex sc mc P w a t = if a = 0 ∧ t = 0 ∧ uF P.1 (lA P) = -9 then some (encP P) else none := by
  unfold ex; rw [if_neg (by omega), if_neg (by omega), if_pos h]
theorem ex4 {sc mc : Nat} {P : zP} {w a t : Int} (h : w = 4) : ex sc mc P w a t = if a = 0 ∧ t = 0 ∧ cD P then some (decP P) else none := by
  unfold ex; rw [if_neg (by omega), if_neg (by omega), if_neg (by omega), if_pos h]
theorem ex5 {sc mc : Nat} {P : zP} {w a t : Int} (h : w = 5) : ex sc mc P w a t = if t < P.2.2.2.2.2.2.1 then some (wT P (dgT P.2.2.2 t.toNat a)) else none := by
  unfold ex; rw [if_neg (by omega), if_neg (by omega), if_neg (by omega), if_neg (by omega), if_pos h]
theorem ex6 {sc mc : Nat} {P : zP} {w a t : Int} (h : w = 6) : ex sc mc P w a t = if a = 0 ∧ P.2.2.2.2.2.2.1 = t then some P else none := by
  unfold ex; rw [if_neg (by omega), if_neg (by omega), if_neg (by omega), if_neg (by omega), if_neg (by omega), if_pos h]
theorem ex7 {sc mc : Nat} {P : zP} {w a t : Int} (h : w = 7) : ex sc mc P w a t = if a = 0 ∧ t < 2 ∧ ((tin P.1 P.2.2.2 ∧ t = 1) ∨ (¬ tin P.1 P.2.2.2 ∧ t ≠ 1)) then some P else none := by
  unfold ex; rw [if_neg (by omega), if_neg (by omega), if_neg (by omega), if_neg (by omega), if_neg (by omega), if_neg (by omega), if_pos h]
theorem ex8 {sc mc : Nat} {P : zP} {w a t : Int} (h : w = 8) : ex sc mc P w a t = if t < ((tn P.1 P.2.2.2 : Nat) : Int) ∧ sy P.1 P.2.2.2 t.toNat = a then some P else none := by
  unfold ex; rw [if_neg (by omega), if_neg (by omega), if_neg (by omega), if_neg (by omega), if_neg (by omega), if_neg (by omega), if_neg (by omega), if_pos h]
theorem ex0 {sc mc : Nat} {P : zP} {w a t : Int} (h : w < 1 ∨ 8 < w) : ex sc mc P w a t = none := by
  unfold ex; rw [if_neg (by omega), if_neg (by omega), if_neg (by omega), if_neg (by omega), if_neg (by omega), if_neg (by omega), if_neg (by omega), if_neg (by omega)]
theorem ex_ok {sc mc : Nat} {P : zP} {w a t : Int} (v : VP sc mc P) (ha : 0 ≤ a ∧ a ≤ 9) (ht : 0 ≤ t) {Q : zP} (e : ex sc mc P w a t = some Q) : VP sc mc Q ∧ Q.1 = P.1 := by
  have n0 := v.2.1
  by_cases w0 : w < 1 ∨ 8 < w
  · rw [ex0 w0] at e; cases e
  by_cases w1 : w = 1
  · rw [ex1 w1] at e
    split at e
    · rename_i q
      cases e
      exact ⟨VP_ins v (by omega) q.2.2 q.2.1, rfl⟩
    · cases e
  by_cases w2 : w = 2
  · rw [ex2 w2] at e
    split at e
    · cases e
      exact ⟨VP_drp v (by omega), rfl⟩
    · cases e
  by_cases w3 : w = 3
  · rw [ex3 w3] at e
    split at e
    · rename_i q
      cases e
      exact ⟨VP_enc v q.2.2, rfl⟩
    · cases e
  by_cases w4 : w = 4
  · rw [ex4 w4] at e
    split at e
    · rename_i q
      cases e
      exact ⟨VP_dec v q.2.2, rfl⟩
    · cases e
  by_cases w5 : w = 5
  · rw [ex5 w5] at e
    split at e
    · cases e
      exact ⟨VP_wT v (VT_dgt v.2.2.2 (by omega)), rfl⟩
    · cases e
  by_cases w6 : w = 6
  · rw [ex6 w6] at e
    split at e
    · cases e; exact ⟨v, rfl⟩
    · cases e
  by_cases w7 : w = 7
  · rw [ex7 w7] at e
    split at e
    · cases e; exact ⟨v, rfl⟩
    · cases e
  · rw [ex8 (by omega)] at e
    split at e
    · cases e; exact ⟨v, rfl⟩
    · cases e
/-- what a command leaves -/
def XO (r : Int) (h' : zH) (g : zH → zP) (o : Option zP) : Prop := (r = 0 ∧ o = none) ∨ (r = 1 ∧ o = some (g h'))
theorem s_execute {h : zH} {K : Int → zH → Prop} {sc mc : Nat} {P : zP} (v : VP sc mc P) (e1 : h 5 1 = (sc : Int)) (e2 : h 5 2 = (mc : Int)) (t : TCs h P.1 mc) (eP : cPg h 181 = P) {g : Int} (hg : 0 ≤ g ∧ g < 10000) (hk : ∀ r h', (∀ a b, a < 181 ∨ 196 < a → h' a b = h a b) → XO r h' (fun h' => cPg h' 181) (ex sc mc P (g / 1000) (g / 100 % 10) (g % 100)) → K r h') : M_Script_execute 180 g 5 h K := by
  have hm := v.1.1.2.2.2
  have n0 := v.2.1
  have np0 := v.2.2.2.1
  have nd0 := v.2.2.2.2.1
  have n3 := cP_ni eP
  have cT3 := cP_T eP
  have np := cT_np cT3
  have nd := cT_nd cT3
  simp only [Nat.reduceAdd] at np nd
  have tl := tn_le (c := P.1) (T := P.2.2.2) np0.1
  unfold M_Script_execute
  refine ⟨by omega, by omega, ?_⟩
  rintro a ea
  refine ⟨by omega, ?_⟩
  rintro tw et
  rw [← ea, ← et] at hk
  have hw : 0 ≤ g / 1000 ∧ g / 1000 ≤ 9 := by omega
  have ha : 0 ≤ a ∧ a ≤ 9 := by omega
  have htw : 0 ≤ tw ∧ tw ≤ 99 := by omega
  clear ea et
  generalize g / 1000 = w at *
  have bad : ∀ h', (∀ a b, a < 181 ∨ 196 < a → h' a b = h a b) → ex sc mc P w a tw = none → K 0 h' := fun h' f e => hk 0 h' f (Or.inl ⟨rfl, e⟩)
  have good : ∀ h' Q, (∀ a b, a < 181 ∨ 196 < a → h' a b = h a b) → ex sc mc P w a tw = some Q → cPg h' 181 = Q → K 1 h' := fun h' Q f e e' => hk 1 h' f (Or.inr ⟨rfl, by rw [e, ← e']⟩)
  have fr : ∀ a b, a < 181 ∨ 196 < a → h a b = h a b := fun _ _ _ => rfl
  clear hk
  refine ⟨by omega, fun w0 => bad h fr (ex0 w0), fun w1 => ⟨fun q => bad h fr ?_, fun q => ?_⟩, fun w2 => ⟨fun q => bad h fr ?_, fun q => ?_⟩, fun w3 => ⟨fun q => bad h fr ?_, fun q => ⟨fun q2 => bad h fr ?_, fun q2 => ?_⟩⟩, fun w4 => ⟨fun q => bad h fr ?_, fun q => ⟨fun q2 => bad h fr ?_, fun q2 => ?_⟩⟩, fun w5 => ?_, fun w6 => ⟨fun q => bad h fr ?_, fun q => ⟨fun q2 => bad h fr ?_, fun q2 => good h P fr ?_ eP⟩⟩, fun w7 => ⟨fun q => bad h fr ?_, fun q => ⟨fun q2 => bad h fr ?_, fun q2 => ?_⟩⟩, fun w8 => ?_⟩
  · rw [ex1 w1, if_neg (fun q2 => q q2.1)]
  · have e := ex1 (sc := sc) (mc := mc) (P := P) (a := a) (t := tw) w1
    unfold M_Script_addLast
    simp only [Nat.reduceAdd]
    refine s_allowItem (by omega) e1 e2 (fun q2 => ⟨fun q3 => absurd q3 (by decide), fun _ => ?_⟩) (fun q2 => ⟨fun _ => ⟨fun _ => bad h fr ?_, fun q3 => absurd rfl q3⟩, fun q3 => absurd rfl q3⟩)
    · rw [n3]
      refine ⟨fun q3 => ?_, fun q3 => ⟨fun _ => bad h fr ?_, fun q4 => absurd rfl q4⟩⟩
      · refine s_addP (i := P.2.2.1.toNat) eP n0.1 (by omega) q3 (fun h1 e1 f1 => ⟨fun q4 => absurd q4 (by decide), fun _ => good h1 _ (fun a b q5 => f1 a b (by omega) (by omega)) (e.trans (if_pos ⟨q, q2, q3⟩)) e1⟩) (by omega)
      · rw [e, if_neg (fun q4 => by have := q4.2.2; omega)]
    · rw [e, if_neg (fun q4 => q2 q4.2.1)]
  · rw [ex2 w2, if_neg (fun q2 => q q2.1)]
  · have e := ex2 (sc := sc) (mc := mc) (P := P) (a := a) (t := tw) w2
    unfold M_Script_dropOne
    simp only [Nat.reduceAdd]
    refine s_hasItem (by rw [n3]; exact n0.2) (fun q2 => ⟨fun _ => ?_, fun q3 => absurd q3 (by decide)⟩) (fun q2 => ⟨fun q3 => absurd rfl q3, fun _ => ⟨fun _ => bad h fr ?_, fun q3 => absurd rfl q3⟩⟩)
    · rw [n3] at q2
      exact s_drpP (i := tw.toNat) eP (by omega) n0.2 (fun h1 e1 f1 => ⟨fun q4 => absurd q4 (by decide), fun _ => good h1 _ (fun a b q5 => f1 a b (by omega) (by omega)) (e.trans (if_pos ⟨q, q2.2⟩)) e1⟩) (by omega)
    · rw [n3] at q2
      rw [e, if_neg (fun q4 => by have := q4.2; omega)]
  · rw [ex3 w3, if_neg (fun q2 => q q2.1)]
  · rw [ex3 w3, if_neg (fun q3 => q2 q3.2.1)]
  · have e := ex3 (sc := sc) (mc := mc) (P := P) (a := a) (t := tw) w3
    unfold M_Script_fillTape
    simp only [Nat.reduceAdd]
    refine s_listUnfit (q := 188) (a := 181) (by omega) (by omega) v eP t (fun h1 l1 f1 => ⟨fun qu => ?_, fun qu => ⟨fun _ => bad h1 (fun a b q5 => f1 a b (by omega)) ?_, fun q4 => absurd rfl q4⟩⟩)
    · refine s_fill (q := 188) (t := 184) (by omega) (by omega) v.1 (TCs_keep hm (fun a b q1 q2 => f1 a b (by omega)) t) l1 (VL_A v) qu (fun h3 e3 f3 => ⟨fun q4 => absurd q4 (by decide), fun _ => good h3 (encP P) (fun a b q5 => (f3 a b (by omega)).trans (f1 a b (by omega))) (e.trans (if_pos ⟨q, q2, qu⟩)) ?_⟩)
      exact cP_tape (h := h) (P := P) eP (fun k j q1 q2 => (f3 _ _ (by omega)).trans (f1 _ _ (by omega))) e3
    · rw [e, if_neg (fun q4 => qu q4.2.2)]
  · rw [ex4 w4, if_neg (fun q2 => q q2.1)]
  · rw [ex4 w4, if_neg (fun q3 => q2 q3.2.1)]
  · have e := ex4 (sc := sc) (mc := mc) (P := P) (a := a) (t := tw) w4
    unfold M_Script_takeMessage
    simp only [Nat.reduceAdd]
    refine s_takeNeed (q := 191) (a := 181) (by omega) (by omega) v eP t (fun h1 t1 f1 => ⟨fun qd => ?_, fun qd => ⟨fun _ => bad h1 (fun a b q5 => f1 a b (by omega)) ?_, fun q4 => absurd rfl q4⟩⟩)
    · have eP1 : cPg h1 181 = P := (cPg_same (fun k j q1 q2 => f1 _ _ (by omega))).trans eP
      exact s_takeMsgP (q := 191) (a := 181) (by omega) v qd eP1 t1.1 (fun h3 e3 f3 => ⟨fun q4 => absurd q4 (by decide), fun _ => good h3 (decP P) (fun a b q5 => (f3 a b (by omega) (by omega)).trans (f1 a b (by omega))) (e.trans (if_pos ⟨q, q2, qd⟩)) e3⟩)
    · rw [e, if_neg (fun q4 => qd q4.2.2)]
  · have e := ex5 (sc := sc) (mc := mc) (P := P) (a := a) (t := tw) w5
    unfold M_Script_changeDigit
    simp only [Nat.reduceAdd]
    refine s_hasDigit (by rw [nd]; exact nd0.2) (fun q2 => ⟨fun _ => ⟨by omega, ?_⟩, fun q3 => absurd q3 (by decide)⟩) (fun q2 => ⟨fun q3 => absurd rfl q3, fun _ => ⟨Or.inl (by trivial), bad h fr ?_⟩⟩)
    · rw [nd] at q2
      rintro h1 rfl
      refine ⟨Or.inr (by trivial), good _ (wT P (dgT P.2.2.2 tw.toNat a)) (fun a b q5 => zs_k (by omega)) (e.trans (if_pos q2.2)) ?_⟩
      exact cP_tape (h := h) (P := P) eP (fun k j q1 q2 => zs_k (by omega)) (cT_dgt (t := 184) cT3 (show ((tw.toNat : Nat) : Int) < P.2.2.2.2.2.2.1 by omega))
    · rw [nd] at q2
      rw [e, if_neg (by omega)]
  · rw [ex6 w6, if_neg (fun q2 => q q2.1)]
  · rw [ex6 w6, if_neg (fun q3 => q2 (nd.trans q3.2))]
  · rw [ex6 w6, if_pos ⟨q, nd.symm.trans q2⟩]
  · rw [ex7 w7, if_neg (fun q2 => q q2.1)]
  · rw [ex7 w7, if_neg (fun q3 => by have := q3.2.1; omega)]
  · have e := ex7 (sc := sc) (mc := mc) (P := P) (a := a) (t := tw) w7
    unfold M_Script_isIntact
    simp only [Nat.reduceAdd]
    refine s_takeAll (q := 191) (t := 184) (by omega) (by omega) v.1 t cT3 v.2.2.2 (fun h1 t1 f1 => ?_)
    have f1' : ∀ a b, a < 181 ∨ 196 < a → h1 a b = h a b := fun a b q5 => f1 a b (by omega)
    have eP1 : cPg h1 181 = P := (cPg_same (fun k j q1 q2 => f1 _ _ (by omega))).trans eP
    unfold B_Script_execute_208
    rcases t1.2.2.2.2.2 with ⟨y1, y2⟩ | ⟨y1, y2⟩
    · rw [y1]
      refine ⟨Or.inr rfl, fun q3 => ⟨fun _ => bad h1 f1' ?_, fun q4 => absurd q4 (by decide)⟩, fun q3 => ⟨fun q4 => absurd rfl q4, fun _ => good h1 P f1' ?_ eP1⟩⟩
      · rw [e, if_neg (fun q4 => by
          rcases q4.2.2 with z | z
          · exact q3 z.2
          · exact z.1 y2)]
      · rw [e, if_pos ⟨q, by omega, Or.inl ⟨y2, q3⟩⟩]
    · rw [y1]
      refine ⟨Or.inl rfl, fun q3 => ⟨fun q4 => absurd rfl q4, fun _ => good h1 P f1' ?_ eP1⟩, fun q3 => ⟨fun _ => bad h1 f1' ?_, fun q4 => absurd q4 (by decide)⟩⟩
      · rw [e, if_pos ⟨q, by omega, Or.inr ⟨y2, q3⟩⟩]
      · rw [e, if_neg (fun q4 => by
          rcases q4.2.2 with z | z
          · exact y2 z.1
          · exact z.2 q3)]
  · have e := ex8 (sc := sc) (mc := mc) (P := P) (a := a) (t := tw) w8
    unfold M_Script_takes
    simp only [Nat.reduceAdd]
    refine s_takeAll (q := 191) (t := 184) (by omega) (by omega) v.1 t cT3 v.2.2.2 (fun h1 t1 f1 => ?_)
    have f1' : ∀ a b, a < 181 ∨ 196 < a → h1 a b = h a b := fun a b q5 => f1 a b (by omega)
    have eP1 : cPg h1 181 = P := (cPg_same (fun k j q1 q2 => f1 _ _ (by omega))).trans eP
    have np1 : h1 184 3 = P.2.2.2.2.2.1 := (f1 _ _ (by omega)).trans np
    refine s_hasPlanned (by rw [np1]; exact np0.2) (fun q2 => ⟨fun q3 => absurd q3 (by decide), fun _ => ⟨by omega, ?_⟩⟩) (fun q2 => ⟨fun _ => ⟨Or.inl (by trivial), bad h1 f1' ?_⟩, fun q3 => absurd rfl q3⟩)
    · have y1 : h1 192 tw.toNat = if tw.toNat < tn P.1 P.2.2.2 then sy P.1 P.2.2.2 tw.toNat else -9 := t1.1 tw.toNat (by omega)
      by_cases q3 : tw.toNat < tn P.1 P.2.2.2
      · rw [if_pos q3] at y1
        rw [y1]
        refine ⟨fun q4 => ⟨Or.inl (by trivial), bad h1 f1' ?_⟩, fun q4 => ⟨Or.inr (by trivial), good h1 P f1' ?_ eP1⟩⟩
        · rw [e, if_neg (fun q5 => q4 q5.2)]
        · rw [e, if_pos ⟨by omega, q4⟩]
      · rw [if_neg q3] at y1
        rw [y1]
        refine ⟨fun q4 => ⟨Or.inl (by trivial), bad h1 f1' ?_⟩, fun q4 => by omega⟩
        rw [e, if_neg (fun q5 => by have := q5.1; omega)]
    · rw [np1] at q2
      rw [e, if_neg (fun q5 => by have := q5.1; omega)]
theorem s_does {h : zH} {K : Int → zH → Prop} {sc mc : Nat} {P : zP} (v : VP sc mc P) (e4 : h 197 4 = (sc : Int)) (e5 : h 197 5 = (mc : Int)) (eP : rPg h 201 0 = P) {w a tw : Int} (ha : 0 ≤ a ∧ a ≤ 9) (htw : 0 ≤ tw ∧ tw ≤ 99) (hk : ∀ r h', (∀ k j, (k < 206 ∧ k ≠ 201) ∨ k = 220 → ¬ (k = 197 ∧ (j = 27 ∨ j = 31)) → h' k j = h k j) → XO r h' (fun h' => rPg h' 201 0) (ex sc mc P w a tw) → K r h') : M_RM_does 197 w a tw h K := by
  have hm := v.1.1.2.2.2
  have hs := v.1.1.2.1
  have n0 := v.2.1
  have np0 := v.2.2.2.1
  have nd0 := v.2.2.2.2.1
  have n3 : h 201 188 = P.2.2.1 := rP_ni eP
  have nd : h 201 190 = P.2.2.2.2.2.2.1 := rT_nd (rP_T eP)
  obtain ⟨d1, d2, d3⟩ := VP_b v
  have tl := tn_le (c := P.1) (T := P.2.2.2) np0.1
  have bad : ∀ h', (∀ k j, (k < 206 ∧ k ≠ 201) ∨ k = 220 → ¬ (k = 197 ∧ (j = 27 ∨ j = 31)) → h' k j = h k j) → ex sc mc P w a tw = none → K 0 h' := fun h' f e => hk 0 h' f (Or.inl ⟨rfl, e⟩)
  have good : ∀ h' Q, (∀ k j, (k < 206 ∧ k ≠ 201) ∨ k = 220 → ¬ (k = 197 ∧ (j = 27 ∨ j = 31)) → h' k j = h k j) → ex sc mc P w a tw = some Q → rPg h' 201 0 = Q → K 1 h' := fun h' Q f e e' => hk 1 h' f (Or.inr ⟨rfl, by rw [e, ← e']⟩)
  have fr : ∀ k j, (k < 206 ∧ k ≠ 201) ∨ k = 220 → ¬ (k = 197 ∧ (j = 27 ∨ j = 31)) → h k j = h k j := fun _ _ _ _ => rfl
  clear hk
  unfold M_RM_does
  simp only [Nat.reduceAdd]
  refine ⟨fun w0 => bad h fr (ex0 w0), fun w1 => ⟨fun q => bad h fr ?_, fun q => ?_⟩, fun w2 => ⟨fun q => bad h fr ?_, fun q => ?_⟩, fun w3 => ⟨fun q => bad h fr ?_, fun q => ⟨fun q2 => bad h fr ?_, fun q2 => ?_⟩⟩, fun w4 => ⟨fun q => bad h fr ?_, fun q => ⟨fun q2 => bad h fr ?_, fun q2 => ?_⟩⟩, fun w5 => ?_, fun w6 => ⟨fun q => bad h fr ?_, fun q => ⟨fun q2 => bad h fr ?_, fun q2 => good h P fr ?_ eP⟩⟩, fun w7 => ?_, fun w8 => ?_⟩
  · rw [ex1 w1, if_neg (fun q2 => q q2.1)]
  · have e := ex1 (sc := sc) (mc := mc) (P := P) (a := a) (t := tw) w1
    refine s_isThing (by omega) hs hm e4 e5 (fun q2 => ⟨fun q3 => absurd q3 (by decide), fun _ => ?_⟩) (fun q2 => ⟨fun _ => bad h fr ?_, fun q3 => absurd rfl q3⟩)
    · rw [n3]
      refine ⟨fun q3 => ?_, fun q3 => bad h fr ?_⟩
      · exact s_putP (i := P.2.2.1.toNat) zl201 v eP (by omega) (by omega) (fun h1 e1 f1 => good h1 _ (fun k j q5 q6 => f1 k j (by omega)) (e.trans (if_pos ⟨q, q2, by omega⟩)) e1) (by omega)
      · rw [e, if_neg (fun q4 => by have := q4.2.2; omega)]
    · rw [e, if_neg (fun q4 => q2 q4.2.1)]
  · rw [ex2 w2, if_neg (fun q2 => q q2.1)]
  · have e := ex2 (sc := sc) (mc := mc) (P := P) (a := a) (t := tw) w2
    rw [n3]
    refine ⟨fun q2 => ?_, fun q2 => bad h fr ?_⟩
    · exact s_dropP (i := tw.toNat) zl201 v eP (by omega) (fun h1 e1 f1 => good h1 _ (fun k j q5 q6 => f1 k j (by omega)) (e.trans (if_pos ⟨q, q2⟩)) e1) (by omega)
    · rw [e, if_neg (fun q4 => by have := q4.2; omega)]
  · rw [ex3 w3, if_neg (fun q2 => q q2.1)]
  · rw [ex3 w3, if_neg (fun q3 => q2 q3.2.1)]
  · have e := ex3 (sc := sc) (mc := mc) (P := P) (a := a) (t := tw) w3
    refine s_canEncode zl201 (by omega) e4 e5 eP v (fun r h1 t1 l1 f1 g1 out => ?_)
    have hF : ∀ k j, (k < 206 ∧ k ≠ 201) ∨ k = 220 → ¬ (k = 197 ∧ (j = 27 ∨ j = 31)) → h1 k j = h k j := by
      intro k j q3 q4
      rcases q3 with q3 | q3
      · exact f1 k j (by omega) (by omega)
      · rw [q3]; exact g1 j
    rcases out with ⟨qu, rfl⟩ | ⟨qu, rfl⟩
    · refine ⟨fun _ => ?_, fun q3 => absurd q3 (by decide)⟩
      have eP1 : rPg h1 201 0 = P := (rPg_same (fun b => f1 _ _ (by omega) (by omega))).trans eP
      refine s_encodeTo (p := 197) (p1 := 201) zl201 (by omega) v.1 t1 l1 (VL_A v) qu (fun h3 e3 f3 g3 => good h3 (encP P) (fun k j q5 q6 => (f3 k j (by omega)).trans (hF k j q5 q6)) (e.trans (if_pos ⟨q, q2, qu⟩)) ?_)
      exact rP_tape (h := h1) (P := P) eP1 d1 (fun j hj => by rw [Nat.zero_add]; exact g3 j hj) e3
    · exact ⟨fun q3 => absurd rfl q3, fun _ => bad h1 hF (by rw [e, if_neg (fun q4 => qu q4.2.2)])⟩
  · rw [ex4 w4, if_neg (fun q2 => q q2.1)]
  · rw [ex4 w4, if_neg (fun q3 => q2 q3.2.1)]
  · have e := ex4 (sc := sc) (mc := mc) (P := P) (a := a) (t := tw) w4
    refine s_canDecode zl201 (by omega) e4 e5 eP v (fun r h1 t1 f1 g1 out => ?_)
    have hF : ∀ k j, (k < 206 ∧ k ≠ 201) ∨ k = 220 → ¬ (k = 197 ∧ (j = 27 ∨ j = 31)) → h1 k j = h k j := by
      intro k j q3 q4
      rcases q3 with q3 | q3
      · exact f1 k j (by omega) (by omega)
      · rw [q3]; exact g1 j
    rcases out with ⟨qd, rfl⟩ | ⟨qd, rfl⟩
    · refine ⟨fun _ => ?_, fun q3 => absurd q3 (by decide)⟩
      have eP1 : rPg h1 201 0 = P := (rPg_same (fun b => f1 _ _ (by omega) (by omega))).trans eP
      exact s_decodeToP zl201 (by omega) v qd eP1 t1 (fun h3 e3 f3 => good h3 (decP P) (fun k j q5 q6 => (f3 k j (by omega)).trans (hF k j q5 q6)) (e.trans (if_pos ⟨q, q2, qd⟩)) e3)
    · exact ⟨fun q3 => absurd rfl q3, fun _ => bad h1 hF (by rw [e, if_neg (fun q4 => qd q4.2.2)])⟩
  · have e := ex5 (sc := sc) (mc := mc) (P := P) (a := a) (t := tw) w5
    rw [nd]
    refine ⟨fun q2 => ⟨by omega, by omega, ?_⟩, fun q2 => bad h fr (by rw [e, if_neg (by omega)])⟩
    rintro h1 rfl
    refine good _ (wT P (dgT P.2.2.2 tw.toNat a)) (fun k j q5 q6 => zs_k (by omega)) (e.trans (if_pos q2)) ?_
    exact rP_tape (h := h) (P := P) eP d1 (fun j hj => zs_j (by omega)) (rT_dgt (rP_T eP) d2 d3 (show ((tw.toNat : Nat) : Int) < P.2.2.2.2.2.2.1 by omega) (by omega))
  · rw [ex6 w6, if_neg (fun q2 => q q2.1)]
  · rw [ex6 w6, if_neg (fun q3 => q2 (nd.trans q3.2))]
  · rw [ex6 w6, if_pos ⟨q, nd.symm.trans q2⟩]
  · have e := ex7 (sc := sc) (mc := mc) (P := P) (a := a) (t := tw) w7
    refine s_layP zl201 (by omega) e4 e5 eP v (fun h1 t1 f1 => ?_)
    have f1' : ∀ k j, (k < 206 ∧ k ≠ 201) ∨ k = 220 → ¬ (k = 197 ∧ (j = 27 ∨ j = 31)) → h1 k j = h k j := fun k j q5 q6 => f1 k j (by omega)
    have eP1 : rPg h1 201 0 = P := (rPg_same (fun b => f1 _ _ (by omega))).trans eP
    refine ⟨fun q => bad h1 f1' (by rw [e, if_neg (fun q2 => q q2.1)]), fun q => ⟨fun q2 => bad h1 f1' (by rw [e, if_neg (fun q3 => by have := q3.2.1; omega)]), fun q2 => ?_⟩⟩
    refine s_rtake (p := 197) (p1 := 201) zl201 (by omega) v.1 t1 (rP_T eP1) v.2.2.2 (fun r h2 o2 k2 f2 => ?_)
    have f2' : ∀ k j, (k < 206 ∧ k ≠ 201) ∨ k = 220 → ¬ (k = 197 ∧ (j = 27 ∨ j = 31)) → h2 k j = h k j := fun k j q5 q6 => (f2 k j (by omega) (by omega) (by omega) (by omega)).trans (f1' k j q5 q6)
    have eP2 : rPg h2 201 0 = P := (rPg_same (fun b => f2 _ _ (by omega) (by omega) (by omega) (by omega))).trans eP1
    unfold B_RM_does_267
    rcases o2 with ⟨y1, y2⟩ | ⟨y1, y2⟩
    · rw [y1]
      refine ⟨fun q3 => ⟨fun _ => bad h2 f2' ?_, fun q4 => absurd q4 (by decide)⟩, fun q3 => ⟨fun q4 => absurd rfl q4, fun _ => good h2 P f2' ?_ eP2⟩⟩
      · rw [e, if_neg (fun q4 => by
          rcases q4.2.2 with z | z
          · exact q3 z.2
          · exact z.1 y2)]
      · rw [e, if_pos ⟨q, by omega, Or.inl ⟨y2, q3⟩⟩]
    · rw [y1]
      refine ⟨fun q3 => ⟨fun q4 => absurd rfl q4, fun _ => good h2 P f2' ?_ eP2⟩, fun q3 => ⟨fun _ => bad h2 f2' ?_, fun q4 => absurd q4 (by decide)⟩⟩
      · rw [e, if_pos ⟨q, by omega, Or.inr ⟨y2, q3⟩⟩]
      · rw [e, if_neg (fun q4 => by
          rcases q4.2.2 with z | z
          · exact y2 z.1
          · exact z.2 q3)]
  · have e := ex8 (sc := sc) (mc := mc) (P := P) (a := a) (t := tw) w8
    refine s_layTake zl201 (by omega) e4 e5 eP v (fun r h2 t2 k2 f2 o2 => ?_)
    have f2' : ∀ k j, (k < 206 ∧ k ≠ 201) ∨ k = 220 → ¬ (k = 197 ∧ (j = 27 ∨ j = 31)) → h2 k j = h k j := fun k j q5 q6 => f2 k j (by omega) (by omega)
    have eP2 : rPg h2 201 0 = P := (rPg_same (fun b => f2 _ _ (by omega) (by omega))).trans eP
    rw [k2.1]
    refine ⟨fun q2 => bad h2 f2' (by rw [e, if_neg (fun q5 => by have := q5.1; omega)]), fun q2 => ⟨by omega, ?_⟩⟩
    have y1 : h2 214 tw.toNat = sy P.1 P.2.2.2 tw.toNat := k2.2.1 tw.toNat (by omega)
    rw [y1]
    exact ⟨fun q4 => bad h2 f2' (by rw [e, if_neg (fun q5 => q4 q5.2)]), fun q4 => good h2 P f2' (by rw [e, if_pos ⟨q2, q4⟩]) eP2⟩
def rv (sc mc : Nat) (G : Nat → Int) (n : Nat) : Nat → zP → Int
  | 0, _ => -9
  | d + 1, P => match ex sc mc P (G (n - (d + 1)) / 1000) (G (n - (d + 1)) / 100 % 10) (G (n - (d + 1)) % 100) with
    | none => ((n - (d + 1) : Nat) : Int)
    | some Q => rv sc mc G n d Q
def gSc (s : Int) (n i : Nat) : Int := s / zgv ((n : Int) - 1 - i) % 10000
theorem gS_ok {s : Int} {n i : Nat} : 0 ≤ gSc s n i ∧ gSc s n i < 10000 := by
  unfold gSc
  omega
theorem zgv_pos : ∀ k : Nat, k < 5 → 0 < zgv (k : Int) ∧ zgv (k : Int) ≤ 10000000000000000 := by decide
theorem rv_none {sc mc : Nat} {G : Nat → Int} {n i : Nat} {P : zP} (hi : i < n) (e : ex sc mc P (G i / 1000) (G i / 100 % 10) (G i % 100) = none) : rv sc mc G n (n - i) P = (i : Int) := by
  rw [show n - i = (n - (i + 1)) + 1 by omega]
  unfold rv
  rw [show n - (n - (i + 1) + 1) = i by omega, e]
theorem rv_some {sc mc : Nat} {G : Nat → Int} {n i : Nat} {P Q : zP} (hi : i < n) (e : ex sc mc P (G i / 1000) (G i / 100 % 10) (G i % 100) = some Q) : rv sc mc G n (n - i) P = rv sc mc G n (n - (i + 1)) Q := by
  rw [show n - i = (n - (i + 1)) + 1 by omega]
  show (match ex sc mc P (G (n - (n - (i + 1) + 1)) / 1000) (G (n - (n - (i + 1) + 1)) / 100 % 10) (G (n - (n - (i + 1) + 1)) % 100) with
    | none => ((n - (n - (i + 1) + 1) : Nat) : Int)
    | some Q => rv sc mc G n (n - (i + 1)) Q) = _
  rw [show n - (n - (i + 1) + 1) = i by omega, e]
def sp_runScript (A : zSt) (n s : Int) : zOu := if ¬ ((1 ≤ n ∧ n ≤ 4) ∧ (0 ≤ s ∧ s < zgv n)) then (1, 0, A) else (0, rv A.sc A.mc (gSc s n.toNat) n.toNat n.toNat A.P, A)
theorem c_runScript {A : zSt} (v : VA A) {n s : Int} : CS (fun h K => M_LW_runScript 0 n s 220 h K) A (sp_runScript A n s) := by
  intro h K ci hk
  have eo : sp_runScript A n s = if ¬ ((1 ≤ n ∧ n ≤ 4) ∧ (0 ≤ s ∧ s < zgv n)) then (1, 0, A) else (0, rv A.sc A.mc (gSc s n.toNat) n.toNat n.toNat A.P, A) := rfl
  generalize sp_runScript A n s = o at *
  have hm := CI_mc v
  have c3 := ci.2.2.1
  obtain ⟨b1, b2, b3⟩ := VP_b v.1
  show M_LW_runScript 0 n s 220 h K
  unfold M_LW_runScript M_AS_runScript
  simp only [Nat.reduceAdd]
  have no : ¬ ((1 ≤ n ∧ n ≤ 4) ∧ (0 ≤ s ∧ s < zgv n)) → K 1 h := by
    intro q
    rw [if_pos q] at eo
    exact cs_ex hk eo (by decide) ci (fun _ _ _ _ => rfl)
  refine ⟨fun q => ⟨by trivial, no (by omega)⟩, fun q => ⟨fun q2 => ⟨fun q3 => ⟨by trivial, no (by omega)⟩, fun q3 => ⟨by omega, fun q4 => ?_, fun q4 => ⟨by trivial, no (by omega)⟩⟩⟩, fun q2 => ⟨by trivial, no (by omega)⟩⟩⟩
  rw [if_neg (by omega)] at eo
  unfold M_Script_run
  refine s_stateCopy (p0 := 181) (p1 := 37) (by omega) (by rw [cP_ni c3]; exact b1) (by rw [cT_np (cP_T c3)]; exact b2) (by rw [cT_nd (cP_T c3)]; exact b3) (fun h1 e1 f1 => ?_)
  refine yp1 n.toNat (fun i h' => (∃ Q, cPg h' 181 = Q ∧ VP A.sc A.mc Q ∧ Q.1 = A.P.1 ∧ rv A.sc A.mc (gSc s n.toNat) n.toNat (n.toNat - i) Q = rv A.sc A.mc (gSc s n.toNat) n.toNat n.toNat A.P) ∧ ∀ a b, a < 181 ∨ 196 < a → h' a b = h a b) ⟨⟨A.P, e1.trans c3, v.1, rfl, rfl⟩, fun a b q5 => f1 a b (by omega)⟩ ?_
  rintro i h2 L hi ⟨⟨Q, eQ, vQ, eQ1, eR⟩, f2⟩ hL
  show F_Script_run_11 _ L 180 5 n s (i : Int) h2
  have c2 : CI h2 A := CI_keep hm ci (fun a b q1 q2 q3 q4 => f2 a b (by omega))
  have hF : ∀ a b, 197 ≤ a → a ≠ 220 → h2 a b = h a b := fun a b q1 q2 => f2 a b (by omega)
  unfold F_Script_run_11
  refine ⟨fun q5 => ?_, fun q5 => ⟨fun q6 => by omega, fun q6 => ⟨by omega, by omega, ?_⟩⟩⟩
  · have ei : n.toNat - i = 0 := by omega
    rw [ei] at eR
    exact cs_val hk eo hm c2 hF eR
  unfold M_Script_groupOf
  refine ⟨fun q7 => by omega, fun q7 => ⟨fun q8 => ⟨by omega, ?_⟩, fun q8 => by omega⟩⟩
  rintro z rfl
  have hz := zgv_pos (n - 1 - i).toNat (by omega)
  rw [show (((n - 1 - i).toNat : Nat) : Int) = n - 1 - i by omega] at hz
  refine ⟨fun q9 => by omega, fun q9 => ⟨⟨q3, q9⟩, Int.ediv_nonneg q3 (by omega), ?_⟩⟩
  have eg : s / zgv (n - 1 - (i : Int)) % 10000 = gSc s n.toNat i := by
    unfold gSc
    rw [show ((n.toNat : Nat) : Int) = n by omega]
  have hg := gS_ok (s := s) (n := n.toNat) (i := i)
  rw [eg, zw_id (by omega)]
  have t2 : TCs h2 Q.1 A.mc := by rw [eQ1]; exact c2.2.2.2.1
  refine s_execute vQ c2.1 c2.2.1 t2 eQ hg (fun r h3 f3 x3 => ?_)
  have f3' : ∀ a b, a < 181 ∨ 196 < a → h3 a b = h a b := fun a b q => (f3 a b q).trans (f2 a b q)
  rcases x3 with ⟨rfl, x3⟩ | ⟨rfl, x3⟩
  · refine ⟨fun q10 => absurd rfl q10, fun _ => ?_⟩
    rw [rv_none (by omega) x3] at eR
    exact cs_val hk eo hm (CI_keep hm ci (fun a b q1 q2 q3 q4 => f3' a b (by omega))) (fun a b q1 q2 => f3' a b (by omega)) eR
  · refine ⟨fun _ => ⟨by omega, hL _ (by omega) ⟨⟨cPg h3 181, rfl, ?_, ?_, ?_⟩, f3'⟩⟩, fun q10 => absurd q10 (by decide)⟩
    · exact (ex_ok vQ (by omega) (by omega) x3).1
    · exact (ex_ok vQ (by omega) (by omega) x3).2.trans eQ1
    · rw [← eR, rv_some (by omega) x3]
def p10 : Nat → Int
  | 0 => 1
  | n + 1 => p10 n * 10
theorem p10_ok : ∀ n : Nat, n < 17 → 1 ≤ p10 n ∧ p10 n ≤ 10000000000000000 := by decide
theorem p10_gv : ∀ k : Nat, k < 5 → p10 (4 * k) = zgv (k : Int) := by decide
theorem s_tenTo {h : zH} {K : Int → zH → Prop} {k : Nat} (hk4 : k < 5) (hk : K (zgv (k : Int)) h) {x : Int} (ex : x = 4 * (k : Int)) : M_RM_tenTo x h K := by
  unfold M_RM_tenTo
  refine yp2 (4 * k) (fun i y h' => h' = h ∧ y = p10 i) ⟨rfl, rfl⟩ ?_
  rintro i y h' L hi ⟨rfl, e⟩ hL
  show F_RM_tenTo_4 K L x y (i : Int) h'
  unfold F_RM_tenTo_4
  refine ⟨fun q => ?_, fun q => ?_⟩
  · have ei : i = 4 * k := by omega
    rw [e, ei, p10_gv k hk4]
    exact hk
  · have := p10_ok i (by omega)
    refine ⟨by omega, ?_⟩
    rintro z rfl
    exact ⟨by omega, hL _ _ (by omega) ⟨rfl, by rw [e]; rfl⟩⟩
theorem r_runScript {A : zSt} (v : VA A) {n s : Int} : RS1 (fun h K => M_RM_runScript 197 n s h K) A (sp_runScript A n s) := by
  intro h K ci hk
  have eo : sp_runScript A n s = if ¬ ((1 ≤ n ∧ n ≤ 4) ∧ (0 ≤ s ∧ s < zgv n)) then (1, 0, A) else (0, rv A.sc A.mc (gSc s n.toNat) n.toNat n.toNat A.P, A) := rfl
  generalize sp_runScript A n s = o at *
  show M_RM_runScript 197 n s h K
  unfold M_RM_runScript B_RM_runScript_33
  have no : ¬ ((1 ≤ n ∧ n ≤ 4) ∧ (0 ≤ s ∧ s < zgv n)) → B_RM_runScript_34 K 197 n s 197 1 h := by
    intro q
    rw [if_pos q] at eo
    unfold B_RM_runScript_34
    exact s_refused (fun _ => ⟨fun q3 => absurd q3 (by decide), fun _ => rs_no ci hk eo (by decide)⟩) (fun q3 => absurd q3 (by decide))
  refine s_in (fun q => ⟨fun q3 => absurd q3 (by decide), fun _ => ⟨by omega, s_tenTo (k := n.toNat) (by omega) ?_ (by omega)⟩⟩) (fun q => ⟨fun _ => no (by omega), fun q3 => absurd rfl q3⟩)
  have hz := zgv_pos n.toNat (by omega)
  rw [show ((n.toNat : Nat) : Int) = n by omega] at hz ⊢
  refine ⟨by omega, s_in (fun q2 => ⟨fun q3 => absurd q3 (by decide), fun _ => ?_⟩) (fun q2 => ⟨fun _ => no (by omega), fun q3 => absurd rfl q3⟩)⟩
  rw [if_neg (by omega)] at eo
  unfold B_RM_runScript_34
  refine s_refused (fun q3 => absurd q3 (by decide)) (fun _ => ⟨fun _ => ?_, fun q3 => absurd rfl q3⟩)
  have c1 := RI_z (u := 0) ci
  refine s_copyP zl201 (by omega) v.1 c1.2.2.1 (fun h1 e1 f1 => ?_)
  have f1' : ∀ k j, (k < 206 ∧ k ≠ 201) ∨ k = 220 → ¬ (k = 197 ∧ (j = 27 ∨ j = 31)) → h1 k j = zs h 197 0 0 k j := fun k j q5 q6 => f1 k j (by omega)
  refine yp1 n.toNat (fun i h' => (∃ Q, rPg h' 201 0 = Q ∧ VP A.sc A.mc Q ∧ Q.1 = A.P.1 ∧ rv A.sc A.mc (gSc s n.toNat) n.toNat (n.toNat - i) Q = rv A.sc A.mc (gSc s n.toNat) n.toNat n.toNat A.P) ∧ ∀ k j, (k < 206 ∧ k ≠ 201) ∨ k = 220 → ¬ (k = 197 ∧ (j = 27 ∨ j = 31)) → h' k j = zs h 197 0 0 k j) ⟨⟨A.P, e1, v.1, rfl, rfl⟩, f1'⟩ ?_
  rintro i h2 L hi ⟨⟨Q, eQ, vQ, eQ1, eR⟩, f2⟩ hL
  show F_RM_runScript_58 K L 197 n s (i : Int) h2
  have fin : ∀ h3 r, (∀ k j, (k < 206 ∧ k ≠ 201) ∨ k = 220 → ¬ (k = 197 ∧ (j = 27 ∨ j = 31)) → h3 k j = zs h 197 0 0 k j) → r = rv A.sc A.mc (gSc s n.toNat) n.toNat n.toNat A.P → K r h3 := by
    intro h3 r f3 er
    exact rs_val hk eo (RI_keep c1 (fun a b q => f3 a b (by omega) (by omega))) (by rw [f3 _ _ (by omega) (by omega), zs_eq]) (fun a b q => by rw [f3 a b (by omega) (by omega), zs0_f a b q]) er
  unfold F_RM_runScript_58
  refine ⟨fun q5 => ?_, fun q5 => ⟨by omega, by omega, by omega, s_tenTo (k := (n - 1 - i).toNat) (by omega) ?_ (by omega)⟩⟩
  · have ei : n.toNat - i = 0 := by omega
    rw [ei] at eR
    exact fin h2 _ f2 eR
  have hz2 := zgv_pos (n - 1 - i).toNat (by omega)
  rw [show (((n - 1 - i).toNat : Nat) : Int) = n - 1 - i by omega] at hz2 ⊢
  refine ⟨⟨q2.1, hz2.1⟩, Int.ediv_nonneg q2.1 (by omega), ?_⟩
  have eg : s / zgv (n - 1 - (i : Int)) % 10000 = gSc s n.toNat i := by
    unfold gSc
    rw [show ((n.toNat : Nat) : Int) = n by omega]
  have hg := gS_ok (s := s) (n := n.toNat) (i := i)
  rw [eg, zw_id (by omega)]
  rintro x5 rfl
  refine ⟨hg.1, hg.1, by omega, hg.1, ?_⟩
  refine s_does vQ ((f2 _ _ (by omega) (by omega)).trans c1.1) ((f2 _ _ (by omega) (by omega)).trans c1.2.1) eQ (by omega) (by omega) (fun r h3 f3 x3 => ?_)
  have f3' : ∀ k j, (k < 206 ∧ k ≠ 201) ∨ k = 220 → ¬ (k = 197 ∧ (j = 27 ∨ j = 31)) → h3 k j = zs h 197 0 0 k j := fun k j q6 q7 => (f3 k j q6 q7).trans (f2 k j q6 q7)
  rcases x3 with ⟨rfl, x3⟩ | ⟨rfl, x3⟩
  · refine ⟨fun q10 => absurd rfl q10, fun _ => ?_⟩
    rw [rv_none (by omega) x3] at eR
    exact fin h3 _ f3' eR
  · refine ⟨fun _ => ⟨by omega, hL _ (by omega) ⟨⟨rPg h3 201 0, rfl, ?_, ?_, ?_⟩, f3'⟩⟩, fun q10 => absurd q10 (by decide)⟩
    · exact (ex_ok vQ (by omega) (by omega) x3).1
    · exact (ex_ok vQ (by omega) (by omega) x3).2.trans eQ1
    · rw [← eR, rv_some (by omega) x3]

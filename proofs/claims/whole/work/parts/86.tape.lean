/-! actions on the tape; undo -/
theorem LC_keep {h h' : zH} {q : Nat} {L : zL} (e : ∀ a b, q ≤ a → a ≤ q + 2 → h' a b = h a b) (l : LC h q L) : LC h' q L :=
  ⟨(e _ _ (by omega) (by omega)).trans l.1, fun j hj => ⟨(e _ _ (by omega) (by omega)).trans (l.2 j hj).1, (e _ _ (by omega) (by omega)).trans (l.2 j hj).2⟩⟩
theorem LR_keep {h h' : zH} {L : zL} (e1 : h' 197 31 = h 197 31) (e : ∀ a b, 218 ≤ a → a ≤ 219 → h' a b = h a b) (l : LR h 197 L) : LR h' 197 L :=
  ⟨e1.trans l.1, fun j hj => ⟨(e _ _ (by omega) (by omega)).trans (l.2 j hj).1, (e _ _ (by omega) (by omega)).trans (l.2 j hj).2⟩⟩
def encP (P : zP) : zP := (P.1, P.2.1, P.2.2.1, enT P.1 (lA P))
theorem VP_enc {sc mc : Nat} {P : zP} (v : VP sc mc P) (hu : uF P.1 (lA P) = -9) : VP sc mc (encP P) := ⟨v.1, v.2.1, v.2.2.1, enT_ok v.1 (VL_A v) hu⟩
/-- the class: list, then look for the unfit -/
theorem s_listUnfit {q a : Nat} (hqa : q + 2 < a ∨ a + 2 < q) (hq : 36 < q) {h : zH} {K : Int → zH → Prop} {sc mc : Nat} {P : zP} (v : VP sc mc P) (eP : cPg h a = P) (t : TCs h P.1 mc) (hk : ∀ h', LC h' q (lA P) → (∀ k j, k < q ∨ q + 2 < k → h' k j = h k j) → K (uF P.1 (lA P)) h') : M_Symbols_list q a h (fun h1 => M_Symbols_firstUnfit q 5 h1 K) :=
  s_listP hqa v eP (fun h1 l1 f1 => s_firstUnfit v.1 (TCs_keep v.1.1.2.2.2 (fun a b q1 q2 => f1 _ _ (by omega)) t) l1 (VL_A v) (hk h1 l1 f1))
def sp_encode (A : zSt) : zOu := if uF A.P.1 (lA A.P) ≠ -9 then (1, 0, A) else (0, (enT A.P.1 (lA A.P)).2.2.2.1, zAP (rem A) (encP A.P))
theorem v_encode {A : zSt} (v : VA A) : VA (sp_encode A).2.2 := by
  unfold sp_encode
  split
  · exact v
  · rename_i q
    exact VA_set v (VP_enc v.1 (Decidable.not_not.mp q))
theorem c_encode {A : zSt} (v : VA A) : CS (fun h K => M_LW_encode 0 220 h K) A (sp_encode A) := by
  intro h K ci hk
  have eo : sp_encode A = if uF A.P.1 (lA A.P) ≠ -9 then (1, 0, A) else (0, (enT A.P.1 (lA A.P)).2.2.2.1, zAP (rem A) (encP A.P)) := rfl
  generalize sp_encode A = o at *
  have hm := CI_mc v
  show M_LW_encode 0 220 h K
  unfold M_LW_encode M_AS_encode
  simp only [Nat.reduceAdd]
  refine s_listUnfit (q := 161) (a := 37) (by omega) (by omega) v.1 ci.2.2.1 ci.2.2.2.1 (fun h1 l1 f1 => ?_)
  have c1 : CI h1 A := CI_keep hm ci (fun a b q1 q2 q3 q4 => f1 a b (by omega))
  refine ⟨fun q => ?_, fun q => ⟨by trivial, ?_⟩⟩
  · rw [if_neg (fun q2 => q2 q)] at eo
    refine s_remember v c1 (fun h2 c2 f2 => ?_)
    refine s_fill (q := 161) (t := 40) (by omega) (by omega) v.1.1 c2.2.2.2.1 (LC_keep (fun a b q1 q2 => f2 _ _ (by omega)) l1) (VL_A v.1) q (fun h3 e3 f3 => ?_)
    have eP : cPg h3 37 = encP A.P := cP_tape (h := h2) (P := A.P) c2.2.2.1 (fun k j q1 q2 => f3 _ _ (by omega)) e3
    refine cs_val hk eo hm (CI_now (A := rem A) (P := encP A.P) hm c2 (fun a b q1 q2 q3 q4 q5 => f3 a b (by omega)) eP rfl) (fun a b q1 q2 => by rw [f3 a b (by omega), f2 a b (by omega), f1 a b (by omega)]) (cT_nd e3)
  · rw [if_pos q] at eo
    exact cs_ex hk eo (by decide) c1 (fun a b q1 q2 => f1 a b (by omega))
/-- the reference: lay, look for the unfit -/
theorem s_canEncode {p1 : Nat} (hl : zln p1 = 193) (hp : p1 < 203 ∧ 197 < p1) {h : zH} {K : Int → zH → Prop} {sc mc : Nat} {P : zP} (e4 : h 197 4 = (sc : Int)) (e5 : h 197 5 = (mc : Int)) (eP : rPg h p1 0 = P) (v : VP sc mc P) (hk : ∀ r h', TR h' 197 P.1 mc → LR h' 197 (lA P) → (∀ k j, k < 206 → ¬ (k = 197 ∧ j = 31) → h' k j = h k j) → (∀ j, h' 220 j = h 220 j) → (uF P.1 (lA P) = -9 ∧ r = 1) ∨ (uF P.1 (lA P) ≠ -9 ∧ r = 0) → K r h') : M_RM_canEncode 197 p1 h K := by
  unfold M_RM_canEncode
  refine s_layP hl hp e4 e5 eP v (fun h1 t1 f1 => ?_)
  have eP1 : rPg h1 p1 0 = P := (rPg_same (fun b => f1 _ _ (by omega))).trans eP
  refine s_layMP hl (by omega) v eP1 (fun h2 l2 f2 => ?_)
  have t2 : TR h2 197 P.1 mc := TR_keep (fun a b q1 q2 => f2 _ _ (by omega) (by omega) (by omega)) t1
  refine s_unfitOf v.1 t2 l2 (VL_A v) ?_
  have hF : ∀ k j, k < 206 → ¬ (k = 197 ∧ j = 31) → h2 k j = h k j := fun k j q1 q2 => (f2 k j q2 (by omega) (by omega)).trans (f1 k j (by omega))
  have hG : ∀ j, h2 220 j = h 220 j := fun j => (f2 _ _ (by omega) (by omega) (by omega)).trans (f1 _ _ (by omega))
  exact ⟨fun q => hk 0 h2 t2 l2 hF hG (Or.inr ⟨q, rfl⟩), fun q => hk 1 h2 t2 l2 hF hG (Or.inl ⟨q, rfl⟩)⟩
theorem r_encode {A : zSt} (v : VA A) : RS1 (fun h K => M_RM_encode 197 h K) A (sp_encode A) := by
  intro h K ci hk
  have eo : sp_encode A = if uF A.P.1 (lA A.P) ≠ -9 then (1, 0, A) else (0, (enT A.P.1 (lA A.P)).2.2.2.1, zAP (rem A) (encP A.P)) := rfl
  generalize sp_encode A = o at *
  show M_RM_encode 197 h K
  unfold M_RM_encode B_RM_encode_17
  refine s_canEncode zl200 (by omega) ci.1 ci.2.1 ci.2.2.1 v.1 (fun r h1 t1 l1 f1 g1 out => ?_)
  have c1 : RI h1 A := RI_keep ci (fun a b q => f1 a b (by omega) (by omega))
  have hF : ∀ a b, a < 197 ∨ a = 220 → h1 a b = h a b := by
    intro a b q
    rcases q with q | q
    · exact f1 a b (by omega) (by omega)
    · rw [q]; exact g1 b
  rcases out with ⟨q, rfl⟩ | ⟨q, rfl⟩
  · rw [if_neg (fun q2 => q2 q)] at eo
    refine ⟨fun q2 => absurd q2 (by decide), fun _ => s_refused (fun q3 => absurd q3 (by decide)) (fun _ => ⟨fun _ => ?_, fun q3 => absurd rfl q3⟩)⟩
    refine s_note v (RI_z c1) (fun h2 c2 f2 => ?_)
    have t2 : TR h2 197 A.P.1 A.mc := TR_keep (fun a b q1 q2 => (f2 _ _ (by omega) (by omega)).trans (zs_k (by omega))) t1
    have l2 : LR h2 197 (lA A.P) := LR_keep ((f2 _ _ (by omega) (by omega)).trans (zs_j (by omega))) (fun a b q1 q2 => (f2 _ _ (by omega) (by omega)).trans (zs_k (by omega))) l1
    refine s_encodeTo (p := 197) (p1 := 200) zl200 (by omega) v.1.1 t2 l2 (VL_A v.1) q (fun h3 e3 f3 g3 => ?_)
    have eP : rPg h3 200 0 = encP A.P := rP_tape (h := h2) (P := A.P) c2.2.2.1 v.1.2.1.2 (fun j hj => by rw [Nat.zero_add]; exact g3 j hj) e3
    exact rs_val hk eo (RI_set c2 (fun a b q => f3 a b (by omega)) eP) (by rw [f3 _ _ (by omega), f2 _ _ (by omega) (by omega), zs_eq]) (fun a b q => by rw [f3 a b (by omega), f2 a b (by omega) (by omega), zs0_f a b q, hF a b q]) (rT_nd e3)
  · rw [if_pos q] at eo
    refine ⟨fun _ => s_refused (fun _ => ⟨fun q3 => absurd q3 (by decide), fun _ => ?_⟩) (fun q3 => absurd q3 (by decide)), fun q2 => absurd rfl q2⟩
    exact rs_ex hk eo (by decide) (RI_z c1) zs_eq (fun a b q => by rw [zs0_f a b q, hF a b q])
def dC (P : zP) : zD := dc P.2.2.2.1 (sy P.1 P.2.2.2) P.2.2.2.2.2.1.toNat
def decP (P : zP) : zP := (P.1, tr (dC P).1 (dC P).2.2, ((dC P).1 : Int), P.2.2.2)
/-- taking out goes -/
abbrev cD (P : zP) : Prop := ((tn P.1 P.2.2.2 : Nat) : Int) = P.2.2.2.2.2.1 ∧ (dC P).1 ≤ 40
theorem sy_ok {sc mc : Nat} {P : zP} (v : VP sc mc P) {j : Nat} (hj : (j : Int) < P.2.2.2.2.2.1) : 0 ≤ sy P.1 P.2.2.2 j ∧ sy P.1 P.2.2.2 j < sc := by
  have hp := v.2.2.2.2.2.1 j hj
  unfold sy
  exact fS_sc v.1 (m := (P.2.2.2.1 j).toNat) (by omega) (by omega)
theorem VP_dec {sc mc : Nat} {P : zP} (v : VP sc mc P) (h : cD P) : VP sc mc (decP P) := by
  refine ⟨v.1, ⟨show (0 : Int) ≤ ((dC P).1 : Int) by omega, show ((dC P).1 : Int) ≤ 40 by have := h.2; omega⟩, fun j hj => ?_, v.2.2.2⟩
  have hj' : (j : Int) < ((dC P).1 : Int) := hj
  show (0 ≤ tr (dC P).1 (dC P).2.2 j ∧ tr (dC P).1 (dC P).2.2 j < sc) ∨ (10 ≤ tr (dC P).1 (dC P).2.2 j ∧ tr (dC P).1 (dC P).2.2 j < 10 + mc)
  rw [tr_at (by omega)]
  have n0 := v.2.2.2.1.1
  exact dc_ok (sc := sc) (mc := mc) (fun i hi => v.2.2.2.2.2.1 i (by omega)) (fun i hi => sy_ok v (by omega)) j (by show j < (dC P).1; omega)
theorem s_takeMsgP {a q : Nat} (hqa : q + 5 < a ∨ a + 6 < q) {h : zH} {K : zH → Prop} {sc mc : Nat} {P : zP} (v : VP sc mc P) (hd : cD P) (eP : cPg h a = P) (e3 : ∀ k, k < 40 → h (q + 1) k = if k < tn P.1 P.2.2.2 then sy P.1 P.2.2.2 k else -9) (hk : ∀ h', cPg h' a = decP P → (∀ k j, ¬ (k = a ∧ j = 3) → k ≠ a + 2 → h' k j = h k j) → K h') : M_State_takeMessage a q h K := by
  obtain ⟨d1, d2⟩ := hd
  have n0 := v.2.2.2.1
  have eT := cP_T eP
  have np := cT_np eT
  have hm := v.1.1
  refine s_takeMessage (pl := P.2.2.2.1) (s := sy P.1 P.2.2.2) (np := P.2.2.2.2.2.1.toNat) hqa (by omega) (by rw [np]; omega) (fun j hj => cT_pl eT (by omega)) (fun j hj => by have := v.2.2.2.2.2.1 j (by omega); omega) (fun j hj => by rw [e3 j (by omega), if_pos (by omega)]) d2 (fun h1 g1 g2 f1 => hk h1 ?_ f1)
  exact cP_upd (it := (dC P).2.2) (ni := ((dC P).1 : Int)) eP (fun j hj => f1 _ _ (by omega) (by omega)) g1 (fun j hj => g2 j (by show j < (dC P).1; omega)) ((cT_eq (f1 _ _ (by omega) (by omega)) (f1 _ _ (by omega) (by omega)) (f1 _ _ (by omega) (by omega)) (f1 _ _ (by omega) (by omega)) (fun j _ => f1 _ _ (by omega) (by omega)) (fun j _ => f1 _ _ (by omega) (by omega))).trans eT)
theorem s_decodeToP {p1 : Nat} (hl : zln p1 = 193) (hp : 197 < p1 ∧ p1 < 203) {h : zH} {K : zH → Prop} {sc mc : Nat} {P : zP} (v : VP sc mc P) (hd : cD P) (eP : rPg h p1 0 = P) (tk : TKR h 197 P.1 P.2.2.2) (hk : ∀ h', rPg h' p1 0 = decP P → (∀ a b, a ≠ p1 → h' a b = h a b) → K h') : M_RM_decodeTo 197 p1 h K := by
  obtain ⟨d1, d2⟩ := hd
  have n0 := v.2.2.2.1
  have eT := rP_T eP
  have hm := v.1.1
  obtain ⟨-, b2, b3⟩ := VP_b v
  refine s_decodeTo (p := 197) (pl := P.2.2.2.1) (s := sy P.1 P.2.2.2) (np := P.2.2.2.2.2.1.toNat) hl (by omega) (by omega) (by rw [tk.1]; omega) (fun j hj => by have := rT_pl eT (j := j) (by omega); rw [Nat.zero_add] at this; exact this) (fun j hj => by have := v.2.2.2.2.2.1 j (by omega); omega) (fun j hj => tk.2.1 j (by omega)) d2 (fun h1 g1 g2 f1 => hk h1 ?_ (fun a b q => f1 a b (by omega)))
  exact rP_upd (it := (dC P).2.2) (ni := ((dC P).1 : Int)) eP (fun j hj => f1 _ _ (by omega)) (by rw [Nat.zero_add]; exact g1) (fun j hj => by rw [Nat.zero_add]; exact g2 j (by show j < (dC P).1; omega)) ((rT_keep (fun j q1 q2 q3 => f1 _ _ (by omega)) (by rw [rT_np eT]; exact b2) (by rw [rT_nd eT]; exact b3)).trans eT)
theorem TKR_keep {h h' : zH} {c : Nat → Int} {T : zT} (e1 : h' 197 27 = h 197 27) (e : ∀ a b, 214 ≤ a → a ≤ 216 → h' a b = h a b) (t : TKR h 197 c T) : TKR h' 197 c T :=
  ⟨e1.trans t.1, fun k hk => (e _ _ (by omega) (by omega)).trans (t.2.1 k hk), fun k h1 h2 => (e _ _ (by omega) (by omega)).trans (t.2.2.1 k h1 h2), fun k h1 => (e _ _ (by omega) (by omega)).trans (t.2.2.2 k h1)⟩
/-- the reference: lay, take, count -/
theorem s_canDecode {p1 : Nat} (hl : zln p1 = 193) (hp : p1 < 203 ∧ 197 < p1) {h : zH} {K : Int → zH → Prop} {sc mc : Nat} {P : zP} (e4 : h 197 4 = (sc : Int)) (e5 : h 197 5 = (mc : Int)) (eP : rPg h p1 0 = P) (v : VP sc mc P) (hk : ∀ r h', TKR h' 197 P.1 P.2.2.2 → (∀ k j, k < 206 → ¬ (k = 197 ∧ j = 27) → h' k j = h k j) → (∀ j, h' 220 j = h 220 j) → (cD P ∧ r = 1) ∨ (¬ cD P ∧ r = 0) → K r h') : M_RM_canDecode 197 p1 h K := by
  unfold M_RM_canDecode M_RM_fails
  refine s_layP hl hp e4 e5 eP v (fun h1 t1 f1 => ?_)
  have eP1 : rPg h1 p1 0 = P := (rPg_same (fun b => f1 _ _ (by omega))).trans eP
  refine s_rtake (p := 197) hl (by omega) v.1 t1 (rP_T eP1) v.2.2.2 (fun r h2 o2 k2 f2 => ?_)
  have eP2 : rPg h2 p1 0 = P := (rPg_same (fun b => f2 _ _ (by omega) (by omega) (by omega) (by omega))).trans eP1
  have eT := rP_T eP2
  have hF : ∀ k j, k < 206 → ¬ (k = 197 ∧ j = 27) → h2 k j = h k j := fun k j q1 q2 => (f2 k j q2 (by omega) (by omega) (by omega)).trans (f1 k j (by omega))
  have hG : ∀ j, h2 220 j = h 220 j := fun j => (f2 _ _ (by omega) (by omega) (by omega) (by omega)).trans (f1 _ _ (by omega))
  have np : h2 p1 189 = P.2.2.2.2.2.1 := by have := rT_np eT; rw [Nat.zero_add] at this; exact this
  have n0 := v.2.2.2.1
  have tl := tn_le (c := P.1) (T := P.2.2.2) n0.1
  rw [k2.1, np, hl]
  refine ⟨by decide, fun q => ⟨fun q2 => absurd rfl q2, fun _ => ?_⟩, fun q => ⟨fun _ => hk 0 h2 k2 hF hG (Or.inr ⟨fun d => by have := d.1; omega, rfl⟩), fun q2 => absurd q2 (by decide)⟩⟩
  refine s_itemsOf (pl := P.2.2.2.1) (s := sy P.1 P.2.2.2) (np := P.2.2.2.2.2.1.toNat) hl (by omega) (by rw [k2.1]; omega) (fun j hj => by have := rT_pl eT (j := j) (by omega); rw [Nat.zero_add] at this; exact this) ?_
  have ed : dc P.2.2.2.1 (sy P.1 P.2.2.2) P.2.2.2.2.2.1.toNat = dC P := rfl
  rw [ed]
  exact ⟨fun q2 => hk 0 h2 k2 hF hG (Or.inr ⟨fun d => by have := d.2; omega, rfl⟩), fun q2 => hk 1 h2 k2 hF hG (Or.inl ⟨⟨by omega, by omega⟩, rfl⟩)⟩
def sp_decode (A : zSt) : zOu := if ¬ cD A.P then (1, 0, A) else (0, ((dC A.P).1 : Int), zAP (rem A) (decP A.P))
theorem v_decode {A : zSt} (v : VA A) : VA (sp_decode A).2.2 := by
  unfold sp_decode
  split
  · exact v
  · rename_i q
    exact VA_set v (VP_dec v.1 (Decidable.not_not.mp q))
/-- the class: does taking out go? -/
theorem s_takeNeed {q a : Nat} (hq : 36 < q) (hqa : a + 6 < q ∨ q + 5 < a) {h : zH} {K : zH → Prop} {N : zH → Prop} {sc mc : Nat} {P : zP} (v : VP sc mc P) (eP : cPg h a = P) (t : TCs h P.1 mc) (hk : ∀ h', TKC h' q P.1 P.2.2.2 → (∀ k j, k < q ∨ q + 5 < k → h' k j = h k j) → (cD P → K h') ∧ (¬ cD P → N h')) : M_Taking_takeAll q (a + 3) 5 h (fun h_1 => (h_1 q 6 ≠ (-9) → N h_1) ∧ (h_1 q 6 = (-9) → (M_Tape_itemsNeeded (a + 3) h_1 (fun r_4 h_3 => (r_4 ≤ 40 → K h_3) ∧ (40 < r_4 → N h_3))))) := by
  refine s_takeAll (by omega) (by omega) v.1 t (cP_T eP) v.2.2.2 (fun h1 t1 f1 => ?_)
  obtain ⟨k1, k2⟩ := hk h1 t1 f1
  have n0 := v.2.2.2.1
  have tl := tn_le (c := P.1) (T := P.2.2.2) n0.1
  have e6 := t1.2.2.2.2.1
  have eT : cT h1 (a + 3) = P.2.2.2 := (cP_T (h := h1) (P := P) ((cPg_same (fun k j q1 q2 => f1 _ _ (by omega))).trans eP))
  refine ⟨fun q => k2 (fun d => ?_), fun q => ?_⟩
  · rw [if_neg (by have := d.1; omega)] at e6
    exact q e6
  · have h2 : ((tn P.1 P.2.2.2 : Nat) : Int) = P.2.2.2.2.2.1 := by
      split at e6 <;> omega
    refine s_itemsNeeded (pl := P.2.2.2.1) (s := sy P.1 P.2.2.2) (np := P.2.2.2.2.2.1.toNat) (by omega) (by rw [cT_np eT]; omega) (fun j hj => cT_pl eT (by omega)) ?_
    have ed : dc P.2.2.2.1 (sy P.1 P.2.2.2) P.2.2.2.2.2.1.toNat = dC P := rfl
    rw [ed]
    exact ⟨fun q2 => k1 ⟨h2, by omega⟩, fun q2 => k2 (fun d => by have := d.2; omega)⟩
theorem c_decode {A : zSt} (v : VA A) : CS (fun h K => M_LW_decode 0 220 h K) A (sp_decode A) := by
  intro h K ci hk
  have eo : sp_decode A = if ¬ cD A.P then (1, 0, A) else (0, ((dC A.P).1 : Int), zAP (rem A) (decP A.P)) := rfl
  generalize sp_decode A = o at *
  have hm := CI_mc v
  show M_LW_decode 0 220 h K
  unfold M_LW_decode M_AS_decode
  simp only [Nat.reduceAdd]
  refine s_takeNeed (q := 164) (a := 37) (by omega) (by omega) v.1 ci.2.2.1 ci.2.2.2.1 (fun h1 t1 f1 => ?_)
  have c1 : CI h1 A := CI_keep hm ci (fun a b q1 q2 q3 q4 => f1 a b (by omega))
  refine ⟨fun q => ?_, fun q => ⟨by trivial, ?_⟩⟩
  · rw [if_neg (fun q2 => q2 q)] at eo
    refine s_remember v c1 (fun h2 c2 f2 => ?_)
    refine s_takeMsgP (q := 164) (a := 37) (by omega) v.1 q c2.2.2.1 (fun k hk => (f2 _ _ (by omega)).trans (t1.1 k hk)) (fun h3 e3 f3 => ?_)
    exact cs_val hk eo hm (CI_now (A := rem A) (P := decP A.P) hm c2 (fun a b q1 q2 q3 q4 q5 => f3 a b (by omega) (by omega)) e3 rfl) (fun a b q1 q2 => by rw [f3 a b (by omega) (by omega), f2 a b (by omega), f1 a b (by omega)]) (cP_ni e3)
  · rw [if_pos q] at eo
    exact cs_ex hk eo (by decide) c1 (fun a b q1 q2 => f1 a b (by omega))
theorem r_decode {A : zSt} (v : VA A) : RS1 (fun h K => M_RM_decode 197 h K) A (sp_decode A) := by
  intro h K ci hk
  have eo : sp_decode A = if ¬ cD A.P then (1, 0, A) else (0, ((dC A.P).1 : Int), zAP (rem A) (decP A.P)) := rfl
  generalize sp_decode A = o at *
  show M_RM_decode 197 h K
  unfold M_RM_decode B_RM_decode_17
  refine s_canDecode zl200 (by omega) ci.1 ci.2.1 ci.2.2.1 v.1 (fun r h1 t1 f1 g1 out => ?_)
  have c1 : RI h1 A := RI_keep ci (fun a b q => f1 a b (by omega) (by omega))
  have hF : ∀ a b, a < 197 ∨ a = 220 → h1 a b = h a b := by
    intro a b q
    rcases q with q | q
    · exact f1 a b (by omega) (by omega)
    · rw [q]; exact g1 b
  rcases out with ⟨q, rfl⟩ | ⟨q, rfl⟩
  · rw [if_neg (fun q2 => q2 q)] at eo
    refine ⟨fun q2 => absurd q2 (by decide), fun _ => s_refused (fun q3 => absurd q3 (by decide)) (fun _ => ⟨fun _ => ?_, fun q3 => absurd rfl q3⟩)⟩
    refine s_note v (RI_z c1) (fun h2 c2 f2 => ?_)
    refine s_decodeToP zl200 (by omega) v.1 q c2.2.2.1 (TKR_keep ((f2 _ _ (by omega) (by omega)).trans (zs_j (by omega))) (fun a b q1 q2 => (f2 _ _ (by omega) (by omega)).trans (zs_k (by omega))) t1) (fun h3 e3 f3 => ?_)
    exact rs_val hk eo (RI_set c2 (fun a b q => f3 a b (by omega)) e3) (by rw [f3 _ _ (by omega), f2 _ _ (by omega) (by omega), zs_eq]) (fun a b q => by rw [f3 a b (by omega), f2 a b (by omega) (by omega), zs0_f a b q, hF a b q]) (rP_ni e3)
  · rw [if_pos q] at eo
    refine ⟨fun _ => s_refused (fun _ => ⟨fun q3 => absurd q3 (by decide), fun _ => ?_⟩) (fun q3 => absurd q3 (by decide)), fun q2 => absurd rfl q2⟩
    exact rs_ex hk eo (by decide) (RI_z c1) zs_eq (fun a b q => by rw [zs0_f a b q, hF a b q])

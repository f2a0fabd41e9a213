theorem cT_np {h : zH} {t : Nat} {T : zT} (e : cT h t = T) : h t 3 = T.2.2.1 := by rw [← e]; rfl
theorem cT_nd {h : zH} {t : Nat} {T : zT} (e : cT h t = T) : h t 4 = T.2.2.2.1 := by rw [← e]; rfl
theorem cT_a {h : zH} {t : Nat} {T : zT} (e : cT h t = T) : h (t + 3) 0 = T.2.2.2.2.1 := by rw [← e]; rfl
theorem cT_b {h : zH} {t : Nat} {T : zT} (e : cT h t = T) : h (t + 3) 1 = T.2.2.2.2.2 := by rw [← e]; rfl
theorem cT_pl {h : zH} {t : Nat} {T : zT} (e : cT h t = T) {j : Nat} (hj : (j : Int) < T.2.2.1) : h (t + 1) j = T.1 j := by
  have := cT_np e
  rw [← e]
  exact (tr_at (f := h (t + 1)) (by omega)).symm
theorem cT_dg {h : zH} {t : Nat} {T : zT} (e : cT h t = T) {j : Nat} (hj : (j : Int) < T.2.2.2.1) : h (t + 2) j = T.2.1 j := by
  have := cT_nd e
  rw [← e]
  exact (tr_at (f := h (t + 2)) (by omega)).symm
/-- how many are taken; whether the tape is intact -/
def tn (c : Nat → Int) (T : zT) : Nat := (tk c T T.2.2.1.toNat).2.2.2
abbrev tin (c : Nat → Int) (T : zT) : Prop := ((tn c T : Nat) : Int) = T.2.2.1 ∧ (tk c T T.2.2.1.toNat).1 = 0 ∧ (tk c T T.2.2.1.toNat).2.1 = 512 ∧ (tk c T T.2.2.1.toNat).2.2.1 = 512
theorem tn_le {c : Nat → Int} {T : zT} (h : 0 ≤ T.2.2.1) : ((tn c T : Nat) : Int) ≤ T.2.2.1 := by
  have := tk_le (c := c) (T := T) (k := T.2.2.1.toNat)
  unfold tn
  omega
def TKC (h : zH) (q : Nat) (c : Nat → Int) (T : zT) : Prop :=
  (∀ k, k < 40 → h (q + 1) k = if k < tn c T then sy c T k else -9) ∧ (∀ k, k < 40 → h (q + 2) k = if k ≤ tn c T ∧ (k : Int) < T.2.2.1 then hd c T k else -9) ∧ (∀ k, k < 40 → h (q + 3) k = if k ≤ tn c T ∧ (k : Int) < T.2.2.1 then (tk c T k).1 else -9) ∧ (∀ k, k < 40 → h (q + 4) k = if k < tn c T then (tk c T k).1 - (tk c T (k + 1)).1 else -9)
  ∧ (h q 6 = if ((tn c T : Nat) : Int) < T.2.2.1 then ((tn c T : Nat) : Int) else -9) ∧ ((h q 7 = 1 ∧ tin c T) ∨ (h q 7 = 0 ∧ ¬ tin c T))
theorem s_takeAll {q t : Nat} (hq : 36 < q) (hqt : t + 3 < q ∨ q + 5 < t) {h : zH} {K : zH → Prop} {sc mc : Nat} {c : Nat → Int} (hv : VC sc mc c) (hC : TCs h c mc) {T : zT} (eT : cT h t = T) (hT : VT mc T) (hk : ∀ h', TKC h' q c T → (∀ a b, a < q ∨ q + 5 < a → h' a b = h a b) → K h') : M_Taking_takeAll q t 5 h K := by
  unfold M_Taking_takeAll
  refine yp1 40 (fun i h' => (∀ k, k < i → h' (q + 1) k = -9 ∧ h' (q + 2) k = -9 ∧ h' (q + 3) k = -9 ∧ h' (q + 4) k = -9) ∧ ∀ a b, a < q ∨ q + 5 < a → h' a b = h a b) ⟨fun k hk => by omega, fun a b _ => rfl⟩ ?_
  rintro i h1 L hi ⟨hA1, hB1⟩ hL
  show F_Taking_takeAll_2 K L q t 5 (i : Int) h1
  unfold F_Taking_takeAll_2
  simp only [Int.toNat_natCast]
  constructor
  · intro ci
    have ei : i = 40 := by omega
    subst ei
    clear hL
    rintro h2 rfl h3 rfl h4 rfl h5 rfl
    have hmc := hv.1
    obtain ⟨v1, v2, v3, v4, v5, v6⟩ := hT
    have hT : VT mc T := ⟨v1, v2, v3, v4, v5, v6⟩
    have b4 : zs (zs h1 (q + 5) 0 (h1 (t + 3) 0)) (q + 5) 1 (zs h1 (q + 5) 0 (h1 (t + 3) 0) (t + 3) 1) t 4 = T.2.2.2.1 := by
      rw [zs_k (by omega), zs_k (by omega), hB1 _ _ (by omega), cT_nd eT]
    rw [b4, zs_k (show t + 3 ≠ q + 5 by omega), hB1 (t + 3) 0 (by omega), hB1 (t + 3) 1 (by omega), cT_a eT, cT_b eT]
    refine yp1 40 (fun i h' => (i : Int) ≤ T.2.2.1 ∧ ((tk c T i).2.2.2 = i ∨ (tk c T i).2.2.2 + 1 = i) ∧ ((tk c T i).2.2.2 = i → h' q 5 = (tk c T i).1 ∧ h' (q + 5) 0 = (tk c T i).2.1 ∧ h' (q + 5) 1 = (tk c T i).2.2.1) ∧ (h' q 6 = if (tk c T i).2.2.2 < i then (((tk c T i).2.2.2 : Nat) : Int) else -9) ∧ (∀ k, k < 40 → h' (q + 1) k = if k < (tk c T i).2.2.2 then sy c T k else -9) ∧ (∀ k, k < 40 → h' (q + 2) k = if k ≤ (tk c T i).2.2.2 ∧ k < i then hd c T k else -9) ∧ (∀ k, k < 40 → h' (q + 3) k = if k ≤ (tk c T i).2.2.2 ∧ k < i then (tk c T k).1 else -9) ∧ (∀ k, k < 40 → h' (q + 4) k = if k < (tk c T i).2.2.2 then (tk c T k).1 - (tk c T (k + 1)).1 else -9) ∧ ∀ a b, a < q ∨ q + 5 < a → h' a b = h a b) ?_ ?_
    · refine ⟨v1.1, Or.inl rfl, fun _ => ⟨?_, ?_, ?_⟩, ?_, fun k hk => ?_, fun k hk => ?_, fun k hk => ?_, fun k hk => ?_, fun a b hab => ?_⟩
      · rw [zs_j (by omega), zs_eq]; rfl
      · rw [zs_k (by omega), zs_k (by omega), zs_j (by omega), zs_eq]; rfl
      · rw [zs_k (by omega), zs_k (by omega), zs_eq]; rfl
      · rw [zs_eq]; rfl
      · rw [zs_k (by omega), zs_k (by omega), zs_k (by omega), zs_k (by omega), (hA1 k hk).1, if_neg (show ¬ k < (tk c T 0).2.2.2 from Nat.not_lt_zero k)]
      · rw [zs_k (by omega), zs_k (by omega), zs_k (by omega), zs_k (by omega), (hA1 k hk).2.1, if_neg (by omega)]
      · rw [zs_k (by omega), zs_k (by omega), zs_k (by omega), zs_k (by omega), (hA1 k hk).2.2.1, if_neg (by omega)]
      · rw [zs_k (by omega), zs_k (by omega), zs_k (by omega), zs_k (by omega), (hA1 k hk).2.2.2, if_neg (show ¬ k < (tk c T 0).2.2.2 from Nat.not_lt_zero k)]
      · rw [zs_k (by omega), zs_k (by omega), zs_k (by omega), zs_k (by omega), hB1 a b hab]
    rintro i h6 L hi ⟨iN, hn, hH, h6f, r1, r2, r3, r4, hF⟩ hL
    show F_Taking_takeAll_86 K L q t 5 (i : Int) h6
    have et3 : h6 t 3 = T.2.2.1 := (hF t 3 (by omega)).trans (cT_np eT)
    have fin : ((tk c T i).2.2.2 < i ∨ (i : Int) = T.2.2.1) → B_Taking_takeAll_131 K q h6 := by
      intro hor
      have ek : tk c T T.2.2.1.toNat = tk c T i := by
        rcases hor with z | z
        · have := tk_stay z (d := T.2.2.1.toNat - i)
          rw [show i + (T.2.2.1.toNat - i) = T.2.2.1.toNat by omega] at this
          exact this
        · rw [show T.2.2.1.toNat = i by omega]
      have etn : tn c T = (tk c T i).2.2.2 := by unfold tn; rw [ek]
      have all : ∀ v : Int, (v = 1 ∧ tin c T) ∨ (v = 0 ∧ ¬ tin c T) → K (zs h6 q 7 v) := by
        intro v hv7
        refine hk _ ⟨fun k hk => ?_, fun k hk => ?_, fun k hk => ?_, fun k hk => ?_, ?_, ?_⟩ (fun a b hab => ?_)
        · rw [zs_k (by omega), r1 k hk, etn]
        · rw [zs_k (by omega), r2 k hk, etn]
          by_cases z : k ≤ (tk c T i).2.2.2 ∧ k < i
          · rw [if_pos z, if_pos (by omega)]
          · rw [if_neg z, if_neg (by omega)]
        · rw [zs_k (by omega), r3 k hk, etn]
          by_cases z : k ≤ (tk c T i).2.2.2 ∧ k < i
          · rw [if_pos z, if_pos (by omega)]
          · rw [if_neg z, if_neg (by omega)]
        · rw [zs_k (by omega), r4 k hk, etn]
        · rw [zs_j (by omega), h6f, etn]
          by_cases z : (tk c T i).2.2.2 < i
          · rw [if_pos z, if_pos (by omega)]
          · rw [if_neg z, if_neg (by omega)]
        · rw [zs_eq]; exact hv7
        · rw [zs_k (by omega), hF a b hab]
      unfold B_Taking_takeAll_131
      by_cases z : (tk c T i).2.2.2 < i
      · have nt : ¬ tin c T := by unfold tin; rw [etn]; omega
        rw [h6f, if_pos z]
        refine ⟨fun _ => ?_, fun e => by omega⟩
        rintro h7 rfl
        exact all 0 (Or.inr ⟨rfl, nt⟩)
      · rw [h6f, if_neg z]
        obtain ⟨e1, e2, e3⟩ := hH (by omega)
        have nt : tin c T ↔ ((tk c T i).1 = 0 ∧ (tk c T i).2.1 = 512 ∧ (tk c T i).2.2.1 = 512) := by
          unfold tin
          rw [etn, ek]
          refine ⟨fun w => w.2, fun w => ⟨by omega, w⟩⟩
        rw [e1, e2, e3]
        refine ⟨fun e => absurd rfl e, fun _ => ⟨fun c1 => ?_, fun c1 => ⟨fun c2 => ?_, fun c2 => ⟨fun c3 => ?_, fun c3 => ?_⟩⟩⟩⟩
        · rintro h7 rfl
          exact all 0 (Or.inr ⟨rfl, fun w => c1 (nt.mp w).1⟩)
        · rintro h7 rfl
          exact all 0 (Or.inr ⟨rfl, fun w => c2 (nt.mp w).2.1⟩)
        · rintro h7 rfl
          exact all 0 (Or.inr ⟨rfl, fun w => c3 (nt.mp w).2.2⟩)
        · rintro h7 rfl
          exact all 1 (Or.inl ⟨rfl, nt.mpr ⟨c1, c2, c3⟩⟩)
    unfold F_Taking_takeAll_86
    rw [et3]
    simp only [Int.toNat_natCast]
    refine ⟨fun c1 => fin (Or.inr (by omega)), fun c1 => ⟨fun c2 => by omega, fun c2 => ⟨fun c3 => fin (Or.inl ?_), fun c3 => ⟨by omega, ?_⟩⟩⟩⟩
    · by_cases z : (tk c T i).2.2.2 < i
      · exact z
      · rw [h6f, if_neg z] at c3; exact absurd rfl c3
    have hni : (tk c T i).2.2.2 = i := by
      by_cases z : (tk c T i).2.2.2 < i
      · rw [h6f, if_pos z] at c3; omega
      · omega
    rw [hF (t + 1) i (by omega), cT_pl eT c1]
    have hp := v3 i c1
    apply s_of (by omega)
    obtain ⟨e1, e2, e3⟩ := hH hni
    obtain ⟨k1, k2, k3⟩ := tk_ok hv hT iN
    have kh := hd_ok hv hT iN
    obtain ⟨f1, f2, f3⟩ := VC_f hv (show (T.1 i).toNat < mc by omega)
    have eh : h6 (q + 5) (i % 2) = hd c T i := by
      unfold hd
      by_cases z : i % 2 = 0
      · rw [if_pos z, z, e2]
      · rw [if_neg z, show i % 2 = 1 by omega, e3]
    have hC6 : TC h6 (7 + 10 * (T.1 i).toNat) (cm c (T.1 i).toNat) := by
      obtain ⟨y1, y2, y3⟩ := hC (T.1 i).toNat (by omega)
      refine ⟨fun s hs => ?_, fun b hb => ?_, fun k hk => ?_⟩
      · rw [hF _ _ (by omega)]; exact y1 s hs
      · rw [hF _ _ (by omega), hF _ _ (by omega)]; exact y2 b hb
      · rw [hF _ _ (by omega), hF _ _ (by omega), hF _ _ (by omega)]; exact y3 k hk
    refine s_takeSymbol (by omega) hqt (by omega) hC6 f1 f2 f3 kh k1 v2.2 eh e1 ((hF t 4 (by omega)).trans (cT_nd eT)) (fun j hj => (hF _ _ (by omega)).trans (cT_dg eT hj)) v4 ?_ ?_
    · intro hlt h7 a1 a2 a3 a4
      have etk := tk_fail hni hlt
      refine ⟨by omega, hL _ (by omega) ⟨by omega, Or.inr (by rw [etk]; omega), fun z => by rw [etk] at z; omega, ?_, fun k hk => ?_, fun k hk => ?_, fun k hk => ?_, fun k hk => ?_, fun a b hab => ?_⟩⟩
      · rw [etk, if_pos (by omega), a1, hni]
      · rw [etk, a4 _ _ (by omega) (by omega) (by omega)]; exact r1 k hk
      · rw [etk]
        by_cases z : k = i
        · subst z; rw [a2, if_pos (by omega)]
        · rw [a4 _ _ (by omega) (by omega) (by omega), r2 k hk]
          by_cases z2 : k ≤ (tk c T i).2.2.2 ∧ k < i
          · rw [if_pos z2, if_pos (by omega)]
          · rw [if_neg z2, if_neg (by omega)]
      · rw [etk]
        by_cases z : k = i
        · subst z; rw [a3, if_pos (by omega)]
        · rw [a4 _ _ (by omega) (by omega) (by omega), r3 k hk]
          by_cases z2 : k ≤ (tk c T i).2.2.2 ∧ k < i
          · rw [if_pos z2, if_pos (by omega)]
          · rw [if_neg z2, if_neg (by omega)]
      · rw [etk, a4 _ _ (by omega) (by omega) (by omega)]; exact r4 k hk
      · rw [a4 _ _ (by omega) (by omega) (by omega)]; exact hF a b hab
    · intro hge h7 a1 a2 a3 a4 a5 a6 a7
      have etk := tk_go hni hge
      have en : (tk c T (i + 1)).2.2.2 = i + 1 := by rw [etk]
      have el : (tk c T (i + 1)).1 = (tV c T i).2 := by rw [etk]
      refine ⟨by omega, hL _ (by omega) ⟨by omega, Or.inl en, fun _ => ⟨?_, ?_, ?_⟩, ?_, fun k hk => ?_, fun k hk => ?_, fun k hk => ?_, fun k hk => ?_, fun a b hab => ?_⟩⟩
      · rw [a1, el]; rfl
      · rw [etk]
        show _ = if i % 2 = 0 then _ else _
        by_cases z : i % 2 = 0
        · rw [z] at a6; rw [if_pos z, a6]; rfl
        · rw [if_neg z, a7 _ _ (by omega) (by omega) (by omega) (by omega) (by omega) (by omega)]; exact e2
      · rw [etk]
        show _ = if i % 2 = 0 then _ else _
        by_cases z : i % 2 = 0
        · rw [if_pos z, a7 _ _ (by omega) (by omega) (by omega) (by omega) (by omega) (by omega)]; exact e3
        · rw [show i % 2 = 1 by omega] at a6; rw [if_neg z, a6]; rfl
      · rw [if_neg (by omega), a7 _ _ (by omega) (by omega) (by omega) (by omega) (by omega) (by omega)]; exact c3
      · rw [en]
        by_cases z : k = i
        · subst z; rw [a2, if_pos (by omega)]; rfl
        · rw [a7 _ _ (by omega) (by omega) (by omega) (by omega) (by omega) (by omega), r1 k hk, hni]
          by_cases z2 : k < i
          · rw [if_pos z2, if_pos (by omega)]
          · rw [if_neg z2, if_neg (by omega)]
      · rw [en]
        by_cases z : k = i
        · subst z; rw [a3, if_pos (by omega)]
        · rw [a7 _ _ (by omega) (by omega) (by omega) (by omega) (by omega) (by omega), r2 k hk, hni]
          by_cases z2 : k < i
          · rw [if_pos (by omega), if_pos (by omega)]
          · rw [if_neg (by omega), if_neg (by omega)]
      · rw [en]
        by_cases z : k = i
        · subst z; rw [a4, if_pos (by omega)]
        · rw [a7 _ _ (by omega) (by omega) (by omega) (by omega) (by omega) (by omega), r3 k hk, hni]
          by_cases z2 : k < i
          · rw [if_pos (by omega), if_pos (by omega)]
          · rw [if_neg (by omega), if_neg (by omega)]
      · rw [en]
        by_cases z : k = i
        · subst z; rw [a5, if_pos (by omega), el]; rfl
        · rw [a7 _ _ (by omega) (by omega) (by omega) (by omega) (by omega) (by omega), r4 k hk, hni]
          by_cases z2 : k < i
          · rw [if_pos z2, if_pos (by omega)]
          · rw [if_neg z2, if_neg (by omega)]
      · rw [a7 _ _ (by omega) (by omega) (by omega) (by omega) (by omega) (by omega)]; exact hF a b hab
  · intro ci
    repeat' (first | with_reducible apply And.intro | (with_reducible intro hh ee; subst ee) | with_reducible intro cc)
    all_goals (try omega)
    refine hL _ (by omega) ⟨fun k hk => ?_, fun a b hab => ?_⟩
    · by_cases e : k = i
      · subst e
        refine ⟨?_, ?_, ?_, ?_⟩
        · rw [zs_k (by omega), zs_k (by omega), zs_k (by omega), zs_eq]
        · rw [zs_k (by omega), zs_k (by omega), zs_eq]
        · rw [zs_k (by omega), zs_eq]
        · rw [zs_eq]
      · rw [zs_j e, zs_j e, zs_j e, zs_j e, zs_j e, zs_j e, zs_j e, zs_j e, zs_j e, zs_j e, zs_j e, zs_j e, zs_j e, zs_j e, zs_j e, zs_j e]
        exact hA1 k (by omega)
    · rw [zs_k (by omega), zs_k (by omega), zs_k (by omega), zs_k (by omega), hB1 a b hab]

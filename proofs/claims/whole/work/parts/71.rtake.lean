theorem rT_np {h : zH} {c o : Nat} {T : zT} (e : rT h c o = T) : h c (o + 189) = T.2.2.1 := by rw [← e]; rfl
theorem rT_nd {h : zH} {c o : Nat} {T : zT} (e : rT h c o = T) : h c (o + 190) = T.2.2.2.1 := by rw [← e]; rfl
theorem rT_a {h : zH} {c o : Nat} {T : zT} (e : rT h c o = T) : h c (o + 191) = T.2.2.2.2.1 := by rw [← e]; rfl
theorem rT_b {h : zH} {c o : Nat} {T : zT} (e : rT h c o = T) : h c (o + 192) = T.2.2.2.2.2 := by rw [← e]; rfl
theorem rT_pl {h : zH} {c o : Nat} {T : zT} (e : rT h c o = T) {j : Nat} (hj : (j : Int) < T.2.2.1) : h c (o + 64 + j) = T.1 j := by
  have := rT_np e
  rw [← e]
  exact (tr_at (f := fun j => h c (o + 64 + j)) (by omega)).symm
theorem rT_dg {h : zH} {c o : Nat} {T : zT} (e : rT h c o = T) {j : Nat} (hj : (j : Int) < T.2.2.2.1) : h c (o + 104 + j) = T.2.1 j := by
  have := rT_nd e
  rw [← e]
  exact (tr_at (f := fun j => h c (o + 104 + j)) (by omega)).symm
def TKR (h : zH) (p : Nat) (c : Nat → Int) (T : zT) : Prop := h p 27 = ((tn c T : Nat) : Int) ∧ (∀ k, k < tn c T → h (p + 17) k = sy c T k) ∧ (∀ k, k ≤ tn c T → (k : Int) < T.2.2.1 → h (p + 18) k = hd c T k) ∧ (∀ k, k ≤ tn c T → h (p + 19) k = (tk c T k).1)
theorem s_rtake {p p1 : Nat} (hl : zln p1 = 193) (hp : p < p1 ∧ p1 < p + 6) {h : zH} {K : Int → zH → Prop} {sc mc : Nat} {c : Nat → Int} (hv : VC sc mc c) (hC : TR h p c mc) {T : zT} (eT : rT h p1 0 = T) (hT : VT mc T) (hk : ∀ r h', (r = 1 ∧ tin c T) ∨ (r = 0 ∧ ¬ tin c T) → TKR h' p c T → (∀ a b, ¬ (a = p ∧ b = 27) → a ≠ p + 17 → a ≠ p + 18 → a ≠ p + 19 → h' a b = h a b) → K r h') : M_RM_take p p1 h K := by
  obtain ⟨v1, v2, v3, v4, v5, v6⟩ := hT
  have hT : VT mc T := ⟨v1, v2, v3, v4, v5, v6⟩
  have hmc := hv.1
  have n0 : h p1 189 = T.2.2.1 := rT_np eT
  have n1 : h p1 190 = T.2.2.2.1 := rT_nd eT
  have n2 : h p1 191 = T.2.2.2.2.1 := rT_a eT
  have n3 : h p1 192 = T.2.2.2.2.2 := rT_b eT
  have n4 : ∀ j : Nat, (j : Int) < T.2.2.1 → h p1 (64 + j) = T.1 j := fun j hj => by have := rT_pl eT hj; rw [Nat.zero_add] at this; exact this
  have n5 : ∀ j : Nat, (j : Int) < T.2.2.2.1 → h p1 (104 + j) = T.2.1 j := fun j hj => by have := rT_dg eT hj; rw [Nat.zero_add] at this; exact this
  unfold M_RM_take
  rw [hl, n1, n2, n3]
  refine ⟨by omega, ?_⟩
  intro x2 ex2
  subst x2
  refine ⟨by omega, ?_⟩
  intro x3 ex3
  subst x3
  refine ⟨by omega, ?_⟩
  intro x4 ex4
  subst x4
  rintro h1 rfl h2 rfl
  refine ypG 40 (fun i s => ∃ h', s = ((tk c T i).1, (tk c T i).2.1, (tk c T i).2.2.1, (i : Int), h') ∧ (i : Int) ≤ T.2.2.1 ∧ (tk c T i).2.2.2 = i ∧ h' p 27 = (i : Int) ∧ (∀ k, k < i → h' (p + 17) k = sy c T k ∧ h' (p + 18) k = hd c T k) ∧ (∀ k, k ≤ i → h' (p + 19) k = (tk c T k).1) ∧ ∀ a b, ¬ (a = p ∧ b = 27) → a ≠ p + 17 → a ≠ p + 18 → a ≠ p + 19 → h' a b = h a b) ⟨_, rfl, by show (0 : Int) ≤ _; omega, rfl, ?_, fun k hk => by omega, fun k hk => ?_, fun a b z1 z2 z3 z4 => ?_⟩ ?_
  · rw [zs_k (by omega), zs_eq]; rfl
  · rw [show k = 0 by omega, zs_eq]; rfl
  · rw [zs_k z4]; unfold zs; rw [if_neg z1]
  rintro i _ L hi ⟨h3, rfl, iN, hni, m27, rA, rB, hF⟩ hL
  show F_RM_take_34 K L p p1 (tk c T i).1 (tk c T i).2.1 (tk c T i).2.2.1 (i : Int) h3
  obtain ⟨k1, k2, k3⟩ := tk_ok hv hT iN
  have kh := hd_ok hv hT iN
  unfold F_RM_take_34
  rw [hl, hF p1 189 (by omega) (by omega) (by omega) (by omega), n0]
  refine ⟨by omega, fun ci => ?_, fun ci => ⟨by omega, by omega, ?_⟩⟩
  · have ek : T.2.2.1.toNat = i := by omega
    have etn : tn c T = i := by unfold tn; rw [ek]; exact hni
    have nt : tin c T ↔ ((tk c T i).1 = 0 ∧ (tk c T i).2.1 = 512 ∧ (tk c T i).2.2.1 = 512) := by
      unfold tin
      rw [etn, ek]
      refine ⟨fun w => w.2, fun w => ⟨by omega, w⟩⟩
    have hR : TKR h3 p c T := by
      unfold TKR
      rw [etn]
      exact ⟨m27, fun k hk => (rA k hk).1, fun k hk hkn => (rA k (by omega)).2, rB⟩
    refine ⟨fun c1 => hk 0 _ (Or.inr ⟨rfl, fun w => c1 (nt.mp w).2.1⟩) hR hF, fun c1 => ⟨fun c2 => hk 0 _ (Or.inr ⟨rfl, fun w => c2 (nt.mp w).2.2⟩) hR hF, fun c2 => ⟨fun c3 => hk 0 _ (Or.inr ⟨rfl, fun w => c3 (nt.mp w).1⟩) hR hF, fun c3 => hk 1 _ (Or.inl ⟨rfl, nt.mpr ⟨c3, c1, c2⟩⟩) hR hF⟩⟩⟩
  rw [show (64 + (i : Int)).toNat = 64 + i by omega, hF p1 _ (by omega) (by omega) (by omega) (by omega), n4 i ci]
  intro x6 ex6
  subst x6
  have hp3 := v3 i ci
  obtain ⟨f1, f2, f3⟩ := VC_f hv (show (T.1 i).toNat < mc by omega)
  obtain ⟨t1, t2, t3⟩ := hC (T.1 i).toNat (by omega)
  have e32 : (hd c T i % 32).toNat < 32 := by omega
  have r := fS_range f1 f2 e32
  have ir := fI_range f1 f2 e32
  obtain ⟨x1, x2, x3, x4⟩ := tX_ok f1 f2 f3 kh
  have key : B_RM_take_66 K L p p1 (tk c T i).1 (tk c T i).2.1 (tk c T i).2.2.1 (i : Int) (T.1 i) (hd c T i) h3 := by
    unfold B_RM_take_66
    simp only [Int.toNat_natCast]
    refine ⟨by omega, ?_⟩
    rintro h4 rfl
    refine ⟨by omega, ?_⟩
    rintro h5 rfl
    have g5 : ∀ a b, ¬ (a = p ∧ b = 27) → a ≠ p + 17 → a ≠ p + 18 → a ≠ p + 19 → zs (zs h3 (p + 18) i (hd c T i)) (p + 19) i (tk c T i).1 a b = h a b := fun a b y1 y2 y3 y4 => by rw [zs_k y4, zs_k y3]; exact hF a b y1 y2 y3 y4
    refine ⟨by omega, ?_⟩
    rintro x8 rfl
    have e12 : (32 * T.1 i + hd c T i % 32).toNat = 32 * (T.1 i).toNat + (hd c T i % 32).toNat := by omega
    rw [e12, g5 (p + 12) _ (by omega) (by omega) (by omega) (by omega), (t3 _ e32).1]
    refine ⟨by omega, by omega, by omega, ?_⟩
    rintro x9 rfl
    have e8 : (8 * T.1 i + fS (fF (cm c (T.1 i).toNat)) (hd c T i % 32).toNat).toNat = 8 * (T.1 i).toNat + (fS (fF (cm c (T.1 i).toNat)) (hd c T i % 32).toNat).toNat := by omega
    rw [e8, g5 (p + 9) _ (by omega) (by omega) (by omega) (by omega), t1 _ (by omega), g5 (p + 13) _ (by omega) (by omega) (by omega) (by omega), (t3 _ e32).2.1]
    have etx : fF (cm c (T.1 i).toNat) (fS (fF (cm c (T.1 i).toNat)) (hd c T i % 32).toNat).toNat * (hd c T i / 32) + fI (fF (cm c (T.1 i).toNat)) (hd c T i % 32).toNat = tX (fF (cm c (T.1 i).toNat)) (hd c T i) := rfl
    rw [etx]
    refine ⟨by omega, by omega, by omega, by omega, by omega, by omega, by omega, by omega, by omega, ?_⟩
    rintro y rfl
    have hq1 : 16 ≤ (tX (fF (cm c (T.1 i).toNat)) (hd c T i), (tk c T i).1).1 ∧ (tX (fF (cm c (T.1 i).toNat)) (hd c T i), (tk c T i).1).1 ≤ 8191 := ⟨x1, x2⟩
    have hq2 : 0 ≤ (tX (fF (cm c (T.1 i).toNat)) (hd c T i), (tk c T i).1).2 ∧ (tX (fF (cm c (T.1 i).toNat)) (hd c T i), (tk c T i).1).2 ≤ T.2.2.2.1 := k1
    have hcase := wN_two v4 hq1 hq2
    refine ypG 2 (fun s z => z = ((wN T.2.1 (tX (fF (cm c (T.1 i).toNat)) (hd c T i), (tk c T i).1) s).2, (wN T.2.1 (tX (fF (cm c (T.1 i).toNat)) (hd c T i), (tk c T i).1) s).1, zs (zs h3 (p + 18) i (hd c T i)) (p + 19) i (tk c T i).1)) rfl ?_
    rintro s _ L' hs rfl hL'
    show F_RM_take_142 K L L' p p1 (tk c T i).2.1 (tk c T i).2.2.1 (i : Int) (fS (fF (cm c (T.1 i).toNat)) (hd c T i % 32).toNat) (wN T.2.1 (tX (fF (cm c (T.1 i).toNat)) (hd c T i), (tk c T i).1) s).2 (wN T.2.1 (tX (fF (cm c (T.1 i).toNat)) (hd c T i), (tk c T i).1) s).1 (zs (zs h3 (p + 18) i (hd c T i)) (p + 19) i (tk c T i).1)
    obtain ⟨w2, w3⟩ := wN_ok v4 hq1 hq2 s
    have w3' : (wN T.2.1 (tX (fF (cm c (T.1 i).toNat)) (hd c T i), (tk c T i).1) s).2 ≤ (tk c T i).1 := w3.2
    have fin : (512 ≤ (wN T.2.1 (tX (fF (cm c (T.1 i).toNat)) (hd c T i), (tk c T i).1) s).1 ∨ (wN T.2.1 (tX (fF (cm c (T.1 i).toNat)) (hd c T i), (tk c T i).1) s).2 ≤ 0) → B_RM_take_174 K L p p1 (wN T.2.1 (tX (fF (cm c (T.1 i).toNat)) (hd c T i), (tk c T i).1) s).2 (tk c T i).2.1 (tk c T i).2.2.1 (i : Int) (wN T.2.1 (tX (fF (cm c (T.1 i).toNat)) (hd c T i), (tk c T i).1) s).1 (fS (fF (cm c (T.1 i).toNat)) (hd c T i % 32).toNat) (zs (zs h3 (p + 18) i (hd c T i)) (p + 19) i (tk c T i).1) := by
      intro hor
      have ew : tV c T i = wN T.2.1 (tX (fF (cm c (T.1 i).toNat)) (hd c T i), (tk c T i).1) s := by
        have := wN_fix hor (d := 2 - s)
        rw [show s + (2 - s) = 2 by omega] at this
        exact this
      rw [← ew]
      unfold B_RM_take_174
      rw [show ((i : Int) + 1).toNat = i + 1 by omega]
      simp only [Int.toNat_natCast]
      refine ⟨fun c5 => ⟨by omega, ?_⟩, fun c5 => ?_⟩
      · have etk := tk_go hni c5
        rintro h6 rfl
        refine ⟨by omega, ?_⟩
        rintro h7 rfl
        refine ⟨by omega, by omega, ?_⟩
        rintro h8 rfl
        refine ⟨by omega, ?_⟩
        have en : (tk c T (i + 1)).2.2.2 = i + 1 := by rw [etk]
        have last : L ((tk c T (i + 1)).1, (tk c T (i + 1)).2.1, (tk c T (i + 1)).2.2.1, (i : Int) + 1, zs (zs (zs (zs (zs h3 (p + 18) i (hd c T i)) (p + 19) i (tk c T i).1) (p + 17) i (fS (fF (cm c (T.1 i).toNat)) (hd c T i % 32).toNat)) p 27 ((i : Int) + 1)) (p + 19) (i + 1) (tV c T i).2) := by
          refine hL _ (by omega) ⟨_, rfl, by omega, en, ?_, fun k hk => ⟨?_, ?_⟩, fun k hk => ?_, fun a b y1 y2 y3 y4 => ?_⟩
          · rw [zs_k (by omega), zs_eq]; omega
          · rw [zs_k (by omega), zs_k (by omega)]
            by_cases z : k = i
            · rw [z, zs_eq]; rfl
            · rw [zs_j z, zs_j z, zs_j z]; exact (rA k (by omega)).1
          · rw [zs_k (by omega), zs_k (by omega), zs_k (by omega), zs_k (by omega)]
            by_cases z : k = i
            · rw [z, zs_eq]
            · rw [zs_j z]; exact (rA k (by omega)).2
          · by_cases z : k = i + 1
            · rw [z, zs_eq, etk]
            · rw [zs_j z, zs_k (by omega), zs_k (by omega)]
              by_cases z2 : k = i
              · rw [z2, zs_eq]
              · rw [zs_j z2, zs_k (by omega)]; exact rB k (by omega)
          · rw [zs_k y4]
            have : zs (zs (zs (zs h3 (p + 18) i (hd c T i)) (p + 19) i (tk c T i).1) (p + 17) i (fS (fF (cm c (T.1 i).toNat)) (hd c T i % 32).toNat)) p 27 ((i : Int) + 1) a b = zs (zs (zs h3 (p + 18) i (hd c T i)) (p + 19) i (tk c T i).1) (p + 17) i (fS (fF (cm c (T.1 i).toNat)) (hd c T i % 32).toNat) a b := by
              unfold zs
              rw [if_neg y1]
            rw [this, zs_k y2]
            exact g5 a b y1 y2 y3 y4
        rw [etk] at last
        unfold B_RM_take_224
        refine ⟨fun c6 => ⟨by omega, fun c7 => ⟨by omega, ?_⟩, fun c7 => ⟨by omega, ?_⟩⟩, fun c6 => ⟨by omega, fun c7 => ⟨by omega, ?_⟩, fun c7 => by omega⟩⟩
        · omega
        · have z : ¬ i % 2 = 0 := by omega
          simp only [if_neg z] at last
          exact last
        · have z : i % 2 = 0 := by omega
          simp only [if_pos z] at last
          exact last
      · have etk := tk_fail hni c5
        have etn : tn c T = i := by
          unfold tn
          have := tk_stay (c := c) (T := T) (k := i + 1) (by rw [etk]; omega) (d := T.2.2.1.toNat - (i + 1))
          rw [show i + 1 + (T.2.2.1.toNat - (i + 1)) = T.2.2.1.toNat by omega] at this
          rw [this, etk, hni]
        have nt : ¬ tin c T := by unfold tin; rw [etn]; omega
        refine hk 0 _ (Or.inr ⟨rfl, nt⟩) ?_ (fun a b y1 y2 y3 y4 => g5 a b y1 y2 y3 y4)
        unfold TKR
        rw [etn]
        refine ⟨?_, fun k hk => ?_, fun k hk hkn => ?_, fun k hk => ?_⟩
        · rw [zs_k (by omega), zs_k (by omega)]; exact m27
        · rw [zs_k (by omega), zs_k (by omega)]; exact (rA k hk).1
        · rw [zs_k (by omega)]
          by_cases z : k = i
          · rw [z, zs_eq]
          · rw [zs_j z]; exact (rA k (by omega)).2
        · by_cases z : k = i
          · rw [z, zs_eq]
          · rw [zs_j z, zs_k (by omega)]; exact rB k hk
    unfold F_RM_take_142
    rw [hl]
    refine ⟨fun c5 => fin (Or.inl c5), fun c5 => ⟨fun c6 => fin (Or.inr c6), fun c6 => ?_⟩⟩
    have hs2 : s ≠ 2 := fun e => by rw [e] at c5 c6; omega
    have e14 : (104 + ((wN T.2.1 (tX (fF (cm c (T.1 i).toNat)) (hd c T i), (tk c T i).1) s).2 + -1)).toNat = 104 + ((wN T.2.1 (tX (fF (cm c (T.1 i).toNat)) (hd c T i), (tk c T i).1) s).2 - 1).toNat := by omega
    have d15 := v4 ((wN T.2.1 (tX (fF (cm c (T.1 i).toNat)) (hd c T i), (tk c T i).1) s).2 - 1).toNat (by omega)
    rw [e14, g5 p1 _ (by omega) (by omega) (by omega) (by omega), n5 _ (by omega)]
    refine ⟨by omega, by omega, by omega, by omega, by omega, ?_⟩
    rintro y rfl
    refine hL' _ (by omega) ?_
    have enx : wN T.2.1 (tX (fF (cm c (T.1 i).toNat)) (hd c T i), (tk c T i).1) (s + 1) = (16 * (wN T.2.1 (tX (fF (cm c (T.1 i).toNat)) (hd c T i), (tk c T i).1) s).1 + T.2.1 ((wN T.2.1 (tX (fF (cm c (T.1 i).toNat)) (hd c T i), (tk c T i).1) s).2 - 1).toNat, (wN T.2.1 (tX (fF (cm c (T.1 i).toNat)) (hd c T i), (tk c T i).1) s).2 - 1) := if_pos ⟨c5, c6⟩
    rw [enx]
    rfl
  refine ⟨by omega, fun c5 => ?_, fun c5 => ?_⟩
  · rw [show hd c T i = (tk c T i).2.2.1 from if_neg (by omega)] at key
    exact key
  · rw [show hd c T i = (tk c T i).2.1 from if_pos (by omega)] at key
    exact key

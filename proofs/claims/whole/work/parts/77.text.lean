/-! reading the text -/
def chr (tx : Nat → Int) (len pos : Nat) : Int := if pos < len then tx pos else -1
def dgt (tx : Nat → Int) (len pos : Nat) : Int := if 48 ≤ chr tx len pos ∧ chr tx len pos ≤ 57 then chr tx len pos - 48 else -9
def gk (d : Nat → Int) (sc k : Nat) : Int := if d k = -9 then 0 else if k + 1 = 2 * sc ∧ sm d k + d k = 0 then 0 else 1
def cf (d : Nat → Int) (sc : Nat) : Int := fz (gk d sc) (2 * sc)
theorem dgt_ok {tx : Nat → Int} {len pos : Nat} : dgt tx len pos = -9 ∨ (0 ≤ dgt tx len pos ∧ dgt tx len pos ≤ 9) := by
  unfold dgt
  split <;> omega
theorem fz_in {g : Nat → Int} {b n : Nat} (h1 : fz g b = -9) (h2 : g b = 0) (hb : b < n) : fz g n = (b : Int) := by
  have := fz_found h1 h2 (d := n - (b + 1))
  rw [show b + 1 + (n - (b + 1)) = n by omega] at this
  exact this
/-- the text stands in the class -/
def Ct (h : zH) (p len : Nat) (tx : Nat → Int) : Prop := h p 3 = (len : Int) ∧ len ≤ 100 ∧ (∀ j, j < len → h (p + 1) j = tx j) ∧ ∀ j, j < len → 0 ≤ tx j ∧ tx j ≤ 255
theorem chr_ok {h : zH} {p len : Nat} {tx : Nat → Int} (hT : Ct h p len tx) (pos : Nat) : -1 ≤ chr tx len pos ∧ chr tx len pos ≤ 255 := by
  unfold chr
  split
  · have := hT.2.2.2 pos (by assumption); omega
  · omega
theorem s_here {p len pos : Nat} {tx : Nat → Int} {h : zH} {K : Int → zH → Prop} (hT : Ct h p len tx) (ep : h p 7 = (pos : Int)) (hk : K (chr tx len pos) h) : M_Text_here p h K := by
  obtain ⟨e3, l100, hx, -⟩ := hT
  unfold M_Text_here
  rw [ep, e3]
  simp only [Int.toNat_natCast]
  refine ⟨fun c => by omega, fun _ => ⟨fun c => ?_, fun c => ⟨fun c2 => by omega, fun c2 => ⟨by omega, ?_⟩⟩⟩⟩
  · rw [show chr tx len pos = -1 from if_neg (by omega)] at hk; exact hk
  · rw [hx pos (by omega)]
    rw [show chr tx len pos = tx pos from if_pos (by omega)] at hk; exact hk
theorem s_digitHere {p len pos : Nat} {tx : Nat → Int} {h : zH} {K : Int → zH → Prop} (hT : Ct h p len tx) (ep : h p 7 = (pos : Int)) (hk : K (dgt tx len pos) h) : M_Text_digitHere p h K := by
  unfold M_Text_digitHere
  refine s_here hT ep ?_
  have ed : dgt tx len pos = if 48 ≤ chr tx len pos ∧ chr tx len pos ≤ 57 then chr tx len pos - 48 else -9 := rfl
  refine ⟨fun c => ?_, fun c => ⟨fun c2 => ?_, fun c2 => ⟨by omega, ?_⟩⟩⟩
  · rw [if_neg (by omega)] at ed; rw [ed] at hk; exact hk
  · rw [if_neg (by omega)] at ed; rw [ed] at hk; exact hk
  · rw [if_pos (by omega)] at ed; rw [ed] at hk; exact hk
theorem Ct_keep {h h' : zH} {p len : Nat} {tx : Nat → Int} (hT : Ct h p len tx) (e : h' p 3 = h p 3) (e1 : ∀ j, h' (p + 1) j = h (p + 1) j) : Ct h' p len tx :=
  ⟨e.trans hT.1, hT.2.1, fun j hj => (e1 j).trans (hT.2.2.1 j hj), hT.2.2.2⟩
def cnt (d : Nat → Int) (s : Nat) : Int := 10 * d (2 * s) + d (2 * s + 1)
theorem s_readCounts {p len pos m sc : Nat} {tx : Nat → Int} {h : zH} {K : Int → zH → Prop} (hT : Ct h p len tx) (ep : h p 7 = (pos : Int)) (hpos : pos ≤ 1000) (hm : m < 3) (hsc : 1 ≤ sc ∧ sc ≤ 8) (es : h p 4 = (sc : Int))
    (h1 : cf (fun j => dgt tx len (pos + j)) sc = -9 → ∀ h', h' p 7 = (pos : Int) + 2 * sc → (∀ s, s < sc → h' (p + 2) (8 * m + s) = cnt (fun j => dgt tx len (pos + j)) s) → (∀ a b, ¬ (a = p ∧ b = 7) → ¬ (a = p + 2 ∧ 8 * m ≤ b ∧ b < 8 * m + sc) → h' a b = h a b) → K 1 h')
    (h0 : cf (fun j => dgt tx len (pos + j)) sc ≠ -9 → ∀ h', h' p 7 = (pos : Int) + cf (fun j => dgt tx len (pos + j)) sc → (∀ a b, ¬ (a = p ∧ b = 7) → a ≠ p + 2 → h' a b = h a b) → K 0 h') : M_Text_readCounts p (m : Int) h K := by
  unfold M_Text_readCounts
  refine yp2 sc (fun i x h' => h' p 7 = (pos : Int) + 2 * i ∧ (0 ≤ sm (fun j => dgt tx len (pos + j)) (2 * i) ∧ sm (fun j => dgt tx len (pos + j)) (2 * i) ≤ x ∧ x ≤ 10 * sm (fun j => dgt tx len (pos + j)) (2 * i) ∧ x ≤ 99 * i) ∧ fz (gk (fun j => dgt tx len (pos + j)) sc) (2 * i) = -9 ∧ (∀ s, s < i → h' (p + 2) (8 * m + s) = cnt (fun j => dgt tx len (pos + j)) s) ∧ (∀ a b, ¬ (a = p ∧ b = 7) → ¬ (a = p + 2 ∧ 8 * m ≤ b ∧ b < 8 * m + i) → h' a b = h a b)) ⟨by rw [ep]; show _ = _ + 2 * (0 : Int); omega, ⟨by show (0 : Int) ≤ 0; omega, by show (0 : Int) ≤ 0; omega, by show (0 : Int) ≤ 10 * 0; omega, by show (0 : Int) ≤ 99 * 0; omega⟩, rfl, fun s hs => by omega, fun a b _ _ => rfl⟩ ?_
  rintro i x h2 L hi ⟨g7, ⟨b0, b1, b2, b3⟩, gz, gc, hF⟩ hL
  show F_Text_readCounts_4 K L p (m : Int) x (i : Int) h2
  have hT2 : Ct h2 p len tx := Ct_keep hT (hF _ _ (by omega) (by omega)) (fun j => hF _ _ (by omega) (by omega))
  have es2 : h2 p 4 = (sc : Int) := (hF _ _ (by omega) (by omega)).trans es
  unfold F_Text_readCounts_4
  rw [es2]
  refine ⟨fun ci => ?_, fun ci => ⟨fun c2 => by omega, fun _ => ?_⟩⟩
  · have ei : i = sc := by omega
    subst ei
    exact h1 gz h2 g7 gc hF
  · have d0 := dgt_ok (tx := tx) (len := len) (pos := pos + 2 * i)
    have d1 := dgt_ok (tx := tx) (len := len) (pos := pos + (2 * i + 1))
    have s1 : sm (fun j => dgt tx len (pos + j)) (2 * i + 1) = sm (fun j => dgt tx len (pos + j)) (2 * i) + dgt tx len (pos + 2 * i) := rfl
    have s2 : sm (fun j => dgt tx len (pos + j)) (2 * i + 1 + 1) = sm (fun j => dgt tx len (pos + j)) (2 * i + 1) + dgt tx len (pos + (2 * i + 1)) := rfl
    refine s_digitHere (pos := pos + 2 * i) hT2 (by rw [g7]; omega) ?_
    refine ⟨fun c3 => ⟨by omega, ?_⟩, fun c3 => ?fst⟩
    case fst =>
      have zz : gk (fun j => dgt tx len (pos + j)) sc (2 * i) = 0 := by
        unfold gk
        rw [if_pos c3]
      have efz : cf (fun j => dgt tx len (pos + j)) sc = ((2 * i : Nat) : Int) := fz_in gz zz (by omega)
      refine h0 (by omega) _ ?_ (fun a b q1 q2 => ?_)
      · rw [g7, efz]; omega
      · exact hF a b q1 (by omega)
    have z0 : gk (fun j => dgt tx len (pos + j)) sc (2 * i) ≠ 0 := by
      unfold gk
      rw [if_neg c3, if_neg (by omega)]
      decide
    have gz1 := fz_none gz z0
    rintro h3 rfl
    have hT3 : Ct (zs h2 p 7 (h2 p 7 + 1)) p len tx := Ct_keep hT2 (zs_j (by omega)) (fun j => zs_k (by omega))
    refine s_digitHere (pos := pos + (2 * i + 1)) hT3 (by rw [zs_eq, g7]; omega) ?_
    refine ⟨fun c4 => ⟨by omega, by omega, ?_⟩, fun c4 => ?_⟩
    · rintro x6 rfl
      refine ⟨by omega, ?_⟩
      rintro x2' rfl
      rw [zs_j (show 4 ≠ 7 by omega), es2]
      have ec : 10 * dgt tx len (pos + 2 * i) + dgt tx len (pos + (2 * i + 1)) = cnt (fun j => dgt tx len (pos + j)) i := rfl
      have good : gk (fun j => dgt tx len (pos + j)) sc (2 * i + 1) ≠ 0 → B_Text_readCounts_89 K L p (m : Int) (x + (10 * dgt tx len (pos + 2 * i) + dgt tx len (pos + (2 * i + 1)))) (i : Int) (10 * dgt tx len (pos + 2 * i) + dgt tx len (pos + (2 * i + 1))) (zs h2 p 7 (h2 p 7 + 1)) := by
        intro gg
        unfold B_Text_readCounts_89
        rw [zs_eq, g7]
        refine ⟨by omega, ?_⟩
        rintro h4 rfl
        rw [show ((m : Int) * 8 + (i : Int)).toNat = 8 * m + i by omega]
        refine ⟨by omega, by omega, by omega, ?_⟩
        rintro h5 rfl
        refine ⟨by omega, hL _ _ (by omega) ⟨?_, ⟨?_, ?_, ?_, ?_⟩, ?_, fun s hs => ?_, fun a b q1 q2 => ?_⟩⟩
        · rw [zs_k (by omega), zs_eq]; omega
        · rw [show 2 * (i + 1) = 2 * i + 1 + 1 by omega]; omega
        · rw [show 2 * (i + 1) = 2 * i + 1 + 1 by omega]; omega
        · rw [show 2 * (i + 1) = 2 * i + 1 + 1 by omega]; omega
        · omega
        · rw [show 2 * (i + 1) = 2 * i + 1 + 1 by omega]; exact fz_none gz1 gg
        · by_cases e : s = i
          · rw [e, zs_eq]; exact ec
          · rw [zs_j (by omega), zs_k (by omega), zs_k (by omega)]; exact gc s (by omega)
        · rw [← hF a b q1 (by omega)]
          unfold zs
          rw [if_neg (by omega), if_neg q1, if_neg q1]
      refine ⟨by omega, fun c5 => good ?_, fun c5 => ⟨fun c6 => good ?_, fun c6 => ?_⟩⟩
      · unfold gk; rw [if_neg c4, if_neg (by omega)]; decide
      · unfold gk; rw [if_neg c4, if_neg (by intro q; have q2 : sm (fun j => dgt tx len (pos + j)) (2 * i + 1) + dgt tx len (pos + (2 * i + 1)) = 0 := q.2; omega)]; decide
      · have zz : gk (fun j => dgt tx len (pos + j)) sc (2 * i + 1) = 0 := by
          unfold gk
          rw [if_neg c4, if_pos ⟨by omega, show sm (fun j => dgt tx len (pos + j)) (2 * i + 1) + dgt tx len (pos + (2 * i + 1)) = 0 by omega⟩]
        have efz : cf (fun j => dgt tx len (pos + j)) sc = ((2 * i + 1 : Nat) : Int) := fz_in gz1 zz (by omega)
        refine h0 (by omega) _ ?_ (fun a b q1 q2 => ?_)
        · rw [zs_eq, g7, efz]; omega
        · rw [← hF a b q1 (by omega)]; unfold zs; rw [if_neg q1]
    · have zz : gk (fun j => dgt tx len (pos + j)) sc (2 * i + 1) = 0 := by
        unfold gk
        rw [if_pos c4]
      have efz : cf (fun j => dgt tx len (pos + j)) sc = ((2 * i + 1 : Nat) : Int) := fz_in gz1 zz (by omega)
      refine h0 (by omega) _ ?_ (fun a b q1 q2 => ?_)
      · rw [zs_eq, g7, efz]; omega
      · rw [← hF a b q1 (by omega)]; unfold zs; rw [if_neg q1]

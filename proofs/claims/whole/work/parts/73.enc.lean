/-! putting symbols -/
def sO (f : Nat → Int) (s i : Int) : Nat → Int
  | 0 => 0
  | n + 1 => if fS f n = s ∧ fI f n = i then (n : Int) else sO f s i n
theorem sO_spec {f : Nat → Int} {s i : Int} : ∀ {n : Nat}, (∃ k, k < n ∧ fS f k = s ∧ fI f k = i) → ∃ k : Nat, k < n ∧ fS f k = s ∧ fI f k = i ∧ sO f s i n = (k : Int) := by
  intro n
  induction n with
  | zero => rintro ⟨k, hk, -⟩; omega
  | succ n ih =>
    rintro ⟨k, hk, e1, e2⟩
    by_cases z : fS f n = s ∧ fI f n = i
    · exact ⟨n, by omega, z.1, z.2, if_pos z⟩
    · have : k ≠ n := fun e => z (by rw [← e]; exact ⟨e1, e2⟩)
      obtain ⟨k', a, b, c, d⟩ := ih ⟨k, by omega, e1, e2⟩
      exact ⟨k', by omega, b, c, (if_neg z).trans d⟩
theorem sO_ok {f : Nat → Int} (f1 : ∀ j, j < 8 → 0 ≤ f j) (f2 : sm f 8 = 32) {s i : Int} (hs : 0 ≤ s ∧ s < 8) (hi : 0 ≤ i ∧ i < f s.toNat) : ∃ k : Nat, k < 32 ∧ fS f k = s ∧ fI f k = i ∧ sO f s i 32 = (k : Int) := by
  obtain ⟨k, hk, e1, e2⟩ := slot_find f1 f2 (s := s.toNat) (by omega) hi.1 hi.2
  exact sO_spec ⟨k, hk, by omega, e2⟩
theorem s_slotOf {pm : Nat} {h : zH} {K : Int → zH → Prop} {x1 x2 : Int} (h1 : 0 ≤ x1 ∧ x1 < 8) (h2 : 0 ≤ x2 ∧ x2 < 32) (hk : K (h (pm + 8) (x1 * 32 + x2).toNat) h) : M_Model_slotOf pm x1 x2 h K := by
  unfold M_Model_slotOf
  refine ⟨fun c => by omega, fun _ => ⟨fun c => by omega, fun _ => ⟨fun c => by omega, fun _ => ⟨fun c => by omega, fun _ => ?_⟩⟩⟩⟩
  unfold B_Model_slotOf_25
  exact ⟨fun c => absurd c (by decide), fun _ => ⟨by omega, by omega, by omega, hk⟩⟩
abbrev zQ3 : Type := Int × Int × (Nat → Int)
def u1 (w : Int) (q : zQ3) : zQ3 := if 256 * w ≤ q.1 then (q.1 / 16, q.2.1 + 1, zup q.2.2 q.2.1.toNat (q.1 % 16)) else q
def uN (w : Int) (q : zQ3) : Nat → zQ3
  | 0 => q
  | n + 1 => u1 w (uN w q n)
/-- what stands after n pushes -/
def UI (w : Int) (n0 : Int) (q : zQ3) : Prop := 16 * w ≤ q.1 ∧ q.1 ≤ 8191 ∧ 0 ≤ q.2.1 ∧ q.2.1 ≤ n0 ∧ ∀ j : Nat, (j : Int) < q.2.1 → 0 ≤ q.2.2 j ∧ q.2.2 j ≤ 15
theorem u1_ok {w : Int} (hw : 1 ≤ w ∧ w ≤ 32) {n0 : Int} {q : zQ3} (h : UI w n0 q) : UI w (n0 + 1) (u1 w q) := by
  obtain ⟨h1, h2, h3, h4, h5⟩ := h
  unfold u1
  split
  · rename_i c
    refine ⟨by show 16 * w ≤ q.1 / 16; omega, by show q.1 / 16 ≤ 8191; omega, by show 0 ≤ q.2.1 + 1; omega, by show q.2.1 + 1 ≤ n0 + 1; omega, fun j hj => ?_⟩
    have hj' : (j : Int) < q.2.1 + 1 := hj
    show 0 ≤ zup _ _ _ j ∧ zup _ _ _ j ≤ 15
    by_cases e : j = q.2.1.toNat
    · rw [e, zup_self]; omega
    · rw [zup_ne e]; exact h5 j (by omega)
  · exact ⟨h1, h2, h3, by omega, h5⟩
theorem uN_ok {w : Int} (hw : 1 ≤ w ∧ w ≤ 32) {n0 : Int} {q : zQ3} (h : UI w n0 q) : ∀ {n : Nat}, UI w (n0 + n) (uN w q n) := by
  intro n
  induction n with
  | zero => rw [show n0 + ((0 : Nat) : Int) = n0 by omega]; exact h
  | succ n ih => rw [show n0 + ((n + 1 : Nat) : Int) = n0 + n + 1 by omega]; exact u1_ok hw ih
theorem u1_fix {w : Int} {q : zQ3} (h : q.1 < 256 * w) : u1 w q = q := if_neg (by omega)
theorem uN_fix {w : Int} {q : zQ3} {i : Nat} (h : (uN w q i).1 < 256 * w) : ∀ {d : Nat}, uN w q (i + d) = uN w q i := by
  intro d
  induction d with
  | zero => rfl
  | succ d ih => show u1 w (uN w q (i + d)) = _; rw [ih, u1_fix h]
theorem uN_two {w : Int} (hw : 1 ≤ w ∧ w ≤ 32) {q : zQ3} (h : q.1 ≤ 8191) : (uN w q 2).1 < 256 * w := by
  by_cases c : q.1 < 256 * w
  · have := uN_fix (q := q) (i := 0) c (d := 2)
    rw [show 0 + 2 = 2 from rfl] at this
    rw [this]; exact c
  · have e1 : uN w q 1 = (q.1 / 16, q.2.1 + 1, zup q.2.2 q.2.1.toNat (q.1 % 16)) := if_pos (show 256 * w ≤ q.1 by omega)
    by_cases c2 : (uN w q 1).1 < 256 * w
    · have := uN_fix (q := q) (i := 1) c2 (d := 1)
      rw [show 1 + 1 = 2 from rfl] at this
      rw [this]; exact c2
    · have e1' : (uN w q 1).1 = q.1 / 16 := by rw [e1]
      have e2 : uN w q 2 = ((uN w q 1).1 / 16, (uN w q 1).2.1 + 1, zup (uN w q 1).2.2 (uN w q 1).2.1.toNat ((uN w q 1).1 % 16)) := if_pos (show 256 * w ≤ (uN w q 1).1 by omega)
      have e2' : (uN w q 2).1 = (uN w q 1).1 / 16 := by rw [e2]
      omega
def yV (f : Nat → Int) (s : Int) (x : Int) : Int := 32 * (x / f s.toNat) + sO f s (x % f s.toNat) 32
theorem yV_ok {f : Nat → Int} (f1 : ∀ j, j < 8 → 0 ≤ f j) (f2 : sm f 8 = 32) {s x : Int} (hs : 0 ≤ s ∧ s < 8) (hw : 1 ≤ f s.toNat) (hx : 16 * f s.toNat ≤ x ∧ x < 256 * f s.toNat) : 512 ≤ yV f s x ∧ yV f s x ≤ 8191 ∧ 16 ≤ x / f s.toNat ∧ x / f s.toNat ≤ 255 ∧ 0 ≤ x % f s.toNat ∧ x % f s.toNat < f s.toNat := by
  have m1 := Int.emod_nonneg x (show f s.toNat ≠ 0 by omega)
  have m2 := Int.emod_lt_of_pos x (show 0 < f s.toNat by omega)
  obtain ⟨k, hk, -, -, e⟩ := sO_ok f1 f2 hs ⟨m1, m2⟩
  have d1 : 16 ≤ x / f s.toNat := (Int.le_ediv_iff_mul_le (by omega)).mpr hx.1
  have d2 : x / f s.toNat < 256 := (Int.ediv_lt_iff_lt_mul (by omega)).mpr hx.2
  unfold yV
  rw [e]
  omega
theorem s_writeDigit {t : Nat} {h : zH} {K : zH → Prop} {v : Int} (hn : 0 ≤ h t 4 ∧ h t 4 < 80) (hk : K (zs (zs h (t + 2) (h t 4).toNat v) t 4 (h t 4 + 1))) : M_Tape_writeDigit t v h K := by
  unfold M_Tape_writeDigit
  refine ⟨fun c => by omega, fun _ => ⟨fun c => by omega, fun _ => ⟨hn, ?_⟩⟩⟩
  rintro h1 rfl
  rw [zs_k (show t ≠ t + 2 by omega)]
  refine ⟨by omega, ?_⟩
  rintro h2 rfl
  exact hk
theorem s_putSymbol {t pm : Nat} (htm : pm + 9 < t) {h : zH} {K : zH → Prop} {c : Nat → Int} {dg : Nat → Int} {x nd s : Int} {z : Nat} (hc : TC h pm c) (f1 : ∀ j, j < 8 → 0 ≤ fF c j) (f2 : sm (fF c) 8 = 32) (f3 : ∀ j, j < 8 → fF c j ≤ 32) (hz : z < 2) (hs : 0 ≤ s ∧ s < 8) (hw : fF c s.toNat ≠ 0) (hx : 512 ≤ x ∧ x ≤ 8191) (hnd : 0 ≤ nd ∧ nd + 2 ≤ 80) (hdg : ∀ j : Nat, (j : Int) < nd → 0 ≤ dg j ∧ dg j ≤ 15) (e1 : h (t + 3) z = x) (e2 : h t 4 = nd) (e3 : ∀ j : Nat, (j : Int) < nd → h (t + 2) j = dg j)
    (hk : ∀ h', h' (t + 3) z = yV (fF c) s (uN (fF c s.toNat) (x, nd, dg) 2).1 → h' t 4 = (uN (fF c s.toNat) (x, nd, dg) 2).2.1 → (∀ j : Nat, (j : Int) < (uN (fF c s.toNat) (x, nd, dg) 2).2.1 → h' (t + 2) j = (uN (fF c s.toNat) (x, nd, dg) 2).2.2 j) → (∀ a b, ¬ (a = t + 3 ∧ b = z) → ¬ (a = t ∧ b = 4) → a ≠ t + 2 → h' a b = h a b) → K h') : M_Tape_putSymbol t pm s (z : Int) h K := by
  obtain ⟨c1, -, c3⟩ := hc
  have hw1 := f1 s.toNat (by omega)
  have hw2 := f3 s.toNat (by omega)
  have hU0 : UI (fF c s.toNat) nd (x, nd, dg) := ⟨by show 16 * _ ≤ x; omega, hx.2, hnd.1, Int.le_refl _, hdg⟩
  unfold M_Tape_putSymbol
  apply s_frequencyOf hs
  rw [c1 _ (by omega)]
  refine ⟨fun q => by omega, fun _ => ?_⟩
  unfold M_AS_isHead
  refine ⟨fun q => by omega, fun _ => ⟨fun q => by omega, fun _ => ?_⟩⟩
  simp only [Int.toNat_natCast]
  refine ⟨fun _ => ⟨by omega, ?_⟩, fun q => absurd q (by decide)⟩
  rw [e1]
  intro x5 ex5
  subst x5
  refine ypG 2 (fun n st => ∃ h' : zH, st = ((uN (fF c s.toNat) (x, nd, dg) n).1, (n : Int), h') ∧ h' t 4 = (uN (fF c s.toNat) (x, nd, dg) n).2.1 ∧ (∀ j : Nat, (j : Int) < (uN (fF c s.toNat) (x, nd, dg) n).2.1 → h' (t + 2) j = (uN (fF c s.toNat) (x, nd, dg) n).2.2 j) ∧ ∀ a b, ¬ (a = t ∧ b = 4) → a ≠ t + 2 → h' a b = h a b) ⟨h, rfl, e2, e3, fun a b _ _ => rfl⟩ ?_
  rintro n _ L hn ⟨h1, rfl, g2, g3, hF⟩ hL
  show F_Tape_putSymbol_31 K L t pm s (z : Int) (fF c s.toNat) (uN (fF c s.toNat) (x, nd, dg) n).1 (n : Int) h1
  obtain ⟨i1, i2, i3, i4, i5⟩ := uN_ok (n := n) ⟨by omega, hw2⟩ hU0
  have fin : (uN (fF c s.toNat) (x, nd, dg) n).1 < 256 * fF c s.toNat → B_Tape_putSymbol_70 K t pm s (z : Int) (fF c s.toNat) (uN (fF c s.toNat) (x, nd, dg) n).1 h1 := by
    intro hlt
    have eu : uN (fF c s.toNat) (x, nd, dg) 2 = uN (fF c s.toNat) (x, nd, dg) n := by
      have := uN_fix hlt (d := 2 - n)
      rw [show n + (2 - n) = 2 by omega] at this
      exact this
    rw [eu] at hk
    obtain ⟨y1, y2, y3, y4, y5, y6⟩ := yV_ok f1 f2 hs (by omega) ⟨i1, hlt⟩
    obtain ⟨k, hk32, k1, k2, k3⟩ := sO_ok f1 f2 hs ⟨y5, y6⟩
    unfold B_Tape_putSymbol_70
    refine ⟨by omega, by omega, by omega, ?_⟩
    apply s_slotOf hs (by omega)
    have er : h1 (pm + 8) (s * 32 + (uN (fF c s.toNat) (x, nd, dg) n).1 % fF c s.toNat).toNat = (k : Int) := by
      rw [hF _ _ (by omega) (by omega)]
      have := (c3 k hk32).2.2
      rw [k1, k2] at this
      exact this
    have ey : 32 * ((uN (fF c s.toNat) (x, nd, dg) n).1 / fF c s.toNat) + (k : Int) = yV (fF c) s (uN (fF c s.toNat) (x, nd, dg) n).1 := by unfold yV; rw [k3]
    rw [er, ey]
    simp only [Int.toNat_natCast]
    refine ⟨by omega, by omega, ?_⟩
    rintro h2 rfl
    refine hk _ zs_eq ?_ (fun j hj => ?_) (fun a b q1 q2 q3 => ?_)
    · rw [zs_k (by omega)]; exact g2
    · rw [zs_k (by omega)]; exact g3 j hj
    · rw [← hF a b q2 q3]; unfold zs; rw [if_neg q1]
  unfold F_Tape_putSymbol_31
  refine ⟨fun cn => fin ?_, fun cn => ⟨by omega, fun c5 => fin c5, fun c5 => ⟨by omega, ?_⟩⟩⟩
  · rw [show n = 2 by omega]; exact uN_two ⟨by omega, hw2⟩ hx.2
  · have i4' : (uN (fF c s.toNat) (x, nd, dg) n).2.1 ≤ nd + n := i4
    apply s_writeDigit (by omega)
    rw [g2]
    refine ⟨by omega, ?_⟩
    rintro x5 rfl
    have enx : uN (fF c s.toNat) (x, nd, dg) (n + 1) = ((uN (fF c s.toNat) (x, nd, dg) n).1 / 16, (uN (fF c s.toNat) (x, nd, dg) n).2.1 + 1, zup (uN (fF c s.toNat) (x, nd, dg) n).2.2 (uN (fF c s.toNat) (x, nd, dg) n).2.1.toNat ((uN (fF c s.toNat) (x, nd, dg) n).1 % 16)) := if_pos c5
    refine ⟨by omega, hL _ (by omega) ?_⟩
    rw [enx]
    refine ⟨_, rfl, ?_, fun j hj => ?_, fun a b q1 q2 => ?_⟩
    · rw [zs_eq]
    · have hj' : (j : Int) < (uN (fF c s.toNat) (x, nd, dg) n).2.1 + 1 := hj
      show _ = zup _ _ _ j
      rw [zs_k (by omega)]
      by_cases e : j = (uN (fF c s.toNat) (x, nd, dg) n).2.1.toNat
      · rw [e, zup_self, zs_eq]
      · rw [zup_ne e, zs_j e]; exact g3 j (by omega)
    · rw [← hF a b q1 q2]
      have : zs (zs h1 (t + 2) (uN (fF c s.toNat) (x, nd, dg) n).2.1.toNat ((uN (fF c s.toNat) (x, nd, dg) n).1 % 16)) t 4 ((uN (fF c s.toNat) (x, nd, dg) n).2.1 + 1) a b = zs h1 (t + 2) (uN (fF c s.toNat) (x, nd, dg) n).2.1.toNat ((uN (fF c s.toNat) (x, nd, dg) n).1 % 16) a b := by
        unfold zs; rw [if_neg q1]
      rw [this, zs_k q2]
/-- all symbols, from the last to the first: heads, digits -/
abbrev zE4 : Type := Int × Int × Int × (Nat → Int)
def eV (c : Nat → Int) (L : zL) (q : zE4) (k : Nat) : zQ3 := uN (gL c L k) (if k % 2 = 0 then q.1 else q.2.1, q.2.2.1, q.2.2.2) 2
def eY (c : Nat → Int) (L : zL) (q : zE4) (k : Nat) : Int := yV (fF (cm c (L.2.2.2 k).toNat)) (L.2.2.1 k) (eV c L q k).1
def en (c : Nat → Int) (L : zL) : Nat → zE4
  | 0 => (512, 512, 0, fun _ => 0)
  | i + 1 => (if (L.1 - 1 - i) % 2 = 0 then eY c L (en c L i) (L.1 - 1 - i) else (en c L i).1, if (L.1 - 1 - i) % 2 = 0 then (en c L i).2.1 else eY c L (en c L i) (L.1 - 1 - i), (eV c L (en c L i) (L.1 - 1 - i)).2.1, (eV c L (en c L i) (L.1 - 1 - i)).2.2)
def enT (c : Nat → Int) (L : zL) : zT := (tr L.1 L.2.2.2, tr (en c L L.1).2.2.1.toNat (en c L L.1).2.2.2, ((L.1 : Nat) : Int), (en c L L.1).2.2.1, (en c L L.1).1, (en c L L.1).2.1)
def EI (n : Int) (q : zE4) : Prop := (512 ≤ q.1 ∧ q.1 ≤ 8191) ∧ (512 ≤ q.2.1 ∧ q.2.1 ≤ 8191) ∧ (0 ≤ q.2.2.1 ∧ q.2.2.1 ≤ n) ∧ ∀ j : Nat, (j : Int) < q.2.2.1 → 0 ≤ q.2.2.2 j ∧ q.2.2.2 j ≤ 15
theorem en_ok {sc mc : Nat} {c : Nat → Int} (hv : VC sc mc c) {L : zL} (hV : VL sc mc L) (hu : uF c L = -9) : ∀ {i : Nat}, i ≤ L.1 → EI (2 * i) (en c L i) := by
  have hmc := hv.1
  intro i
  induction i with
  | zero => intro _; exact ⟨⟨by show (512 : Int) ≤ 512; omega, by show (512 : Int) ≤ 8191; omega⟩, ⟨by show (512 : Int) ≤ 512; omega, by show (512 : Int) ≤ 8191; omega⟩, ⟨by show (0 : Int) ≤ 0; omega, by show (0 : Int) ≤ _; omega⟩, fun j hj => absurd hj (by show ¬ (j : Int) < 0; omega)⟩
  | succ i ih =>
    intro hi
    obtain ⟨a1, a2, a3, a4⟩ := ih (by omega)
    have hb := hV.2 (L.1 - 1 - i) (by omega)
    obtain ⟨f1, f2, f3⟩ := VC_f hv (show (L.2.2.2 (L.1 - 1 - i)).toNat < mc by omega)
    have hw0 : gL c L (L.1 - 1 - i) ≠ 0 := fz_all hu _ (by omega)
    have hw1 : 0 ≤ gL c L (L.1 - 1 - i) := f1 _ (by omega)
    have hw2 : gL c L (L.1 - 1 - i) ≤ 32 := f3 _ (by omega)
    have hx : 512 ≤ (if (L.1 - 1 - i) % 2 = 0 then (en c L i).1 else (en c L i).2.1) ∧ (if (L.1 - 1 - i) % 2 = 0 then (en c L i).1 else (en c L i).2.1) ≤ 8191 := by split <;> omega
    have hU0 : UI (gL c L (L.1 - 1 - i)) (2 * i) (if (L.1 - 1 - i) % 2 = 0 then (en c L i).1 else (en c L i).2.1, (en c L i).2.2.1, (en c L i).2.2.2) := ⟨Int.le_trans (show 16 * gL c L (L.1 - 1 - i) ≤ 512 by omega) hx.1, hx.2, a3.1, a3.2, a4⟩
    obtain ⟨i1, i2, i3, i4, i5⟩ := uN_ok (n := 2) ⟨by omega, hw2⟩ hU0
    have i6 := uN_two (w := gL c L (L.1 - 1 - i)) ⟨by omega, hw2⟩ (q := (if (L.1 - 1 - i) % 2 = 0 then (en c L i).1 else (en c L i).2.1, (en c L i).2.2.1, (en c L i).2.2.2)) hx.2
    obtain ⟨y1, y2, -⟩ := yV_ok f1 f2 (s := L.2.2.1 (L.1 - 1 - i)) (x := (eV c L (en c L i) (L.1 - 1 - i)).1) (by omega) (show 1 ≤ gL c L (L.1 - 1 - i) by omega) ⟨i1, i6⟩
    refine ⟨?_, ?_, ⟨i3, by show (eV c L (en c L i) (L.1 - 1 - i)).2.1 ≤ _; have i4' : (eV c L (en c L i) (L.1 - 1 - i)).2.1 ≤ 2 * (i : Int) + (2 : Nat) := i4; omega⟩, i5⟩
    · show 512 ≤ (if _ then eY c L (en c L i) (L.1 - 1 - i) else _) ∧ (if _ then eY c L (en c L i) (L.1 - 1 - i) else _) ≤ (8191 : Int)
      have : eY c L (en c L i) (L.1 - 1 - i) = yV (fF (cm c (L.2.2.2 (L.1 - 1 - i)).toNat)) (L.2.2.1 (L.1 - 1 - i)) (eV c L (en c L i) (L.1 - 1 - i)).1 := rfl
      split <;> omega
    · show 512 ≤ (if _ then _ else eY c L (en c L i) (L.1 - 1 - i)) ∧ (if _ then _ else eY c L (en c L i) (L.1 - 1 - i)) ≤ (8191 : Int)
      have : eY c L (en c L i) (L.1 - 1 - i) = yV (fF (cm c (L.2.2.2 (L.1 - 1 - i)).toNat)) (L.2.2.1 (L.1 - 1 - i)) (eV c L (en c L i) (L.1 - 1 - i)).1 := rfl
      split <;> omega
theorem enT_ok {sc mc : Nat} {c : Nat → Int} (hv : VC sc mc c) {L : zL} (hV : VL sc mc L) (hu : uF c L = -9) : VT mc (enT c L) := by
  obtain ⟨a1, a2, a3, a4⟩ := en_ok hv hV hu (Nat.le_refl L.1)
  have := hV.1
  refine ⟨⟨by show (0 : Int) ≤ ((L.1 : Nat) : Int); omega, by show ((L.1 : Nat) : Int) ≤ 40; omega⟩, ⟨a3.1, by show (en c L L.1).2.2.1 ≤ 80; omega⟩, fun j hj => ?_, fun j hj => ?_, a1, a2⟩
  · have hj' : (j : Int) < ((L.1 : Nat) : Int) := hj
    show 0 ≤ tr L.1 _ j ∧ tr L.1 _ j < (mc : Int)
    rw [tr_at (by omega)]
    exact (hV.2 j (by omega)).2
  · have hj' : (j : Int) < (en c L L.1).2.2.1 := hj
    show 0 ≤ tr _ _ j ∧ tr _ _ j ≤ (15 : Int)
    rw [tr_at (by omega)]
    exact a4 j hj'
theorem cT_ext {h : zH} {t : Nat} {pl dg : Nat → Int} {np nd a b : Int} (e1 : h t 3 = np) (e2 : h t 4 = nd) (e3 : h (t + 3) 0 = a) (e4 : h (t + 3) 1 = b) (e5 : ∀ j : Nat, (j : Int) < np → h (t + 1) j = pl j) (e6 : ∀ j : Nat, (j : Int) < nd → h (t + 2) j = dg j) : cT h t = (tr np.toNat pl, tr nd.toNat dg, np, nd, a, b) := by
  unfold cT
  rw [e1, e2, e3, e4, tr_congr (g := pl) (fun i hi => e5 i (by omega)), tr_congr (g := dg) (fun i hi => e6 i (by omega))]
theorem rT_ext {h : zH} {c o : Nat} {pl dg : Nat → Int} {np nd a b : Int} (e1 : h c (o + 189) = np) (e2 : h c (o + 190) = nd) (e3 : h c (o + 191) = a) (e4 : h c (o + 192) = b) (e5 : ∀ j : Nat, (j : Int) < np → h c (o + 64 + j) = pl j) (e6 : ∀ j : Nat, (j : Int) < nd → h c (o + 104 + j) = dg j) : rT h c o = (tr np.toNat pl, tr nd.toNat dg, np, nd, a, b) := by
  unfold rT
  rw [e1, e2, e3, e4, tr_congr (g := pl) (fun i hi => e5 i (by omega)), tr_congr (g := dg) (fun i hi => e6 i (by omega))]

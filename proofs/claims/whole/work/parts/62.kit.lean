/-! THE PURE SIDE: loops by a number of rounds; reading what was written; the class's tables -/
theorem zs_eq {h : zH} {k j : Nat} {v : Int} : zs h k j v k j = v := by unfold zs; rw [if_pos ⟨rfl, rfl⟩]
theorem zs_k {h : zH} {k j a b : Nat} {v : Int} (e : a ≠ k) : zs h k j v a b = h a b := by unfold zs; rw [if_neg (fun q => e q.1)]
theorem zs_j {h : zH} {k j a b : Nat} {v : Int} (e : b ≠ j) : zs h k j v a b = h a b := by unfold zs; rw [if_neg (fun q => e q.2)]
theorem zs_row {h : zH} {k j : Nat} {v : Int} : zs h k j v k = zup (h k) j v := by
  funext b
  unfold zs zup
  by_cases e : b = j
  · rw [if_pos ⟨rfl, e⟩, if_pos e]
  · rw [if_neg (fun q => e q.2), if_neg e]
theorem zs_row' {h : zH} {k j a : Nat} {v : Int} (e : a ≠ k) : zs h k j v a = h a := by
  funext b
  exact zs_k e
noncomputable def gm (p : Nat → Prop) : Nat → Nat
  | 0 => 0
  | n + 1 => @ite _ (p (n + 1)) (Classical.propDecidable _) (n + 1) (gm p n)
theorem gm_ge {p : Nat → Prop} : ∀ {n i : Nat}, i ≤ n → p i → i ≤ gm p n := by
  intro n
  induction n with
  | zero => intro i h _; exact h
  | succ n ih =>
    intro i h hp
    unfold gm
    split
    · exact h
    · rename_i hn
      have : i ≠ n + 1 := fun e => hn (e ▸ hp)
      exact ih (by omega) hp
theorem gm_le {p : Nat → Prop} : ∀ {n : Nat}, gm p n ≤ n := by
  intro n
  induction n with
  | zero => exact Nat.le_refl 0
  | succ n ih =>
    unfold gm
    split
    · exact Nat.le_refl _
    · omega
theorem gm_has {p : Nat → Prop} : ∀ {n i : Nat}, i ≤ n → p i → p (gm p n) := by
  intro n
  induction n with
  | zero => intro i h hp; have e : i = 0 := by omega
            rw [e] at hp; exact hp
  | succ n ih =>
    intro i h hp
    unfold gm
    split
    · assumption
    · rename_i hn
      have : i ≠ n + 1 := fun e => hn (e ▸ hp)
      exact ih (show i ≤ n by omega) hp
/-- a loop, by the number of its rounds -/
theorem ypG {σ : Type} {F : (σ → Prop) → σ → Prop} (n : Nat) (I : Nat → σ → Prop) {s : σ} (h0 : I 0 s) (hs : ∀ (i : Nat) (s : σ) (L : σ → Prop), i ≤ n → I i s → (∀ s', i < n → I (i + 1) s' → L s') → F L s) : zLoop F s := by
  refine ⟨fun s => ∃ i, i ≤ n ∧ I i s, fun s => n - gm (fun i => I i s) n, ⟨0, Nat.zero_le n, h0⟩, ?_⟩
  rintro s ⟨i, hi, hI⟩
  have hm := gm_has (p := fun i => I i s) hi hI
  have hl := gm_le (p := fun i => I i s) (n := n)
  refine hs (gm (fun i => I i s) n) s _ hl hm (fun s' hlt hI' => ?_)
  have hge := gm_ge (p := fun i => I i s') (n := n) (i := gm (fun i => I i s) n + 1) (by omega) hI'
  exact ⟨⟨_, by omega, hI'⟩, show n - gm (fun i => I i s') n < n - gm (fun i => I i s) n by omega⟩
theorem yp1 {F : (Int × zH → Prop) → Int × zH → Prop} (n : Nat) (I : Nat → zH → Prop) {h : zH} (h0 : I 0 h) (hs : ∀ (i : Nat) (h : zH) (L : Int × zH → Prop), i ≤ n → I i h → (∀ h', i < n → I (i + 1) h' → L ((i : Int) + 1, h')) → F L ((i : Int), h)) : zLoop F (0, h) := by
  refine ypG n (fun i s => s.1 = (i : Int) ∧ I i s.2) ⟨rfl, h0⟩ ?_
  rintro i ⟨x, h'⟩ L hi ⟨e, hI⟩ hL
  have e' : x = (i : Int) := e
  subst e'
  exact hs i h' L hi hI (fun h'' hlt hI' => hL _ hlt ⟨by omega, hI'⟩)
theorem yp2 {F : (Int × Int × zH → Prop) → Int × Int × zH → Prop} (n : Nat) (I : Nat → Int → zH → Prop) {x : Int} {h : zH} (h0 : I 0 x h) (hs : ∀ (i : Nat) (x : Int) (h : zH) (L : Int × Int × zH → Prop), i ≤ n → I i x h → (∀ x' h', i < n → I (i + 1) x' h' → L (x', (i : Int) + 1, h')) → F L (x, (i : Int), h)) : zLoop F (x, 0, h) := by
  refine ypG n (fun i s => s.2.1 = (i : Int) ∧ I i s.1 s.2.2) ⟨rfl, h0⟩ ?_
  rintro i ⟨y, x, h'⟩ L hi ⟨e, hI⟩ hL
  have e' : x = (i : Int) := e
  subst e'
  exact hs i y h' L hi hI (fun x' h'' hlt hI' => hL _ hlt ⟨show (i : Int) + 1 = ((i + 1 : Nat) : Int) by omega, hI'⟩)
theorem yp3 {F : (Int × Int × Int × zH → Prop) → Int × Int × Int × zH → Prop} (n : Nat) (I : Nat → Int → Int → zH → Prop) {x y : Int} {h : zH} (h0 : I 0 x y h) (hs : ∀ (i : Nat) (x y : Int) (h : zH) (L : Int × Int × Int × zH → Prop), i ≤ n → I i x y h → (∀ x' y' h', i < n → I (i + 1) x' y' h' → L (x', y', (i : Int) + 1, h')) → F L (x, y, (i : Int), h)) : zLoop F (x, y, 0, h) := by
  refine ypG n (fun i s => s.2.2.1 = (i : Int) ∧ I i s.1 s.2.1 s.2.2.2) ⟨rfl, h0⟩ ?_
  rintro i ⟨y, z, x, h'⟩ L hi ⟨e, hI⟩ hL
  have e' : x = (i : Int) := e
  subst e'
  exact hs i y z h' L hi hI (fun x' y' h'' hlt hI' => hL _ hlt ⟨show (i : Int) + 1 = ((i + 1 : Nat) : Int) by omega, hI'⟩)
theorem ypx {F : (Int × zH → Prop) → Int × zH → Prop} (n : Nat) (g : Nat → Int) (I : Nat → zH → Prop) {x0 : Int} {h : zH} (e0 : x0 = g 0) (h0 : I 0 h) (hs : ∀ (i : Nat) (x : Int) (h : zH) (L : Int × zH → Prop), i ≤ n → x = g i → I i h → (∀ x' h', i < n → x' = g (i + 1) → I (i + 1) h' → L (x', h')) → F L (x, h)) : zLoop F (x0, h) := by
  refine ypG n (fun i s => s.1 = g i ∧ I i s.2) ⟨e0, h0⟩ ?_
  rintro i ⟨x, h'⟩ L hi ⟨e, hI⟩ hL
  exact hs i x h' L hi e hI (fun x' h'' hlt e' hI' => hL _ hlt ⟨e', hI'⟩)
/-- a row cut off behind n -/
def tr (n : Nat) (f : Nat → Int) : Nat → Int := fun i => if i < n then f i else 0
theorem tr_at {n i : Nat} {f : Nat → Int} (h : i < n) : tr n f i = f i := if_pos h
theorem tr_ge {n i : Nat} {f : Nat → Int} (h : n ≤ i) : tr n f i = 0 := if_neg (by omega)
theorem tr_congr {n : Nat} {f g : Nat → Int} (h : ∀ i, i < n → f i = g i) : tr n f = tr n g := by
  funext i
  unfold tr
  split
  · exact h i (by assumption)
  · rfl
theorem aG_step {r : Nat → Int} {n : Nat} : aG r (n + 1) = if (aG r n).2 < r n then ((n : Int), r n) else aG r n := rfl
theorem s_giveOne {p : Nat} {h : zH} {K : zH → Prop} {b : Nat} (hb : b < 8) (e : (aG (h (p + 2)) 8).1 = (b : Int)) (hz : zr (h (p + 1) b + 1)) (hk : K (zs (zs h (p + 1) b (h (p + 1) b + 1)) (p + 2) b (-9))) : M_Model_giveOne p h K := by
  unfold M_Model_giveOne
  refine yp3 8 (fun i x y h' => h' = h ∧ (x, y) = aG (h (p + 2)) i) ⟨rfl, rfl⟩ ?_
  rintro i x y h' L hi ⟨rfl, e1⟩ hL
  show F_Model_giveOne_8 K L p x y (i : Int) h'
  have ex : x = (aG (h' (p + 2)) i).1 := congrArg Prod.fst e1
  have ey : y = (aG (h' (p + 2)) i).2 := congrArg Prod.snd e1
  unfold F_Model_giveOne_8
  simp only [Int.toNat_natCast]
  constructor
  · intro c
    have ei : i = 8 := by omega
    subst ei
    rw [e] at ex
    subst ex
    simp only [Int.toNat_natCast]
    repeat' (first | with_reducible apply And.intro | (with_reducible intro hh ee; subst ee) | with_reducible intro cc)
    all_goals (try omega)
    all_goals exact hk
  · intro c
    repeat' (first | with_reducible apply And.intro | (with_reducible intro hh ee; subst ee) | with_reducible intro cc)
    all_goals (try omega)
    · refine hL _ _ _ (by omega) ⟨rfl, ?_⟩
      rw [aG_step, if_neg (by omega)]
      exact e1
    · refine hL _ _ _ (by omega) ⟨rfl, ?_⟩
      rw [aG_step, if_pos (by omega)]
theorem s_takeOne {p : Nat} {h : zH} {K : zH → Prop} (hz : zr (h (p + 1) (lM (h (p + 1)) 7) - 1)) (hk : K (zs h (p + 1) (lM (h (p + 1)) 7) (h (p + 1) (lM (h (p + 1)) 7) - 1))) : M_Model_takeOne p h K := by
  unfold M_Model_takeOne
  refine ypG 7 (fun i s => s = (((lM (h (p + 1)) i : Nat) : Int), (i : Int) + 1, h)) rfl ?_
  rintro i s L hi rfl hL
  show F_Model_takeOne_4 K L p ((lM (h (p + 1)) i : Nat) : Int) ((i : Int) + 1) h
  have hle := (lM_spec (f := h (p + 1)) (n := i)).1
  unfold F_Model_takeOne_4
  rw [show ((i : Int) + 1).toNat = i + 1 by omega]
  simp only [Int.toNat_natCast]
  constructor
  · intro c
    have ei : i = 7 := by omega
    subst ei
    repeat' (first | with_reducible apply And.intro | (with_reducible intro hh ee; subst ee) | with_reducible intro cc)
    all_goals (try omega)
    all_goals exact hk
  · intro c
    repeat' (first | with_reducible apply And.intro | (with_reducible intro hh ee; subst ee) | with_reducible intro cc)
    all_goals (try omega)
    · refine hL _ (by omega) ?_
      rw [show lM (h (p + 1)) (i + 1) = lM (h (p + 1)) i from if_neg (by omega)]
      rfl
    · refine hL _ (by omega) ?_
      rw [show lM (h (p + 1)) (i + 1) = i + 1 from if_pos (by omega)]
      rfl
theorem s_firstToClose {p : Nat} {h : zH} {K : Int → zH → Prop} (hk : K (fC (h (p + 3)) (h (p + 5)) 8) h) : M_Model_firstToClose p h K := by
  unfold M_Model_firstToClose
  refine yp1 8 (fun i h' => h' = h ∧ fC (h (p + 3)) (h (p + 5)) i = -9) ⟨rfl, rfl⟩ ?_
  rintro i h' L hi ⟨rfl, e⟩ hL
  show F_Model_firstToClose_2 K L p (i : Int) h'
  unfold F_Model_firstToClose_2
  simp only [Int.toNat_natCast]
  constructor
  · intro c
    have ei : i = 8 := by omega
    subst ei
    rw [e] at hk
    exact hk
  · intro c
    repeat' (first | with_reducible apply And.intro | (with_reducible intro hh ee; subst ee) | with_reducible intro cc)
    all_goals (try omega)
    · exact hL _ (by omega) ⟨rfl, fC_none e (by omega)⟩
    · exact hL _ (by omega) ⟨rfl, fC_none e (by omega)⟩
    · have := fC_found (d := 7 - i) e (show h' (p + 5) i ≠ 0 ∧ h' (p + 3) i ≤ 4 by omega)
      rw [show i + 1 + (7 - i) = 8 by omega] at this
      rw [this] at hk
      exact hk
theorem s_fullestOpen {p : Nat} {h : zH} {K : Int → zH → Prop} (hr : ∀ b, b < 8 → 0 ≤ h (p + 3) b) (hk : K (aG (rO (h (p + 3)) (h (p + 5))) 8).1 h) : M_Model_fullestOpen p h K := by
  unfold M_Model_fullestOpen
  refine yp3 8 (fun i x y h' => h' = h ∧ (x, y) = aG (rO (h (p + 3)) (h (p + 5))) i ∧ -9 ≤ y) ⟨rfl, rfl, by omega⟩ ?_
  rintro i x y h' L hi ⟨rfl, e1, hy⟩ hL
  show F_Model_fullestOpen_8 K L p x y (i : Int) h'
  have ex : x = (aG (rO (h' (p + 3)) (h' (p + 5))) i).1 := congrArg Prod.fst e1
  have ey : y = (aG (rO (h' (p + 3)) (h' (p + 5))) i).2 := congrArg Prod.snd e1
  unfold F_Model_fullestOpen_8
  simp only [Int.toNat_natCast]
  constructor
  · intro c
    have ei : i = 8 := by omega
    subst ei
    rw [← ex] at hk
    exact hk
  · intro c
    have hri := hr i (by omega)
    repeat' (first | with_reducible apply And.intro | (with_reducible intro hh ee; subst ee) | with_reducible intro cc)
    all_goals (try omega)
    · refine hL _ _ _ (by omega) ⟨rfl, ?_, hy⟩
      have e9 : rO (h' (p + 3)) (h' (p + 5)) i = -9 := if_neg (by omega)
      rw [aG_step, if_neg (by omega)]
      exact e1
    · refine hL _ _ _ (by omega) ⟨rfl, ?_, hy⟩
      have e9 : rO (h' (p + 3)) (h' (p + 5)) i = h' (p + 3) i := if_pos (by omega)
      rw [aG_step, if_neg (by omega)]
      exact e1
    · refine hL _ _ _ (by omega) ⟨rfl, ?_, by omega⟩
      have e9 : rO (h' (p + 3)) (h' (p + 5)) i = h' (p + 3) i := if_pos (by omega)
      rw [aG_step, if_pos (by omega), e9]

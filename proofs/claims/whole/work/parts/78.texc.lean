/-! reading the text: the class -/
def pf (g : Nat → Int) : Nat → Nat
  | 0 => 0
  | n + 1 => if pf g n = n ∧ g n ≠ -9 then n + 1 else pf g n
theorem pf_le {g : Nat → Int} : ∀ {n : Nat}, pf g n ≤ n := by
  intro n
  induction n with
  | zero => exact Nat.le_refl 0
  | succ n ih => unfold pf; split <;> omega
theorem pf_go {g : Nat → Int} {n : Nat} (h : pf g n = n) (h2 : g n ≠ -9) : pf g (n + 1) = n + 1 := if_pos ⟨h, h2⟩
theorem pf_stop {g : Nat → Int} {n : Nat} (h : pf g n = n) (h2 : g n = -9) : ∀ {d : Nat}, pf g (n + d) = n := by
  intro d
  induction d with
  | zero => exact h
  | succ d ih =>
    show (if pf g (n + d) = n + d ∧ g (n + d) ≠ -9 then n + d + 1 else pf g (n + d)) = n
    rw [if_neg (fun q => by
      have e : d = 0 := by omega
      subst e
      exact q.2 h2)]
    exact ih
theorem pf_at {g : Nat → Int} {n N : Nat} (h : pf g n = n) (h2 : g n = -9) (hN : n ≤ N) : pf g N = n := by
  have := pf_stop h h2 (d := N - n)
  rw [show n + (N - n) = N by omega] at this
  exact this
theorem pf_all {g : Nat → Int} : ∀ {n i : Nat}, i < pf g n → g i ≠ -9 := by
  intro n
  induction n with
  | zero => intro i h; exact absurd h (Nat.not_lt_zero _)
  | succ n ih =>
    intro i h
    unfold pf at h
    split at h
    · rename_i q
      by_cases e : i = n
      · rw [e]; exact q.2
      · exact ih (by omega)
    · exact ih h
def itc (sc mc : Nat) (c : Int) : Int := if 97 ≤ c ∧ c < 97 + sc then c - 97 else if 48 ≤ c ∧ c < 48 + mc then 10 + c - 48 else -9
theorem itc_ok {sc mc : Nat} {c : Int} : itc sc mc c = -9 ∨ (0 ≤ itc sc mc c ∧ itc sc mc c < sc) ∨ (10 ≤ itc sc mc c ∧ itc sc mc c < 10 + mc) := by
  unfold itc
  (repeat' split) <;> omega
theorem s_itemHere {p len pos sc mc : Nat} {tx : Nat → Int} {h : zH} {K : Int → zH → Prop} (hT : Ct h p len tx) (ep : h p 7 = (pos : Int)) (es : h p 4 = (sc : Int)) (em : h p 5 = (mc : Int)) (hsc : sc ≤ 8) (hmc : mc ≤ 3) (hk : K (itc sc mc (chr tx len pos)) h) : M_Text_itemHere p h K := by
  unfold M_Text_itemHere
  refine s_here hT ep ?_
  have hc := chr_ok hT pos
  generalize chr tx len pos = c at *
  have k1 : ∀ v, itc sc mc c = v → K v h := fun v e => e ▸ hk
  clear hk
  unfold B_Text_itemHere_27
  rw [es, em]
  repeat' (first | with_reducible apply And.intro | (with_reducible intro hh ee; subst ee) | with_reducible intro cc)
  all_goals (try omega)
  all_goals exact k1 _ (by unfold itc; (repeat' split) <;> omega)
theorem s_readSize {p len : Nat} {tx : Nat → Int} {h : zH} {K : Int → zH → Prop} (hT : Ct h p len tx) (ep : h p 7 = 0)
    (hk : ∀ r h', (∀ a b, ¬ (a = p ∧ (b = 7 ∨ b = 4)) → h' a b = h a b) → (chr tx len 0 ≠ 65 ∧ r = 0 ∧ h' p 7 = 0) ∨ (chr tx len 0 = 65 ∧ ¬ (2 ≤ dgt tx len 1 ∧ dgt tx len 1 ≤ 8) ∧ r = 0 ∧ h' p 7 = 1) ∨ (chr tx len 0 = 65 ∧ (2 ≤ dgt tx len 1 ∧ dgt tx len 1 ≤ 8) ∧ r = 1 ∧ h' p 7 = 2 ∧ h' p 4 = dgt tx len 1) → K r h') : M_Text_readSize p h K := by
  unfold M_Text_readSize
  refine s_here (pos := 0) hT ep ?_
  refine ⟨fun c1 => ⟨by omega, ?_⟩, fun c1 => hk 0 h (fun _ _ _ => rfl) (Or.inl ⟨c1, rfl, ep⟩)⟩
  rintro h1 rfl
  have hT1 : Ct (zs h p 7 (h p 7 + 1)) p len tx := Ct_keep hT (zs_j (by omega)) (fun j => zs_k (by omega))
  refine s_digitHere (pos := 1) hT1 (by rw [zs_eq, ep]; rfl) ?_
  have hF : ∀ a b, ¬ (a = p ∧ (b = 7 ∨ b = 4)) → zs (zs h p 7 (h p 7 + 1)) p 4 (dgt tx len 1) a b = h a b := by
    intro a b q
    unfold zs
    rw [if_neg (by omega), if_neg (by omega)]
  have e7 : zs (zs h p 7 (h p 7 + 1)) p 4 (dgt tx len 1) p 7 = 1 := by rw [zs_j (by omega), zs_eq, ep]; rfl
  rintro h2 rfl
  rw [zs_eq, e7]
  refine ⟨fun c2 => hk _ _ hF (Or.inr (Or.inl ⟨c1, by omega, rfl, e7⟩)), fun c2 => ⟨fun c3 => ⟨by omega, ?_⟩, fun c3 => hk _ _ hF (Or.inr (Or.inl ⟨c1, by omega, rfl, e7⟩))⟩⟩
  rintro h3 rfl
  refine hk _ _ (fun a b q => ?_) (Or.inr (Or.inr ⟨c1, ⟨c2, c3⟩, rfl, zs_eq, ?_⟩))
  · rw [← hF a b q]; unfold zs; rw [if_neg (by omega)]
  · rw [zs_j (by omega), zs_eq]
def PS (sc : Nat) : Nat → Nat
  | 0 => 2
  | m + 1 => PS sc m + 1 + 2 * sc
theorem PS_le {sc : Nat} (h : sc ≤ 8) : ∀ {m : Nat}, PS sc m ≤ 2 + 17 * m := by
  intro m
  induction m with
  | zero => exact Nat.le_refl 2
  | succ m ih => show PS sc m + 1 + 2 * sc ≤ _; omega
/-- the digits of model m; where they fail; whether the model stands -/
def dm (tx : Nat → Int) (len sc m : Nat) : Nat → Int := fun j => dgt tx len (PS sc m + 1 + j)
def cfm (tx : Nat → Int) (len sc m : Nat) : Int := cf (dm tx len sc m) sc
def gMo (tx : Nat → Int) (len sc m : Nat) : Int := if chr tx len (PS sc m) = 109 ∧ cfm tx len sc m = -9 then 1 else -9
def cR (tx : Nat → Int) (len sc M : Nat) (b : Nat) : Int := if b / 8 < M ∧ b % 8 < sc then cnt (dm tx len sc (b / 8)) (b % 8) else 0
theorem s_readModels {p len sc : Nat} {tx : Nat → Int} {h : zH} {K : Int → zH → Prop} (hT : Ct h p len tx) (ep : h p 7 = 2) (em : h p 5 = 0) (hsc : 1 ≤ sc ∧ sc ≤ 8) (es : h p 4 = (sc : Int)) (hz : ∀ b, b < 24 → h (p + 2) b = 0)
    (hk : ∀ r h' M, M = pf (gMo tx len sc) 3 → (∀ a b, ¬ (a = p ∧ (b = 7 ∨ b = 5)) → a ≠ p + 2 → h' a b = h a b) → ((M < 3 ∧ chr tx len (PS sc M) = 109) ∧ cfm tx len sc M ≠ -9 ∧ r = 0 ∧ h' p 7 = (PS sc M : Int) + 1 + cfm tx len sc M) ∨ (¬ (M < 3 ∧ chr tx len (PS sc M) = 109) ∧ M = 0 ∧ r = 0 ∧ h' p 7 = (PS sc M : Int)) ∨ (¬ (M < 3 ∧ chr tx len (PS sc M) = 109) ∧ M ≠ 0 ∧ r = 1 ∧ h' p 7 = (PS sc M : Int) ∧ h' p 5 = (M : Int) ∧ ∀ b, b < 24 → h' (p + 2) b = cR tx len sc M b) → K r h') : M_Text_readModels p h K := by
  unfold M_Text_readModels
  refine yp1 3 (fun i h' => h' p 7 = (PS sc i : Int) ∧ h' p 5 = (i : Int) ∧ pf (gMo tx len sc) i = i ∧ (∀ b, b < 24 → h' (p + 2) b = cR tx len sc i b) ∧ (∀ a b, ¬ (a = p ∧ (b = 7 ∨ b = 5)) → a ≠ p + 2 → h' a b = h a b)) ⟨ep, em, rfl, fun b hb => (hz b hb).trans (if_neg (by omega)).symm, fun _ _ _ _ => rfl⟩ ?_
  rintro i h2 L hi ⟨g7, g5, gp, gc, hF⟩ hL
  show F_Text_readModels_2 K L p (i : Int) h2
  have hT2 : Ct h2 p len tx := Ct_keep hT (hF _ _ (by omega) (by omega)) (fun j => hF _ _ (by omega) (by omega))
  have es2 : h2 p 4 = (sc : Int) := (hF _ _ (by omega) (by omega)).trans es
  have fin : pf (gMo tx len sc) 3 = i → ¬ (i < 3 ∧ chr tx len (PS sc i) = 109) → B_Text_readModels_52 K p h2 := by
    intro e q
    unfold B_Text_readModels_52
    rw [g5]
    refine ⟨fun c => hk 0 h2 i e.symm hF (Or.inr (Or.inl ⟨q, by omega, rfl, g7⟩)), fun c => hk 1 h2 i e.symm hF (Or.inr (Or.inr ⟨q, by omega, rfl, g7, g5, gc⟩))⟩
  unfold F_Text_readModels_2
  refine ⟨fun c => ?_, fun c => ?_⟩
  · have ei : i = 3 := by omega
    subst ei
    exact fin gp (by omega)
  refine s_here hT2 g7 ?_
  refine ⟨fun c1 => fin (pf_at gp (if_neg (fun q => c1 q.1)) hi) (fun q => c1 q.2), fun c1 => ?_⟩
  have hPS := PS_le hsc.2 (m := i)
  rw [g7]
  refine ⟨by omega, ?_⟩
  rintro h3 rfl
  have hT3 : Ct (zs h2 p 7 ((PS sc i : Int) + 1)) p len tx := Ct_keep hT2 (zs_j (by omega)) (fun j => zs_k (by omega))
  refine s_readCounts (pos := PS sc i + 1) (sc := sc) hT3 (by rw [zs_eq]; omega) (by omega) (by omega) hsc (by rw [zs_j (by omega), es2]) ?_ ?_
  · intro ec h4 f7 fc fF
    have eg : gMo tx len sc i ≠ -9 := by
      unfold gMo
      rw [if_pos ⟨c1, ec⟩]
      decide
    have f5 : h4 p 5 = (i : Int) := by rw [fF _ _ (by omega) (by omega), zs_j (by omega), g5]
    refine ⟨fun _ => ?_, fun c => absurd c (by decide)⟩
    rw [f5]
    refine ⟨by omega, ?_⟩
    rintro h5 rfl
    refine ⟨by omega, hL _ (by omega) ⟨?_, zs_eq, pf_go gp eg, fun b hb => ?_, fun a b q1 q2 => ?_⟩⟩
    · rw [zs_j (by omega), f7]
      show _ = ((PS sc i + 1 + 2 * sc : Nat) : Int)
      omega
    · rw [zs_k (by omega)]
      by_cases e : b / 8 = i ∧ b % 8 < sc
      · have := fc (b % 8) e.2
        rw [show 8 * i + b % 8 = b by omega] at this
        rw [this]
        unfold cR
        rw [if_pos (by omega), e.1]
        rfl
      · rw [fF _ _ (by omega) (by omega), zs_k (by omega), gc b hb]
        unfold cR
        by_cases e2 : b / 8 < i ∧ b % 8 < sc
        · rw [if_pos e2, if_pos (by omega)]
        · rw [if_neg e2, if_neg (by omega)]
    · rw [← hF a b q1 q2]
      have : zs h4 p 5 ((i : Int) + 1) a b = h4 a b := by unfold zs; rw [if_neg (by omega)]
      rw [this, fF a b (by omega) (by omega)]
      unfold zs
      rw [if_neg (by omega)]
  · intro ec h4 f7 fF
    refine ⟨fun c => absurd rfl c, fun _ => ?_⟩
    have ee : pf (gMo tx len sc) 3 = i := pf_at gp (if_neg (fun q => ec q.2)) hi
    refine hk 0 h4 i ee.symm (fun a b q1 q2 => ?_) (Or.inl ⟨⟨by omega, c1⟩, ec, rfl, ?_⟩)
    · rw [fF a b (by omega) q2, ← hF a b q1 q2]
      unfold zs
      rw [if_neg (by omega)]
    · rw [f7]
      show ((PS sc i + 1 : Nat) : Int) + cfm tx len sc i = _
      omega
def gI (tx : Nat → Int) (len sc mc pos j : Nat) : Int := itc sc mc (chr tx len (pos + j))
theorem s_readItems {p len sc mc pos : Nat} {tx : Nat → Int} {h : zH} {K : Int → zH → Prop} (hT : Ct h p len tx) (hpos : pos ≤ 1000) (ep : h p 7 = (pos : Int)) (e6 : h p 6 = 0) (hsc : sc ≤ 8) (hmc : mc ≤ 3) (es : h p 4 = (sc : Int)) (em : h p 5 = (mc : Int))
    (hk : ∀ r h' n, n = pf (gI tx len sc mc (pos + 1)) 40 → (∀ a b, ¬ (a = p ∧ (b = 7 ∨ b = 6)) → a ≠ p + 3 → h' a b = h a b) → (chr tx len pos = -1 ∧ r = 1 ∧ h' p 6 = 0) ∨ (chr tx len pos ≠ -1 ∧ chr tx len pos ≠ 58 ∧ r = 0 ∧ h' p 7 = (pos : Int)) ∨ (chr tx len pos = 58 ∧ (n = 0 ∨ chr tx len (pos + 1 + n) ≠ -1) ∧ r = 0 ∧ h' p 7 = (pos : Int) + 1 + n) ∨ (chr tx len pos = 58 ∧ (n ≠ 0 ∧ chr tx len (pos + 1 + n) = -1) ∧ r = 1 ∧ h' p 6 = (n : Int) ∧ ∀ j, j < n → h' (p + 3) j = gI tx len sc mc (pos + 1) j) → K r h') : M_Text_readItems p h K := by
  unfold M_Text_readItems
  refine s_here hT ep ?_
  refine ⟨fun c1 => s_here hT ep ⟨fun c2 => ?_, fun c2 => hk 0 h _ rfl (fun _ _ _ _ => rfl) (Or.inr (Or.inl ⟨c1, c2, rfl, ep⟩))⟩, fun c1 => hk 1 h _ rfl (fun _ _ _ _ => rfl) (Or.inl ⟨c1, rfl, e6⟩)⟩
  rw [ep]
  refine ⟨by omega, ?_⟩
  rintro h1 rfl
  refine yp1 40 (fun i h' => h' p 7 = (pos : Int) + 1 + i ∧ h' p 6 = (i : Int) ∧ pf (gI tx len sc mc (pos + 1)) i = i ∧ (∀ j, j < i → h' (p + 3) j = gI tx len sc mc (pos + 1) j) ∧ (∀ a b, ¬ (a = p ∧ (b = 7 ∨ b = 6)) → a ≠ p + 3 → h' a b = h a b)) ⟨by rw [zs_eq]; omega, by rw [zs_j (by omega), e6]; rfl, rfl, fun j hj => by omega, fun a b q _ => by unfold zs; rw [if_neg (by omega)]⟩ ?_
  rintro i h2 L hi ⟨g7, g6, gp, gc, hF⟩ hL
  show F_Text_readItems_33 K L p (i : Int) h2
  have hT2 : Ct h2 p len tx := Ct_keep hT (hF _ _ (by omega) (by omega)) (fun j => hF _ _ (by omega) (by omega))
  have es2 : h2 p 4 = (sc : Int) := (hF _ _ (by omega) (by omega)).trans es
  have em2 : h2 p 5 = (mc : Int) := (hF _ _ (by omega) (by omega)).trans em
  have g7' : h2 p 7 = ((pos + 1 + i : Nat) : Int) := by rw [g7]; omega
  have fin : pf (gI tx len sc mc (pos + 1)) 40 = i → B_Text_readItems_83 K p h2 := by
    intro e
    unfold B_Text_readItems_83
    rw [g6]
    refine ⟨fun c => hk 0 h2 i e.symm hF (Or.inr (Or.inr (Or.inl ⟨c2, Or.inl (by omega), rfl, g7⟩))), fun c => s_here hT2 g7' ⟨fun c3 => hk 0 h2 i e.symm hF (Or.inr (Or.inr (Or.inl ⟨c2, Or.inr c3, rfl, g7⟩))), fun c3 => hk 1 h2 i e.symm hF (Or.inr (Or.inr (Or.inr ⟨c2, ⟨by omega, c3⟩, rfl, g6, gc⟩)))⟩⟩
  unfold F_Text_readItems_33
  refine ⟨fun c => ?_, fun c => ?_⟩
  · have ei : i = 40 := by omega
    subst ei
    exact fin gp
  refine s_itemHere hT2 g7' es2 em2 hsc hmc ?_
  refine ⟨fun c3 => ⟨by omega, ?_⟩, fun c3 => fin (pf_at gp c3 hi)⟩
  rw [Int.toNat_natCast]
  rintro h3 rfl
  refine ⟨by omega, ?_⟩
  rintro h4 rfl
  rw [zs_j (by omega), zs_k (by omega), g7]
  refine ⟨by omega, ?_⟩
  rintro h5 rfl
  refine ⟨by omega, hL _ (by omega) ⟨?_, ?_, pf_go gp c3, fun j hj => ?_, fun a b q1 q2 => ?_⟩⟩
  · rw [zs_eq]; omega
  · rw [zs_j (by omega), zs_eq]; omega
  · rw [zs_k (by omega), zs_k (by omega)]
    by_cases e : j = i
    · rw [e, zs_eq]; rfl
    · rw [zs_j e, gc j (by omega)]
  · rw [← hF a b q1 q2]
    unfold zs
    rw [if_neg (by omega), if_neg (by omega), if_neg (by omega)]

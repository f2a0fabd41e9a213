/-! calls: how an answer is given -/
theorem cs_val {o : zOu} {h : zH} {K : Int → zH → Prop} {A' : zSt} {v r : Int} (hk : ∀ h', CI h' o.2.2 → (∀ a b, 197 ≤ a → a ≠ 220 → h' a b = h a b) → (o.1 = 0 → h' 220 0 = o.2.1) → K (o.1 : Int) h') (eo : o = (0, v, A')) (hm : A'.mc ≤ 3) {h1 : zH} (c1 : CI h1 A') (f1 : ∀ a b, 197 ≤ a → a ≠ 220 → h1 a b = h a b) (er : r = v) : ∀ h2 : zH, h2 = zs h1 220 0 r → K 0 h2 := by
  rintro h2 rfl
  subst eo
  exact hk _ (CI_keep hm c1 (fun a b q1 _ _ _ => zs_k (by omega))) (fun a b q1 q2 => (zs_k q2).trans (f1 a b q1 q2)) (fun _ => zs_eq.trans er)
theorem cs_ex {o : zOu} {h : zH} {K : Int → zH → Prop} {A' : zSt} {v : Int} {k : Nat} (hk : ∀ h', CI h' o.2.2 → (∀ a b, 197 ≤ a → a ≠ 220 → h' a b = h a b) → (o.1 = 0 → h' 220 0 = o.2.1) → K (o.1 : Int) h') (eo : o = (k, v, A')) (k0 : k ≠ 0) {h1 : zH} (c1 : CI h1 A') (f1 : ∀ a b, 197 ≤ a → a ≠ 220 → h1 a b = h a b) : K (k : Int) h1 := by
  subst eo
  exact hk _ c1 f1 (fun q => absurd q k0)
theorem rs_val {o : zOu} {h : zH} {K : Int → zH → Prop} {A' : zSt} {v r : Int} (hk : ∀ r h', RI h' o.2.2 → h' 197 0 = (o.1 : Int) → (o.1 = 0 → r = o.2.1) → (∀ a b, a < 197 ∨ a = 220 → h' a b = h a b) → K r h') (eo : o = (0, v, A')) {h1 : zH} (c1 : RI h1 A') (t1 : h1 197 0 = 0) (f1 : ∀ a b, a < 197 ∨ a = 220 → h1 a b = h a b) (er : r = v) : K r h1 := by
  subst eo
  exact hk _ _ c1 t1 (fun _ => er) f1
theorem rs_ex {o : zOu} {h : zH} {K : Int → zH → Prop} {A' : zSt} {v r : Int} {k : Nat} (hk : ∀ r h', RI h' o.2.2 → h' 197 0 = (o.1 : Int) → (o.1 = 0 → r = o.2.1) → (∀ a b, a < 197 ∨ a = 220 → h' a b = h a b) → K r h') (eo : o = (k, v, A')) (k0 : k ≠ 0) {h1 : zH} (c1 : RI h1 A') (t1 : h1 197 0 = (k : Int)) (f1 : ∀ a b, a < 197 ∨ a = 220 → h1 a b = h a b) : K r h1 := by
  subst eo
  exact hk _ _ c1 t1 (fun q => absurd q k0) f1
/-- a refusal -/
theorem rs_no {o : zOu} {h : zH} {K : Int → zH → Prop} {A : zSt} {v r : Int} {k : Nat} (c : RI h A) (hk : ∀ r h', RI h' o.2.2 → h' 197 0 = (o.1 : Int) → (o.1 = 0 → r = o.2.1) → (∀ a b, a < 197 ∨ a = 220 → h' a b = h a b) → K r h') (eo : o = (k, v, A)) (k0 : k ≠ 0) : K r (zs h 197 0 (k : Int)) :=
  rs_ex hk eo k0 (RI_keep c (fun a b q => by unfold zs; rw [if_neg (by omega)])) zs_eq (fun a b q => zs_k (by omega))
theorem RI_z {h : zH} {A : zSt} {u : Int} (c : RI h A) : RI (zs h 197 0 u) A := RI_keep c (fun a b q => by unfold zs; rw [if_neg (by omega)])
theorem zs0_f {h : zH} {u : Int} : ∀ a b, a < 197 ∨ a = 220 → zs h 197 0 u a b = h a b := fun a b q => zs_k (by omega)
theorem s_hasModel {h : zH} {K : Int → zH → Prop} {x : Int} {mc : Nat} (e : h 5 2 = (mc : Int)) (h1 : 0 ≤ x ∧ x < mc → K 1 h) (h0 : ¬ (0 ≤ x ∧ x < mc) → K 0 h) : M_Models_hasModel 5 x h K := by
  unfold M_Models_hasModel
  rw [e]
  exact ⟨fun c => h0 (by omega), fun c => ⟨fun c2 => h0 (by omega), fun c2 => h1 (by omega)⟩⟩
theorem s_hasSymbol {h : zH} {K : Int → zH → Prop} {x : Int} {sc : Nat} (e : h 5 1 = (sc : Int)) (h1 : 0 ≤ x ∧ x < sc → K 1 h) (h0 : ¬ (0 ≤ x ∧ x < sc) → K 0 h) : M_Models_hasSymbol 5 x h K := by
  unfold M_Models_hasSymbol
  rw [e]
  exact ⟨fun c => h0 (by omega), fun c => ⟨fun c2 => h0 (by omega), fun c2 => h1 (by omega)⟩⟩
abbrev thing (sc mc : Nat) (x : Int) : Prop := (0 ≤ x ∧ x < sc) ∨ (10 ≤ x ∧ x < 10 + mc)
theorem s_allowItem {h : zH} {K : Int → zH → Prop} {x : Int} {sc mc : Nat} (hx : zr x) (e1 : h 5 1 = (sc : Int)) (e2 : h 5 2 = (mc : Int)) (h1 : thing sc mc x → K 1 h) (h0 : ¬ thing sc mc x → K 0 h) : M_Models_allowItem 5 x h K := by
  unfold thing at h1 h0
  unfold M_Models_allowItem
  refine s_hasSymbol e1 (fun q => ⟨fun _ => h1 (by omega), fun c => absurd c (by decide)⟩) (fun q => ⟨fun c => absurd rfl c, fun _ => ⟨fun c => h0 (by omega), fun c => ⟨by omega, s_hasModel e2 (fun q2 => ⟨fun c => absurd c (by decide), fun _ => h1 (by omega)⟩) (fun q2 => ⟨fun _ => h0 (by omega), fun c => absurd rfl c⟩)⟩⟩⟩)
theorem s_isModel {p : Nat} {h : zH} {K : Int → zH → Prop} {x : Int} {mc : Nat} (hm : mc ≤ 3) (e : h p 5 = (mc : Int)) (h1 : 0 ≤ x ∧ x < mc → K 1 h) (h0 : ¬ (0 ≤ x ∧ x < mc) → K 0 h) : M_RM_isModel p x h K := by
  unfold M_RM_isModel
  rw [e]
  exact ⟨by omega, s_in (fun q => ⟨Or.inr rfl, h1 (by omega)⟩) (fun q => ⟨Or.inl rfl, h0 (by omega)⟩)⟩
theorem s_isSymbol {p : Nat} {h : zH} {K : Int → zH → Prop} {x : Int} {sc : Nat} (hm : sc ≤ 8) (e : h p 4 = (sc : Int)) (h1 : 0 ≤ x ∧ x < sc → K 1 h) (h0 : ¬ (0 ≤ x ∧ x < sc) → K 0 h) : M_RM_isSymbol p x h K := by
  unfold M_RM_isSymbol
  rw [e]
  exact ⟨by omega, s_in (fun q => ⟨Or.inr rfl, h1 (by omega)⟩) (fun q => ⟨Or.inl rfl, h0 (by omega)⟩)⟩
theorem zw_small {x : Int} (hx : zr x) : (-2147483638 ≤ x ∧ zw (x - 10) = x - 10) ∨ (x < 0 ∧ 100 ≤ zw (x - 10)) := by
  by_cases q : -2147483648 ≤ x - 10
  · exact Or.inl ⟨by omega, zw_id (by omega)⟩
  · right
    have : zw (x - 10) = x - 10 + 4294967296 := by
      unfold zw
      rw [Int32.toInt_ofInt, Int.bmod_def]
      simp only [Int32.size]
      split <;> omega
    omega
theorem s_isThing {p : Nat} {h : zH} {K : Int → zH → Prop} {x : Int} {sc mc : Nat} (hx : zr x) (hs : sc ≤ 8) (hm : mc ≤ 3) (e1 : h p 4 = (sc : Int)) (e2 : h p 5 = (mc : Int)) (h1 : thing sc mc x → K 1 h) (h0 : ¬ thing sc mc x → K 0 h) : M_RM_isThing p x h K := by
  unfold thing at h1 h0
  unfold M_RM_isThing
  have hz := zw_small hx
  refine s_isSymbol hs e1 (fun q => ⟨fun _ => h1 (by omega), fun c => absurd c (by decide)⟩) (fun q => ⟨fun c => absurd rfl c, fun _ => s_isModel hm e2 (fun q2 => ⟨fun c => absurd c (by decide), fun _ => h1 (by omega)⟩) (fun q2 => ⟨fun _ => h0 (by omega), fun c => absurd rfl c⟩)⟩)
theorem s_isItem {h : zH} {K : Int → zH → Prop} {x : Int} {n : Int} (hn : 0 ≤ n ∧ n ≤ 40) (e : h 200 188 = n) (h1 : 0 ≤ x ∧ x < n → K 1 h) (h0 : ¬ (0 ≤ x ∧ x < n) → K 0 h) : M_RM_isItem 197 x h K := by
  unfold M_RM_isItem
  simp only [Nat.reduceAdd]
  rw [e]
  exact ⟨by omega, s_in (fun q => ⟨Or.inr rfl, h1 (by omega)⟩) (fun q => ⟨Or.inl rfl, h0 (by omega)⟩)⟩
theorem s_isPlanned {h : zH} {K : Int → zH → Prop} {x : Int} {n : Int} (hn : 0 ≤ n ∧ n ≤ 40) (e : h 200 189 = n) (h1 : 0 ≤ x ∧ x < n → K 1 h) (h0 : ¬ (0 ≤ x ∧ x < n) → K 0 h) : M_RM_isPlanned 197 x h K := by
  unfold M_RM_isPlanned
  simp only [Nat.reduceAdd]
  rw [e]
  exact ⟨by omega, s_in (fun q => ⟨Or.inr rfl, h1 (by omega)⟩) (fun q => ⟨Or.inl rfl, h0 (by omega)⟩)⟩
theorem s_isDigitR {h : zH} {K : Int → zH → Prop} {x : Int} {n : Int} (hn : 0 ≤ n ∧ n ≤ 80) (e : h 200 190 = n) (h1 : 0 ≤ x ∧ x < n → K 1 h) (h0 : ¬ (0 ≤ x ∧ x < n) → K 0 h) : M_RM_isDigit 197 x h K := by
  unfold M_RM_isDigit
  simp only [Nat.reduceAdd]
  rw [e]
  exact ⟨by omega, s_in (fun q => ⟨Or.inr rfl, h1 (by omega)⟩) (fun q => ⟨Or.inl rfl, h0 (by omega)⟩)⟩
theorem s_isHead {h : zH} {K : Int → zH → Prop} {x : Int} (h1 : 0 ≤ x ∧ x < 2 → K 1 h) (h0 : ¬ (0 ≤ x ∧ x < 2) → K 0 h) : M_AS_isHead x h K := by
  unfold M_AS_isHead
  exact ⟨fun c => h0 (by omega), fun c => ⟨fun c2 => h0 (by omega), fun c2 => h1 (by omega)⟩⟩
theorem s_isSaveSlot {h : zH} {K : Int → zH → Prop} {x : Int} (h1 : 0 ≤ x ∧ x < 2 → K 1 h) (h0 : ¬ (0 ≤ x ∧ x < 2) → K 0 h) : M_AS_isSaveSlot x h K := by
  unfold M_AS_isSaveSlot
  exact ⟨fun c => h0 (by omega), fun c => ⟨fun c2 => h0 (by omega), fun c2 => h1 (by omega)⟩⟩
theorem s_isDigit {h : zH} {K : Int → zH → Prop} {x : Int} (h1 : 0 ≤ x ∧ x < 16 → K 1 h) (h0 : ¬ (0 ≤ x ∧ x < 16) → K 0 h) : M_AS_isDigit x h K := by
  unfold M_AS_isDigit
  exact ⟨fun c => h0 (by omega), fun c => ⟨fun c2 => h0 (by omega), fun c2 => h1 (by omega)⟩⟩
/-! text calls -/
def sp_append (A : zSt) (x : Int) : zOu := if ¬ (0 ≤ x ∧ x ≤ 255) then (1, 0, A) else if A.len = 100 then (2, 0, A) else (0, (A.len : Int) + 1, zAk A.sc A.mc A.P (A.len + 1) (zup A.tx A.len x) A.n A.hi A.us A.sv)
theorem c_append {A : zSt} (v : VA A) {x : Int} : CS (fun h K => M_LW_append 0 x 220 h K) A (sp_append A x) := by
  intro h K c hk
  have eo : sp_append A x = if ¬ (0 ≤ x ∧ x ≤ 255) then (1, 0, A) else if A.len = 100 then (2, 0, A) else (0, (A.len : Int) + 1, zAk A.sc A.mc A.P (A.len + 1) (zup A.tx A.len x) A.n A.hi A.us A.sv) := rfl
  generalize sp_append A x = o at *
  have hm := v.1.1.1.2.2.2
  have c' := c
  obtain ⟨c1, c2, c3, c4, ⟨t1, t2, t3, t4⟩, c6, c7⟩ := c
  show M_LW_append 0 x 220 h K
  unfold M_LW_append M_AS_append M_Text_add
  simp only [Nat.reduceAdd]
  rw [t1]
  refine ⟨fun q => Or.inl ⟨by trivial, ?_⟩, fun q => ⟨fun q2 => ⟨fun q3 => ⟨fun q4 => by omega, fun q4 => ⟨fun q5 => by omega, fun q5 => ⟨by omega, ?_⟩⟩⟩, fun q3 => Or.inr ⟨by trivial, ?_⟩⟩, fun q2 => Or.inl ⟨by trivial, ?_⟩⟩⟩
  · rw [if_pos (by omega)] at eo
    exact cs_ex hk eo (by decide) c' (fun _ _ _ _ => rfl)
  · rw [if_neg (by omega), if_neg (by omega)] at eo
    rw [Int.toNat_natCast]
    rintro h1 rfl
    rw [zs_k (show 1 ≠ 2 by decide), t1]
    refine ⟨by omega, ?_⟩
    rintro h2 rfl
    have hF : ∀ a b, ¬ (a = 1 ∧ b = 3) → a ≠ 2 → zs (zs h 2 A.len x) 1 3 ((A.len : Int) + 1) a b = h a b := by
      intro a b q1 q2
      unfold zs
      rw [if_neg q1, if_neg (by omega)]
    refine cs_val hk eo hm ⟨(hF _ _ (by omega) (by omega)).trans c1, (hF _ _ (by omega) (by omega)).trans c2, (cPg_same (fun k j q1 q2 => hF _ _ (by omega) (by omega))).trans c3, TCs_keep hm (fun a b q1 q2 => hF _ _ (by omega) (by omega)) c4, ⟨by rw [zs_eq]; rfl, show A.len + 1 ≤ 100 by omega, fun j hj => ?_, fun j hj => ?_⟩, HC_keep (fun a b q1 q2 => hF _ _ (by omega) (by omega)) c6, fun i hi => ⟨(hF _ _ (by omega) (by omega)).trans (c7 i hi).1, fun u => (cPg_same (fun k j q1 q2 => hF _ _ (by omega) (by omega))).trans ((c7 i hi).2 u)⟩⟩ (fun a b q1 q2 => hF a b (by omega) (by omega)) (by rw [zs_eq])
    · have hj' : j < A.len + 1 := hj
      rw [zs_k (by decide)]
      show zs h 2 A.len x 2 j = zup A.tx A.len x j
      by_cases e : j = A.len
      · rw [e, zs_eq, zup_self]
      · rw [zs_j e, zup_ne e]; exact t3 j (by omega)
    · have hj' : j < A.len + 1 := hj
      show 0 ≤ zup A.tx A.len x j ∧ zup A.tx A.len x j ≤ 255
      by_cases e : j = A.len
      · rw [e, zup_self]; omega
      · rw [zup_ne e]; exact t4 j (by omega)
  · rw [if_neg (by omega), if_pos (by omega)] at eo
    exact cs_ex hk eo (by decide) c' (fun _ _ _ _ => rfl)
  · rw [if_pos (by omega)] at eo
    exact cs_ex hk eo (by decide) c' (fun _ _ _ _ => rfl)
theorem r_append {A : zSt} {x : Int} : RS1 (fun h K => M_RM_append 197 x h K) A (sp_append A x) := by
  intro h K c hk
  have eo : sp_append A x = if ¬ (0 ≤ x ∧ x ≤ 255) then (1, 0, A) else if A.len = 100 then (2, 0, A) else (0, (A.len : Int) + 1, zAk A.sc A.mc A.P (A.len + 1) (zup A.tx A.len x) A.n A.hi A.us A.sv) := rfl
  generalize sp_append A x = o at *
  have c' := c
  obtain ⟨c1, c2, c3, ⟨t1, t2, t3, t4⟩, ⟨c5, c6⟩, c7⟩ := c
  show M_RM_append 197 x h K
  unfold M_RM_append B_RM_append_31
  refine s_in (fun q => ⟨fun _ => ⟨fun q2 => ?_, fun q2 => ?_⟩, fun q2 => absurd q2 (by decide)⟩) (fun q => ⟨fun q2 => absurd rfl q2, fun _ => ?_⟩)
  · rw [if_neg (by omega), if_neg (by omega)] at eo
    refine s_refused (fun q3 => absurd q3 (by decide)) (fun _ => ⟨fun _ => ?_, fun q3 => absurd rfl q3⟩)
    simp only [Nat.reduceAdd]
    rw [zs_j (show 2 ≠ 0 by decide), t1]
    refine ⟨by omega, ?_⟩
    rw [Int.toNat_natCast]
    rintro h1 rfl
    rw [zs_k (show 197 ≠ 198 by decide), zs_j (show 2 ≠ 0 by decide), t1]
    refine ⟨by omega, ?_⟩
    rintro h2 rfl
    have hF : ∀ a b, ¬ (a = 197 ∧ b ≤ 2) → a ≠ 198 → zs (zs (zs h 197 0 0) 198 A.len x) 197 2 ((A.len : Int) + 1) a b = h a b := by
      intro a b q1 q2
      unfold zs
      rw [if_neg (by omega), if_neg (by omega), if_neg (by omega)]
    refine rs_val hk eo ⟨(hF _ _ (by omega) (by omega)).trans c1, (hF _ _ (by omega) (by omega)).trans c2, (rPg_same (fun b => hF _ _ (by omega) (by omega))).trans c3, ⟨by rw [zs_eq]; rfl, show A.len + 1 ≤ 100 by omega, fun j hj => ?_, fun j hj => ?_⟩, ⟨(hF _ _ (by omega) (by omega)).trans c5, fun i hi => (rPg_same (fun b => hF _ _ (by omega) (by omega))).trans (c6 i hi)⟩, fun i hi => ⟨(hF _ _ (by omega) (by omega)).trans (c7 i hi).1, fun u => (rPg_same (fun b => hF _ _ (by omega) (by omega))).trans ((c7 i hi).2 u)⟩⟩ ?_ (fun a b q1 => hF a b (by omega) (by omega)) (by rw [zs_eq])
    · have hj' : j < A.len + 1 := hj
      rw [zs_k (by decide)]
      show zs (zs h 197 0 0) 198 A.len x 198 j = zup A.tx A.len x j
      by_cases e : j = A.len
      · rw [e, zs_eq, zup_self]
      · rw [zs_j e, zup_ne e, zs_k (by decide)]; exact t3 j (by omega)
    · have hj' : j < A.len + 1 := hj
      show 0 ≤ zup A.tx A.len x j ∧ zup A.tx A.len x j ≤ 255
      by_cases e : j = A.len
      · rw [e, zup_self]; omega
      · rw [zup_ne e]; exact t4 j (by omega)
    · rw [zs_j (by decide), zs_k (by decide), zs_eq]
  · rw [if_neg (by omega), if_pos (by omega)] at eo
    exact s_refused (fun _ => ⟨fun q3 => absurd q3 (by decide), fun _ => rs_no c' hk eo (by decide)⟩) (fun q3 => absurd q3 (by decide))
  · rw [if_pos (by omega)] at eo
    exact s_refused (fun _ => ⟨fun q3 => absurd q3 (by decide), fun _ => rs_no c' hk eo (by decide)⟩) (fun q3 => absurd q3 (by decide))
theorem Ct_zero {h h' : zH} {p len : Nat} {tx : Nat → Int} (e : h' p 3 = 0) : Ct h' p 0 tx := ⟨e, by omega, fun j hj => by omega, fun j hj => by omega⟩
def sp_clear (A : zSt) : zOu := (0, (A.len : Int), zAk A.sc A.mc A.P 0 A.tx A.n A.hi A.us A.sv)
theorem c_clear {A : zSt} (v : VA A) : CN (fun h K => M_AS_clearText 0 h K) A (sp_clear A).2.1 (sp_clear A).2.2 := by
  intro h K c hk
  have hm := v.1.1.1.2.2.2
  obtain ⟨c1, c2, c3, c4, ⟨t1, t2, t3, t4⟩, c6, c7⟩ := c
  show M_AS_clearText 0 h K
  unfold M_AS_clearText
  simp only [Nat.reduceAdd]
  rintro x rfl h1 rfl
  rw [t1]
  have hF : ∀ a b, ¬ (a = 1 ∧ b = 3) → zs h 1 3 0 a b = h a b := by
    intro a b q1
    unfold zs
    rw [if_neg q1]
  exact hk _ ⟨(hF _ _ (by omega)).trans c1, (hF _ _ (by omega)).trans c2, (cPg_same (fun k j q1 q2 => hF _ _ (by omega))).trans c3, TCs_keep hm (fun a b q1 q2 => hF _ _ (by omega)) c4, Ct_zero (h := h) (len := A.len) zs_eq, HC_keep (fun a b q1 q2 => hF _ _ (by omega)) c6, fun i hi => ⟨(hF _ _ (by omega)).trans (c7 i hi).1, fun u => (cPg_same (fun k j q1 q2 => hF _ _ (by omega))).trans ((c7 i hi).2 u)⟩⟩ (fun a b q => hF _ _ (by omega))
theorem r_clear {A : zSt} : RS1 (fun h K => M_RM_clearText 197 h K) A (sp_clear A) := by
  intro h K c hk
  obtain ⟨c1, c2, c3, ⟨t1, t2, t3, t4⟩, ⟨c5, c6⟩, c7⟩ := c
  show M_RM_clearText 197 h K
  unfold M_RM_clearText
  rintro h1 rfl x rfl h2 rfl
  rw [zs_j (show 2 ≠ 0 by decide), t1]
  have hF : ∀ a b, ¬ (a = 197 ∧ b ≤ 2) → zs (zs h 197 0 0) 197 2 0 a b = h a b := by
    intro a b q1
    unfold zs
    rw [if_neg (by omega), if_neg (by omega)]
  exact hk _ _ ⟨(hF _ _ (by omega)).trans c1, (hF _ _ (by omega)).trans c2, (rPg_same (fun b => hF _ _ (by omega))).trans c3, ⟨zs_eq, show 0 ≤ 100 by omega, fun j (hj : j < 0) => by omega, fun j (hj : j < 0) => by omega⟩, ⟨(hF _ _ (by omega)).trans c5, fun i hi => (rPg_same (fun b => hF _ _ (by omega))).trans (c6 i hi)⟩, fun i hi => ⟨(hF _ _ (by omega)).trans (c7 i hi).1, fun u => (rPg_same (fun b => hF _ _ (by omega))).trans ((c7 i hi).2 u)⟩⟩ (by rw [zs_j (by decide), zs_eq]; rfl) (fun _ => rfl) (fun a b q => hF _ _ (by omega))
def sp_errorPosition (A : zSt) : zOu := (0, rE A.tx A.len, A)
theorem c_errorPosition {A : zSt} (v : VA A) : CN (fun h K => M_AS_errorPosition 0 h K) A (sp_errorPosition A).2.1 (sp_errorPosition A).2.2 := by
  intro h K c hk
  have hm := v.1.1.1.2.2.2
  show M_AS_errorPosition 0 h K
  unfold M_AS_errorPosition
  refine s_read (p := 1) c.2.2.2.2.1 (fun h1 f1 t1 => hk h1 (CI_keep hm c (fun a b q1 q2 q3 q4 => f1 a b (by omega) (by omega) (by omega))) (fun a b q => f1 a b (by omega) (by omega) (by omega)))
theorem r_errorPosition {A : zSt} : RS1 (fun h K => M_RM_errorPosition 197 h K) A (sp_errorPosition A) := by
  intro h K c hk
  show M_RM_errorPosition 197 h K
  unfold M_RM_errorPosition
  rintro h1 rfl
  refine s_readAll (p := 197) zl199 (RI_z c).2.2.2.1 (fun r h2 f2 g1 g0 => ?_)
  have c2 : RI h2 A := RI_keep (RI_z c) (fun a b q => f2 a b (by omega) (by omega))
  have t2 : h2 197 0 = ((0 : Nat) : Int) := by rw [f2 _ _ (by omega) (by omega), zs_eq]; rfl
  have hF : ∀ a b, a < 197 ∨ a = 220 → h2 a b = h a b := fun a b q => (f2 a b (by omega) (by omega)).trans (zs0_f a b q)
  refine ⟨fun q => ?_, fun q => ?_⟩
  · by_cases e : rE A.tx A.len = -9
    · exact absurd (g1 e).1 (by omega)
    · exact hk _ _ c2 t2 (fun _ => (g0 e).2) hF
  · by_cases e : rE A.tx A.len = -9
    · exact hk _ _ c2 t2 (fun _ => e.symm) hF
    · exact absurd (g0 e).1 q

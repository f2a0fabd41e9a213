/-! states and pages: copies, items -/
theorem zcp_in {h : zH} {s d len b : Nat} (hb : b < len) : zcp h s 0 d 0 len d b = h s b := by
  unfold zcp
  rw [if_pos ⟨rfl, by omega, by omega⟩, show 0 + (b - 0) = b by omega]
theorem zcp_k {h : zH} {s d len a b : Nat} (ha : a ≠ d) : zcp h s 0 d 0 len a b = h a b := by
  unfold zcp
  rw [if_neg (fun q => ha q.1)]
theorem cT_eq {h h' : zH} {t t' : Nat} (e1 : h' t 3 = h t' 3) (e2 : h' t 4 = h t' 4) (e3 : h' (t + 3) 0 = h (t' + 3) 0) (e4 : h' (t + 3) 1 = h (t' + 3) 1) (e5 : ∀ j : Nat, (j : Int) < h t' 3 → h' (t + 1) j = h (t' + 1) j) (e6 : ∀ j : Nat, (j : Int) < h t' 4 → h' (t + 2) j = h (t' + 2) j) : cT h' t = cT h t' := by
  unfold cT
  rw [e1, e2, e3, e4, tr_congr (g := h (t' + 1)) (fun i hi => e5 i (by omega)), tr_congr (g := h (t' + 2)) (fun i hi => e6 i (by omega))]
theorem cPg_eq {h h' : zH} {a a' : Nat} (e0 : ∀ j, j < 24 → h' (a + 1) j = h (a' + 1) j) (e1 : h' a 3 = h a' 3) (e2 : ∀ j : Nat, (j : Int) < h a' 3 → h' (a + 2) j = h (a' + 2) j) (e3 : cT h' (a + 3) = cT h (a' + 3)) : cPg h' a = cPg h a' := by
  unfold cPg
  rw [e1, e3, tr_congr (g := h (a' + 1)) e0, tr_congr (g := h (a' + 2)) (fun i hi => e2 i (by omega))]
theorem cPg_same {h h' : zH} {a : Nat} (e : ∀ k j, a ≤ k → k ≤ a + 6 → h' k j = h k j) : cPg h' a = cPg h a := by
  refine cPg_eq (fun j _ => e _ _ (by omega) (by omega)) (e _ _ (by omega) (by omega)) (fun j _ => e _ _ (by omega) (by omega)) (cT_eq (e _ _ (by omega) (by omega)) (e _ _ (by omega) (by omega)) (e _ _ (by omega) (by omega)) (e _ _ (by omega) (by omega)) (fun j _ => e _ _ (by omega) (by omega)) (fun j _ => e _ _ (by omega) (by omega)))
theorem rPg_eq {h h' : zH} {c c' o o' : Nat} (e : ∀ j, j < 193 → h' c' (o' + j) = h c (o + j)) (n1 : h c (o + 188) ≤ 40) (n2 : h c (o + 189) ≤ 40) (n3 : h c (o + 190) ≤ 80) : rPg h' c' o' = rPg h c o := by
  have e1 := e 188 (by omega)
  have e2 := e 189 (by omega)
  have e3 := e 190 (by omega)
  have e4 := e 191 (by omega)
  have e5 := e 192 (by omega)
  unfold rPg rT
  rw [e1, e2, e3, e4, e5, tr_congr (g := fun j => h c (o + j)) (fun i hi => e i (by omega)), tr_congr (n := (h c (o + 188)).toNat) (g := fun j => h c (o + 24 + j)) (fun i hi => by have := e (24 + i) (by omega); rw [← Nat.add_assoc, ← Nat.add_assoc] at this; exact this), tr_congr (n := (h c (o + 189)).toNat) (g := fun j => h c (o + 64 + j)) (fun i hi => by have := e (64 + i) (by omega); rw [← Nat.add_assoc, ← Nat.add_assoc] at this; exact this), tr_congr (n := (h c (o + 190)).toNat) (g := fun j => h c (o + 104 + j)) (fun i hi => by have := e (104 + i) (by omega); rw [← Nat.add_assoc, ← Nat.add_assoc] at this; exact this)]
theorem s_tapeCopy {p0 p1 : Nat} (hd : p0 + 3 < p1 ∨ p1 + 3 < p0) {h : zH} {K : zH → Prop} (n1 : h p1 3 ≤ 40) (n2 : h p1 4 ≤ 80) (hk : ∀ h', cT h' p0 = cT h p1 → (∀ k j, k < p0 ∨ p0 + 3 < k → h' k j = h k j) → K h') : M_Tape_copyFrom p0 p1 h K := by
  unfold M_Tape_copyFrom
  rintro h1 rfl h2 rfl h3 rfl h4 rfl h5 rfl
  refine hk _ (cT_eq ?_ ?_ ?_ ?_ (fun j hj => ?_) (fun j hj => ?_)) (fun k j hkj => ?_)
  · rw [zs_j (by omega), zs_eq, zcp_k (by omega), zcp_k (by omega), zcp_k (by omega)]
  · rw [zs_eq, zs_k (by omega), zcp_k (by omega), zcp_k (by omega), zcp_k (by omega)]
  · rw [zs_k (by omega), zs_k (by omega), zcp_in (by omega), zcp_k (by omega), zcp_k (by omega)]
  · rw [zs_k (by omega), zs_k (by omega), zcp_in (by omega), zcp_k (by omega), zcp_k (by omega)]
  · rw [zs_k (by omega), zs_k (by omega), zcp_k (by omega), zcp_k (by omega), zcp_in (by omega)]
  · rw [zs_k (by omega), zs_k (by omega), zcp_k (by omega), zcp_in (by omega), zcp_k (by omega)]
  · rw [zs_k (by omega), zs_k (by omega), zcp_k (by omega), zcp_k (by omega), zcp_k (by omega)]
theorem s_stateCopy {p0 p1 : Nat} (hd : p0 + 6 < p1 ∨ p1 + 6 < p0) {h : zH} {K : zH → Prop} (n0 : h p1 3 ≤ 40) (n1 : h (p1 + 3) 3 ≤ 40) (n2 : h (p1 + 3) 4 ≤ 80) (hk : ∀ h', cPg h' p0 = cPg h p1 → (∀ k j, k < p0 ∨ p0 + 6 < k → h' k j = h k j) → K h') : M_State_copyFrom p0 p1 h K := by
  unfold M_State_copyFrom
  rintro h1 rfl h2 rfl h3 rfl
  have g : ∀ k j, k < p0 ∨ p0 + 2 < k → zs (zcp (zcp h (p1 + 1) 0 (p0 + 1) 0 24) (p1 + 2) 0 (p0 + 2) 0 40) p0 3 (zcp (zcp h (p1 + 1) 0 (p0 + 1) 0 24) (p1 + 2) 0 (p0 + 2) 0 40 p1 3) k j = h k j := fun k j hkj => by
    rw [zs_k (by omega), zcp_k (by omega), zcp_k (by omega)]
  refine s_tapeCopy (by omega) ?_ ?_ ?_
  · rw [g _ _ (by omega)]; exact n1
  · rw [g _ _ (by omega)]; exact n2
  intro h4 eT hF
  refine hk _ (cPg_eq (fun j hj => ?_) ?_ (fun j hj => ?_) ?_) (fun k j hkj => ?_)
  · rw [hF _ _ (by omega), zs_k (by omega), zcp_k (by omega), zcp_in hj]
  · rw [hF _ _ (by omega), zs_eq, zcp_k (by omega), zcp_k (by omega)]
  · rw [hF _ _ (by omega), zs_k (by omega), zcp_in (by omega), zcp_k (by omega)]
  · rw [eT]
    exact cT_eq (g _ _ (by omega)) (g _ _ (by omega)) (g _ _ (by omega)) (g _ _ (by omega)) (fun j _ => g _ _ (by omega)) (fun j _ => g _ _ (by omega))
  · rw [hF _ _ (by omega), g _ _ (by omega)]
theorem s_copyPage {p0 p2 o1 o3 : Nat} (hd : p0 ≠ p2) (l1 : o1 + 193 ≤ zln p0) (l3 : o3 + 193 ≤ zln p2) (hz1 : zln p0 ≤ 10000) (hz2 : zln p2 ≤ 10000) {h : zH} {K : zH → Prop} (hk : ∀ h', (∀ j, j < 193 → h' p2 (o3 + j) = h p0 (o1 + j)) → (∀ a b, ¬ (a = p2 ∧ o3 ≤ b ∧ b < o3 + 193) → h' a b = h a b) → K h') {x1 x3 : Int} (ex1 : x1 = (o1 : Int)) (ex3 : x3 = (o3 : Int)) : M_RM_copyPage p0 x1 p2 x3 h K := by
  subst ex1 ex3
  unfold M_RM_copyPage
  refine yp1 193 (fun i h' => (∀ j, j < i → h' p2 (o3 + j) = h p0 (o1 + j)) ∧ ∀ a b, ¬ (a = p2 ∧ o3 ≤ b ∧ b < o3 + 193) → h' a b = h a b) ⟨fun j hj => by omega, fun a b _ => rfl⟩ ?_
  rintro i h' L hi ⟨hA, hB⟩ hL
  show F_RM_copyPage_3 K L p0 (o1 : Int) p2 (o3 : Int) (i : Int) h'
  unfold F_RM_copyPage_3
  constructor
  · intro ci
    have ei : i = 193 := by omega
    subst ei
    exact hk _ hA hB
  · intro ci
    rw [show ((o3 : Int) + (i : Int)).toNat = o3 + i by omega, show ((o1 : Int) + (i : Int)).toNat = o1 + i by omega, hB p0 _ (by omega)]
    refine ⟨by omega, by omega, by omega, by omega, ?_⟩
    rintro h1 rfl
    refine ⟨by omega, hL _ (by omega) ⟨fun j hj => ?_, fun a b hab => ?_⟩⟩
    · by_cases e : j = i
      · subst e; rw [zs_eq]
      · rw [zs_j (by omega)]; exact hA j (by omega)
    · rw [← hB a b hab]
      by_cases e : a = p2
      · exact zs_j (by omega)
      · exact zs_k e
/-- a row with one more, with one less -/
def ins (it : Nat → Int) (i : Nat) (v : Int) : Nat → Int := fun j => if j < i then it j else if j = i then v else it (j - 1)
def drp (it : Nat → Int) (i : Nat) : Nat → Int := fun j => if j < i then it j else it (j + 1)
theorem s_addItem {a i n : Nat} (hin : i ≤ n) (hn : n < 40) {h : zH} {K : zH → Prop} {v : Int} (en : h a 3 = (n : Int)) (hk : ∀ h', h' a 3 = (n : Int) + 1 → (∀ j, j ≤ n → h' (a + 2) j = ins (h (a + 2)) i v j) → (∀ k j, ¬ (k = a ∧ j = 3) → k ≠ a + 2 → h' k j = h k j) → K h') {x : Int} (ex : x = (i : Int)) : M_State_addItem a x v h K := by
  subst ex
  unfold M_State_addItem
  rw [en]
  refine ⟨fun c => by omega, fun _ => ⟨fun c => by omega, fun _ => ⟨fun _ => ?_, fun c => by omega⟩⟩⟩
  rintro x3 rfl
  refine ypx (n - i) (fun r => (n : Int) - r) (fun r h' => (∀ j, h' (a + 2) j = if n - r < j ∧ j ≤ n then h (a + 2) (j - 1) else h (a + 2) j) ∧ ∀ k j, k ≠ a + 2 → h' k j = h k j) (by show (n : Int) = (n : Int) - 0; omega) ⟨fun j => by rw [if_neg (by omega)], fun k j _ => rfl⟩ ?_
  rintro r x h' L hr ex ⟨hA, hB⟩ hL
  have ex' : x = (n : Int) - r := ex
  clear ex
  show F_State_addItem_27 K L a (i : Int) v x h'
  unfold F_State_addItem_27
  simp only [Int.toNat_natCast]
  constructor
  · intro cx
    have er : r = n - i := by omega
    refine ⟨by omega, ?_⟩
    rintro h1 rfl
    rw [zs_k (show a ≠ a + 2 by omega), hB a 3 (by omega), en]
    refine ⟨by omega, ?_⟩
    rintro h2 rfl
    refine hk _ zs_eq (fun j hj => ?_) (fun k j q1 q2 => ?_)
    · rw [zs_k (by omega)]
      unfold ins
      by_cases e : j = i
      · rw [e, zs_eq, if_neg (by omega), if_pos rfl]
      · rw [zs_j e, hA j]
        by_cases z : j < i
        · rw [if_pos z, if_neg (by omega)]
        · rw [if_neg z, if_neg e, if_pos (by omega)]
    · rw [← hB k j q2]
      have : zs (zs h' (a + 2) i v) a 3 ((n : Int) + 1) k j = zs h' (a + 2) i v k j := by unfold zs; rw [if_neg q1]
      rw [this, zs_k q2]
  · intro cx
    rw [show x.toNat = n - r by omega, show (x - 1).toNat = n - r - 1 by omega]
    refine ⟨by omega, by omega, by omega, ?_⟩
    rintro h1 rfl
    refine ⟨by omega, hL _ _ (by omega) (by show _ + -1 = _ - ((r + 1 : Nat) : Int); omega) ⟨fun j => ?_, fun k j q => ?_⟩⟩
    · by_cases e : j = n - r
      · rw [e, zs_eq, hA, if_neg (by omega), if_pos (by omega)]
      · rw [zs_j e, hA]
        by_cases z : n - r < j ∧ j ≤ n
        · rw [if_pos z, if_pos (by omega)]
        · rw [if_neg z, if_neg (by omega)]
    · rw [zs_k q]; exact hB k j q
theorem s_put {p1 i n : Nat} (hl : zln p1 = 193) (hin : i ≤ n) (hn : n < 40) {h : zH} {K : zH → Prop} {v : Int} (en : h p1 188 = (n : Int)) (hk : ∀ h', h' p1 188 = (n : Int) + 1 → (∀ j, j ≤ n → h' p1 (24 + j) = ins (fun j => h p1 (24 + j)) i v j) → (∀ a b, ¬ (a = p1 ∧ (b = 188 ∨ (24 ≤ b ∧ b < 64))) → h' a b = h a b) → K h') {x : Int} (ex : x = (i : Int)) : M_RM_put p1 x v h K := by
  subst ex
  unfold M_RM_put
  rw [hl, en]
  refine ⟨by omega, ?_⟩
  rintro x3 rfl
  refine ypx (n - i) (fun r => (n : Int) - r) (fun r h' => (∀ j, j < 40 → h' p1 (24 + j) = if n - r < j ∧ j ≤ n then h p1 (24 + (j - 1)) else h p1 (24 + j)) ∧ ∀ a b, ¬ (a = p1 ∧ 24 ≤ b ∧ b < 64) → h' a b = h a b) (by show (n : Int) = (n : Int) - 0; omega) ⟨fun j _ => by rw [if_neg (by omega)], fun k j _ => rfl⟩ ?_
  rintro r x h' L hr ex ⟨hA, hB⟩ hL
  have ex' : x = (n : Int) - r := ex
  clear ex
  show F_RM_put_6 K L p1 (i : Int) v x h'
  unfold F_RM_put_6
  rw [hl]
  constructor
  · intro cx
    have er : r = n - i := by omega
    rw [show (24 + (i : Int)).toNat = 24 + i by omega]
    refine ⟨by omega, by omega, ?_⟩
    rintro h1 rfl
    rw [zs_j (show 188 ≠ 24 + i by omega), hB p1 188 (by omega), en]
    refine ⟨by omega, by omega, by omega, ?_⟩
    rintro h2 rfl
    refine hk _ zs_eq (fun j hj => ?_) (fun a b q => ?_)
    · rw [zs_j (by omega)]
      unfold ins
      by_cases e : j = i
      · rw [e, zs_eq, if_neg (by omega), if_pos rfl]
      · rw [zs_j (by omega), hA j (by omega)]
        by_cases z : j < i
        · rw [if_pos z, if_neg (by omega)]
        · rw [if_neg z, if_neg e, if_pos (by omega)]
    · rw [← hB a b (by omega)]
      by_cases e : a = p1
      · rw [zs_j (by omega), zs_j (by omega)]
      · rw [zs_k e, zs_k e]
  · intro cx
    rw [show (24 + x).toNat = 24 + (n - r) by omega, show (24 + x - 1).toNat = 24 + (n - r - 1) by omega]
    refine ⟨by omega, by omega, by omega, by omega, by omega, ?_⟩
    rintro h1 rfl
    refine ⟨by omega, hL _ _ (by omega) (by show _ + -1 = _ - ((r + 1 : Nat) : Int); omega) ⟨fun j hj => ?_, fun a b q => ?_⟩⟩
    · by_cases e : j = n - r
      · rw [e, zs_eq, hA _ (by omega), if_neg (by omega), if_pos (by omega)]
      · rw [zs_j (by omega), hA j hj]
        by_cases z : n - r < j ∧ j ≤ n
        · rw [if_pos z, if_pos (by omega)]
        · rw [if_neg z, if_neg (by omega)]
    · rw [← hB a b q]
      by_cases e : a = p1
      · exact zs_j (by omega)
      · exact zs_k e
theorem s_hasItem {a : Nat} {h : zH} {K : Int → zH → Prop} {x : Int} (hn : h a 3 ≤ 40) (h1 : 0 ≤ x ∧ x < h a 3 → K 1 h) (h0 : ¬ (0 ≤ x ∧ x < h a 3) → K 0 h) : M_State_hasItem a x h K := by
  unfold M_State_hasItem
  repeat' (first | with_reducible apply And.intro | (with_reducible intro hh ee; subst ee) | with_reducible intro cc)
  all_goals (try omega)
  · exact h0 (by omega)
  · exact h0 (by omega)
  · exact h1 (by omega)
theorem s_dropItem {a i n : Nat} (hin : i < n) (hn : n ≤ 40) {h : zH} {K : zH → Prop} (en : h a 3 = (n : Int)) (hk : ∀ h', h' a 3 = (n : Int) - 1 → (∀ j, j + 1 < n → h' (a + 2) j = drp (h (a + 2)) i j) → (∀ k j, ¬ (k = a ∧ j = 3) → k ≠ a + 2 → h' k j = h k j) → K h') {x : Int} (ex : x = (i : Int)) : M_State_dropItem a x h K := by
  subst ex
  unfold M_State_dropItem
  refine s_hasItem (by omega) (fun _ => ?_) (fun q => by rw [en] at q; omega)
  refine ⟨fun _ => ?_, fun c => absurd c (by decide)⟩
  refine ypx (n - 1 - i) (fun r => (i : Int) + r) (fun r h' => (∀ j, h' (a + 2) j = if i ≤ j ∧ j < i + r then h (a + 2) (j + 1) else h (a + 2) j) ∧ ∀ k j, k ≠ a + 2 → h' k j = h k j) (by show (i : Int) = (i : Int) + 0; omega) ⟨fun j => by rw [if_neg (by omega)], fun k j _ => rfl⟩ ?_
  rintro r x h' L hr ex ⟨hA, hB⟩ hL
  have ex' : x = (i : Int) + r := ex
  clear ex
  show F_State_dropItem_11 K L a x h'
  unfold F_State_dropItem_11
  rw [hB a 3 (by omega), en]
  refine ⟨by omega, fun cx => ⟨by omega, ?_⟩, fun cx => ⟨fun c2 => by omega, fun c2 => ?_⟩⟩
  · have er : r = n - 1 - i := by omega
    rintro h2 rfl
    refine hk _ zs_eq (fun j hj => ?_) (fun k j q1 q2 => ?_)
    · rw [zs_k (by omega), hA j]
      unfold drp
      by_cases z : j < i
      · rw [if_pos z, if_neg (by omega)]
      · rw [if_neg z, if_pos (by omega)]
    · rw [← hB k j q2]
      unfold zs; rw [if_neg q1]
  · rw [show x.toNat = i + r by omega, show (x + 1).toNat = i + r + 1 by omega]
    refine ⟨by omega, by omega, by omega, ?_⟩
    rintro h1 rfl
    refine ⟨by omega, hL _ _ (by omega) (by show _ + 1 = _ + ((r + 1 : Nat) : Int); omega) ⟨fun j => ?_, fun k j q => ?_⟩⟩
    · by_cases e : j = i + r
      · rw [e, zs_eq, hA, if_neg (by omega), if_pos (by omega)]
      · rw [zs_j e, hA]
        by_cases z : i ≤ j ∧ j < i + r
        · rw [if_pos z, if_pos (by omega)]
        · rw [if_neg z, if_neg (by omega)]
    · rw [zs_k q]; exact hB k j q
theorem s_drop {p1 i n : Nat} (hl : zln p1 = 193) (hin : i < n) (hn : n ≤ 40) {h : zH} {K : Int → zH → Prop} (en : h p1 188 = (n : Int)) (hk : ∀ h', h' p1 188 = (n : Int) - 1 → (∀ j, j + 1 < n → h' p1 (24 + j) = drp (fun j => h p1 (24 + j)) i j) → (∀ a b, ¬ (a = p1 ∧ (b = 188 ∨ (24 ≤ b ∧ b < 64))) → h' a b = h a b) → K (h p1 (24 + i)) h') {x : Int} (ex : x = (i : Int)) : M_RM_drop p1 x h K := by
  subst ex
  unfold M_RM_drop
  rw [hl, show (24 + (i : Int)).toNat = 24 + i by omega]
  refine ⟨by omega, by omega, ?_⟩
  rintro x2 rfl
  refine ypx (n - 1 - i) (fun r => (i : Int) + r) (fun r h' => (∀ j, j < 40 → h' p1 (24 + j) = if i ≤ j ∧ j < i + r then h p1 (24 + (j + 1)) else h p1 (24 + j)) ∧ ∀ a b, ¬ (a = p1 ∧ 24 ≤ b ∧ b < 64) → h' a b = h a b) (by show (i : Int) = (i : Int) + 0; omega) ⟨fun j _ => by rw [if_neg (by omega)], fun k j _ => rfl⟩ ?_
  rintro r x h' L hr ex ⟨hA, hB⟩ hL
  have ex' : x = (i : Int) + r := ex
  clear ex
  show F_RM_drop_9 K L p1 (h p1 (24 + i)) x h'
  unfold F_RM_drop_9
  rw [hl, hB p1 188 (by omega), en]
  refine ⟨by omega, by omega, fun cx => ⟨by omega, by omega, by omega, ?_⟩, fun cx => ?_⟩
  · have er : r = n - 1 - i := by omega
    rintro h2 rfl
    refine hk _ zs_eq (fun j hj => ?_) (fun a b q => ?_)
    · rw [zs_j (by omega), hA j (by omega)]
      unfold drp
      by_cases z : j < i
      · rw [if_pos z, if_neg (by omega)]
      · rw [if_neg z, if_pos (by omega)]
    · rw [← hB a b (by omega)]
      by_cases e : a = p1
      · exact zs_j (by omega)
      · exact zs_k e
  · rw [show (24 + x).toNat = 24 + (i + r) by omega, show (24 + x + 1).toNat = 24 + (i + r + 1) by omega]
    refine ⟨by omega, by omega, by omega, by omega, by omega, ?_⟩
    rintro h1 rfl
    refine ⟨by omega, hL _ _ (by omega) (by show _ + 1 = _ + ((r + 1 : Nat) : Int); omega) ⟨fun j hj => ?_, fun a b q => ?_⟩⟩
    · by_cases e : j = i + r
      · rw [e, zs_eq, hA _ (by omega), if_neg (by omega), if_pos (by omega)]
      · rw [zs_j (by omega), hA j hj]
        by_cases z : i ≤ j ∧ j < i + r
        · rw [if_pos z, if_pos (by omega)]
        · rw [if_neg z, if_neg (by omega)]
    · rw [← hB a b q]
      by_cases e : a = p1
      · exact zs_j (by omega)
      · exact zs_k e

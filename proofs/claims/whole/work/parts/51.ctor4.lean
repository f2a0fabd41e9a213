/-! Saves, the reference, AliasStreams (printed by wip/whole/ctorgen3.py) -/
def zgo (ad : Nat → Nat) (h : zH) (k : Nat) : Nat → List (Option Nat) → List Value
  | _, [] => []
  | j, o :: os => zfv ad h k j o :: zgo ad h k (j + 1) os
theorem zgo_map {ad : Nat → Nat} {h : zH} {k : Nat} : ∀ (os : List (Option Nat)) (j : Nat), os.mapIdx (fun i o => zfv ad h k (i + j) o) = zgo ad h k j os := by
  intro os
  induction os with
  | nil => intro j; rfl
  | cons o os ih =>
    intro j
    rw [List.mapIdx_cons]
    show zfv ad h k (0 + j) o :: _ = zfv ad h k j o :: zgo ad h k (j + 1) os
    rw [← ih (j + 1), Nat.zero_add]
    congr 2
    funext i o
    rw [show i + 1 + j = i + (j + 1) by omega]
theorem zfl_go {ad : Nat → Nat} {h : zH} {k : Nat} {os : List (Option Nat)} : zfl ad h k os = zgo ad h k 0 os := zgo_map os 0
def dFe (e : Nat → va_E) (f0 : Nat → va_E) (a ci : Nat) (fs : List Value) : Nat → va_E := fun k => if k < a then f0 k else if k = a then .inr (ci, fs) else e k
theorem dFe_a {e f0 : Nat → va_E} {a ci : Nat} {fs : List Value} : dFe e f0 a ci fs a = .inr (ci, fs) := by
  unfold dFe
  rw [if_neg (Nat.lt_irrefl a), if_pos rfl]
theorem dFe_gt {e f0 : Nat → va_E} {a ci : Nat} {fs : List Value} {k : Nat} (h : a < k) : dFe e f0 a ci fs k = e k := by
  unfold dFe
  rw [if_neg (by omega), if_neg (by omega)]
theorem dFe_lt {e f0 : Nat → va_E} {a ci : Nat} {fs : List Value} {k : Nat} (h : k < a) : dFe e f0 a ci fs k = f0 k := by
  unfold dFe
  rw [if_pos h]
theorem dFe_set {e f0 : Nat → va_E} {a ci : Nat} {fs : List Value} {v : Value} {j : Nat} : ∀ k, dU1 (dFe e f0 a ci fs) a (.inr (ci, fs.set j v)) k = dFe e f0 a ci (fs.set j v) k := by
  intro k
  unfold dU1
  by_cases h : k = a
  · subst h
    rw [if_pos rfl, dFe_a]
  · rw [if_neg h]
    by_cases h2 : k < a
    · rw [dFe_lt h2, dFe_lt h2]
    · rw [dFe_gt (by omega), dFe_gt (by omega)]
theorem dFe_up {e f0 : Nat → va_E} {a ci b : Nat} {fs : List Value} {v : va_E} (hb : a < b) : ∀ k, dU1 (dFe e f0 a ci fs) b v k = dFe (dU1 e b v) f0 a ci fs k := by
  intro k
  by_cases h : k = b
  · subst h
    rw [dFe_gt hb]
    unfold dU1
    rw [if_pos rfl, if_pos rfl]
  · by_cases h2 : k < a
    · rw [dFe_lt h2]
      unfold dU1
      rw [if_neg h, dFe_lt h2]
    · by_cases h3 : k = a
      · subst h3
        rw [dFe_a]
        unfold dU1
        rw [if_neg h, dFe_a]
      · rw [dFe_gt (by omega)]
        unfold dU1
        rw [if_neg h, dFe_gt (by omega), if_neg h]
theorem zA0_int {g : zG} {n len : Nat} (ck : zA0 n 12 len = true) : zE g h00 n = .inl (g.2.1 12, len, .inl (fun _ => 0)) := by
  simp only [zA0, Bool.and_eq_true, beq_iff_eq] at ck
  rw [zE_int ck.1.1, ck.1.2]
  simp only [h00_z ck.2]
  rfl
theorem zA0_bool {g : zG} {n len : Nat} (ck : zA0 n 13 len = true) : zE g h00 n = .inl (g.2.1 13, len, .inl (fun _ => 0)) := by
  simp only [zA0, Bool.and_eq_true, beq_iff_eq] at ck
  rw [zE_bool ck.1.1, ck.1.2]
  simp only [h00_z ck.2]
  rfl
section CE
variable {Wf : Nat → Nat → Heap → List Loc → JFrame → Prop} {m : MethodId} {R : Room} {cc : ByteArray} {own : String} {nL : Nat} {g : zG} {H0 : Heap} {ini : Prop} {cells slots pc n : Nat} {lv lv' : List (Nat × Value)} {rest st : List Value} {f e f0 : Nat → va_E} {a ci : Nat} {fs : List Value}
theorem e_start {e0 : va_E} (he : e0 = .inr (ci, fs)) (k : dW Wf m nL g H0 cells slots pc lv st (a + 1) (dFe e f a ci fs)) : dW Wf m nL g H0 cells slots pc lv st (a + 1) (dU1 f a e0) := by
  refine d_congr (fun k hk => ?_) k
  subst he
  unfold dU1
  by_cases h : k = a
  · subst h
    rw [if_pos rfl, dFe_a]
  · rw [if_neg h, dFe_lt (by omega)]
theorem e_newI (X : dX Wf m R cc own nL g H0 ini) {len : Nat} {x : Int} (hn : a < n) (he : e n = .inl (g.2.1 12, len, .inl (fun _ => 0))) (w : Cond.arrayClass .int ∈ zWd) (hx1 : zr x) (hx2 : x = (len : Int)) (hl : len ≤ 100000) (hR : cells + 1 ≤ R.cells ∧ slots + len ≤ R.slots) (d : decode cc pc = .ok (.newarray .int, 2)) (k : dW Wf m nL g H0 (cells + 1) (slots + len) (pc + 2) lv (.ref (g.2.2 n) :: rest) (n + 1) (dFe e f0 a ci fs)) : dW Wf m nL g H0 cells slots pc lv (zi x :: rest) n (dFe e f0 a ci fs) := by
  refine d_newI X w hx1 hx2 hl hR d (d_congr (fun k hk => ?_) k)
  unfold dU1
  by_cases h : k = n
  · subst h
    rw [if_pos rfl, dFe_gt hn, he]
  · rw [if_neg h]
theorem e_newZ (X : dX Wf m R cc own nL g H0 ini) {len : Nat} {x : Int} (hn : a < n) (he : e n = .inl (g.2.1 13, len, .inl (fun _ => 0))) (w : Cond.arrayClass .boolean ∈ zWd) (hx1 : zr x) (hx2 : x = (len : Int)) (hl : len ≤ 100000) (hR : cells + 1 ≤ R.cells ∧ slots + len ≤ R.slots) (d : decode cc pc = .ok (.newarray .boolean, 2)) (k : dW Wf m nL g H0 (cells + 1) (slots + len) (pc + 2) lv (.ref (g.2.2 n) :: rest) (n + 1) (dFe e f0 a ci fs)) : dW Wf m nL g H0 cells slots pc lv (zi x :: rest) n (dFe e f0 a ci fs) := by
  refine d_newZ X w hx1 hx2 hl hR d (d_congr (fun k hk => ?_) k)
  unfold dU1
  by_cases h : k = n
  · subst h
    rw [if_pos rfl, dFe_gt hn, he]
  · rw [if_neg h]
theorem e_putF (X : dX Wf m R cc own nL g H0 True) {j idx N : Nat} {v : Value} {C : String} {T : u_T} {ty : Nat → FieldType} (hn : a < n) (cf : zCF ci C T ty N) (hj : j < N) (w : Cond.fieldLink own idx C (T j).2.1 (T j).2.2.1 ∈ zWd) (hT : (T j).1 = C) (hown2 : (T j).1 = own) (hfin : (T j).2.2.2 = true) (hnf : narrow (ty j) v = v ∧ fits (ty j) v = true) (hl : j < fs.length) (d : decode cc pc = .ok (.putfield idx, 3)) (k : dW Wf m nL g H0 cells slots (pc + 3) lv rest n (dFe e f0 a ci (fs.set j v))) : dW Wf m nL g H0 cells slots pc lv (v :: .ref (g.2.2 a) :: rest) n (dFe e f0 a ci fs) :=
  d_putF X trivial cf hn dFe_a hj w hT hown2 hfin hnf hl d (d_congr (fun k _ => dFe_set k) k)
theorem e_put (X : dX Wf m R cc own nL g H0 ini) {j idx N : Nat} {v : Value} {C : String} {T : u_T} {ty : Nat → FieldType} (hn : a < n) (cf : zCF ci C T ty N) (hj : j < N) (w : Cond.fieldLink own idx C (T j).2.1 (T j).2.2.1 ∈ zWd) (hT : (T j).1 = C) (hfin : (T j).2.2.2 = false) (hnf : narrow (ty j) v = v ∧ fits (ty j) v = true) (hl : j < fs.length) (d : decode cc pc = .ok (.putfield idx, 3)) (k : dW Wf m nL g H0 cells slots (pc + 3) lv rest n (dFe e f0 a ci (fs.set j v))) : dW Wf m nL g H0 cells slots pc lv (v :: .ref (g.2.2 a) :: rest) n (dFe e f0 a ci fs) :=
  d_put X cf hn dFe_a hj w hT hfin hnf hl d (d_congr (fun k _ => dFe_set k) k)
theorem e_putFx (X : dX Wf m R cc own nL g H0 True) {j idx N : Nat} {v : Value} {C : String} {T : u_T} {ty : Nat → FieldType} {fs' : List Value} (hn : a < n) (cf : zCF ci C T ty N) (hj : j < N) (w : Cond.fieldLink own idx C (T j).2.1 (T j).2.2.1 ∈ zWd) (hT : (T j).1 = C) (hown2 : (T j).1 = own) (hfin : (T j).2.2.2 = true) (hnf : narrow (ty j) v = v ∧ fits (ty j) v = true) (hl : j < fs.length) (hset : fs.set j v = fs') (d : decode cc pc = .ok (.putfield idx, 3)) (k : dW Wf m nL g H0 cells slots (pc + 3) lv rest n (dFe e f0 a ci fs')) : dW Wf m nL g H0 cells slots pc lv (v :: .ref (g.2.2 a) :: rest) n (dFe e f0 a ci fs) :=
  e_putF X hn cf hj w hT hown2 hfin hnf hl d (hset ▸ k)
theorem e_putx (X : dX Wf m R cc own nL g H0 ini) {j idx N : Nat} {v : Value} {C : String} {T : u_T} {ty : Nat → FieldType} {fs' : List Value} (hn : a < n) (cf : zCF ci C T ty N) (hj : j < N) (w : Cond.fieldLink own idx C (T j).2.1 (T j).2.2.1 ∈ zWd) (hT : (T j).1 = C) (hfin : (T j).2.2.2 = false) (hnf : narrow (ty j) v = v ∧ fits (ty j) v = true) (hl : j < fs.length) (hset : fs.set j v = fs') (d : decode cc pc = .ok (.putfield idx, 3)) (k : dW Wf m nL g H0 cells slots (pc + 3) lv rest n (dFe e f0 a ci fs')) : dW Wf m nL g H0 cells slots pc lv (v :: .ref (g.2.2 a) :: rest) n (dFe e f0 a ci fs) :=
  e_put X hn cf hj w hT hfin hnf hl d (hset ▸ k)
theorem d_size (k : H0.size ≤ g.2.2 n → dW Wf m nL g H0 cells slots pc lv st n f) : dW Wf m nL g H0 cells slots pc lv st n f := fun H locs ls hq hv => k (by have h1 := hq.2.2.1; have h2 := hq.2.1; omega) H locs ls hq hv
/-- from the picture back to the growing cells -/
theorem d_back (X : dX Wf m R cc own nL g H0 ini) {h : zH} (hs : H0.size + cells ≤ g.2.2 n) (hn : ∃ k, k + 1 = n ∧ zkd k = 12) (k : dW Wf m nL g H0 cells slots pc lv st n (zE g h)) : zW (Wf cells slots) m nL g n H0 pc lv st h := by
  obtain ⟨p, l, e, s, args, below, meth, c, Q, hfl, rfl, rfl, hx, hb, hml, hown, hts, hns, hK, hold, hB, hB0, hi⟩ := X
  obtain ⟨k0, rfl, hk0⟩ := hn
  intro H locs ls hq hv T hT X
  have hsz := X.heapSize
  have ha := hq.1 k0 (g.2.2 k0, zE g h k0) (zws_at (Nat.lt_succ_self k0))
  rw [zE_int hk0] at ha
  have ha' : H[g.2.2 k0]? = some (arrV (g.2.1 12) (zln k0) (fun j => .int (Int32.ofInt (h k0 j)))) := ha
  have hlt : g.2.2 k0 < H.size := (Array.getElem?_eq_some_iff.mp ha').1
  have b1 := hB k0
  have b2 := hB (k0 + 1)
  rw [hT] at hsz
  refine k H locs ls ⟨hq.1, by omega, hq.2.2.1, fun q h1 h2 => ?_, fun q hq1 => ?_⟩ hv T hT X
  · refine hq.2.2.2.1 q h1 (fun z => h2 ?_)
    rcases z with ⟨j, -, hj⟩ | z
    · have := hB j
      show g.2.2 0 ≤ q
      omega
    · show g.2.2 0 ≤ q
      omega
  · rcases hq.2.2.2.2 q hq1 with ⟨j, -, hj⟩ | z
    · have := hB j
      show g.2.2 0 ≤ q.base
      rw [hj]
      omega
    · show g.2.2 0 ≤ q.base
      exact Nat.le_trans hB0 z
theorem d_zX (X : dX Wf m R cc own nL g H0 ini) (hc : cells ≤ R.cells) (hs : slots ≤ R.slots) : zX (Wf cells slots) m R cc own nL g n H0 := by
  obtain ⟨p, l, e, s, args, below, meth, c, Q, hfl, rfl, rfl, hx, hb, hml, hown, hts, hns, hK, hold, hB, hB0, hi⟩ := X
  exact ⟨p, l, e, s, args, below, meth, c, cells, slots, Q, hfl, rfl, rfl, hx, hb, hml, hown, hts, hns, hK, hc, hs, hold⟩
end CE
theorem zh_h00 : zh h00 := by
  constructor
  · intro k j _
    unfold h00
    split
    · split <;> decide
    · split
      · split
        · decide
        · split <;> decide
      · split
        · split
          · decide
          · split <;> decide
        · split
          · split
            · decide
            · split <;> decide
          · decide
  · intro j
    rw [h00_z (by decide +kernel) j]
    decide
theorem d_Saves_init_0 : decode b_Saves_init 0 = .ok (.aload_n 0, 1) := by decide +kernel
theorem d_Saves_init_1 : decode b_Saves_init 1 = .ok (.invokespecial 3, 3) := by decide +kernel
theorem d_Saves_init_4 : decode b_Saves_init 4 = .ok (.aload_n 0, 1) := by decide +kernel
theorem d_Saves_init_5 : decode b_Saves_init 5 = .ok (.iconst 2, 1) := by decide +kernel
theorem d_Saves_init_6 : decode b_Saves_init 6 = .ok (.anewarray 9, 3) := by decide +kernel
theorem d_Saves_init_9 : decode b_Saves_init 9 = .ok (.dup, 1) := by decide +kernel
theorem d_Saves_init_10 : decode b_Saves_init 10 = .ok (.iconst 0, 1) := by decide +kernel
theorem d_Saves_init_11 : decode b_Saves_init 11 = .ok (.new 9, 3) := by decide +kernel
theorem d_Saves_init_14 : decode b_Saves_init 14 = .ok (.dup, 1) := by decide +kernel
theorem d_Saves_init_15 : decode b_Saves_init 15 = .ok (.invokespecial 11, 3) := by decide +kernel
theorem d_Saves_init_18 : decode b_Saves_init 18 = .ok (.aastore, 1) := by decide +kernel
theorem d_Saves_init_19 : decode b_Saves_init 19 = .ok (.dup, 1) := by decide +kernel
theorem d_Saves_init_20 : decode b_Saves_init 20 = .ok (.iconst 1, 1) := by decide +kernel
theorem d_Saves_init_21 : decode b_Saves_init 21 = .ok (.new 9, 3) := by decide +kernel
theorem d_Saves_init_24 : decode b_Saves_init 24 = .ok (.dup, 1) := by decide +kernel
theorem d_Saves_init_25 : decode b_Saves_init 25 = .ok (.invokespecial 11, 3) := by decide +kernel
theorem d_Saves_init_28 : decode b_Saves_init 28 = .ok (.aastore, 1) := by decide +kernel
theorem d_Saves_init_29 : decode b_Saves_init 29 = .ok (.putfield 12, 3) := by decide +kernel
theorem d_Saves_init_32 : decode b_Saves_init 32 = .ok (.aload_n 0, 1) := by decide +kernel
theorem d_Saves_init_33 : decode b_Saves_init 33 = .ok (.iconst 2, 1) := by decide +kernel
theorem d_Saves_init_34 : decode b_Saves_init 34 = .ok (.newarray .boolean, 2) := by decide +kernel
theorem d_Saves_init_36 : decode b_Saves_init 36 = .ok (.putfield 18, 3) := by decide +kernel
theorem d_Saves_init_39 : decode b_Saves_init 39 = .ok (.return_, 1) := by decide +kernel
def rm_Saves_init : Room := { frames := 3, cells := 16, slots := 394, locals := 52 }
theorem mi_Saves : zMI y_Saves_init b_Saves_init 1 0 := ⟨rfl, q213, q8, q214, by decide +kernel⟩
theorem fs0_Saves : ∀ j, j < 2 → defaultValue (ty_Saves j) = vp_V (zf0 3) j := by decide +kernel
theorem ckr_Saves : ∀ i, i < 2 → ck_State (144 + 2 + 7 * i) = true ∧ zkd (144 + 2 + 7 * i) = 5 := by decide +kernel
theorem ce_Saves {g : zG} : zE g h00 144 = .inr (3, ((zf0 3).set 0 (.ref (g.2.2 145))).set 1 (.ref (g.2.2 160))) := by
  rw [zE_obj (show zkd 144 = 3 by decide +kernel) (by decide)]
  rfl
theorem cr_Saves {g : zG} : zE g h00 (144 + 1) = .inl (g.2.1 15, 2, .inr (.inr (.inr (.inr (fun i => some (g.2.2 (144 + 1 + 1 + 7 * i))))))) := by
  rw [zE_state (show zkd (144 + 1) = 15 by decide +kernel), show zln (144 + 1) = 2 by decide +kernel]
set_option maxRecDepth 100000 in
theorem c_Saves_init {l : Launch} (hfl : l.flags = flags0) {g : zG} (hB : dB g) {f0 : Nat → va_E} : dMet l y_Saves_init b_Saves_init 1 rm_Saves_init g [.ref (g.2.2 144)] (144 + 1) (dU1 f0 144 (.inr (3, zf0 3))) (dPo g f0 144 17) 16 394 := by
  refine dMet_of (own := "AliasStreams$Saves") hfl hB (by decide) rfl rfl (Nat.le_of_ble_eq_true rfl) (fun Wf m H0 X E => ?_)
  show dW Wf m 1 g H0 0 0 0 [(0, .ref (g.2.2 144))] [] (144 + 1) _
  refine c_start rfl ?_
  refine d_aload_n (pc := 0) (q := 0) X d_Saves_init_0 rfl ?_
  refine d_objInit (pc := 1) X q215 q27 q28 d_Saves_init_1 ⟨by decide, Nat.le_of_ble_eq_true rfl⟩ ?_
  refine d_aload_n (pc := 4) (q := 0) X d_Saves_init_4 rfl ?_
  refine d_iconst (pc := 5) X d_Saves_init_5 ?_
  refine d_newQ (pc := 6) (kd := 15) (t0 := 3) (len := 2) X q216 (List.mem_append_right _ (List.mem_of_getElem? (i := 197) (by decide +kernel))) rfl (show zr 2 from by decide) rfl (by decide) ⟨by decide, by decide⟩ d_Saves_init_6 ?_
  rw [dRow_0 (a := 144) (sz := 7)]
  show dW _ _ _ _ _ _ _ _ _ _ _ (dG g f0 144 3 (zf0 3) 15 2 7 0)
  refine d_dup (pc := 9) X d_Saves_init_9 rfl ?_
  refine d_iconst (pc := 10) X d_Saves_init_10 ?_
  refine d_elem (pc := 11) (a := 144) (i := 0) (rest := [.ref (g.2.2 (144 + 1)), .ref (g.2.2 144)]) (t0 := 3) X rfl cf_State (ckr_Saves 0 (by decide)).2 (by decide) q216 q128 q5 (fun j hj => fs0_State j hj) (fun l f hl => c_State_init hl hB (ckr_Saves 0 (by decide)).1) mi_State q217 ⟨⟨by decide, by decide⟩, rfl, rfl⟩ ⟨by decide, by decide⟩ (Nat.le_of_ble_eq_true rfl) d_Saves_init_11 d_Saves_init_14 d_Saves_init_15 d_Saves_init_18 rfl (show zr 0 from by decide) rfl (by decide) ?_
  refine d_dup (pc := 19) X d_Saves_init_19 rfl ?_
  refine d_iconst (pc := 20) X d_Saves_init_20 ?_
  refine d_elem (pc := 21) (a := 144) (i := 1) (rest := [.ref (g.2.2 (144 + 1)), .ref (g.2.2 144)]) (t0 := 3) X rfl cf_State (ckr_Saves 1 (by decide)).2 (by decide) q216 q128 q5 (fun j hj => fs0_State j hj) (fun l f hl => c_State_init hl hB (ckr_Saves 1 (by decide)).1) mi_State q217 ⟨⟨by decide, by decide⟩, rfl, rfl⟩ ⟨by decide, by decide⟩ (Nat.le_of_ble_eq_true rfl) d_Saves_init_21 d_Saves_init_24 d_Saves_init_25 d_Saves_init_28 rfl (show zr 1 from by decide) rfl (by decide) ?_
  refine dG_end cr_Saves ?_
  refine c_putF (pc := 29) (j := 0) (v := .ref (g.2.2 (144 + 1))) X (by decide) cf_Saves (by decide) q218 rfl rfl rfl ⟨rfl, rfl⟩ (Nat.le_of_ble_eq_true rfl) d_Saves_init_29 ?_
  refine d_aload_n (pc := 32) (q := 0) X d_Saves_init_32 rfl ?_
  refine d_iconst (pc := 33) X d_Saves_init_33 ?_
  refine c_newZ (pc := 34) (a := 144) (n := 160) (len := 2) X (by decide) (by decide +kernel) q114 (show zr 2 from by decide) rfl (by decide) ⟨by decide, by decide⟩ d_Saves_init_34 ?_
  refine c_putF (pc := 36) (j := 1) X (by decide) cf_Saves (by decide) q220 rfl rfl rfl ⟨rfl, rfl⟩ (Nat.le_of_ble_eq_true rfl) d_Saves_init_36 ?_
  exact E 39 _ _ _ d_Saves_init_39 (c_end rfl ce_Saves)
theorem d_RM_init_0 : decode b_RM_init 0 = .ok (.aload_n 0, 1) := by decide +kernel
theorem d_RM_init_1 : decode b_RM_init 1 = .ok (.invokespecial 1, 3) := by decide +kernel
theorem d_RM_init_4 : decode b_RM_init 4 = .ok (.aload_n 0, 1) := by decide +kernel
theorem d_RM_init_5 : decode b_RM_init 5 = .ok (.bipush 100, 2) := by decide +kernel
theorem d_RM_init_7 : decode b_RM_init 7 = .ok (.newarray .int, 2) := by decide +kernel
theorem d_RM_init_9 : decode b_RM_init 9 = .ok (.putfield 7, 3) := by decide +kernel
theorem d_RM_init_12 : decode b_RM_init 12 = .ok (.aload_n 0, 1) := by decide +kernel
theorem d_RM_init_13 : decode b_RM_init 13 = .ok (.iconst 2, 1) := by decide +kernel
theorem d_RM_init_14 : decode b_RM_init 14 = .ok (.putfield 13, 3) := by decide +kernel
theorem d_RM_init_17 : decode b_RM_init 17 = .ok (.aload_n 0, 1) := by decide +kernel
theorem d_RM_init_18 : decode b_RM_init 18 = .ok (.iconst 1, 1) := by decide +kernel
theorem d_RM_init_19 : decode b_RM_init 19 = .ok (.putfield 17, 3) := by decide +kernel
theorem d_RM_init_22 : decode b_RM_init 22 = .ok (.aload_n 0, 1) := by decide +kernel
theorem d_RM_init_23 : decode b_RM_init 23 = .ok (.sipush 193, 3) := by decide +kernel
theorem d_RM_init_26 : decode b_RM_init 26 = .ok (.newarray .int, 2) := by decide +kernel
theorem d_RM_init_28 : decode b_RM_init 28 = .ok (.putfield 20, 3) := by decide +kernel
theorem d_RM_init_31 : decode b_RM_init 31 = .ok (.aload_n 0, 1) := by decide +kernel
theorem d_RM_init_32 : decode b_RM_init 32 = .ok (.sipush 193, 3) := by decide +kernel
theorem d_RM_init_35 : decode b_RM_init 35 = .ok (.newarray .int, 2) := by decide +kernel
theorem d_RM_init_37 : decode b_RM_init 37 = .ok (.putfield 23, 3) := by decide +kernel
theorem d_RM_init_40 : decode b_RM_init 40 = .ok (.aload_n 0, 1) := by decide +kernel
theorem d_RM_init_41 : decode b_RM_init 41 = .ok (.sipush 193, 3) := by decide +kernel
theorem d_RM_init_44 : decode b_RM_init 44 = .ok (.newarray .int, 2) := by decide +kernel
theorem d_RM_init_46 : decode b_RM_init 46 = .ok (.putfield 26, 3) := by decide +kernel
theorem d_RM_init_49 : decode b_RM_init 49 = .ok (.aload_n 0, 1) := by decide +kernel
theorem d_RM_init_50 : decode b_RM_init 50 = .ok (.sipush 193, 3) := by decide +kernel
theorem d_RM_init_53 : decode b_RM_init 53 = .ok (.newarray .int, 2) := by decide +kernel
theorem d_RM_init_55 : decode b_RM_init 55 = .ok (.putfield 29, 3) := by decide +kernel
theorem d_RM_init_58 : decode b_RM_init 58 = .ok (.aload_n 0, 1) := by decide +kernel
theorem d_RM_init_59 : decode b_RM_init 59 = .ok (.sipush 2702, 3) := by decide +kernel
theorem d_RM_init_62 : decode b_RM_init 62 = .ok (.newarray .int, 2) := by decide +kernel
theorem d_RM_init_64 : decode b_RM_init 64 = .ok (.putfield 32, 3) := by decide +kernel
theorem d_RM_init_67 : decode b_RM_init 67 = .ok (.aload_n 0, 1) := by decide +kernel
theorem d_RM_init_68 : decode b_RM_init 68 = .ok (.sipush 386, 3) := by decide +kernel
theorem d_RM_init_71 : decode b_RM_init 71 = .ok (.newarray .int, 2) := by decide +kernel
theorem d_RM_init_73 : decode b_RM_init 73 = .ok (.putfield 35, 3) := by decide +kernel
theorem d_RM_init_76 : decode b_RM_init 76 = .ok (.aload_n 0, 1) := by decide +kernel
theorem d_RM_init_77 : decode b_RM_init 77 = .ok (.iconst 2, 1) := by decide +kernel
theorem d_RM_init_78 : decode b_RM_init 78 = .ok (.newarray .boolean, 2) := by decide +kernel
theorem d_RM_init_80 : decode b_RM_init 80 = .ok (.putfield 38, 3) := by decide +kernel
theorem d_RM_init_83 : decode b_RM_init 83 = .ok (.aload_n 0, 1) := by decide +kernel
theorem d_RM_init_84 : decode b_RM_init 84 = .ok (.bipush 24, 2) := by decide +kernel
theorem d_RM_init_86 : decode b_RM_init 86 = .ok (.newarray .int, 2) := by decide +kernel
theorem d_RM_init_88 : decode b_RM_init 88 = .ok (.putfield 42, 3) := by decide +kernel
theorem d_RM_init_91 : decode b_RM_init 91 = .ok (.aload_n 0, 1) := by decide +kernel
theorem d_RM_init_92 : decode b_RM_init 92 = .ok (.bipush 24, 2) := by decide +kernel
theorem d_RM_init_94 : decode b_RM_init 94 = .ok (.newarray .int, 2) := by decide +kernel
theorem d_RM_init_96 : decode b_RM_init 96 = .ok (.putfield 45, 3) := by decide +kernel
theorem d_RM_init_99 : decode b_RM_init 99 = .ok (.aload_n 0, 1) := by decide +kernel
theorem d_RM_init_100 : decode b_RM_init 100 = .ok (.bipush 24, 2) := by decide +kernel
theorem d_RM_init_102 : decode b_RM_init 102 = .ok (.newarray .int, 2) := by decide +kernel
theorem d_RM_init_104 : decode b_RM_init 104 = .ok (.putfield 48, 3) := by decide +kernel
theorem d_RM_init_107 : decode b_RM_init 107 = .ok (.aload_n 0, 1) := by decide +kernel
theorem d_RM_init_108 : decode b_RM_init 108 = .ok (.bipush 96, 2) := by decide +kernel
theorem d_RM_init_110 : decode b_RM_init 110 = .ok (.newarray .int, 2) := by decide +kernel
theorem d_RM_init_112 : decode b_RM_init 112 = .ok (.putfield 51, 3) := by decide +kernel
theorem d_RM_init_115 : decode b_RM_init 115 = .ok (.aload_n 0, 1) := by decide +kernel
theorem d_RM_init_116 : decode b_RM_init 116 = .ok (.bipush 96, 2) := by decide +kernel
theorem d_RM_init_118 : decode b_RM_init 118 = .ok (.newarray .int, 2) := by decide +kernel
theorem d_RM_init_120 : decode b_RM_init 120 = .ok (.putfield 54, 3) := by decide +kernel
theorem d_RM_init_123 : decode b_RM_init 123 = .ok (.aload_n 0, 1) := by decide +kernel
theorem d_RM_init_124 : decode b_RM_init 124 = .ok (.sipush 768, 3) := by decide +kernel
theorem d_RM_init_127 : decode b_RM_init 127 = .ok (.newarray .int, 2) := by decide +kernel
theorem d_RM_init_129 : decode b_RM_init 129 = .ok (.putfield 57, 3) := by decide +kernel
theorem d_RM_init_132 : decode b_RM_init 132 = .ok (.aload_n 0, 1) := by decide +kernel
theorem d_RM_init_133 : decode b_RM_init 133 = .ok (.bipush 8, 2) := by decide +kernel
theorem d_RM_init_135 : decode b_RM_init 135 = .ok (.newarray .int, 2) := by decide +kernel
theorem d_RM_init_137 : decode b_RM_init 137 = .ok (.putfield 60, 3) := by decide +kernel
theorem d_RM_init_140 : decode b_RM_init 140 = .ok (.aload_n 0, 1) := by decide +kernel
theorem d_RM_init_141 : decode b_RM_init 141 = .ok (.bipush 8, 2) := by decide +kernel
theorem d_RM_init_143 : decode b_RM_init 143 = .ok (.newarray .boolean, 2) := by decide +kernel
theorem d_RM_init_145 : decode b_RM_init 145 = .ok (.putfield 63, 3) := by decide +kernel
theorem d_RM_init_148 : decode b_RM_init 148 = .ok (.aload_n 0, 1) := by decide +kernel
theorem d_RM_init_149 : decode b_RM_init 149 = .ok (.bipush 40, 2) := by decide +kernel
theorem d_RM_init_151 : decode b_RM_init 151 = .ok (.newarray .int, 2) := by decide +kernel
theorem d_RM_init_153 : decode b_RM_init 153 = .ok (.putfield 66, 3) := by decide +kernel
theorem d_RM_init_156 : decode b_RM_init 156 = .ok (.aload_n 0, 1) := by decide +kernel
theorem d_RM_init_157 : decode b_RM_init 157 = .ok (.bipush 40, 2) := by decide +kernel
theorem d_RM_init_159 : decode b_RM_init 159 = .ok (.newarray .int, 2) := by decide +kernel
theorem d_RM_init_161 : decode b_RM_init 161 = .ok (.putfield 69, 3) := by decide +kernel
theorem d_RM_init_164 : decode b_RM_init 164 = .ok (.aload_n 0, 1) := by decide +kernel
theorem d_RM_init_165 : decode b_RM_init 165 = .ok (.bipush 41, 2) := by decide +kernel
theorem d_RM_init_167 : decode b_RM_init 167 = .ok (.newarray .int, 2) := by decide +kernel
theorem d_RM_init_169 : decode b_RM_init 169 = .ok (.putfield 72, 3) := by decide +kernel
theorem d_RM_init_172 : decode b_RM_init 172 = .ok (.aload_n 0, 1) := by decide +kernel
theorem d_RM_init_173 : decode b_RM_init 173 = .ok (.bipush 40, 2) := by decide +kernel
theorem d_RM_init_175 : decode b_RM_init 175 = .ok (.newarray .int, 2) := by decide +kernel
theorem d_RM_init_177 : decode b_RM_init 177 = .ok (.putfield 75, 3) := by decide +kernel
theorem d_RM_init_180 : decode b_RM_init 180 = .ok (.aload_n 0, 1) := by decide +kernel
theorem d_RM_init_181 : decode b_RM_init 181 = .ok (.bipush 40, 2) := by decide +kernel
theorem d_RM_init_183 : decode b_RM_init 183 = .ok (.newarray .int, 2) := by decide +kernel
theorem d_RM_init_185 : decode b_RM_init 185 = .ok (.putfield 78, 3) := by decide +kernel
theorem d_RM_init_188 : decode b_RM_init 188 = .ok (.aload_n 0, 1) := by decide +kernel
theorem d_RM_init_189 : decode b_RM_init 189 = .ok (.bipush 40, 2) := by decide +kernel
theorem d_RM_init_191 : decode b_RM_init 191 = .ok (.newarray .int, 2) := by decide +kernel
theorem d_RM_init_193 : decode b_RM_init 193 = .ok (.putfield 81, 3) := by decide +kernel
theorem d_RM_init_196 : decode b_RM_init 196 = .ok (.aload_n 0, 1) := by decide +kernel
theorem d_RM_init_197 : decode b_RM_init 197 = .ok (.getfield 23, 3) := by decide +kernel
theorem d_RM_init_200 : decode b_RM_init 200 = .ok (.iconst 0, 1) := by decide +kernel
theorem d_RM_init_201 : decode b_RM_init 201 = .ok (.iconst 1, 1) := by decide +kernel
theorem d_RM_init_202 : decode b_RM_init 202 = .ok (.iastore, 1) := by decide +kernel
theorem d_RM_init_203 : decode b_RM_init 203 = .ok (.aload_n 0, 1) := by decide +kernel
theorem d_RM_init_204 : decode b_RM_init 204 = .ok (.getfield 23, 3) := by decide +kernel
theorem d_RM_init_207 : decode b_RM_init 207 = .ok (.iconst 1, 1) := by decide +kernel
theorem d_RM_init_208 : decode b_RM_init 208 = .ok (.iconst 1, 1) := by decide +kernel
theorem d_RM_init_209 : decode b_RM_init 209 = .ok (.iastore, 1) := by decide +kernel
theorem d_RM_init_210 : decode b_RM_init 210 = .ok (.aload_n 0, 1) := by decide +kernel
theorem d_RM_init_211 : decode b_RM_init 211 = .ok (.getfield 23, 3) := by decide +kernel
theorem d_RM_init_214 : decode b_RM_init 214 = .ok (.sipush 191, 3) := by decide +kernel
theorem d_RM_init_217 : decode b_RM_init 217 = .ok (.sipush 512, 3) := by decide +kernel
theorem d_RM_init_220 : decode b_RM_init 220 = .ok (.iastore, 1) := by decide +kernel
theorem d_RM_init_221 : decode b_RM_init 221 = .ok (.aload_n 0, 1) := by decide +kernel
theorem d_RM_init_222 : decode b_RM_init 222 = .ok (.getfield 23, 3) := by decide +kernel
theorem d_RM_init_225 : decode b_RM_init 225 = .ok (.sipush 192, 3) := by decide +kernel
theorem d_RM_init_228 : decode b_RM_init 228 = .ok (.sipush 512, 3) := by decide +kernel
theorem d_RM_init_231 : decode b_RM_init 231 = .ok (.iastore, 1) := by decide +kernel
theorem d_RM_init_232 : decode b_RM_init 232 = .ok (.return_, 1) := by decide +kernel
def rm_RM_init : Room := { frames := 1, cells := 22, slots := 5251, locals := 12 }
theorem mi_RM : zMI y_RM_init b_RM_init 1 0 := ⟨rfl, q1018, q13, q1019, by decide +kernel⟩
theorem fs0_RM : ∀ j, j < 32 → defaultValue (ty_RM j) = vp_V (zf0 11) j := by decide +kernel
def dN0 (g : zG) : Nat → va_E := dU1 (zE g h00) 200 (.inl (g.2.1 12, 193, .inl (fun _ => 0)))
def dN4 (g : zG) : Nat → va_E := dU1 (dU1 (dU1 (dU1 (dN0 g) 200 (.inl (g.2.1 12, 193, .inl (upd (fun _ => 0) 0 (Int32.ofInt 1))))) 200 (.inl (g.2.1 12, 193, .inl (upd (upd (fun _ => 0) 0 (Int32.ofInt 1)) 1 (Int32.ofInt 1))))) 200 (.inl (g.2.1 12, 193, .inl (upd (upd (upd (fun _ => 0) 0 (Int32.ofInt 1)) 1 (Int32.ofInt 1)) 191 (Int32.ofInt 512))))) 200 (.inl (g.2.1 12, 193, .inl (upd (upd (upd (upd (fun _ => 0) 0 (Int32.ofInt 1)) 1 (Int32.ofInt 1)) 191 (Int32.ofInt 512)) 192 (Int32.ofInt 512))))
theorem dN0_ne {g : zG} {k : Nat} (h : k ≠ 200) : dN0 g k = zE g h00 k := by
  unfold dN0 dU1
  rw [if_neg h]
theorem dN4_eq {g : zG} (k : Nat) : dN4 g k = zE g h00 k := by
  unfold dN4 dU1
  by_cases h : k = 200
  · subst h
    rw [if_pos rfl, zE_int (by decide +kernel), show zln 200 = 193 by decide +kernel]
    congr 4
    funext j
    have e : h00 200 j = if j = 0 ∨ j = 1 then 1 else if j = 191 ∨ j = 192 then 512 else 0 := by
      unfold h00
      rw [if_neg (by decide +kernel), if_neg (by decide), if_neg (by decide), if_pos rfl]
    rw [e]
    unfold upd
    by_cases j1 : j = 192
    · subst j1; rfl
    by_cases j2 : j = 191
    · subst j2; rfl
    by_cases j3 : j = 1
    · subst j3; rfl
    by_cases j4 : j = 0
    · subst j4; rfl
    rw [if_neg j1, if_neg j2, if_neg j3, if_neg j4, if_neg (by omega), if_neg (by omega)]
    rfl
  · rw [if_neg h, if_neg h, if_neg h, if_neg h, dN0_ne h]
theorem ce_RM {g : zG} : zE g h00 197 = .inr (11, [.int 0, .ref (g.2.2 198), .int 0, .int 0, zi 2, zi 1, .int 0, .int 0, .ref (g.2.2 199), .ref (g.2.2 200), .ref (g.2.2 201), .ref (g.2.2 202), .ref (g.2.2 203), .int 0, .ref (g.2.2 204), .ref (g.2.2 205), .ref (g.2.2 206), .ref (g.2.2 207), .ref (g.2.2 208), .ref (g.2.2 209), .ref (g.2.2 210), .ref (g.2.2 211), .ref (g.2.2 212), .ref (g.2.2 213), .ref (g.2.2 214), .ref (g.2.2 215), .ref (g.2.2 216), .int 0, .ref (g.2.2 217), .ref (g.2.2 218), .ref (g.2.2 219), .int 0]) := by
  rw [zE_obj (show zkd 197 = 11 by decide +kernel) (by decide), zfl_go]
  show (Sum.inr (11, ([zi (h00 197 0), .ref (g.2.2 (197 + 1)), zi (h00 197 2), zi (h00 197 3), zi (h00 197 4), zi (h00 197 5), zi (h00 197 6), zi (h00 197 7), .ref (g.2.2 (197 + 2)), .ref (g.2.2 (197 + 3)), .ref (g.2.2 (197 + 4)), .ref (g.2.2 (197 + 5)), .ref (g.2.2 (197 + 6)), zi (h00 197 13), .ref (g.2.2 (197 + 7)), .ref (g.2.2 (197 + 8)), .ref (g.2.2 (197 + 9)), .ref (g.2.2 (197 + 10)), .ref (g.2.2 (197 + 11)), .ref (g.2.2 (197 + 12)), .ref (g.2.2 (197 + 13)), .ref (g.2.2 (197 + 14)), .ref (g.2.2 (197 + 15)), .ref (g.2.2 (197 + 16)), .ref (g.2.2 (197 + 17)), .ref (g.2.2 (197 + 18)), .ref (g.2.2 (197 + 19)), zi (h00 197 27), .ref (g.2.2 (197 + 20)), .ref (g.2.2 (197 + 21)), .ref (g.2.2 (197 + 22)), zi (h00 197 31)] : List Value)) : va_E) = _
  rw [show h00 197 0 = 0 by decide +kernel]
  rw [show h00 197 2 = 0 by decide +kernel]
  rw [show h00 197 3 = 0 by decide +kernel]
  rw [show h00 197 4 = 2 by decide +kernel]
  rw [show h00 197 5 = 1 by decide +kernel]
  rw [show h00 197 6 = 0 by decide +kernel]
  rw [show h00 197 7 = 0 by decide +kernel]
  rw [show h00 197 13 = 0 by decide +kernel]
  rw [show h00 197 27 = 0 by decide +kernel]
  rw [show h00 197 31 = 0 by decide +kernel]
  rfl
set_option maxRecDepth 100000 in
theorem cs_RM_196 {Wf : Nat → Nat → Heap → List Loc → JFrame → Prop} {m : MethodId} {g : zG} {H0 : Heap} {f0 : Nat → va_E} (X : dX Wf m rm_RM_init b_RM_init "AliasStreamsModel" 1 g H0 True) (E : dEx Wf m b_RM_init 1 g H0 22 5251 (dPo g f0 197 23)) : dW Wf m 1 g H0 22 5251 196 [(0, .ref (g.2.2 197))] [] 220 (dFe (dN0 g) f0 197 11 ([.int 0, .ref (g.2.2 198), .int 0, .int 0, zi 2, zi 1, .int 0, .int 0, .ref (g.2.2 199), .ref (g.2.2 200), .ref (g.2.2 201), .ref (g.2.2 202), .ref (g.2.2 203), .int 0, .ref (g.2.2 204), .ref (g.2.2 205), .ref (g.2.2 206), .ref (g.2.2 207), .ref (g.2.2 208), .ref (g.2.2 209), .ref (g.2.2 210), .ref (g.2.2 211), .ref (g.2.2 212), .ref (g.2.2 213), .ref (g.2.2 214), .ref (g.2.2 215), .ref (g.2.2 216), .int 0, .ref (g.2.2 217), .ref (g.2.2 218), .ref (g.2.2 219), .int 0])) := by
  refine d_aload_n (pc := 196) (q := 0) X d_RM_init_196 rfl ?_
  refine d_getr (pc := 197) (j := 9) (v := .ref (g.2.2 200)) X cf_RM (by decide) dFe_a (by decide) q1030 rfl rfl d_RM_init_197 ?_
  refine d_iconst (pc := 200) X d_RM_init_200 ?_
  refine d_iconst (pc := 201) X d_RM_init_201 ?_
  refine d_iast (pc := 202) (a := 200) (i := 0) (len := 193) X (by decide) ((dFe_gt (by decide)).trans (show dU1 _ 200 _ 200 = _ from if_pos rfl)) (show zr 0 from by decide) rfl (by decide) d_RM_init_202 (d_congr (fun k _ => dFe_up (by decide) k) ?_)
  refine d_aload_n (pc := 203) (q := 0) X d_RM_init_203 rfl ?_
  refine d_getr (pc := 204) (j := 9) (v := .ref (g.2.2 200)) X cf_RM (by decide) dFe_a (by decide) q1030 rfl rfl d_RM_init_204 ?_
  refine d_iconst (pc := 207) X d_RM_init_207 ?_
  refine d_iconst (pc := 208) X d_RM_init_208 ?_
  refine d_iast (pc := 209) (a := 200) (i := 1) (len := 193) X (by decide) ((dFe_gt (by decide)).trans (show dU1 _ 200 _ 200 = _ from if_pos rfl)) (show zr 1 from by decide) rfl (by decide) d_RM_init_209 (d_congr (fun k _ => dFe_up (by decide) k) ?_)
  refine d_aload_n (pc := 210) (q := 0) X d_RM_init_210 rfl ?_
  refine d_getr (pc := 211) (j := 9) (v := .ref (g.2.2 200)) X cf_RM (by decide) dFe_a (by decide) q1030 rfl rfl d_RM_init_211 ?_
  refine d_sipush (pc := 214) X d_RM_init_214 (by decide) ?_
  refine d_sipush (pc := 217) X d_RM_init_217 (by decide) ?_
  refine d_iast (pc := 220) (a := 200) (i := 191) (len := 193) X (by decide) ((dFe_gt (by decide)).trans (show dU1 _ 200 _ 200 = _ from if_pos rfl)) (show zr 191 from by decide) rfl (by decide) d_RM_init_220 (d_congr (fun k _ => dFe_up (by decide) k) ?_)
  refine d_aload_n (pc := 221) (q := 0) X d_RM_init_221 rfl ?_
  refine d_getr (pc := 222) (j := 9) (v := .ref (g.2.2 200)) X cf_RM (by decide) dFe_a (by decide) q1030 rfl rfl d_RM_init_222 ?_
  refine d_sipush (pc := 225) X d_RM_init_225 (by decide) ?_
  refine d_sipush (pc := 228) X d_RM_init_228 (by decide) ?_
  refine d_iast (pc := 231) (a := 200) (i := 192) (len := 193) X (by decide) ((dFe_gt (by decide)).trans (show dU1 _ 200 _ 200 = _ from if_pos rfl)) (show zr 192 from by decide) rfl (by decide) d_RM_init_231 (d_congr (fun k _ => dFe_up (by decide) k) ?_)
  refine E 232 _ _ _ d_RM_init_232 ⟨rfl, fun k hk => ?_⟩
  show dFe (dN4 g) f0 197 11 _ k = _
  by_cases h : k < 197
  · rw [if_pos h, dFe_lt h]
  · rw [if_neg h]
    by_cases h2 : k = 197
    · subst h2
      rw [dFe_a, ce_RM]
    · rw [dFe_gt (by omega), dN4_eq]
set_option maxRecDepth 100000 in
theorem cs_RM_164 {Wf : Nat → Nat → Heap → List Loc → JFrame → Prop} {m : MethodId} {g : zG} {H0 : Heap} {f0 : Nat → va_E} (X : dX Wf m rm_RM_init b_RM_init "AliasStreamsModel" 1 g H0 True) (E : dEx Wf m b_RM_init 1 g H0 22 5251 (dPo g f0 197 23)) : dW Wf m 1 g H0 18 5090 164 [(0, .ref (g.2.2 197))] [] 216 (dFe (dN0 g) f0 197 11 ([.int 0, .ref (g.2.2 198), .int 0, .int 0, zi 2, zi 1, .int 0, .int 0, .ref (g.2.2 199), .ref (g.2.2 200), .ref (g.2.2 201), .ref (g.2.2 202), .ref (g.2.2 203), .int 0, .ref (g.2.2 204), .ref (g.2.2 205), .ref (g.2.2 206), .ref (g.2.2 207), .ref (g.2.2 208), .ref (g.2.2 209), .ref (g.2.2 210), .ref (g.2.2 211), .ref (g.2.2 212), .ref (g.2.2 213), .ref (g.2.2 214), .ref (g.2.2 215), .null, .int 0, .null, .null, .null, .int 0])) := by
  refine d_aload_n (pc := 164) (q := 0) X d_RM_init_164 rfl ?_
  refine d_bipush (pc := 165) X d_RM_init_165 (by decide) ?_
  refine e_newI (pc := 167) (a := 197) (n := 216) (len := 41) (e := dN0 g) X (by decide) ((dN0_ne (by decide)).trans (zA0_int (by decide +kernel))) q66 (show zr 41 from by decide) rfl (by decide) ⟨by decide, by decide⟩ d_RM_init_167 ?_
  refine e_putFx (pc := 169) (j := 26) (fs' := [.int 0, .ref (g.2.2 198), .int 0, .int 0, zi 2, zi 1, .int 0, .int 0, .ref (g.2.2 199), .ref (g.2.2 200), .ref (g.2.2 201), .ref (g.2.2 202), .ref (g.2.2 203), .int 0, .ref (g.2.2 204), .ref (g.2.2 205), .ref (g.2.2 206), .ref (g.2.2 207), .ref (g.2.2 208), .ref (g.2.2 209), .ref (g.2.2 210), .ref (g.2.2 211), .ref (g.2.2 212), .ref (g.2.2 213), .ref (g.2.2 214), .ref (g.2.2 215), .ref (g.2.2 216), .int 0, .null, .null, .null, .int 0]) X (by decide) cf_RM (by decide) q1047 rfl rfl rfl ⟨rfl, rfl⟩ (Nat.le_of_ble_eq_true rfl) rfl d_RM_init_169 ?_
  refine d_aload_n (pc := 172) (q := 0) X d_RM_init_172 rfl ?_
  refine d_bipush (pc := 173) X d_RM_init_173 (by decide) ?_
  refine e_newI (pc := 175) (a := 197) (n := 217) (len := 40) (e := dN0 g) X (by decide) ((dN0_ne (by decide)).trans (zA0_int (by decide +kernel))) q66 (show zr 40 from by decide) rfl (by decide) ⟨by decide, by decide⟩ d_RM_init_175 ?_
  refine e_putFx (pc := 177) (j := 28) (fs' := [.int 0, .ref (g.2.2 198), .int 0, .int 0, zi 2, zi 1, .int 0, .int 0, .ref (g.2.2 199), .ref (g.2.2 200), .ref (g.2.2 201), .ref (g.2.2 202), .ref (g.2.2 203), .int 0, .ref (g.2.2 204), .ref (g.2.2 205), .ref (g.2.2 206), .ref (g.2.2 207), .ref (g.2.2 208), .ref (g.2.2 209), .ref (g.2.2 210), .ref (g.2.2 211), .ref (g.2.2 212), .ref (g.2.2 213), .ref (g.2.2 214), .ref (g.2.2 215), .ref (g.2.2 216), .int 0, .ref (g.2.2 217), .null, .null, .int 0]) X (by decide) cf_RM (by decide) q1049 rfl rfl rfl ⟨rfl, rfl⟩ (Nat.le_of_ble_eq_true rfl) rfl d_RM_init_177 ?_
  refine d_aload_n (pc := 180) (q := 0) X d_RM_init_180 rfl ?_
  refine d_bipush (pc := 181) X d_RM_init_181 (by decide) ?_
  refine e_newI (pc := 183) (a := 197) (n := 218) (len := 40) (e := dN0 g) X (by decide) ((dN0_ne (by decide)).trans (zA0_int (by decide +kernel))) q66 (show zr 40 from by decide) rfl (by decide) ⟨by decide, by decide⟩ d_RM_init_183 ?_
  refine e_putFx (pc := 185) (j := 29) (fs' := [.int 0, .ref (g.2.2 198), .int 0, .int 0, zi 2, zi 1, .int 0, .int 0, .ref (g.2.2 199), .ref (g.2.2 200), .ref (g.2.2 201), .ref (g.2.2 202), .ref (g.2.2 203), .int 0, .ref (g.2.2 204), .ref (g.2.2 205), .ref (g.2.2 206), .ref (g.2.2 207), .ref (g.2.2 208), .ref (g.2.2 209), .ref (g.2.2 210), .ref (g.2.2 211), .ref (g.2.2 212), .ref (g.2.2 213), .ref (g.2.2 214), .ref (g.2.2 215), .ref (g.2.2 216), .int 0, .ref (g.2.2 217), .ref (g.2.2 218), .null, .int 0]) X (by decide) cf_RM (by decide) q1050 rfl rfl rfl ⟨rfl, rfl⟩ (Nat.le_of_ble_eq_true rfl) rfl d_RM_init_185 ?_
  refine d_aload_n (pc := 188) (q := 0) X d_RM_init_188 rfl ?_
  refine d_bipush (pc := 189) X d_RM_init_189 (by decide) ?_
  refine e_newI (pc := 191) (a := 197) (n := 219) (len := 40) (e := dN0 g) X (by decide) ((dN0_ne (by decide)).trans (zA0_int (by decide +kernel))) q66 (show zr 40 from by decide) rfl (by decide) ⟨by decide, by decide⟩ d_RM_init_191 ?_
  refine e_putFx (pc := 193) (j := 30) (fs' := [.int 0, .ref (g.2.2 198), .int 0, .int 0, zi 2, zi 1, .int 0, .int 0, .ref (g.2.2 199), .ref (g.2.2 200), .ref (g.2.2 201), .ref (g.2.2 202), .ref (g.2.2 203), .int 0, .ref (g.2.2 204), .ref (g.2.2 205), .ref (g.2.2 206), .ref (g.2.2 207), .ref (g.2.2 208), .ref (g.2.2 209), .ref (g.2.2 210), .ref (g.2.2 211), .ref (g.2.2 212), .ref (g.2.2 213), .ref (g.2.2 214), .ref (g.2.2 215), .ref (g.2.2 216), .int 0, .ref (g.2.2 217), .ref (g.2.2 218), .ref (g.2.2 219), .int 0]) X (by decide) cf_RM (by decide) q1051 rfl rfl rfl ⟨rfl, rfl⟩ (Nat.le_of_ble_eq_true rfl) rfl d_RM_init_193 ?_
  exact cs_RM_196 X E
set_option maxRecDepth 100000 in
theorem cs_RM_132 {Wf : Nat → Nat → Heap → List Loc → JFrame → Prop} {m : MethodId} {g : zG} {H0 : Heap} {f0 : Nat → va_E} (X : dX Wf m rm_RM_init b_RM_init "AliasStreamsModel" 1 g H0 True) (E : dEx Wf m b_RM_init 1 g H0 22 5251 (dPo g f0 197 23)) : dW Wf m 1 g H0 14 4994 132 [(0, .ref (g.2.2 197))] [] 212 (dFe (dN0 g) f0 197 11 ([.int 0, .ref (g.2.2 198), .int 0, .int 0, zi 2, zi 1, .int 0, .int 0, .ref (g.2.2 199), .ref (g.2.2 200), .ref (g.2.2 201), .ref (g.2.2 202), .ref (g.2.2 203), .int 0, .ref (g.2.2 204), .ref (g.2.2 205), .ref (g.2.2 206), .ref (g.2.2 207), .ref (g.2.2 208), .ref (g.2.2 209), .ref (g.2.2 210), .ref (g.2.2 211), .null, .null, .null, .null, .null, .int 0, .null, .null, .null, .int 0])) := by
  refine d_aload_n (pc := 132) (q := 0) X d_RM_init_132 rfl ?_
  refine d_bipush (pc := 133) X d_RM_init_133 (by decide) ?_
  refine e_newI (pc := 135) (a := 197) (n := 212) (len := 8) (e := dN0 g) X (by decide) ((dN0_ne (by decide)).trans (zA0_int (by decide +kernel))) q66 (show zr 8 from by decide) rfl (by decide) ⟨by decide, by decide⟩ d_RM_init_135 ?_
  refine e_putFx (pc := 137) (j := 22) (fs' := [.int 0, .ref (g.2.2 198), .int 0, .int 0, zi 2, zi 1, .int 0, .int 0, .ref (g.2.2 199), .ref (g.2.2 200), .ref (g.2.2 201), .ref (g.2.2 202), .ref (g.2.2 203), .int 0, .ref (g.2.2 204), .ref (g.2.2 205), .ref (g.2.2 206), .ref (g.2.2 207), .ref (g.2.2 208), .ref (g.2.2 209), .ref (g.2.2 210), .ref (g.2.2 211), .ref (g.2.2 212), .null, .null, .null, .null, .int 0, .null, .null, .null, .int 0]) X (by decide) cf_RM (by decide) q1043 rfl rfl rfl ⟨rfl, rfl⟩ (Nat.le_of_ble_eq_true rfl) rfl d_RM_init_137 ?_
  refine d_aload_n (pc := 140) (q := 0) X d_RM_init_140 rfl ?_
  refine d_bipush (pc := 141) X d_RM_init_141 (by decide) ?_
  refine e_newZ (pc := 143) (a := 197) (n := 213) (len := 8) (e := dN0 g) X (by decide) ((dN0_ne (by decide)).trans (zA0_bool (by decide +kernel))) q114 (show zr 8 from by decide) rfl (by decide) ⟨by decide, by decide⟩ d_RM_init_143 ?_
  refine e_putFx (pc := 145) (j := 23) (fs' := [.int 0, .ref (g.2.2 198), .int 0, .int 0, zi 2, zi 1, .int 0, .int 0, .ref (g.2.2 199), .ref (g.2.2 200), .ref (g.2.2 201), .ref (g.2.2 202), .ref (g.2.2 203), .int 0, .ref (g.2.2 204), .ref (g.2.2 205), .ref (g.2.2 206), .ref (g.2.2 207), .ref (g.2.2 208), .ref (g.2.2 209), .ref (g.2.2 210), .ref (g.2.2 211), .ref (g.2.2 212), .ref (g.2.2 213), .null, .null, .null, .int 0, .null, .null, .null, .int 0]) X (by decide) cf_RM (by decide) q1044 rfl rfl rfl ⟨rfl, rfl⟩ (Nat.le_of_ble_eq_true rfl) rfl d_RM_init_145 ?_
  refine d_aload_n (pc := 148) (q := 0) X d_RM_init_148 rfl ?_
  refine d_bipush (pc := 149) X d_RM_init_149 (by decide) ?_
  refine e_newI (pc := 151) (a := 197) (n := 214) (len := 40) (e := dN0 g) X (by decide) ((dN0_ne (by decide)).trans (zA0_int (by decide +kernel))) q66 (show zr 40 from by decide) rfl (by decide) ⟨by decide, by decide⟩ d_RM_init_151 ?_
  refine e_putFx (pc := 153) (j := 24) (fs' := [.int 0, .ref (g.2.2 198), .int 0, .int 0, zi 2, zi 1, .int 0, .int 0, .ref (g.2.2 199), .ref (g.2.2 200), .ref (g.2.2 201), .ref (g.2.2 202), .ref (g.2.2 203), .int 0, .ref (g.2.2 204), .ref (g.2.2 205), .ref (g.2.2 206), .ref (g.2.2 207), .ref (g.2.2 208), .ref (g.2.2 209), .ref (g.2.2 210), .ref (g.2.2 211), .ref (g.2.2 212), .ref (g.2.2 213), .ref (g.2.2 214), .null, .null, .int 0, .null, .null, .null, .int 0]) X (by decide) cf_RM (by decide) q1045 rfl rfl rfl ⟨rfl, rfl⟩ (Nat.le_of_ble_eq_true rfl) rfl d_RM_init_153 ?_
  refine d_aload_n (pc := 156) (q := 0) X d_RM_init_156 rfl ?_
  refine d_bipush (pc := 157) X d_RM_init_157 (by decide) ?_
  refine e_newI (pc := 159) (a := 197) (n := 215) (len := 40) (e := dN0 g) X (by decide) ((dN0_ne (by decide)).trans (zA0_int (by decide +kernel))) q66 (show zr 40 from by decide) rfl (by decide) ⟨by decide, by decide⟩ d_RM_init_159 ?_
  refine e_putFx (pc := 161) (j := 25) (fs' := [.int 0, .ref (g.2.2 198), .int 0, .int 0, zi 2, zi 1, .int 0, .int 0, .ref (g.2.2 199), .ref (g.2.2 200), .ref (g.2.2 201), .ref (g.2.2 202), .ref (g.2.2 203), .int 0, .ref (g.2.2 204), .ref (g.2.2 205), .ref (g.2.2 206), .ref (g.2.2 207), .ref (g.2.2 208), .ref (g.2.2 209), .ref (g.2.2 210), .ref (g.2.2 211), .ref (g.2.2 212), .ref (g.2.2 213), .ref (g.2.2 214), .ref (g.2.2 215), .null, .int 0, .null, .null, .null, .int 0]) X (by decide) cf_RM (by decide) q1046 rfl rfl rfl ⟨rfl, rfl⟩ (Nat.le_of_ble_eq_true rfl) rfl d_RM_init_161 ?_
  exact cs_RM_164 X E
set_option maxRecDepth 100000 in
theorem cs_RM_107 {Wf : Nat → Nat → Heap → List Loc → JFrame → Prop} {m : MethodId} {g : zG} {H0 : Heap} {f0 : Nat → va_E} (X : dX Wf m rm_RM_init b_RM_init "AliasStreamsModel" 1 g H0 True) (E : dEx Wf m b_RM_init 1 g H0 22 5251 (dPo g f0 197 23)) : dW Wf m 1 g H0 11 4034 107 [(0, .ref (g.2.2 197))] [] 209 (dFe (dN0 g) f0 197 11 ([.int 0, .ref (g.2.2 198), .int 0, .int 0, zi 2, zi 1, .int 0, .int 0, .ref (g.2.2 199), .ref (g.2.2 200), .ref (g.2.2 201), .ref (g.2.2 202), .ref (g.2.2 203), .int 0, .ref (g.2.2 204), .ref (g.2.2 205), .ref (g.2.2 206), .ref (g.2.2 207), .ref (g.2.2 208), .null, .null, .null, .null, .null, .null, .null, .null, .int 0, .null, .null, .null, .int 0])) := by
  refine d_aload_n (pc := 107) (q := 0) X d_RM_init_107 rfl ?_
  refine d_bipush (pc := 108) X d_RM_init_108 (by decide) ?_
  refine e_newI (pc := 110) (a := 197) (n := 209) (len := 96) (e := dN0 g) X (by decide) ((dN0_ne (by decide)).trans (zA0_int (by decide +kernel))) q66 (show zr 96 from by decide) rfl (by decide) ⟨by decide, by decide⟩ d_RM_init_110 ?_
  refine e_putFx (pc := 112) (j := 19) (fs' := [.int 0, .ref (g.2.2 198), .int 0, .int 0, zi 2, zi 1, .int 0, .int 0, .ref (g.2.2 199), .ref (g.2.2 200), .ref (g.2.2 201), .ref (g.2.2 202), .ref (g.2.2 203), .int 0, .ref (g.2.2 204), .ref (g.2.2 205), .ref (g.2.2 206), .ref (g.2.2 207), .ref (g.2.2 208), .ref (g.2.2 209), .null, .null, .null, .null, .null, .null, .null, .int 0, .null, .null, .null, .int 0]) X (by decide) cf_RM (by decide) q1040 rfl rfl rfl ⟨rfl, rfl⟩ (Nat.le_of_ble_eq_true rfl) rfl d_RM_init_112 ?_
  refine d_aload_n (pc := 115) (q := 0) X d_RM_init_115 rfl ?_
  refine d_bipush (pc := 116) X d_RM_init_116 (by decide) ?_
  refine e_newI (pc := 118) (a := 197) (n := 210) (len := 96) (e := dN0 g) X (by decide) ((dN0_ne (by decide)).trans (zA0_int (by decide +kernel))) q66 (show zr 96 from by decide) rfl (by decide) ⟨by decide, by decide⟩ d_RM_init_118 ?_
  refine e_putFx (pc := 120) (j := 20) (fs' := [.int 0, .ref (g.2.2 198), .int 0, .int 0, zi 2, zi 1, .int 0, .int 0, .ref (g.2.2 199), .ref (g.2.2 200), .ref (g.2.2 201), .ref (g.2.2 202), .ref (g.2.2 203), .int 0, .ref (g.2.2 204), .ref (g.2.2 205), .ref (g.2.2 206), .ref (g.2.2 207), .ref (g.2.2 208), .ref (g.2.2 209), .ref (g.2.2 210), .null, .null, .null, .null, .null, .null, .int 0, .null, .null, .null, .int 0]) X (by decide) cf_RM (by decide) q1041 rfl rfl rfl ⟨rfl, rfl⟩ (Nat.le_of_ble_eq_true rfl) rfl d_RM_init_120 ?_
  refine d_aload_n (pc := 123) (q := 0) X d_RM_init_123 rfl ?_
  refine d_sipush (pc := 124) X d_RM_init_124 (by decide) ?_
  refine e_newI (pc := 127) (a := 197) (n := 211) (len := 768) (e := dN0 g) X (by decide) ((dN0_ne (by decide)).trans (zA0_int (by decide +kernel))) q66 (show zr 768 from by decide) rfl (by decide) ⟨by decide, by decide⟩ d_RM_init_127 ?_
  refine e_putFx (pc := 129) (j := 21) (fs' := [.int 0, .ref (g.2.2 198), .int 0, .int 0, zi 2, zi 1, .int 0, .int 0, .ref (g.2.2 199), .ref (g.2.2 200), .ref (g.2.2 201), .ref (g.2.2 202), .ref (g.2.2 203), .int 0, .ref (g.2.2 204), .ref (g.2.2 205), .ref (g.2.2 206), .ref (g.2.2 207), .ref (g.2.2 208), .ref (g.2.2 209), .ref (g.2.2 210), .ref (g.2.2 211), .null, .null, .null, .null, .null, .int 0, .null, .null, .null, .int 0]) X (by decide) cf_RM (by decide) q1042 rfl rfl rfl ⟨rfl, rfl⟩ (Nat.le_of_ble_eq_true rfl) rfl d_RM_init_129 ?_
  exact cs_RM_132 X E
set_option maxRecDepth 100000 in
theorem cs_RM_76 {Wf : Nat → Nat → Heap → List Loc → JFrame → Prop} {m : MethodId} {g : zG} {H0 : Heap} {f0 : Nat → va_E} (X : dX Wf m rm_RM_init b_RM_init "AliasStreamsModel" 1 g H0 True) (E : dEx Wf m b_RM_init 1 g H0 22 5251 (dPo g f0 197 23)) : dW Wf m 1 g H0 7 3960 76 [(0, .ref (g.2.2 197))] [] 205 (dFe (dN0 g) f0 197 11 ([.int 0, .ref (g.2.2 198), .int 0, .int 0, zi 2, zi 1, .int 0, .int 0, .ref (g.2.2 199), .ref (g.2.2 200), .ref (g.2.2 201), .ref (g.2.2 202), .ref (g.2.2 203), .int 0, .ref (g.2.2 204), .null, .null, .null, .null, .null, .null, .null, .null, .null, .null, .null, .null, .int 0, .null, .null, .null, .int 0])) := by
  refine d_aload_n (pc := 76) (q := 0) X d_RM_init_76 rfl ?_
  refine d_iconst (pc := 77) X d_RM_init_77 ?_
  refine e_newZ (pc := 78) (a := 197) (n := 205) (len := 2) (e := dN0 g) X (by decide) ((dN0_ne (by decide)).trans (zA0_bool (by decide +kernel))) q114 (show zr 2 from by decide) rfl (by decide) ⟨by decide, by decide⟩ d_RM_init_78 ?_
  refine e_putFx (pc := 80) (j := 15) (fs' := [.int 0, .ref (g.2.2 198), .int 0, .int 0, zi 2, zi 1, .int 0, .int 0, .ref (g.2.2 199), .ref (g.2.2 200), .ref (g.2.2 201), .ref (g.2.2 202), .ref (g.2.2 203), .int 0, .ref (g.2.2 204), .ref (g.2.2 205), .null, .null, .null, .null, .null, .null, .null, .null, .null, .null, .null, .int 0, .null, .null, .null, .int 0]) X (by decide) cf_RM (by decide) q1036 rfl rfl rfl ⟨rfl, rfl⟩ (Nat.le_of_ble_eq_true rfl) rfl d_RM_init_80 ?_
  refine d_aload_n (pc := 83) (q := 0) X d_RM_init_83 rfl ?_
  refine d_bipush (pc := 84) X d_RM_init_84 (by decide) ?_
  refine e_newI (pc := 86) (a := 197) (n := 206) (len := 24) (e := dN0 g) X (by decide) ((dN0_ne (by decide)).trans (zA0_int (by decide +kernel))) q66 (show zr 24 from by decide) rfl (by decide) ⟨by decide, by decide⟩ d_RM_init_86 ?_
  refine e_putFx (pc := 88) (j := 16) (fs' := [.int 0, .ref (g.2.2 198), .int 0, .int 0, zi 2, zi 1, .int 0, .int 0, .ref (g.2.2 199), .ref (g.2.2 200), .ref (g.2.2 201), .ref (g.2.2 202), .ref (g.2.2 203), .int 0, .ref (g.2.2 204), .ref (g.2.2 205), .ref (g.2.2 206), .null, .null, .null, .null, .null, .null, .null, .null, .null, .null, .int 0, .null, .null, .null, .int 0]) X (by decide) cf_RM (by decide) q1037 rfl rfl rfl ⟨rfl, rfl⟩ (Nat.le_of_ble_eq_true rfl) rfl d_RM_init_88 ?_
  refine d_aload_n (pc := 91) (q := 0) X d_RM_init_91 rfl ?_
  refine d_bipush (pc := 92) X d_RM_init_92 (by decide) ?_
  refine e_newI (pc := 94) (a := 197) (n := 207) (len := 24) (e := dN0 g) X (by decide) ((dN0_ne (by decide)).trans (zA0_int (by decide +kernel))) q66 (show zr 24 from by decide) rfl (by decide) ⟨by decide, by decide⟩ d_RM_init_94 ?_
  refine e_putFx (pc := 96) (j := 17) (fs' := [.int 0, .ref (g.2.2 198), .int 0, .int 0, zi 2, zi 1, .int 0, .int 0, .ref (g.2.2 199), .ref (g.2.2 200), .ref (g.2.2 201), .ref (g.2.2 202), .ref (g.2.2 203), .int 0, .ref (g.2.2 204), .ref (g.2.2 205), .ref (g.2.2 206), .ref (g.2.2 207), .null, .null, .null, .null, .null, .null, .null, .null, .null, .int 0, .null, .null, .null, .int 0]) X (by decide) cf_RM (by decide) q1038 rfl rfl rfl ⟨rfl, rfl⟩ (Nat.le_of_ble_eq_true rfl) rfl d_RM_init_96 ?_
  refine d_aload_n (pc := 99) (q := 0) X d_RM_init_99 rfl ?_
  refine d_bipush (pc := 100) X d_RM_init_100 (by decide) ?_
  refine e_newI (pc := 102) (a := 197) (n := 208) (len := 24) (e := dN0 g) X (by decide) ((dN0_ne (by decide)).trans (zA0_int (by decide +kernel))) q66 (show zr 24 from by decide) rfl (by decide) ⟨by decide, by decide⟩ d_RM_init_102 ?_
  refine e_putFx (pc := 104) (j := 18) (fs' := [.int 0, .ref (g.2.2 198), .int 0, .int 0, zi 2, zi 1, .int 0, .int 0, .ref (g.2.2 199), .ref (g.2.2 200), .ref (g.2.2 201), .ref (g.2.2 202), .ref (g.2.2 203), .int 0, .ref (g.2.2 204), .ref (g.2.2 205), .ref (g.2.2 206), .ref (g.2.2 207), .ref (g.2.2 208), .null, .null, .null, .null, .null, .null, .null, .null, .int 0, .null, .null, .null, .int 0]) X (by decide) cf_RM (by decide) q1039 rfl rfl rfl ⟨rfl, rfl⟩ (Nat.le_of_ble_eq_true rfl) rfl d_RM_init_104 ?_
  exact cs_RM_107 X E
set_option maxRecDepth 100000 in
theorem cs_RM_40 {Wf : Nat → Nat → Heap → List Loc → JFrame → Prop} {m : MethodId} {g : zG} {H0 : Heap} {f0 : Nat → va_E} (X : dX Wf m rm_RM_init b_RM_init "AliasStreamsModel" 1 g H0 True) (E : dEx Wf m b_RM_init 1 g H0 22 5251 (dPo g f0 197 23)) : dW Wf m 1 g H0 3 486 40 [(0, .ref (g.2.2 197))] [] 201 (dFe (dN0 g) f0 197 11 ([.int 0, .ref (g.2.2 198), .int 0, .int 0, zi 2, zi 1, .int 0, .int 0, .ref (g.2.2 199), .ref (g.2.2 200), .null, .null, .null, .int 0, .null, .null, .null, .null, .null, .null, .null, .null, .null, .null, .null, .null, .null, .int 0, .null, .null, .null, .int 0])) := by
  refine d_aload_n (pc := 40) (q := 0) X d_RM_init_40 rfl ?_
  refine d_sipush (pc := 41) X d_RM_init_41 (by decide) ?_
  refine e_newI (pc := 44) (a := 197) (n := 201) (len := 193) (e := dN0 g) X (by decide) ((dN0_ne (by decide)).trans (zA0_int (by decide +kernel))) q66 (show zr 193 from by decide) rfl (by decide) ⟨by decide, by decide⟩ d_RM_init_44 ?_
  refine e_putFx (pc := 46) (j := 10) (fs' := [.int 0, .ref (g.2.2 198), .int 0, .int 0, zi 2, zi 1, .int 0, .int 0, .ref (g.2.2 199), .ref (g.2.2 200), .ref (g.2.2 201), .null, .null, .int 0, .null, .null, .null, .null, .null, .null, .null, .null, .null, .null, .null, .null, .null, .int 0, .null, .null, .null, .int 0]) X (by decide) cf_RM (by decide) q1031 rfl rfl rfl ⟨rfl, rfl⟩ (Nat.le_of_ble_eq_true rfl) rfl d_RM_init_46 ?_
  refine d_aload_n (pc := 49) (q := 0) X d_RM_init_49 rfl ?_
  refine d_sipush (pc := 50) X d_RM_init_50 (by decide) ?_
  refine e_newI (pc := 53) (a := 197) (n := 202) (len := 193) (e := dN0 g) X (by decide) ((dN0_ne (by decide)).trans (zA0_int (by decide +kernel))) q66 (show zr 193 from by decide) rfl (by decide) ⟨by decide, by decide⟩ d_RM_init_53 ?_
  refine e_putFx (pc := 55) (j := 11) (fs' := [.int 0, .ref (g.2.2 198), .int 0, .int 0, zi 2, zi 1, .int 0, .int 0, .ref (g.2.2 199), .ref (g.2.2 200), .ref (g.2.2 201), .ref (g.2.2 202), .null, .int 0, .null, .null, .null, .null, .null, .null, .null, .null, .null, .null, .null, .null, .null, .int 0, .null, .null, .null, .int 0]) X (by decide) cf_RM (by decide) q1032 rfl rfl rfl ⟨rfl, rfl⟩ (Nat.le_of_ble_eq_true rfl) rfl d_RM_init_55 ?_
  refine d_aload_n (pc := 58) (q := 0) X d_RM_init_58 rfl ?_
  refine d_sipush (pc := 59) X d_RM_init_59 (by decide) ?_
  refine e_newI (pc := 62) (a := 197) (n := 203) (len := 2702) (e := dN0 g) X (by decide) ((dN0_ne (by decide)).trans (zA0_int (by decide +kernel))) q66 (show zr 2702 from by decide) rfl (by decide) ⟨by decide, by decide⟩ d_RM_init_62 ?_
  refine e_putFx (pc := 64) (j := 12) (fs' := [.int 0, .ref (g.2.2 198), .int 0, .int 0, zi 2, zi 1, .int 0, .int 0, .ref (g.2.2 199), .ref (g.2.2 200), .ref (g.2.2 201), .ref (g.2.2 202), .ref (g.2.2 203), .int 0, .null, .null, .null, .null, .null, .null, .null, .null, .null, .null, .null, .null, .null, .int 0, .null, .null, .null, .int 0]) X (by decide) cf_RM (by decide) q1033 rfl rfl rfl ⟨rfl, rfl⟩ (Nat.le_of_ble_eq_true rfl) rfl d_RM_init_64 ?_
  refine d_aload_n (pc := 67) (q := 0) X d_RM_init_67 rfl ?_
  refine d_sipush (pc := 68) X d_RM_init_68 (by decide) ?_
  refine e_newI (pc := 71) (a := 197) (n := 204) (len := 386) (e := dN0 g) X (by decide) ((dN0_ne (by decide)).trans (zA0_int (by decide +kernel))) q66 (show zr 386 from by decide) rfl (by decide) ⟨by decide, by decide⟩ d_RM_init_71 ?_
  refine e_putFx (pc := 73) (j := 14) (fs' := [.int 0, .ref (g.2.2 198), .int 0, .int 0, zi 2, zi 1, .int 0, .int 0, .ref (g.2.2 199), .ref (g.2.2 200), .ref (g.2.2 201), .ref (g.2.2 202), .ref (g.2.2 203), .int 0, .ref (g.2.2 204), .null, .null, .null, .null, .null, .null, .null, .null, .null, .null, .null, .null, .int 0, .null, .null, .null, .int 0]) X (by decide) cf_RM (by decide) q1035 rfl rfl rfl ⟨rfl, rfl⟩ (Nat.le_of_ble_eq_true rfl) rfl d_RM_init_73 ?_
  exact cs_RM_76 X E
set_option maxRecDepth 100000 in
theorem c_RM_init {l : Launch} (hfl : l.flags = flags0) {g : zG} (hB : dB g) {f0 : Nat → va_E} : dMet l y_RM_init b_RM_init 1 rm_RM_init g [.ref (g.2.2 197)] (197 + 1) (dU1 f0 197 (.inr (11, zf0 11))) (dPo g f0 197 23) 22 5251 := by
  refine dMet_of (own := "AliasStreamsModel") hfl hB (by decide) rfl rfl (Nat.le_of_ble_eq_true rfl) (fun Wf m H0 X E => ?_)
  show dW Wf m 1 g H0 0 0 0 [(0, .ref (g.2.2 197))] [] (197 + 1) _
  refine e_start (e := dN0 g) (fs := [.int 0, .null, .int 0, .int 0, .int 0, .int 0, .int 0, .int 0, .null, .null, .null, .null, .null, .int 0, .null, .null, .null, .null, .null, .null, .null, .null, .null, .null, .null, .null, .null, .int 0, .null, .null, .null, .int 0]) rfl ?_
  refine d_aload_n (pc := 0) (q := 0) X d_RM_init_0 rfl ?_
  refine d_objInit (pc := 1) X q1020 q27 q28 d_RM_init_1 ⟨by decide, Nat.le_of_ble_eq_true rfl⟩ ?_
  refine d_aload_n (pc := 4) (q := 0) X d_RM_init_4 rfl ?_
  refine d_bipush (pc := 5) X d_RM_init_5 (by decide) ?_
  refine e_newI (pc := 7) (a := 197) (n := 198) (len := 100) (e := dN0 g) X (by decide) ((dN0_ne (by decide)).trans (zA0_int (by decide +kernel))) q66 (show zr 100 from by decide) rfl (by decide) ⟨by decide, by decide⟩ d_RM_init_7 ?_
  refine e_putFx (pc := 9) (j := 1) (fs' := [.int 0, .ref (g.2.2 198), .int 0, .int 0, .int 0, .int 0, .int 0, .int 0, .null, .null, .null, .null, .null, .int 0, .null, .null, .null, .null, .null, .null, .null, .null, .null, .null, .null, .null, .null, .int 0, .null, .null, .null, .int 0]) X (by decide) cf_RM (by decide) q1022 rfl rfl rfl ⟨rfl, rfl⟩ (Nat.le_of_ble_eq_true rfl) rfl d_RM_init_9 ?_
  refine d_aload_n (pc := 12) (q := 0) X d_RM_init_12 rfl ?_
  refine d_iconst (pc := 13) X d_RM_init_13 ?_
  refine e_putx (pc := 14) (j := 4) (fs' := [.int 0, .ref (g.2.2 198), .int 0, .int 0, zi 2, .int 0, .int 0, .int 0, .null, .null, .null, .null, .null, .int 0, .null, .null, .null, .null, .null, .null, .null, .null, .null, .null, .null, .null, .null, .int 0, .null, .null, .null, .int 0]) X (by decide) cf_RM (by decide) q1025 rfl rfl ⟨rfl, rfl⟩ (Nat.le_of_ble_eq_true rfl) rfl d_RM_init_14 ?_
  refine d_aload_n (pc := 17) (q := 0) X d_RM_init_17 rfl ?_
  refine d_iconst (pc := 18) X d_RM_init_18 ?_
  refine e_putx (pc := 19) (j := 5) (fs' := [.int 0, .ref (g.2.2 198), .int 0, .int 0, zi 2, zi 1, .int 0, .int 0, .null, .null, .null, .null, .null, .int 0, .null, .null, .null, .null, .null, .null, .null, .null, .null, .null, .null, .null, .null, .int 0, .null, .null, .null, .int 0]) X (by decide) cf_RM (by decide) q1026 rfl rfl ⟨rfl, rfl⟩ (Nat.le_of_ble_eq_true rfl) rfl d_RM_init_19 ?_
  refine d_aload_n (pc := 22) (q := 0) X d_RM_init_22 rfl ?_
  refine d_sipush (pc := 23) X d_RM_init_23 (by decide) ?_
  refine e_newI (pc := 26) (a := 197) (n := 199) (len := 193) (e := dN0 g) X (by decide) ((dN0_ne (by decide)).trans (zA0_int (by decide +kernel))) q66 (show zr 193 from by decide) rfl (by decide) ⟨by decide, by decide⟩ d_RM_init_26 ?_
  refine e_putFx (pc := 28) (j := 8) (fs' := [.int 0, .ref (g.2.2 198), .int 0, .int 0, zi 2, zi 1, .int 0, .int 0, .ref (g.2.2 199), .null, .null, .null, .null, .int 0, .null, .null, .null, .null, .null, .null, .null, .null, .null, .null, .null, .null, .null, .int 0, .null, .null, .null, .int 0]) X (by decide) cf_RM (by decide) q1029 rfl rfl rfl ⟨rfl, rfl⟩ (Nat.le_of_ble_eq_true rfl) rfl d_RM_init_28 ?_
  refine d_aload_n (pc := 31) (q := 0) X d_RM_init_31 rfl ?_
  refine d_sipush (pc := 32) X d_RM_init_32 (by decide) ?_
  refine e_newI (pc := 35) (a := 197) (n := 200) (len := 193) (e := dN0 g) X (by decide) (show dU1 _ 200 _ 200 = _ from if_pos rfl) q66 (show zr 193 from by decide) rfl (by decide) ⟨by decide, by decide⟩ d_RM_init_35 ?_
  refine e_putFx (pc := 37) (j := 9) (fs' := [.int 0, .ref (g.2.2 198), .int 0, .int 0, zi 2, zi 1, .int 0, .int 0, .ref (g.2.2 199), .ref (g.2.2 200), .null, .null, .null, .int 0, .null, .null, .null, .null, .null, .null, .null, .null, .null, .null, .null, .null, .null, .int 0, .null, .null, .null, .int 0]) X (by decide) cf_RM (by decide) q1030 rfl rfl rfl ⟨rfl, rfl⟩ (Nat.le_of_ble_eq_true rfl) rfl d_RM_init_37 ?_
  exact cs_RM_40 X E

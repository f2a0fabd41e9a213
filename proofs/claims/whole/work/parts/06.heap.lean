/-! fields, arrays, calls, answers, over the small picture -/
def zCF (ci : Nat) (C : String) (T : u_T) (ty : Nat → FieldType) (N : Nat) : Prop := ci < 12 ∧ zCl[ci]? = some (C, T, N) ∧ (∀ w ∈ u_ws C T N, w ∈ zWd) ∧ (∀ k, k < N → parseFieldDescriptor (T k).2.2.1 = some (ty k)) ∧ (∀ a, a < N → ∀ b, b < N → a ≠ b → (T a).2.1 ≠ (T b).2.1) ∧ (zfd ci).length = N
theorem cf_History : zCF 0 R_History T_History ty_History 3 := ⟨by decide, rfl, in_History, ty_History_ok, nm_History, rfl⟩
theorem cf_Model : zCF 1 R_Model T_Model ty_Model 9 := ⟨by decide, rfl, in_Model, ty_Model_ok, nm_Model, rfl⟩
theorem cf_Models : zCF 2 R_Models T_Models ty_Models 3 := ⟨by decide, rfl, in_Models, ty_Models_ok, nm_Models, rfl⟩
theorem cf_Saves : zCF 3 R_Saves T_Saves ty_Saves 2 := ⟨by decide, rfl, in_Saves, ty_Saves_ok, nm_Saves, rfl⟩
theorem cf_Script : zCF 4 R_Script T_Script ty_Script 3 := ⟨by decide, rfl, in_Script, ty_Script_ok, nm_Script, rfl⟩
theorem cf_State : zCF 5 R_State T_State ty_State 4 := ⟨by decide, rfl, in_State, ty_State_ok, nm_State, rfl⟩
theorem cf_Symbols : zCF 6 R_Symbols T_Symbols ty_Symbols 3 := ⟨by decide, rfl, in_Symbols, ty_Symbols_ok, nm_Symbols, rfl⟩
theorem cf_Taking : zCF 7 R_Taking T_Taking ty_Taking 8 := ⟨by decide, rfl, in_Taking, ty_Taking_ok, nm_Taking, rfl⟩
theorem cf_Tape : zCF 8 R_Tape T_Tape ty_Tape 5 := ⟨by decide, rfl, in_Tape, ty_Tape_ok, nm_Tape, rfl⟩
theorem cf_Text : zCF 9 R_Text T_Text ty_Text 8 := ⟨by decide, rfl, in_Text, ty_Text_ok, nm_Text, rfl⟩
theorem cf_AS : zCF 10 R_AS T_AS ty_AS 10 := ⟨by decide, rfl, in_AS, ty_AS_ok, nm_AS, rfl⟩
theorem cf_RM : zCF 11 R_RM T_RM ty_RM 32 := ⟨by decide, rfl, in_RM, ty_RM_ok, nm_RM, rfl⟩
theorem zns_or {w : Cond} (hw : w ∈ zNs) : (∃ a i x h, w = .methodLinkNest a i x h) ∨ ∃ a i b n d h, w = .fieldLinkNest a i b n d h := by
  have := (List.mem_filter.mp hw).2
  unfold zisN at this
  split at this
  · exact Or.inl ⟨_, _, _, _, rfl⟩
  · exact Or.inr ⟨_, _, _, _, _, _, rfl⟩
  · cases this
theorem zns_warm {s U : State} (hW : s.WarmedH U.vm) (h : ∀ w ∈ zNs, va_Nw w s) : ∀ w ∈ zNs, va_Nw w U := by
  intro w hw
  rcases zns_or hw with ⟨a, i, x, hh, rfl⟩ | ⟨a, i, b, n, d, hh, rfl⟩
  · exact va_Nw.warmM hW (h _ hw)
  · exact va_Nw.warmF hW (h _ hw)
theorem zns_same {u U : State} (hvm : u.vm = U.vm) (h : ∀ w ∈ zNs, va_Nw w u) : ∀ w ∈ zNs, va_Nw w U := by
  intro w hw
  rcases zns_or hw with ⟨a, i, x, hh, rfl⟩ | ⟨a, i, b, n, d, hh, rfl⟩
  · exact va_Nw.same rfl hvm (h _ hw)
  · exact va_Nw.same rfl hvm (h _ hw)
theorem zns_use {w : Cond} (hw : w ∈ zNs) {A : Array Value} {U : State} (h : va_Nw w U) : w.before A U = true := by
  rcases zns_or hw with ⟨a, i, x, hh, rfl⟩ | ⟨a, i, b, n, d, hh, rfl⟩
  · exact va_Nw.use rfl h
  · exact va_Nw.use rfl h
theorem zD_any {g : zG} {n : Nat} {h h' : zH} {A : Nat → Prop} (hD : va_D A (zws g n h)) : va_D A (zws g n h') := by
  have key : ∀ (k : Nat) (q : Nat × va_E), (zws g n h')[k]? = some q → k < n ∧ q.1 = g.2.2 k := by
    intro k q hq
    have hl := (List.getElem?_eq_some_iff.mp hq).1
    have hn : k < n := by simpa [zws] using hl
    rw [zws_at hn] at hq
    cases hq
    exact ⟨hn, rfl⟩
  refine ⟨fun i j p q hp hq e => ?_, fun k q hq => ?_⟩
  · obtain ⟨hi, ei⟩ := key i p hp
    obtain ⟨hj, ej⟩ := key j q hq
    exact hD.1 i j _ _ (zws_at hi) (zws_at hj) (by show g.2.2 i = g.2.2 j; rw [← ei, ← ej]; exact e)
  · obtain ⟨hk, ek⟩ := key k q hq
    rw [ek]
    exact hD.2 k _ (zws_at hk)
section ZHP
variable {Wf : Heap → List Loc → JFrame → Prop} {m : MethodId} {R : Room} {cc : ByteArray} {own : String} {nL : Nat} {g : zG} {n : Nat} {H0 : Heap} {pc : Nat} {lv lv' : List (Nat × Value)} {rest : List Value} {h : zH}
theorem z_geti (X : zX Wf m R cc own nL g n H0) {ci a j idx N : Nat} {C : String} {T : u_T} {ty : Nat → FieldType} (cf : zCF ci C T ty N) (hO : zO n a ci) (hj : j < N) (w : Cond.fieldLink own idx C (T j).2.1 (T j).2.2.1 ∈ zWd) (hT : (T j).1 = C) (ho : (zfd ci)[j]? = some none) (d : decode cc pc = .ok (.getfield idx, 3)) (k : zW Wf m nL g n H0 (pc + 3) lv (zi (h a j) :: rest) h) : zW Wf m nL g n H0 pc lv (.ref (g.2.2 a) :: rest) h := by
  obtain ⟨p, l, e, s, args, below, meth, c, cells, slots, Q, hfl, rfl, rfl, hx, hb, hml, hown, hts, hns, hK, -⟩ := X
  obtain ⟨f1, f2, f3, f4, f5, -⟩ := cf
  refine fun H locs ls hq hv => va_get hx hb hts f3 hown hK hq.1 a (by rw [zws_at hO.2.1, zE_obj hO.2.2 f1]) f2 j hj (hts _ w) (fun x hx => by rw [hT] at hx; exact hx) (v := zi (h a j)) ?_ d (k H locs ls hq hv)
  exact zfl_at ho
theorem z_getr (X : zX Wf m R cc own nL g n H0) {ci a j idx N dd : Nat} {C : String} {T : u_T} {ty : Nat → FieldType} (cf : zCF ci C T ty N) (hO : zO n a ci) (hj : j < N) (w : Cond.fieldLink own idx C (T j).2.1 (T j).2.2.1 ∈ zWd) (hT : (T j).1 = C) (ho : (zfd ci)[j]? = some (some dd)) (d : decode cc pc = .ok (.getfield idx, 3)) (k : zW Wf m nL g n H0 (pc + 3) lv (.ref (g.2.2 (a + dd)) :: rest) h) : zW Wf m nL g n H0 pc lv (.ref (g.2.2 a) :: rest) h := by
  obtain ⟨p, l, e, s, args, below, meth, c, cells, slots, Q, hfl, rfl, rfl, hx, hb, hml, hown, hts, hns, hK, -⟩ := X
  obtain ⟨f1, f2, f3, f4, f5, -⟩ := cf
  refine fun H locs ls hq hv => va_get hx hb hts f3 hown hK hq.1 a (by rw [zws_at hO.2.1, zE_obj hO.2.2 f1]) f2 j hj (hts _ w) (fun x hx => by rw [hT] at hx; exact hx) (v := .ref (g.2.2 (a + dd))) ?_ d (k H locs ls hq hv)
  exact zfl_at ho
theorem z_getiN (X : zX Wf m R cc own nL g n H0) {ci a j idx N : Nat} {C host : String} {T : u_T} {ty : Nat → FieldType} (cf : zCF ci C T ty N) (hO : zO n a ci) (hj : j < N) (w : Cond.fieldLinkNest own idx C (T j).2.1 (T j).2.2.1 host ∈ zNs) (hT : (T j).1 = C) (ho : (zfd ci)[j]? = some none) (d : decode cc pc = .ok (.getfield idx, 3)) (k : zW Wf m nL g n H0 (pc + 3) lv (zi (h a j) :: rest) h) : zW Wf m nL g n H0 pc lv (.ref (g.2.2 a) :: rest) h := by
  obtain ⟨p, l, e, s, args, below, meth, c, cells, slots, Q, hfl, rfl, rfl, hx, hb, hml, hown, hts, hns, hK, -⟩ := X
  obtain ⟨f1, f2, f3, f4, f5, -⟩ := cf
  refine fun H locs ls hq hv => va_getN hx hb hts f3 hown hK hq.1 a (by rw [zws_at hO.2.1, zE_obj hO.2.2 f1]) f2 j hj (zns_use w (hns _ w)) (fun x hx => by rw [hT] at hx; exact hx) (v := zi (h a j)) ?_ d (k H locs ls hq hv)
  exact zfl_at ho
theorem z_getrN (X : zX Wf m R cc own nL g n H0) {ci a j idx N dd : Nat} {C host : String} {T : u_T} {ty : Nat → FieldType} (cf : zCF ci C T ty N) (hO : zO n a ci) (hj : j < N) (w : Cond.fieldLinkNest own idx C (T j).2.1 (T j).2.2.1 host ∈ zNs) (hT : (T j).1 = C) (ho : (zfd ci)[j]? = some (some dd)) (d : decode cc pc = .ok (.getfield idx, 3)) (k : zW Wf m nL g n H0 (pc + 3) lv (.ref (g.2.2 (a + dd)) :: rest) h) : zW Wf m nL g n H0 pc lv (.ref (g.2.2 a) :: rest) h := by
  obtain ⟨p, l, e, s, args, below, meth, c, cells, slots, Q, hfl, rfl, rfl, hx, hb, hml, hown, hts, hns, hK, -⟩ := X
  obtain ⟨f1, f2, f3, f4, f5, -⟩ := cf
  refine fun H locs ls hq hv => va_getN hx hb hts f3 hown hK hq.1 a (by rw [zws_at hO.2.1, zE_obj hO.2.2 f1]) f2 j hj (zns_use w (hns _ w)) (fun x hx => by rw [hT] at hx; exact hx) (v := .ref (g.2.2 (a + dd))) ?_ d (k H locs ls hq hv)
  exact zfl_at ho
theorem zQ_set {ci a j : Nat} {x : Int} {H H1 : Heap} {locs1 : List Loc} (hk : zkd a = ci) (f1 : ci < 12) (ho : (zfd ci)[j]? = some none) (h1 : va_P g.1 zCl ((zws g n h).set a (g.2.2 a, .inr (ci, (zfl g.2.2 h a (zfd ci)).set j (zi x)))) H1) (h2 : va_D (zA g n H0.size) ((zws g n h).set a (g.2.2 a, .inr (ci, (zfl g.2.2 h a (zfd ci)).set j (zi x))))) (h3 : va_S (zA g n H0.size) H0 H1 locs1) : zQ g n (zs h a j x) H0 H1 locs1 := by
  have e := zws_set (g := g) (n := n) (h := h) (h' := zs h a j x) (k := a) (e := .inr (ci, (zfl g.2.2 h a (zfd ci)).set j (zi x))) (by rw [zE_obj hk f1, zfl_set ho]) (fun b hb => zE_ne hb)
  rw [e] at h1 h2
  exact ⟨h1, h2, h3⟩
theorem z_put (X : zX Wf m R cc own nL g n H0) {ci a j idx N : Nat} {x : Int} {C : String} {T : u_T} {ty : Nat → FieldType} (cf : zCF ci C T ty N) (hO : zO n a ci) (hj : j < N) (w : Cond.fieldLink own idx C (T j).2.1 (T j).2.2.1 ∈ zWd) (hT : (T j).1 = C) (hfin : (T j).2.2.2 = false) (hd : parseFieldDescriptor (T j).2.2.1 = some .int) (ho : (zfd ci)[j]? = some none) (d : decode cc pc = .ok (.putfield idx, 3)) (k : zW Wf m nL g n H0 (pc + 3) lv rest (zs h a j x)) : zW Wf m nL g n H0 pc lv (zi x :: .ref (g.2.2 a) :: rest) h := by
  obtain ⟨p, l, e, s, args, below, meth, c, cells, slots, Q, hfl, rfl, rfl, hx, hb, hml, hown, hts, hns, hK, -⟩ := X
  obtain ⟨f1, f2, f3, f4, f5, f6⟩ := cf
  exact fun H locs ls hq hv => va_put hx hb hts f3 ty f4 f5 hown hK hq.1 hq.2.1 hq.2.2 a (by rw [zws_at hO.2.1, zE_obj hO.2.2 f1]) f2 j hj (hts _ w) (fun x hx => by rw [hT] at hx; exact hx) hfin hd rfl rfl (by rw [zfl_len, f6]; exact hj) d (fun H1 locs1 h1 h2 h3 => k H1 locs1 ls (zQ_set (H := H) hO.2.2 f1 ho h1 h2 h3) hv)
theorem z_putN (X : zX Wf m R cc own nL g n H0) {ci a j idx N : Nat} {x : Int} {C host : String} {T : u_T} {ty : Nat → FieldType} (cf : zCF ci C T ty N) (hO : zO n a ci) (hj : j < N) (w : Cond.fieldLinkNest own idx C (T j).2.1 (T j).2.2.1 host ∈ zNs) (hT : (T j).1 = C) (hfin : (T j).2.2.2 = false) (hd : parseFieldDescriptor (T j).2.2.1 = some .int) (ho : (zfd ci)[j]? = some none) (d : decode cc pc = .ok (.putfield idx, 3)) (k : zW Wf m nL g n H0 (pc + 3) lv rest (zs h a j x)) : zW Wf m nL g n H0 pc lv (zi x :: .ref (g.2.2 a) :: rest) h := by
  obtain ⟨p, l, e, s, args, below, meth, c, cells, slots, Q, hfl, rfl, rfl, hx, hb, hml, hown, hts, hns, hK, -⟩ := X
  obtain ⟨f1, f2, f3, f4, f5, f6⟩ := cf
  exact fun H locs ls hq hv => va_putN hx hb hts f3 ty f4 f5 hown hK hq.1 hq.2.1 hq.2.2 a (by rw [zws_at hO.2.1, zE_obj hO.2.2 f1]) f2 j hj (zns_use w (hns _ w)) (fun x hx => by rw [hT] at hx; exact hx) hfin hd rfl rfl (by rw [zfl_len, f6]; exact hj) d (fun H1 locs1 h1 h2 h3 => k H1 locs1 ls (zQ_set (H := H) hO.2.2 f1 ho h1 h2 h3) hv)
theorem z_bit {x : Int} (hx : x = 0 ∨ x = 1) : narrow .boolean (zi x) = zi x ∧ fits .boolean (zi x) = true ∧ vp_nar .boolean (Int32.ofInt x) = Int32.ofInt x := by
  rcases hx with rfl | rfl <;> decide +kernel
theorem z_putZ (X : zX Wf m R cc own nL g n H0) {ci a j idx N : Nat} {x : Int} {C : String} {T : u_T} {ty : Nat → FieldType} (cf : zCF ci C T ty N) (hO : zO n a ci) (hj : j < N) (w : Cond.fieldLink own idx C (T j).2.1 (T j).2.2.1 ∈ zWd) (hT : (T j).1 = C) (hfin : (T j).2.2.2 = false) (hd : parseFieldDescriptor (T j).2.2.1 = some .boolean) (ho : (zfd ci)[j]? = some none) (hx2 : x = 0 ∨ x = 1) (d : decode cc pc = .ok (.putfield idx, 3)) (k : zW Wf m nL g n H0 (pc + 3) lv rest (zs h a j x)) : zW Wf m nL g n H0 pc lv (zi x :: .ref (g.2.2 a) :: rest) h := by
  obtain ⟨p, l, e, s, args, below, meth, c, cells, slots, Q, hfl, rfl, rfl, hx, hb, hml, hown, hts, hns, hK, -⟩ := X
  obtain ⟨f1, f2, f3, f4, f5, f6⟩ := cf
  exact fun H locs ls hq hv => va_put hx hb hts f3 ty f4 f5 hown hK hq.1 hq.2.1 hq.2.2 a (by rw [zws_at hO.2.1, zE_obj hO.2.2 f1]) f2 j hj (hts _ w) (fun x hx => by rw [hT] at hx; exact hx) hfin hd (z_bit hx2).1 (z_bit hx2).2.1 (by rw [zfl_len, f6]; exact hj) d (fun H1 locs1 h1 h2 h3 => k H1 locs1 ls (zQ_set (H := H) hO.2.2 f1 ho h1 h2 h3) hv)
theorem z_iald (X : zX Wf m R cc own nL g n H0) {a len : Nat} {i : Int} (hO : zO n a 12) (hlen : zln a = len) (hi : zr i) (h0 : 0 ≤ i) (h1 : i < (len : Int)) (d : decode cc pc = .ok (.iaload, 1)) (k : zW Wf m nL g n H0 (pc + 1) lv (zi (h a i.toNat) :: rest) h) : zW Wf m nL g n H0 pc lv (zi i :: .ref (g.2.2 a) :: rest) h := by
  obtain ⟨p, l, e, s, args, below, meth, c, cells, slots, Q, hfl, rfl, rfl, hx, hb, hml, hown, hts, hns, hK, -⟩ := X
  subst hlen
  exact fun H locs ls hq hv => va_iald hx hb hK hq.1 a 0 (by rw [zws_at hO.2.1, zE_int hO.2.2]) rfl (zi_in hi h0 h1) d (by rw [zi_nat hi]; exact k H locs ls hq hv)
theorem z_zald (X : zX Wf m R cc own nL g n H0) {a len : Nat} {i : Int} (hO : zO n a 13) (hlen : zln a = len) (hi : zr i) (h0 : 0 ≤ i) (h1 : i < (len : Int)) (d : decode cc pc = .ok (.baload, 1)) (k : zW Wf m nL g n H0 (pc + 1) lv (zi (h a i.toNat) :: rest) h) : zW Wf m nL g n H0 pc lv (zi i :: .ref (g.2.2 a) :: rest) h := by
  obtain ⟨p, l, e, s, args, below, meth, c, cells, slots, Q, hfl, rfl, rfl, hx, hb, hml, hown, hts, hns, hK, -⟩ := X
  subst hlen
  exact fun H locs ls hq hv => va_zald hx hb hK hq.1 a 1 (by rw [zws_at hO.2.1, zE_bool hO.2.2]) rfl (zi_in hi h0 h1) d (by rw [zi_nat hi]; exact k H locs ls hq hv)
theorem z_lald (X : zX Wf m R cc own nL g n H0) {a len : Nat} {i : Int} (hO : zO n a 16) (hlen : zln a = len) (hi : zr i) (h0 : 0 ≤ i) (h1 : i < (len : Int)) (d : decode cc pc = .ok (.laload, 1)) (k : zW Wf m nL g n H0 (pc + 1) lv (zj (h a i.toNat) :: rest) h) : zW Wf m nL g n H0 pc lv (zi i :: .ref (g.2.2 a) :: rest) h := by
  obtain ⟨p, l, e, s, args, below, meth, c, cells, slots, Q, hfl, rfl, rfl, hx, hb, hml, hown, hts, hns, hK, -⟩ := X
  subst hlen
  exact fun H locs ls hq hv => va_lald hx hb hK hq.1 a 4 (by rw [zws_at hO.2.1, zE_long hO.2.2]) rfl (zi_in hi h0 h1) d (by rw [zi_nat hi]; exact k H locs ls hq hv)
theorem z_aaldM (X : zX Wf m R cc own nL g n H0) {a len : Nat} {i : Int} (hO : zO n a 14) (hlen : zln a = len) (hi : zr i) (h0 : 0 ≤ i) (h1 : i < (len : Int)) (d : decode cc pc = .ok (.aaload, 1)) (k : zW Wf m nL g n H0 (pc + 1) lv (.ref (g.2.2 (a + 1 + 10 * i.toNat)) :: rest) h) : zW Wf m nL g n H0 pc lv (zi i :: .ref (g.2.2 a) :: rest) h := by
  obtain ⟨p, l, e, s, args, below, meth, c, cells, slots, Q, hfl, rfl, rfl, hx, hb, hml, hown, hts, hns, hK, -⟩ := X
  subst hlen
  refine fun H locs ls hq hv => va_aldq hx hb hK hq.1 a 2 (by rw [zws_at hO.2.1, zE_model hO.2.2]) rfl (zi_in hi h0 h1) d ?_
  rw [zi_nat hi]
  exact k H locs ls hq hv
theorem z_aaldS (X : zX Wf m R cc own nL g n H0) {a len : Nat} {i : Int} (hO : zO n a 15) (hlen : zln a = len) (hi : zr i) (h0 : 0 ≤ i) (h1 : i < (len : Int)) (d : decode cc pc = .ok (.aaload, 1)) (k : zW Wf m nL g n H0 (pc + 1) lv (.ref (g.2.2 (a + 1 + 7 * i.toNat)) :: rest) h) : zW Wf m nL g n H0 pc lv (zi i :: .ref (g.2.2 a) :: rest) h := by
  obtain ⟨p, l, e, s, args, below, meth, c, cells, slots, Q, hfl, rfl, rfl, hx, hb, hml, hown, hts, hns, hK, -⟩ := X
  subst hlen
  refine fun H locs ls hq hv => va_aldq hx hb hK hq.1 a 3 (by rw [zws_at hO.2.1, zE_state hO.2.2]) rfl (zi_in hi h0 h1) d ?_
  rw [zi_nat hi]
  exact k H locs ls hq hv
theorem z_alen (X : zX Wf m R cc own nL g n H0) {a len : Nat} (hO : zO n a 12) (hlen : zln a = len) (d : decode cc pc = .ok (.arraylength, 1)) (k : zW Wf m nL g n H0 (pc + 1) lv (zi (len : Int) :: rest) h) : zW Wf m nL g n H0 pc lv (.ref (g.2.2 a) :: rest) h := by
  obtain ⟨p, l, e, s, args, below, meth, c, cells, slots, Q, hfl, rfl, rfl, hx, hb, hml, hown, hts, hns, hK, -⟩ := X
  subst hlen
  exact fun H locs ls hq hv => va_alen hx hb hK hq.1 a 0 (by rw [zws_at hO.2.1, zE_int hO.2.2]) rfl (Int32.ofInt_eq_ofNat).symm d (k H locs ls hq hv)
theorem zi_upd {a : Nat} {i x : Int} (hi : zr i) : upd (fun j => Int32.ofInt (h a j)) (Int32.ofInt i).toNatClampNeg (Int32.ofInt x) = fun j => Int32.ofInt (zs h a i.toNat x a j) := by
  rw [zi_nat hi]
  funext j
  unfold upd zs
  by_cases hj : j = i.toNat <;> simp [hj]
theorem z_iast (X : zX Wf m R cc own nL g n H0) {a len : Nat} {i x : Int} (hO : zO n a 12) (hlen : zln a = len) (hi : zr i) (h0 : 0 ≤ i) (h1 : i < (len : Int)) (d : decode cc pc = .ok (.iastore, 1)) (k : zW Wf m nL g n H0 (pc + 1) lv rest (zs h a i.toNat x)) : zW Wf m nL g n H0 pc lv (zi x :: zi i :: .ref (g.2.2 a) :: rest) h := by
  obtain ⟨p, l, e, s, args, below, meth, c, cells, slots, Q, hfl, rfl, rfl, hx, hb, hml, hown, hts, hns, hK, -⟩ := X
  subst hlen
  refine fun H locs ls hq hv => va_iast hx hb hK hq.1 hq.2.1 hq.2.2 a 0 (by rw [zws_at hO.2.1, zE_int hO.2.2]) rfl (zi_in hi h0 h1) d (fun H1 locs1 h1 h2 h3 => k H1 locs1 ls ?_ hv)
  rw [zi_upd hi, zws_set (h' := zs h a i.toNat x) (by rw [zE_int hO.2.2]) (fun b hb => zE_ne hb)] at h1 h2
  exact ⟨h1, h2, h3⟩
theorem z_zast (X : zX Wf m R cc own nL g n H0) {a len : Nat} {i x : Int} (hO : zO n a 13) (hlen : zln a = len) (hi : zr i) (h0 : 0 ≤ i) (h1 : i < (len : Int)) (hx2 : x = 0 ∨ x = 1) (d : decode cc pc = .ok (.bastore, 1)) (k : zW Wf m nL g n H0 (pc + 1) lv rest (zs h a i.toNat x)) : zW Wf m nL g n H0 pc lv (zi x :: zi i :: .ref (g.2.2 a) :: rest) h := by
  obtain ⟨p, l, e, s, args, below, meth, c, cells, slots, Q, hfl, rfl, rfl, hx, hb, hml, hown, hts, hns, hK, -⟩ := X
  subst hlen
  refine fun H locs ls hq hv => va_zast hx hb hK hq.1 hq.2.1 hq.2.2 a 1 (by rw [zws_at hO.2.1, zE_bool hO.2.2]) rfl (zi_in hi h0 h1) d (fun H1 locs1 h1 h2 h3 => k H1 locs1 ls ?_ hv)
  rw [(z_bit hx2).2.2, zi_upd hi, zws_set (h' := zs h a i.toNat x) (by rw [zE_bool hO.2.2]) (fun b hb => zE_ne hb)] at h1 h2
  exact ⟨h1, h2, h3⟩
theorem z_last (X : zX Wf m R cc own nL g n H0) {a len : Nat} {i x : Int} (hO : zO n a 16) (hlen : zln a = len) (hi : zr i) (h0 : 0 ≤ i) (h1 : i < (len : Int)) (d : decode cc pc = .ok (.lastore, 1)) (k : zW Wf m nL g n H0 (pc + 1) lv rest (zs h a i.toNat x)) : zW Wf m nL g n H0 pc lv (zj x :: zi i :: .ref (g.2.2 a) :: rest) h := by
  obtain ⟨p, l, e, s, args, below, meth, c, cells, slots, Q, hfl, rfl, rfl, hx, hb, hml, hown, hts, hns, hK, -⟩ := X
  subst hlen
  refine fun H locs ls hq hv => va_last hx hb hK hq.1 hq.2.1 hq.2.2 a 4 (by rw [zws_at hO.2.1, zE_long hO.2.2]) rfl (zi_in hi h0 h1) d (fun H1 locs1 h1 h2 h3 => k H1 locs1 ls ?_ hv)
  have e : vp_updL (fun j => Int64.ofInt (h a j)) (Int32.ofInt i).toNatClampNeg (Int64.ofInt x) = fun j => Int64.ofInt (zs h a i.toNat x a j) := by
    rw [zi_nat hi]
    funext j
    unfold vp_updL zs
    by_cases hj : j = i.toNat <;> simp [hj]
  rw [e, zws_set (h' := zs h a i.toNat x) (by rw [zE_long hO.2.2]) (fun b hb => zE_ne hb)] at h1 h2
  exact ⟨h1, h2, h3⟩
theorem z_copy (X : zX Wf m R cc own nL g n H0) {a b la lb idx sp dp len : Nat} {isp idp ilen : Int} (hO : zO n a 12) (hO2 : zO n b 12) (hla : zln a = la) (hlb : zln b = lb) (e1 : isp = (sp : Int)) (e2 : idp = (dp : Int)) (e3 : ilen = (len : Int)) (r1 : zr isp) (r2 : zr idp) (r3 : zr ilen) (h1 : sp + len ≤ la) (h2 : dp + len ≤ lb) (w1 : Cond.methodLink own idx arraycopyName ∈ zWd) (w2 : Cond.native arraycopyName ∈ zWd) (w3 : Cond.static arraycopyName ∈ zWd) (w4 : Cond.initialized "java/lang/System" ∈ zWd)
    (hR : 1 ≤ R.frames ∧ (rest.map fun v => v.category).sum + (nativeFrameWords "java/lang/System" "arraycopy" 5 + 11) ≤ R.locals) (d : decode cc pc = .ok (.invokestatic idx, 3)) (k : zW Wf m nL g n H0 (pc + 3) lv rest (zcp h a sp b dp len)) : zW Wf m nL g n H0 pc lv (zi ilen :: zi idp :: .ref (g.2.2 b) :: zi isp :: .ref (g.2.2 a) :: rest) h := by
  obtain ⟨p, l, e, s, args, below, meth, c, cells, slots, Q, hfl, rfl, rfl, hx, hb, hml, hown, hts, hns, hK, -⟩ := X
  subst hla; subst hlb
  have n1 : (Int32.ofInt isp).toNatClampNeg = sp := by rw [zi_nat r1, e1]; rfl
  have n2 : (Int32.ofInt idp).toNatClampNeg = dp := by rw [zi_nat r2, e2]; rfl
  have n3 : (Int32.ofInt ilen).toNatClampNeg = len := by rw [zi_nat r3, e3]; rfl
  refine fun H locs ls hq hv => va_copyi hx hb (hml.trans hv.1.symm) hown (hts _ w1) (hts _ w2) (hts _ w3) (hts _ w4) hK hq.1 hq.2.1 hq.2.2 a b 0 0 (ty := .int) (by rw [zws_at hO.2.1, zE_int hO.2.2]) (by rw [zws_at hO2.2.1, zE_int hO2.2.2]) rfl rfl rfl (fun q => by have := (zi_lt0 r1).mp q; omega) (fun q => by have := (zi_lt0 r2).mp q; omega) (fun q => by have := (zi_lt0 r3).mp q; omega) (by rw [n1, n3]; exact h1) (by rw [n2, n3]; exact h2) (fun i _ => rfl) hR.1 hR.2 d (fun H1 locs1 h1 h2 h3 => k H1 locs1 ls ?_ hv)
  rw [n1, n2, n3] at h1 h2
  have e : va_cpy (fun j => Int32.ofInt (h a j)) (fun j => Int32.ofInt (h b j)) sp dp len = fun j => Int32.ofInt (zcp h a sp b dp len b j) := by
    funext j
    unfold va_cpy zcp
    by_cases hj : dp ≤ j ∧ j < dp + len <;> simp [hj]
  rw [e, zws_set (h' := zcp h a sp b dp len) (by rw [zE_int hO2.2.2]) (fun b hb => zE_neC hb)] at h1 h2
  exact ⟨h1, h2, h3⟩
theorem z_mmin (X : zX Wf m R cc own nL g n H0) {x y : Int} {idx : Nat} (hx1 : zr x) (hy1 : zr y) (w1 : Cond.methodLink own idx Lib.Math.min.name ∈ zWd) (w2 : Cond.static Lib.Math.min.name ∈ zWd) (w3 : Cond.initialized "java/lang/Math" ∈ zWd) (w4 : Cond.code Lib.Math.min.name Lib.Math.min.code 2 (some .int) ∈ zWd) (hR : 1 ≤ R.frames ∧ (rest.map fun v => v.category).sum + 13 ≤ R.locals) (d : decode cc pc = .ok (.invokestatic idx, 3)) (k : zW Wf m nL g n H0 (pc + 3) lv (zi (if y < x then y else x) :: rest) h) : zW Wf m nL g n H0 pc lv (zi y :: zi x :: rest) h := by
  obtain ⟨p, l, e, s, args, below, meth, c, cells, slots, Q, hfl, rfl, rfl, hx, hb, hml, hown, hts, hns, hK, hc, hs, hold⟩ := X
  refine fun H locs ls hq hv => va_mmin hx hb (hml.trans hv.1.symm) hown (hts _ w1) (hts _ w2) (hts _ w3) (hts _ w4) hR.1 hR.2 hc hs d ?_
  have e : (if Int32.ofInt y < Int32.ofInt x then Int32.ofInt y else Int32.ofInt x) = Int32.ofInt (if y < x then y else x) := by
    by_cases q : y < x
    · rw [if_pos ((zi_lt hy1 hx1).mpr q), if_pos q]
    · rw [if_neg (fun z => q ((zi_lt hy1 hx1).mp z)), if_neg q]
  rw [e]
  exact k H locs ls hq hv
theorem z_mmax (X : zX Wf m R cc own nL g n H0) {x y : Int} {idx : Nat} (hx1 : zr x) (hy1 : zr y) (w1 : Cond.methodLink own idx Lib.Math.max.name ∈ zWd) (w2 : Cond.static Lib.Math.max.name ∈ zWd) (w3 : Cond.initialized "java/lang/Math" ∈ zWd) (w4 : Cond.code Lib.Math.max.name Lib.Math.max.code 2 (some .int) ∈ zWd) (hR : 1 ≤ R.frames ∧ (rest.map fun v => v.category).sum + 13 ≤ R.locals) (d : decode cc pc = .ok (.invokestatic idx, 3)) (k : zW Wf m nL g n H0 (pc + 3) lv (zi (if x < y then y else x) :: rest) h) : zW Wf m nL g n H0 pc lv (zi y :: zi x :: rest) h := by
  obtain ⟨p, l, e, s, args, below, meth, c, cells, slots, Q, hfl, rfl, rfl, hx, hb, hml, hown, hts, hns, hK, hc, hs, hold⟩ := X
  refine fun H locs ls hq hv => va_mmax hx hb (hml.trans hv.1.symm) hown (hts _ w1) (hts _ w2) (hts _ w3) (hts _ w4) hR.1 hR.2 hc hs d ?_
  have e : (if Int32.ofInt x < Int32.ofInt y then Int32.ofInt y else Int32.ofInt x) = Int32.ofInt (if x < y then y else x) := by
    by_cases q : x < y
    · rw [if_pos ((zi_lt hx1 hy1).mpr q), if_pos q]
    · rw [if_neg (fun z => q ((zi_lt hx1 hy1).mp z)), if_neg q]
  rw [e]
  exact k H locs ls hq hv
end ZHP

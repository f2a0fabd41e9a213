/-! GROUP_VALUES: the class's static table of five longs -/
def zgvL : List Int := [1, 10000, 100000000, 1000000000000, 10000000000000000]
def zgv (i : Int) : Int := zgvL.getD i.toNat 0
theorem zrl_gv (i : Int) : zrl (zgv i) := by
  have ck : ∀ k : Nat, zrl (zgvL.getD k 0) := by
    intro k
    match k with
    | 0 => decide
    | 1 => decide
    | 2 => decide
    | 3 => decide
    | 4 => decide
    | k + 5 => exact (show zrl 0 from by decide)
  exact ck _
def zgvF (j : Nat) : Value := .long (Int64.ofInt (zgvL.getD j 0))
abbrev zgvT : Term := .static "AliasStreams$Script" "GROUP_VALUES" "[J"
theorem zgv_a {a0 : Array Value} {s0 : State} (h : (Jvm.Cond.and given_1 narrow_1).before a0 s0 = true) : (Cond.arrayOf zgvT .long).before a0 s0 = true := flat_of_before _ h _ (by decide +kernel)
theorem zgv_l {a0 : Array Value} {s0 : State} (h : (Jvm.Cond.and given_1 narrow_1).before a0 s0 = true) : (Cond.eq (.length zgvT) (.int 5)).before a0 s0 = true := flat_of_before _ h _ (by decide +kernel)
theorem zgv_0 {a0 : Array Value} {s0 : State} (h : (Jvm.Cond.and given_1 narrow_1).before a0 s0 = true) : (Cond.eq (.elem zgvT (.int 0)) (.long 1)).before a0 s0 = true := flat_of_before _ h _ (by decide +kernel)
theorem zgv_1 {a0 : Array Value} {s0 : State} (h : (Jvm.Cond.and given_1 narrow_1).before a0 s0 = true) : (Cond.eq (.elem zgvT (.int 1)) (.long 10000)).before a0 s0 = true := flat_of_before _ h _ (by decide +kernel)
theorem zgv_2 {a0 : Array Value} {s0 : State} (h : (Jvm.Cond.and given_1 narrow_1).before a0 s0 = true) : (Cond.eq (.elem zgvT (.int 2)) (.long 100000000)).before a0 s0 = true := flat_of_before _ h _ (by decide +kernel)
theorem zgv_3 {a0 : Array Value} {s0 : State} (h : (Jvm.Cond.and given_1 narrow_1).before a0 s0 = true) : (Cond.eq (.elem zgvT (.int 3)) (.long 1000000000000)).before a0 s0 = true := flat_of_before _ h _ (by decide +kernel)
theorem zgv_4 {a0 : Array Value} {s0 : State} (h : (Jvm.Cond.and given_1 narrow_1).before a0 s0 = true) : (Cond.eq (.elem zgvT (.int 4)) (.long 10000000000000000)).before a0 s0 = true := flat_of_before _ h _ (by decide +kernel)
theorem zgv_ls : Cond.laysStatic "AliasStreams$Script" "GROUP_VALUES" "[J" ∈ lw_tbl := List.mem_append_right _ (List.mem_of_getElem? (i := 924) (by decide +kernel))
theorem zgv_in : Cond.initialized "AliasStreams$Script" ∈ lw_tbl := (List.mem_filter.mp (show Cond.initialized "AliasStreams$Script" ∈ zWd from q11)).1
theorem zgv_at {g : zG} {n : Nat} {s : State} (hold : zOld g s) : ∃ t : Nat, va_Z "AliasStreams$Script" "GROUP_VALUES" "[J" (.ref t) (zA g n s.heap.size) s s.heap ∧ va_T .long t 5 zgvF (zA g n s.heap.size) s s.heap := by
  obtain ⟨s0, a0, o1, o2, o3, o4, o5, o6⟩ := hold
  have hA : ∀ a : Nat, a < s0.heap.size → ¬ zA g n s.heap.size a := by
    intro a ha z
    rcases z with ⟨k, -, e⟩ | z
    · have := o6 k
      omega
    · omega
  obtain ⟨t, ht, hT⟩ := va_Tof (tm := zgvT) (ty := .long) (N := 5) (f := zgvF) (A := zA g n s.heap.size) (by decide) (zgv_a o2) (va_eqt (zgv_l o2)) (fun j hj => by
    match j, hj with
    | 0, _ => exact va_eqtl (zgv_0 o2)
    | 1, _ => exact va_eqtl (zgv_1 o2)
    | 2, _ => exact va_eqtl (zgv_2 o2)
    | 3, _ => exact va_eqtl (zgv_3 o2)
    | 4, _ => exact va_eqtl (zgv_4 o2)
    | k + 5, h => omega) hA
  refine ⟨t, ?_, ?_⟩
  · exact ((va_Zof (o1 _ zgv_ls) (o1 _ zgv_in) ht hA).moved o3.alike).kept (H1 := s.heap) (fun a h1 _ => o5 a h1)
  · exact (hT.moved o3.alike).kept (H1 := s.heap) (fun a h1 _ => o5 a h1)
section ZGV
variable {Wf : Heap → List Loc → JFrame → Prop} {m : MethodId} {R : Room} {cc : ByteArray} {own : String} {nL : Nat} {g : zG} {n : Nat} {H0 : Heap} {pc : Nat} {lv lv' : List (Nat × Value)} {rest : List Value} {h : zH}
theorem z_gv (X : zX Wf m R cc own nL g n H0) {idx q : Nat} {i : Fin 4} {x : Int} (w : Cond.fieldLink own idx "AliasStreams$Script" "GROUP_VALUES" "[J" ∈ zWd) (hq0 : lv[q]? = some ((i : Nat), zi x)) (hx1 : zr x) (hb1 : 0 ≤ x ∧ x < 5) (d0 : decode cc pc = .ok (.getstatic idx, 3)) (d1 : decode cc (pc + 3) = .ok (.iload_n i, 1)) (d2 : decode cc (pc + 4) = .ok (.laload, 1)) (k : zW Wf m nL g n H0 (pc + 5) lv (zj (zgv x) :: rest) h) : zW Wf m nL g n H0 pc lv rest h := by
  obtain ⟨p, l, e, s, args, below, meth, c, cells, slots, Q, hfl, rfl, rfl, hx, hb, hml, hown, hts, hns, hK, hc, hs, hold⟩ := X
  obtain ⟨t, hZ, hT⟩ := zgv_at (n := n) hold
  refine fun H locs ls hq hv => va_gets hx hb hZ hq.2.2 hown (hts _ w) (fun x hx => hx) d0 (lv_iload_n hx hb d1 rfl (lv_at hv q hq0) (va_tl hx hb hT hq.2.2 (zi_in hx1 hb1.1 hb1.2) (v := zj (zgv x)) ?_ d2 (k H locs ls hq hv)))
  rw [zi_nat hx1]
  rfl
theorem z_gvN (X : zX Wf m R cc own nL g n H0) {idx q : Nat} {i : Fin 4} {x : Int} {host : String} (w : Cond.fieldLinkNest own idx "AliasStreams$Script" "GROUP_VALUES" "[J" host ∈ zNs) (hq0 : lv[q]? = some ((i : Nat), zi x)) (hx1 : zr x) (hb1 : 0 ≤ x ∧ x < 5) (d0 : decode cc pc = .ok (.getstatic idx, 3)) (d1 : decode cc (pc + 3) = .ok (.iload_n i, 1)) (d2 : decode cc (pc + 4) = .ok (.laload, 1)) (k : zW Wf m nL g n H0 (pc + 5) lv (zj (zgv x) :: rest) h) : zW Wf m nL g n H0 pc lv rest h := by
  obtain ⟨p, l, e, s, args, below, meth, c, cells, slots, Q, hfl, rfl, rfl, hx, hb, hml, hown, hts, hns, hK, hc, hs, hold⟩ := X
  obtain ⟨t, hZ, hT⟩ := zgv_at (n := n) hold
  refine fun H locs ls hq hv => va_getsN hx hb hZ hq.2.2 hown (zns_use w (hns _ w)) (fun x hx => hx) d0 (lv_iload_n hx hb d1 rfl (lv_at hv q hq0) (va_tl hx hb hT hq.2.2 (zi_in hx1 hb1.1 hb1.2) (v := zj (zgv x)) ?_ d2 (k H locs ls hq hv)))
  rw [zi_nat hx1]
  rfl
end ZGV

/-! constructors that fill a row of objects: Models, History, Saves -/
def dE (g : zG) (f : Nat → va_E) (n : Nat) : Nat → va_E := fun k => if k < n then f k else zE g h00 k
def dRow (g : zG) (a kd len sz i : Nat) : va_E := .inl (g.2.1 kd, len, .inr (.inr (.inr (.inr (fun j => if j < i then some (g.2.2 (a + 2 + sz * j)) else none)))))
def dG (g : zG) (f0 : Nat → va_E) (a ci : Nat) (fs : List Value) (kd len sz i : Nat) : Nat → va_E := dU1 (dF g f0 a ci fs) (a + 1) (dRow g a kd len sz i)
theorem dRow_up {g : zG} {a kd len sz i : Nat} : (.inl (g.2.1 kd, len, .inr (.inr (.inr (.inr (va_up (fun j => if j < i then some (g.2.2 (a + 2 + sz * j)) else none) i (some (g.2.2 (a + 2 + sz * i)))))))) : va_E) = dRow g a kd len sz (i + 1) := by
  unfold dRow
  congr 7
  funext j
  unfold va_up
  by_cases h : j = i
  · subst h
    rw [if_pos rfl, if_pos (Nat.lt_succ_self j)]
  · rw [if_neg h]
    dsimp only
    by_cases h2 : j < i
    · rw [if_pos h2, if_pos (by omega)]
    · rw [if_neg h2, if_neg (by omega)]
theorem dRow_0 {g : zG} {a kd len sz : Nat} : (.inl (g.2.1 kd, len, .inr (.inr (.inr (.inr (fun _ => none))))) : va_E) = dRow g a kd len sz 0 := by
  unfold dRow
  congr 6
theorem arrV_same {cA : ClassId} {N : Nat} {f f' : Nat → Value} (h : ∀ j, j < N → f j = f' j) : arrV cA N f = arrV cA N f' := by
  unfold arrV
  congr 1
  apply Array.ext
  · simp
  · intro i h1 h2
    simp at h1 ⊢
    exact h i h1
section CG
variable {Wf : Nat → Nat → Heap → List Loc → JFrame → Prop} {m : MethodId} {R : Room} {cc : ByteArray} {own : String} {nL : Nat} {g : zG} {H0 : Heap} {ini : Prop} {cells slots pc n : Nat} {lv lv' : List (Nat × Value)} {rest st : List Value} {f f0 : Nat → va_E} {a ci : Nat} {fs : List Value}
theorem d_congrH {f' : Nat → va_E} (h : ∀ k, k < n → ∀ H : Heap, va_at g.1 zCl (g.2.2 k, f k) H → va_at g.1 zCl (g.2.2 k, f' k) H) (k : dW Wf m nL g H0 cells slots pc lv rest n f') : dW Wf m nL g H0 cells slots pc lv rest n f := fun H locs ls hq hv => k H locs ls ⟨fun k q hk => by
  obtain ⟨hk1, rfl⟩ := zwf_lt hk
  exact h k hk1 H (hq.1 k _ (zwf_at hk1)), hq.2⟩ hv
theorem d_sub (X : dX Wf m R cc own nL g H0 ini) {ci' ix N : Nat} {C : String} {T : u_T} {ty : Nat → FieldType} {y : MethodName} {bytes : ByteArray} {maxL idx mc ms size : Nat} {rm : Room} {host : String} (cf : zCF ci' C T ty N) (w1 : Cond.classLink own ix C ∈ zWd) (w2 : Cond.instantiable C N ∈ zWd) (w3 : Cond.initialized C ∈ zWd) (hfs : ∀ j, j < N → defaultValue (ty j) = vp_V (zf0 ci') j)
    (hM : ∀ (l : Launch) (f : Nat → va_E), l.flags = flags0 → dMet l y bytes maxL rm g [.ref (g.2.2 n)] (n + 1) (dU1 f n (.inr (ci', zf0 ci'))) (dPo g f n size) mc ms) (mf : zMI y bytes maxL 0) (wl : Cond.methodLinkNest own idx y host ∈ zNs) (hR : (rm.frames + 1 ≤ R.frames ∧ 8 + (maxL + 11) + rm.locals ≤ R.locals) ∧ rm.cells = mc ∧ rm.slots = ms) (hcs : cells + 1 + mc ≤ R.cells ∧ slots + N + ms ≤ R.slots) (hW : (rest.map fun v => v.category).sum ≤ 7) (d1 : decode cc pc = .ok (.new ix, 3)) (d2 : decode cc (pc + 3) = .ok (.dup, 1)) (d3 : decode cc (pc + 3 + 1) = .ok (.invokespecial idx, 3))
    (k : dW Wf m nL g H0 (cells + 1 + mc) (slots + N + ms) (pc + 3 + 1 + 3) lv (.ref (g.2.2 n) :: rest) (n + size) (dE g f n)) : dW Wf m nL g H0 cells slots pc lv rest n f := by
  refine d_new X cf w1 w2 w3 hfs ⟨by omega, by omega⟩ d1 ?_
  refine d_dup X d2 rfl ?_
  refine d_callIN (a := n) (As := []) (rest := .ref (g.2.2 n) :: rest) X (fun l hl => hM l f hl) mf wl hR hcs rfl d3 rfl (by show 1 + (rest.map fun v => v.category).sum ≤ 8; omega) (fun n' f' hp => ?_)
  obtain ⟨rfl, hp⟩ := hp
  exact d_congr (fun k hk => by rw [hp k hk]; rfl) k
theorem dG_ge {kd len sz i k : Nat} (h : a + 2 ≤ k) : dG g f0 a ci fs kd len sz i k = zE g h00 k := by
  unfold dG dU1
  rw [if_neg (by omega), dF_gt (by omega)]
theorem dG_1 {kd len sz i : Nat} : dG g f0 a ci fs kd len sz i (a + 1) = dRow g a kd len sz i := by
  unfold dG dU1
  rw [if_pos rfl]
theorem dG_a {kd len sz i : Nat} : dG g f0 a ci fs kd len sz i a = .inr (ci, fs) := by
  unfold dG dU1
  rw [if_neg (by omega), dF_a]
theorem dG_put {kd len sz i j : Nat} {v : Value} : ∀ k, dU1 (dG g f0 a ci fs kd len sz i) a (.inr (ci, fs.set j v)) k = dG g f0 a ci (fs.set j v) kd len sz i k := by
  intro k
  unfold dG dU1
  by_cases h : k = a
  · subst h
    rw [if_pos rfl, if_neg (by omega), dF_a]
  · rw [if_neg h]
    by_cases h2 : k = a + 1
    · rw [if_pos h2, if_pos h2]
    · rw [if_neg h2, if_neg h2]
      by_cases h3 : k < a
      · rw [dF_lt h3, dF_lt h3]
      · rw [dF_gt (by omega), dF_gt (by omega)]
theorem dG_end {kd len sz : Nat} (hz : zE g h00 (a + 1) = .inl (g.2.1 kd, len, .inr (.inr (.inr (.inr (fun i => some (g.2.2 (a + 1 + 1 + sz * i)))))))) (k : dW Wf m nL g H0 cells slots pc lv rest n (dF g f0 a ci fs)) : dW Wf m nL g H0 cells slots pc lv rest n (dG g f0 a ci fs kd len sz len) := by
  refine d_congrH (fun k hk H h => ?_) k
  by_cases h1 : k = a + 1
  · subst h1
    rw [dG_1] at h
    rw [dF_gt (by omega), hz]
    have h' : H[g.2.2 (a + 1)]? = some (arrV (g.2.1 kd) len (fun j => va_rf (if j < len then some (g.2.2 (a + 2 + sz * j)) else none))) := h
    show H[g.2.2 (a + 1)]? = some (arrV (g.2.1 kd) len (fun j => va_rf (some (g.2.2 (a + 1 + 1 + sz * j)))))
    rw [h']
    exact congrArg some (arrV_same (fun j hj => by rw [if_pos hj]))
  · have e : dG g f0 a ci fs kd len sz len k = dF g f0 a ci fs k := by
      unfold dG dU1
      rw [if_neg h1]
    rw [e] at h
    exact h
/-- row[i] = new C() -/
theorem d_elem (X : dX Wf m R cc own nL g H0 ini) {ci' ix N kd len sz i t0 : Nat} {C : String} {T : u_T} {ty : Nat → FieldType} {y : MethodName} {bytes : ByteArray} {maxL idx mc ms : Nat} {rm : Room} {host : String} {x : Int} (hn : n = a + 2 + sz * i) (cf : zCF ci' C T ty N) (hk : zkd n = ci') (hsz : 1 ≤ sz) (w1 : Cond.classLink own ix C ∈ zWd) (w2 : Cond.instantiable C N ∈ zWd) (w3 : Cond.initialized C ∈ zWd) (hfs : ∀ j, j < N → defaultValue (ty j) = vp_V (zf0 ci') j)
    (hM : ∀ (l : Launch) (f : Nat → va_E), l.flags = flags0 → dMet l y bytes maxL rm g [.ref (g.2.2 n)] (n + 1) (dU1 f n (.inr (ci', zf0 ci'))) (dPo g f n sz) mc ms) (mf : zMI y bytes maxL 0) (wl : Cond.methodLinkNest own idx y host ∈ zNs) (hR : (rm.frames + 1 ≤ R.frames ∧ 8 + (maxL + 11) + rm.locals ≤ R.locals) ∧ rm.cells = mc ∧ rm.slots = ms) (hcs : cells + 1 + mc ≤ R.cells ∧ slots + N + ms ≤ R.slots) (hW : (rest.map fun v => v.category).sum ≤ 5) (d1 : decode cc pc = .ok (.new ix, 3)) (d2 : decode cc (pc + 3) = .ok (.dup, 1)) (d3 : decode cc (pc + 3 + 1) = .ok (.invokespecial idx, 3)) (d4 : decode cc (pc + 3 + 1 + 3) = .ok (.aastore, 1))
    (ht : (ztys g)[t0]? = some (g.2.1 kd, .object C)) (hx1 : zr x) (hx2 : x = (i : Int)) (hi : i < len)
    (k : dW Wf m nL g H0 (cells + 1 + mc) (slots + N + ms) (pc + 3 + 1 + 3 + 1) lv rest (n + sz) (dG g f0 a ci fs kd len sz (i + 1))) : dW Wf m nL g H0 cells slots pc lv (zi x :: .ref (g.2.2 (a + 1)) :: rest) n (dG g f0 a ci fs kd len sz i) := by
  refine d_sub X cf w1 w2 w3 hfs hM mf wl hR hcs (by show 1 + (1 + (rest.map fun v => v.category).sum) ≤ 7; omega) d1 d2 d3 ?_
  have hb : dE g (dG g f0 a ci fs kd len sz i) n n = .inr (ci', zfl g.2.2 h00 n (zfd ci')) := by
    unfold dE
    rw [if_neg (Nat.lt_irrefl n), zE_obj hk cf.1]
  have ha : dE g (dG g f0 a ci fs kd len sz i) n (a + 1) = dRow g a kd len sz i := by
    unfold dE
    rw [if_pos (by omega), dG_1]
  refine d_aast (a := a + 1) (b := n) (i := i) (len := len) X (by omega) ha (by omega) hb cf.2.1 ht hx1 hx2 hi d4 (d_congr (fun kq hkq => ?_) k)
  subst hn
  rw [dRow_up]
  unfold dU1
  by_cases h : kq = a + 1
  · subst h
    rw [if_pos rfl, dG_1]
  · rw [if_neg h]
    unfold dE
    by_cases h2 : kq < a + 2 + sz * i
    · rw [if_pos h2]
      unfold dG dU1
      rw [if_neg h, if_neg h]
    · rw [if_neg h2, dG_ge (by omega)]
end CG

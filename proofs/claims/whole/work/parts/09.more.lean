/-! rows with the place of an array named, and other small ones -/
section ZM
variable {Wf : Heap → List Loc → JFrame → Prop} {m : MethodId} {R : Room} {cc : ByteArray} {own : String} {nL : Nat} {g : zG} {n : Nat} {H0 : Heap} {pc : Nat} {lv lv' : List (Nat × Value)} {rest : List Value} {h : zH}
theorem z_ialdj (X : zX Wf m R cc own nL g n H0) {a len j : Nat} {i : Int} (hO : zO n a 12) (hlen : zln a = len) (hi : zr i) (hb : 0 ≤ i ∧ i < (len : Int)) (hj : i.toNat = j) (d : decode cc pc = .ok (.iaload, 1)) (k : zW Wf m nL g n H0 (pc + 1) lv (zi (h a j) :: rest) h) : zW Wf m nL g n H0 pc lv (zi i :: .ref (g.2.2 a) :: rest) h := by
  subst hj
  exact z_iald X hO hlen hi hb.1 hb.2 d k
theorem z_zaldj (X : zX Wf m R cc own nL g n H0) {a len j : Nat} {i : Int} (hO : zO n a 13) (hlen : zln a = len) (hi : zr i) (hb : 0 ≤ i ∧ i < (len : Int)) (hj : i.toNat = j) (d : decode cc pc = .ok (.baload, 1)) (k : zW Wf m nL g n H0 (pc + 1) lv (zi (h a j) :: rest) h) : zW Wf m nL g n H0 pc lv (zi i :: .ref (g.2.2 a) :: rest) h := by
  subst hj
  exact z_zald X hO hlen hi hb.1 hb.2 d k
theorem z_laldj (X : zX Wf m R cc own nL g n H0) {a len j : Nat} {i : Int} (hO : zO n a 16) (hlen : zln a = len) (hi : zr i) (hb : 0 ≤ i ∧ i < (len : Int)) (hj : i.toNat = j) (d : decode cc pc = .ok (.laload, 1)) (k : zW Wf m nL g n H0 (pc + 1) lv (zj (h a j) :: rest) h) : zW Wf m nL g n H0 pc lv (zi i :: .ref (g.2.2 a) :: rest) h := by
  subst hj
  exact z_lald X hO hlen hi hb.1 hb.2 d k
theorem z_iastj (X : zX Wf m R cc own nL g n H0) {a len j : Nat} {i x : Int} (hO : zO n a 12) (hlen : zln a = len) (hi : zr i) (hb : 0 ≤ i ∧ i < (len : Int)) (hj : i.toNat = j) (d : decode cc pc = .ok (.iastore, 1)) (k : zW Wf m nL g n H0 (pc + 1) lv rest (zs h a j x)) : zW Wf m nL g n H0 pc lv (zi x :: zi i :: .ref (g.2.2 a) :: rest) h := by
  subst hj
  exact z_iast X hO hlen hi hb.1 hb.2 d k
theorem z_zastj (X : zX Wf m R cc own nL g n H0) {a len j : Nat} {i x : Int} (hO : zO n a 13) (hlen : zln a = len) (hi : zr i) (hb : 0 ≤ i ∧ i < (len : Int)) (hj : i.toNat = j) (hx2 : x = 0 ∨ x = 1) (d : decode cc pc = .ok (.bastore, 1)) (k : zW Wf m nL g n H0 (pc + 1) lv rest (zs h a j x)) : zW Wf m nL g n H0 pc lv (zi x :: zi i :: .ref (g.2.2 a) :: rest) h := by
  subst hj
  exact z_zast X hO hlen hi hb.1 hb.2 hx2 d k
theorem z_lastj (X : zX Wf m R cc own nL g n H0) {a len j : Nat} {i x : Int} (hO : zO n a 16) (hlen : zln a = len) (hi : zr i) (hb : 0 ≤ i ∧ i < (len : Int)) (hj : i.toNat = j) (d : decode cc pc = .ok (.lastore, 1)) (k : zW Wf m nL g n H0 (pc + 1) lv rest (zs h a j x)) : zW Wf m nL g n H0 pc lv (zj x :: zi i :: .ref (g.2.2 a) :: rest) h := by
  subst hj
  exact z_last X hO hlen hi hb.1 hb.2 d k
theorem z_aaldMj (X : zX Wf m R cc own nL g n H0) {a len : Nat} {i : Int} (hO : zO n a 14) (hlen : zln a = len) (hi : zr i) (hb : 0 ≤ i ∧ i < (len : Int)) (d : decode cc pc = .ok (.aaload, 1)) (k : zW Wf m nL g n H0 (pc + 1) lv (.ref (g.2.2 (a + 1 + 10 * i.toNat)) :: rest) h) : zW Wf m nL g n H0 pc lv (zi i :: .ref (g.2.2 a) :: rest) h := z_aaldM X hO hlen hi hb.1 hb.2 d k
theorem z_aaldSj (X : zX Wf m R cc own nL g n H0) {a len : Nat} {i : Int} (hO : zO n a 15) (hlen : zln a = len) (hi : zr i) (hb : 0 ≤ i ∧ i < (len : Int)) (d : decode cc pc = .ok (.aaload, 1)) (k : zW Wf m nL g n H0 (pc + 1) lv (.ref (g.2.2 (a + 1 + 7 * i.toNat)) :: rest) h) : zW Wf m nL g n H0 pc lv (zi i :: .ref (g.2.2 a) :: rest) h := z_aaldS X hO hlen hi hb.1 hb.2 d k
theorem z_wi {x : Int} (k : zW Wf m nL g n H0 pc lv (zi (zw x) :: rest) h) : zW Wf m nL g n H0 pc lv (zi x :: rest) h := by
  rw [zi_w] at k
  exact k
theorem z_wj {x : Int} (k : zW Wf m nL g n H0 pc lv (zj (zwl x) :: rest) h) : zW Wf m nL g n H0 pc lv (zj x :: rest) h := by
  rw [zj_w] at k
  exact k
/-- x >>> 33, and a bit of the law: x & y, x << 32, x | y of longs -/
def zushr (x y : Int) : Int := ((Int64.ofInt x).toUInt64 >>> ((Int32.ofInt y).toInt64.toUInt64 &&& Int64.toUInt64 63)).toInt64.toInt
def zshl (x y : Int) : Int := (Int64.ofInt x <<< ((Int32.ofInt y).toInt64 &&& 63)).toInt
def zandl (x y : Int) : Int := (Int64.ofInt x &&& Int64.ofInt y).toInt
def zorl (x y : Int) : Int := (Int64.ofInt x ||| Int64.ofInt y).toInt
def zand (x y : Int) : Int := (Int32.ofInt x &&& Int32.ofInt y).toInt
theorem zrl_int (x : Int64) : zrl x.toInt := by
  have a := Int64.le_toInt x
  have b := Int64.toInt_lt x
  omega
theorem zr_int (x : Int32) : zr x.toInt := by
  have a := Int32.le_toInt x
  have b := Int32.toInt_lt x
  omega
theorem z_lushr (X : zX Wf m R cc own nL g n H0) {x y : Int} (d : decode cc pc = .ok (.lushr, 1)) (k : zW Wf m nL g n H0 (pc + 1) lv (zj (zushr x y) :: rest) h) : zW Wf m nL g n H0 pc lv (zi y :: zj x :: rest) h := by
  obtain ⟨p, l, e, s, args, below, meth, c, cells, slots, Q, hfl, rfl, rfl, hx, hb, -⟩ := X
  exact fun H locs ls hq hv => lv_lushr hx hb d (by unfold zushr; rw [Int64.ofInt_toInt]) (k H locs ls hq hv)
theorem z_lshl (X : zX Wf m R cc own nL g n H0) {x y : Int} (d : decode cc pc = .ok (.lshl, 1)) (k : zW Wf m nL g n H0 (pc + 1) lv (zj (zshl x y) :: rest) h) : zW Wf m nL g n H0 pc lv (zi y :: zj x :: rest) h := by
  obtain ⟨p, l, e, s, args, below, meth, c, cells, slots, Q, hfl, rfl, rfl, hx, hb, -⟩ := X
  exact fun H locs ls hq hv => lv_lshl hx hb d (by unfold zshl; rw [Int64.ofInt_toInt]) (k H locs ls hq hv)
theorem z_land (X : zX Wf m R cc own nL g n H0) {x y : Int} (d : decode cc pc = .ok (.land, 1)) (k : zW Wf m nL g n H0 (pc + 1) lv (zj (zandl x y) :: rest) h) : zW Wf m nL g n H0 pc lv (zj y :: zj x :: rest) h := by
  obtain ⟨p, l, e, s, args, below, meth, c, cells, slots, Q, hfl, rfl, rfl, hx, hb, -⟩ := X
  exact fun H locs ls hq hv => lv_land hx hb d (by have := k H locs ls hq hv; rw [show zj (zandl x y) = .long (Int64.ofInt x &&& Int64.ofInt y) from by unfold zandl zj; rw [Int64.ofInt_toInt]] at this; exact this)
theorem z_lor (X : zX Wf m R cc own nL g n H0) {x y : Int} (d : decode cc pc = .ok (.lor, 1)) (k : zW Wf m nL g n H0 (pc + 1) lv (zj (zorl x y) :: rest) h) : zW Wf m nL g n H0 pc lv (zj y :: zj x :: rest) h := by
  obtain ⟨p, l, e, s, args, below, meth, c, cells, slots, Q, hfl, rfl, rfl, hx, hb, -⟩ := X
  exact fun H locs ls hq hv => lv_lor hx hb d (by have := k H locs ls hq hv; rw [show zj (zorl x y) = .long (Int64.ofInt x ||| Int64.ofInt y) from by unfold zorl zj; rw [Int64.ofInt_toInt]] at this; exact this)
theorem z_iand (X : zX Wf m R cc own nL g n H0) {x y : Int} (d : decode cc pc = .ok (.iand, 1)) (k : zW Wf m nL g n H0 (pc + 1) lv (zi (zand x y) :: rest) h) : zW Wf m nL g n H0 pc lv (zi y :: zi x :: rest) h := by
  obtain ⟨p, l, e, s, args, below, meth, c, cells, slots, Q, hfl, rfl, rfl, hx, hb, -⟩ := X
  exact fun H locs ls hq hv => lv_iand hx hb d (by have := k H locs ls hq hv; rw [show zi (zand x y) = .int (Int32.ofInt x &&& Int32.ofInt y) from by unfold zand zi; rw [Int32.ofInt_toInt]] at this; exact this)
/-- the ends of a method, by what it answers -/
abbrev zPi (K : Int → zH → Prop) : Option Value → zH → Prop := fun v h' => ∃ r : Int, v = some (zi r) ∧ zr r ∧ zh h' ∧ K r h'
abbrev zPj (K : Int → zH → Prop) : Option Value → zH → Prop := fun v h' => ∃ r : Int, v = some (zj r) ∧ zrl r ∧ zh h' ∧ K r h'
abbrev zPv (K : zH → Prop) : Option Value → zH → Prop := fun v h' => v = none ∧ zh h' ∧ K h'
abbrev zPr (g : zG) (n ci : Nat) (K : Nat → zH → Prop) : Option Value → zH → Prop := fun v h' => ∃ r : Nat, v = some (.ref (g.2.2 r)) ∧ zO n r ci ∧ zh h' ∧ K r h'
end ZM

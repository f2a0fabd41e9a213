/-! the law from its entry to its loop (printed by wip/whole/startgen.py) -/
theorem zE_same {g : zG} {h h' : zH} {k : Nat} (e : ∀ j, h k j = h' k j) : zE g h k = zE g h' k := by
  have e2 : zfl g.2.2 h k (zfd (zkd k)) = zfl g.2.2 h' k (zfd (zkd k)) := by
    unfold zfl
    congr 1
    funext i o
    unfold zfv
    cases o <;> simp [e]
  unfold zE
  simp only [e, e2]
/-- the picture when the law's loop begins: the class as its constructor has left it, the reference as it begins -/
def hst (h1 : zH) : zH := fun k j => if k < 197 then h1 k j else h00 k j
theorem zh_hst {h1 : zH} (h : zh h1) : zh (hst h1) := by
  refine ⟨fun k j hk => ?_, fun j => ?_⟩
  · unfold hst
    split
    · exact h.1 k j hk
    · exact zh_h00.1 k j hk
  · unfold hst
    rw [if_neg (by decide)]
    exact zh_h00.2 j
theorem k_start {p : Program} {s : State} {m : MethodId} {meth : Method} {c : Code} {b L : Nat} {xs : Nat → Int32} (C0 : lw_At p s m meth c b L xs) : ∃ g : zG, va_K g.1 zCl (ztys g) s ∧ ∀ k : Nat, g.2.2 k = s.heap.size + k := by
  obtain ⟨-, -, -, -, -, hts, -⟩ := C0
  have hts2 : ∀ w ∈ zWd, w.before #[Value.ref b] s = true := fun w hw => hts w (List.mem_filter.mp hw).1
  obtain ⟨c0, i0, k0⟩ := u_known hts2 in_History (hts2 _ q191)
  obtain ⟨c1, i1, k1⟩ := u_known hts2 in_Model (hts2 _ q75)
  obtain ⟨c2, i2, k2⟩ := u_known hts2 in_Models (hts2 _ q68)
  obtain ⟨c3, i3, k3⟩ := u_known hts2 in_Saves (hts2 _ q211)
  obtain ⟨c4, i4, k4⟩ := u_known hts2 in_Script (hts2 _ q292)
  obtain ⟨c5, i5, k5⟩ := u_known hts2 in_State (hts2 _ q128)
  obtain ⟨c6, i6, k6⟩ := u_known hts2 in_Symbols (hts2 _ q228)
  obtain ⟨c7, i7, k7⟩ := u_known hts2 in_Taking (hts2 _ q249)
  obtain ⟨c8, i8, k8⟩ := u_known hts2 in_Tape (hts2 _ q134)
  obtain ⟨c9, i9, k9⟩ := u_known hts2 in_Text (hts2 _ q30)
  obtain ⟨c10, i10, k10⟩ := u_known hts2 in_AS (hts2 _ q22)
  obtain ⟨c11, i11, k11⟩ := u_known hts2 in_RM (hts2 _ q1016)
  obtain ⟨aI, bI, eI, fI1, fI2, fI3⟩ := Cond.arrayClass_spec (hts2 _ q66)
  obtain ⟨aZ, bZ, eZ, fZ1, fZ2, fZ3⟩ := Cond.arrayClass_spec (hts2 _ q114)
  obtain ⟨aJ, bJ, eJ, fJ1, fJ2, fJ3⟩ := Cond.arrayClass_spec (hts2 _ q1393)
  obtain ⟨eM, aM, bM, fM1, fM2, fM3, fM4, fM5⟩ := Cond.arrayOver_spec (hts (Cond.arrayOver (.object "AliasStreams$Model")) (List.mem_append_right _ (List.mem_of_getElem? (i := 74) (by decide +kernel))))
  obtain ⟨eS, aS, bS, fS1, fS2, fS3, fS4, fS5⟩ := Cond.arrayOver_spec (hts (Cond.arrayOver (.object "AliasStreams$State")) (List.mem_append_right _ (List.mem_of_getElem? (i := 197) (by decide +kernel))))
  refine ⟨((fun c => match c with | 0 => c0 | 1 => c1 | 2 => c2 | 3 => c3 | 4 => c4 | 5 => c5 | 6 => c6 | 7 => c7 | 8 => c8 | 9 => c9 | 10 => c10 | _ => c11, fun c => match c with | 0 => i0 | 1 => i1 | 2 => i2 | 3 => i3 | 4 => i4 | 5 => i5 | 6 => i6 | 7 => i7 | 8 => i8 | 9 => i9 | 10 => i10 | _ => i11), fun k => match k with | 12 => aI | 13 => aZ | 14 => aM | 15 => aS | _ => aJ, fun k => s.heap.size + k), ⟨fun c q hq => ?_, fun k q hq => ?_⟩, fun k => rfl⟩
  · match c, hq with
    | 0, hq => obtain rfl := Option.some.inj (show some (R_History, T_History, 3) = some q from hq); exact k0
    | 1, hq => obtain rfl := Option.some.inj (show some (R_Model, T_Model, 9) = some q from hq); exact k1
    | 2, hq => obtain rfl := Option.some.inj (show some (R_Models, T_Models, 3) = some q from hq); exact k2
    | 3, hq => obtain rfl := Option.some.inj (show some (R_Saves, T_Saves, 2) = some q from hq); exact k3
    | 4, hq => obtain rfl := Option.some.inj (show some (R_Script, T_Script, 3) = some q from hq); exact k4
    | 5, hq => obtain rfl := Option.some.inj (show some (R_State, T_State, 4) = some q from hq); exact k5
    | 6, hq => obtain rfl := Option.some.inj (show some (R_Symbols, T_Symbols, 3) = some q from hq); exact k6
    | 7, hq => obtain rfl := Option.some.inj (show some (R_Taking, T_Taking, 8) = some q from hq); exact k7
    | 8, hq => obtain rfl := Option.some.inj (show some (R_Tape, T_Tape, 5) = some q from hq); exact k8
    | 9, hq => obtain rfl := Option.some.inj (show some (R_Text, T_Text, 8) = some q from hq); exact k9
    | 10, hq => obtain rfl := Option.some.inj (show some (R_AS, T_AS, 10) = some q from hq); exact k10
    | 11, hq => obtain rfl := Option.some.inj (show some (R_RM, T_RM, 32) = some q from hq); exact k11
    | _ + 12, hq => cases hq
  · match k, hq with
    | 0, hq => obtain rfl := Option.some.inj (show some (aI, .int) = some q from hq); exact ⟨fun n z => ⟨(fun k h => by cases h), bI, fI2, eI, fI3⟩, fI1⟩
    | 1, hq => obtain rfl := Option.some.inj (show some (aZ, .boolean) = some q from hq); exact ⟨fun n z => ⟨(fun k h => by cases h), bZ, fZ2, eZ, fZ3⟩, fZ1⟩
    | 2, hq => obtain rfl := Option.some.inj (show some (aM, .object "AliasStreams$Model") = some q from hq); exact ⟨fun n z => ⟨(fun k h => by cases h), bM, fM3, eM, fM4⟩, bM, eM, fM3, fM4, fM1, fM5⟩
    | 3, hq => obtain rfl := Option.some.inj (show some (aS, .object "AliasStreams$State") = some q from hq); exact ⟨fun n z => ⟨(fun k h => by cases h), bS, fS3, eS, fS4⟩, bS, eS, fS3, fS4, fS1, fS5⟩
    | 4, hq => obtain rfl := Option.some.inj (show some (aJ, .long) = some q from hq); exact ⟨fun n z => ⟨(fun k h => by cases h), bJ, fJ2, eJ, fJ3⟩, fJ1⟩
    | _ + 5, hq => cases hq
theorem d_LW_law_0 : decode code 0 = .ok (.new 8, 3) := by decide +kernel
theorem d_LW_law_3 : decode code 3 = .ok (.dup, 1) := by decide +kernel
theorem d_LW_law_4 : decode code 4 = .ok (.invokespecial 100, 3) := by decide +kernel
theorem d_LW_law_7 : decode code 7 = .ok (.astore_n 1, 1) := by decide +kernel
theorem d_LW_law_8 : decode code 8 = .ok (.new 101, 3) := by decide +kernel
theorem d_LW_law_11 : decode code 11 = .ok (.dup, 1) := by decide +kernel
theorem d_LW_law_12 : decode code 12 = .ok (.invokespecial 103, 3) := by decide +kernel
theorem d_LW_law_15 : decode code 15 = .ok (.astore_n 2, 1) := by decide +kernel
theorem d_LW_law_16 : decode code 16 = .ok (.iconst 1, 1) := by decide +kernel
theorem d_LW_law_17 : decode code 17 = .ok (.newarray .long, 2) := by decide +kernel
theorem d_LW_law_19 : decode code 19 = .ok (.astore_n 3, 1) := by decide +kernel
theorem d_LW_law_20 : decode code 20 = .ok (.iconst 0, 1) := by decide +kernel
theorem d_LW_law_21 : decode code 21 = .ok (.istore 4, 2) := by decide +kernel
set_option maxRecDepth 100000 in
theorem whole_from (pure : ∀ (N : Nat) (xs : Nat → Int32), N ≤ 2048 → M_Models_makeAll 5 38 h01 (fun h1 => zLoop (fun L q => F_LW_law N xs L q.1 q.2) ((0 : Int), hst h1))) {p : Program} {e : Env} {s : State} {m : MethodId} {below : List Frame} {meth : Method} {c : Code} (l : Launch) (hflags : l.flags = flags0) {b L : Nat} {xs : Nat → Int32} (hL : L ≤ 2048) (C0 : lw_At p s m meth c b L xs) : W p l e room_1 s m #[Value.ref b] below meth c s.heap [] 0 0 (lw_Z below #[Value.ref b] s) (entryFrame m ([Value.ref b] : List Value).toArray 8) := by
  obtain ⟨g, hK, hg⟩ := k_start C0
  have hB : dB g := fun k => by rw [hg k, hg 0]; omega
  have C : zLC p l s m meth c b L xs g := ⟨hflags, C0, hK, fun k => by rw [hg k]; omega⟩
  have hold := C.old
  obtain ⟨hx, hb, hr, hml, hown, hts, hX, hbl, hlk, hgv⟩ := C0
  have X : dX (fun cells slots H locs gg => W p l e room_1 s m #[Value.ref b] below meth c H locs cells slots (lw_Z below #[Value.ref b] s) gg) m room_1 code "AliasStreamsLaw" 8 g s.heap False := by
    refine ⟨p, l, e, s, #[Value.ref b], below, meth, c, _, hflags, rfl, rfl, hx, hb, hml, hown, fun w hw => hts w (List.mem_filter.mp hw).1, fun w hw => ?_, hK, hold, hB, by rw [hg 0]; omega, fun h => h.elim⟩
    have hw' := hts w (List.mem_filter.mp hw).1
    rcases zns_or hw with ⟨a, i, x, hh, rfl⟩ | ⟨a, i, b', n, d, hh, rfl⟩
    · exact va_Nw.of rfl hw'
    · exact va_Nw.of rfl hw'
  rw [lg_entry_eq]
  have hl := lv_entry [Value.ref b] (n := 8) (Nat.le_of_ble_eq_true rfl)
  have key : dW (fun cells slots H locs gg => W p l e room_1 s m #[Value.ref b] below meth c H locs cells slots (lw_Z below #[Value.ref b] s) gg) m 8 g s.heap 0 0 0 [(0, .ref b)] [] 0 (zE g h00) := by
    refine d_new (pc := 0) X cf_AS q21 q22 q1 (fun j hj => fs0_AS j hj) ⟨by decide, by decide⟩ d_LW_law_0 ?_
    refine d_dup (pc := 3) X d_LW_law_3 rfl ?_
    refine d_callI (pc := 4) (a := 0) (As := []) (rest := [.ref (g.2.2 0)]) X (fun l hl => c_AS_init hl hB (pure L xs hL)) mi_AS q23 ⟨⟨by decide, by decide⟩, rfl, rfl⟩ ⟨by decide, by decide⟩ rfl d_LW_law_4 rfl (Nat.le_of_ble_eq_true rfl) (fun n1 f1 hp1 => ?_)
    obtain ⟨rfl, h1, zh1, hv0, hf1⟩ := hp1
    refine d_astore_n (pc := 7) (lv' := [(1, .ref (g.2.2 0)), (0, .ref b)]) X d_LW_law_7 (by decide) rfl ?_
    refine d_new (pc := 8) X cf_RM q1015 q1016 q13 (fun j hj => fs0_RM j hj) ⟨by decide, by decide⟩ d_LW_law_8 ?_
    refine d_dup (pc := 11) X d_LW_law_11 rfl ?_
    refine d_callI (pc := 12) (a := 197) (As := []) (rest := [.ref (g.2.2 197)]) X (fun l hl => c_RM_init hl hB) mi_RM q1017 ⟨⟨by decide, by decide⟩, rfl, rfl⟩ ⟨by decide, by decide⟩ rfl d_LW_law_12 rfl (Nat.le_of_ble_eq_true rfl) (fun n2 f2 hp2 => ?_)
    obtain ⟨rfl, hf2⟩ := hp2
    refine d_astore_n (pc := 15) (lv' := [(2, .ref (g.2.2 197)), (1, .ref (g.2.2 0)), (0, .ref b)]) X d_LW_law_15 (by decide) rfl ?_
    refine d_iconst (pc := 16) X d_LW_law_16 ?_
    refine d_newJ (pc := 17) (len := 1) X q1393 (by decide) rfl (by decide) ⟨by decide, by decide⟩ d_LW_law_17 ?_
    refine d_astore_n (pc := 19) (lv' := [(3, .ref (g.2.2 220)), (2, .ref (g.2.2 197)), (1, .ref (g.2.2 0)), (0, .ref b)]) X d_LW_law_19 (by decide) rfl ?_
    refine d_iconst (pc := 20) X d_LW_law_20 ?_
    refine d_istore (pc := 21) (lv' := [(4, zi 0), (3, .ref (g.2.2 220)), (2, .ref (g.2.2 197)), (1, .ref (g.2.2 0)), (0, .ref b)]) X d_LW_law_21 (by decide) rfl ?_
    refine d_perm [4, 3, 2, 1, 0] rfl ?_
    refine d_congr (f' := zE g (hst h1)) (fun k hk => ?_) ?_
    · by_cases h3 : k = 220
      · subst h3
        show dU1 f2 220 _ 220 = _
        unfold dU1
        rw [if_pos rfl, zE_long (by decide +kernel), show zln 220 = 1 by decide +kernel]
        rw [show (fun j => Int64.ofInt (hst h1 220 j)) = (fun _ => 0) from funext fun j => (congrArg Int64.ofInt (show hst h1 220 j = 0 from (show hst h1 220 j = h00 220 j from if_neg (by decide)).trans (h00_z (by decide +kernel) j))).trans (by decide)]
      · have hk' : k < 197 + 23 := by
          have : k < 197 + 23 + 1 := hk
          omega
        have e1 : ∀ v : va_E, dU1 f2 (197 + 23) v k = f2 k := fun v => if_neg h3
        rw [e1, hf2 k hk']
        by_cases h4 : k < 197
        · rw [if_pos h4, hf1 k h4]
          exact zE_same (fun j => (if_pos h4).symm)
        · rw [if_neg h4]
          exact zE_same (fun j => (if_neg h4).symm)
    · refine d_pic hB (by have := hB (197 + 23 + 1); rw [hg 0] at this; omega) ?_
      exact s_LW_law C hL hv0 _ _ (show (0 : Int) ≤ 0 by decide) (show (0 : Int) ≤ 2052 by decide) (show _ ≤ 1000 + (0 : Int).toNat by decide) (show _ ≤ 20000 + 6 * (0 : Int).toNat by decide) (show zr 0 by decide) (zh_hst zh1)
  refine key s.heap [] _ ⟨fun k q hk => ?_, by rw [hg 0]; omega, va_S.rf⟩ hl
  obtain ⟨hk1, -⟩ := zwf_lt hk
  omega

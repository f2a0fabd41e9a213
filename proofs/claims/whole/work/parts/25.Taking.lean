/-! 25.Taking (printed by wip/whole/methgen.py) -/
theorem d_Taking_takeSymbol_0 : decode b_Taking_takeSymbol 0 = .ok (.iload_n 3, 1) := by decide +kernel
theorem d_Taking_takeSymbol_1 : decode b_Taking_takeSymbol 1 = .ok (.ifCond .lt 9, 3) := by decide +kernel
theorem d_Taking_takeSymbol_4 : decode b_Taking_takeSymbol 4 = .ok (.iload_n 3, 1) := by decide +kernel
theorem d_Taking_takeSymbol_5 : decode b_Taking_takeSymbol 5 = .ok (.bipush 40, 2) := by decide +kernel
theorem d_Taking_takeSymbol_7 : decode b_Taking_takeSymbol 7 = .ok (.if_icmp .lt 4, 3) := by decide +kernel
theorem d_Taking_takeSymbol_10 : decode b_Taking_takeSymbol 10 = .ok (.return_, 1) := by decide +kernel
theorem d_Taking_takeSymbol_11 : decode b_Taking_takeSymbol 11 = .ok (.aload_n 0, 1) := by decide +kernel
theorem d_Taking_takeSymbol_12 : decode b_Taking_takeSymbol 12 = .ok (.getfield 24, 3) := by decide +kernel
theorem d_Taking_takeSymbol_15 : decode b_Taking_takeSymbol 15 = .ok (.iload_n 3, 1) := by decide +kernel
theorem d_Taking_takeSymbol_16 : decode b_Taking_takeSymbol 16 = .ok (.iconst 2, 1) := by decide +kernel
theorem d_Taking_takeSymbol_17 : decode b_Taking_takeSymbol 17 = .ok (.irem, 1) := by decide +kernel
theorem d_Taking_takeSymbol_18 : decode b_Taking_takeSymbol 18 = .ok (.iaload, 1) := by decide +kernel
theorem d_Taking_takeSymbol_19 : decode b_Taking_takeSymbol 19 = .ok (.istore 4, 2) := by decide +kernel
theorem d_Taking_takeSymbol_21 : decode b_Taking_takeSymbol 21 = .ok (.aload_n 0, 1) := by decide +kernel
theorem d_Taking_takeSymbol_22 : decode b_Taking_takeSymbol 22 = .ok (.getfield 15, 3) := by decide +kernel
theorem d_Taking_takeSymbol_25 : decode b_Taking_takeSymbol 25 = .ok (.iload_n 3, 1) := by decide +kernel
theorem d_Taking_takeSymbol_26 : decode b_Taking_takeSymbol 26 = .ok (.iload 4, 2) := by decide +kernel
theorem d_Taking_takeSymbol_28 : decode b_Taking_takeSymbol 28 = .ok (.iastore, 1) := by decide +kernel
theorem d_Taking_takeSymbol_29 : decode b_Taking_takeSymbol 29 = .ok (.aload_n 0, 1) := by decide +kernel
theorem d_Taking_takeSymbol_30 : decode b_Taking_takeSymbol 30 = .ok (.getfield 18, 3) := by decide +kernel
theorem d_Taking_takeSymbol_33 : decode b_Taking_takeSymbol 33 = .ok (.iload_n 3, 1) := by decide +kernel
theorem d_Taking_takeSymbol_34 : decode b_Taking_takeSymbol 34 = .ok (.aload_n 0, 1) := by decide +kernel
theorem d_Taking_takeSymbol_35 : decode b_Taking_takeSymbol 35 = .ok (.getfield 34, 3) := by decide +kernel
theorem d_Taking_takeSymbol_38 : decode b_Taking_takeSymbol 38 = .ok (.iastore, 1) := by decide +kernel
theorem d_Taking_takeSymbol_39 : decode b_Taking_takeSymbol 39 = .ok (.iload 4, 2) := by decide +kernel
theorem d_Taking_takeSymbol_41 : decode b_Taking_takeSymbol 41 = .ok (.bipush 32, 2) := by decide +kernel
theorem d_Taking_takeSymbol_43 : decode b_Taking_takeSymbol 43 = .ok (.irem, 1) := by decide +kernel
theorem d_Taking_takeSymbol_44 : decode b_Taking_takeSymbol 44 = .ok (.istore 5, 2) := by decide +kernel
theorem d_Taking_takeSymbol_46 : decode b_Taking_takeSymbol 46 = .ok (.iload 5, 2) := by decide +kernel
theorem d_Taking_takeSymbol_48 : decode b_Taking_takeSymbol 48 = .ok (.ifCond .ge 4, 3) := by decide +kernel
theorem d_Taking_takeSymbol_51 : decode b_Taking_takeSymbol 51 = .ok (.return_, 1) := by decide +kernel
theorem d_Taking_takeSymbol_52 : decode b_Taking_takeSymbol 52 = .ok (.aload_n 2, 1) := by decide +kernel
theorem d_Taking_takeSymbol_53 : decode b_Taking_takeSymbol 53 = .ok (.getfield 60, 3) := by decide +kernel
theorem d_Taking_takeSymbol_56 : decode b_Taking_takeSymbol 56 = .ok (.iload 5, 2) := by decide +kernel
theorem d_Taking_takeSymbol_58 : decode b_Taking_takeSymbol 58 = .ok (.iaload, 1) := by decide +kernel
theorem d_Taking_takeSymbol_59 : decode b_Taking_takeSymbol 59 = .ok (.istore 6, 2) := by decide +kernel
theorem d_Taking_takeSymbol_61 : decode b_Taking_takeSymbol 61 = .ok (.aload_n 2, 1) := by decide +kernel
theorem d_Taking_takeSymbol_62 : decode b_Taking_takeSymbol 62 = .ok (.iload 6, 2) := by decide +kernel
theorem d_Taking_takeSymbol_64 : decode b_Taking_takeSymbol 64 = .ok (.invokevirtual 65, 3) := by decide +kernel
theorem d_Taking_takeSymbol_67 : decode b_Taking_takeSymbol 67 = .ok (.iload 4, 2) := by decide +kernel
theorem d_Taking_takeSymbol_69 : decode b_Taking_takeSymbol 69 = .ok (.bipush 32, 2) := by decide +kernel
theorem d_Taking_takeSymbol_71 : decode b_Taking_takeSymbol 71 = .ok (.idiv, 1) := by decide +kernel
theorem d_Taking_takeSymbol_72 : decode b_Taking_takeSymbol 72 = .ok (.imul, 1) := by decide +kernel
theorem d_Taking_takeSymbol_73 : decode b_Taking_takeSymbol 73 = .ok (.aload_n 2, 1) := by decide +kernel
theorem d_Taking_takeSymbol_74 : decode b_Taking_takeSymbol 74 = .ok (.getfield 69, 3) := by decide +kernel
theorem d_Taking_takeSymbol_77 : decode b_Taking_takeSymbol 77 = .ok (.iload 5, 2) := by decide +kernel
theorem d_Taking_takeSymbol_79 : decode b_Taking_takeSymbol 79 = .ok (.iaload, 1) := by decide +kernel
theorem d_Taking_takeSymbol_80 : decode b_Taking_takeSymbol 80 = .ok (.iadd, 1) := by decide +kernel
theorem d_Taking_takeSymbol_81 : decode b_Taking_takeSymbol 81 = .ok (.istore 4, 2) := by decide +kernel
theorem d_Taking_takeSymbol_83 : decode b_Taking_takeSymbol 83 = .ok (.iconst 0, 1) := by decide +kernel
theorem d_Taking_takeSymbol_84 : decode b_Taking_takeSymbol 84 = .ok (.istore 7, 2) := by decide +kernel
theorem d_Taking_takeSymbol_86 : decode b_Taking_takeSymbol 86 = .ok (.iload 7, 2) := by decide +kernel
theorem d_Taking_takeSymbol_88 : decode b_Taking_takeSymbol 88 = .ok (.iconst 2, 1) := by decide +kernel
theorem d_Taking_takeSymbol_89 : decode b_Taking_takeSymbol 89 = .ok (.if_icmp .ge 63, 3) := by decide +kernel
theorem d_Taking_takeSymbol_92 : decode b_Taking_takeSymbol 92 = .ok (.iload 4, 2) := by decide +kernel
theorem d_Taking_takeSymbol_94 : decode b_Taking_takeSymbol 94 = .ok (.sipush 512, 3) := by decide +kernel
theorem d_Taking_takeSymbol_97 : decode b_Taking_takeSymbol 97 = .ok (.if_icmp .ge 55, 3) := by decide +kernel
theorem d_Taking_takeSymbol_100 : decode b_Taking_takeSymbol 100 = .ok (.aload_n 1, 1) := by decide +kernel
theorem d_Taking_takeSymbol_101 : decode b_Taking_takeSymbol 101 = .ok (.aload_n 0, 1) := by decide +kernel
theorem d_Taking_takeSymbol_102 : decode b_Taking_takeSymbol 102 = .ok (.getfield 34, 3) := by decide +kernel
theorem d_Taking_takeSymbol_105 : decode b_Taking_takeSymbol 105 = .ok (.iconst 1, 1) := by decide +kernel
theorem d_Taking_takeSymbol_106 : decode b_Taking_takeSymbol 106 = .ok (.isub, 1) := by decide +kernel
theorem d_Taking_takeSymbol_107 : decode b_Taking_takeSymbol 107 = .ok (.invokevirtual 72, 3) := by decide +kernel
theorem d_Taking_takeSymbol_110 : decode b_Taking_takeSymbol 110 = .ok (.ifCond .ne 9, 3) := by decide +kernel
theorem d_Taking_takeSymbol_113 : decode b_Taking_takeSymbol 113 = .ok (.aload_n 0, 1) := by decide +kernel
theorem d_Taking_takeSymbol_114 : decode b_Taking_takeSymbol 114 = .ok (.iload_n 3, 1) := by decide +kernel
theorem d_Taking_takeSymbol_115 : decode b_Taking_takeSymbol 115 = .ok (.putfield 37, 3) := by decide +kernel
theorem d_Taking_takeSymbol_118 : decode b_Taking_takeSymbol 118 = .ok (.return_, 1) := by decide +kernel
theorem d_Taking_takeSymbol_119 : decode b_Taking_takeSymbol 119 = .ok (.aload_n 0, 1) := by decide +kernel
theorem d_Taking_takeSymbol_120 : decode b_Taking_takeSymbol 120 = .ok (.dup, 1) := by decide +kernel
theorem d_Taking_takeSymbol_121 : decode b_Taking_takeSymbol 121 = .ok (.getfield 34, 3) := by decide +kernel
theorem d_Taking_takeSymbol_124 : decode b_Taking_takeSymbol 124 = .ok (.iconst 1, 1) := by decide +kernel
theorem d_Taking_takeSymbol_125 : decode b_Taking_takeSymbol 125 = .ok (.isub, 1) := by decide +kernel
theorem d_Taking_takeSymbol_126 : decode b_Taking_takeSymbol 126 = .ok (.putfield 34, 3) := by decide +kernel
theorem d_Taking_takeSymbol_129 : decode b_Taking_takeSymbol 129 = .ok (.bipush 16, 2) := by decide +kernel
theorem d_Taking_takeSymbol_131 : decode b_Taking_takeSymbol 131 = .ok (.iload 4, 2) := by decide +kernel
theorem d_Taking_takeSymbol_133 : decode b_Taking_takeSymbol 133 = .ok (.imul, 1) := by decide +kernel
theorem d_Taking_takeSymbol_134 : decode b_Taking_takeSymbol 134 = .ok (.aload_n 1, 1) := by decide +kernel
theorem d_Taking_takeSymbol_135 : decode b_Taking_takeSymbol 135 = .ok (.getfield 76, 3) := by decide +kernel
theorem d_Taking_takeSymbol_138 : decode b_Taking_takeSymbol 138 = .ok (.aload_n 0, 1) := by decide +kernel
theorem d_Taking_takeSymbol_139 : decode b_Taking_takeSymbol 139 = .ok (.getfield 34, 3) := by decide +kernel
theorem d_Taking_takeSymbol_142 : decode b_Taking_takeSymbol 142 = .ok (.iaload, 1) := by decide +kernel
theorem d_Taking_takeSymbol_143 : decode b_Taking_takeSymbol 143 = .ok (.iadd, 1) := by decide +kernel
theorem d_Taking_takeSymbol_144 : decode b_Taking_takeSymbol 144 = .ok (.istore 4, 2) := by decide +kernel
theorem d_Taking_takeSymbol_146 : decode b_Taking_takeSymbol 146 = .ok (.iinc 7 1, 3) := by decide +kernel
theorem d_Taking_takeSymbol_149 : decode b_Taking_takeSymbol 149 = .ok (.goto (-63), 3) := by decide +kernel
theorem d_Taking_takeSymbol_152 : decode b_Taking_takeSymbol 152 = .ok (.aload_n 0, 1) := by decide +kernel
theorem d_Taking_takeSymbol_153 : decode b_Taking_takeSymbol 153 = .ok (.getfield 9, 3) := by decide +kernel
theorem d_Taking_takeSymbol_156 : decode b_Taking_takeSymbol 156 = .ok (.iload_n 3, 1) := by decide +kernel
theorem d_Taking_takeSymbol_157 : decode b_Taking_takeSymbol 157 = .ok (.iload 6, 2) := by decide +kernel
theorem d_Taking_takeSymbol_159 : decode b_Taking_takeSymbol 159 = .ok (.iastore, 1) := by decide +kernel
theorem d_Taking_takeSymbol_160 : decode b_Taking_takeSymbol 160 = .ok (.aload_n 0, 1) := by decide +kernel
theorem d_Taking_takeSymbol_161 : decode b_Taking_takeSymbol 161 = .ok (.getfield 21, 3) := by decide +kernel
theorem d_Taking_takeSymbol_164 : decode b_Taking_takeSymbol 164 = .ok (.iload_n 3, 1) := by decide +kernel
theorem d_Taking_takeSymbol_165 : decode b_Taking_takeSymbol 165 = .ok (.aload_n 0, 1) := by decide +kernel
theorem d_Taking_takeSymbol_166 : decode b_Taking_takeSymbol 166 = .ok (.getfield 18, 3) := by decide +kernel
theorem d_Taking_takeSymbol_169 : decode b_Taking_takeSymbol 169 = .ok (.iload_n 3, 1) := by decide +kernel
theorem d_Taking_takeSymbol_170 : decode b_Taking_takeSymbol 170 = .ok (.iaload, 1) := by decide +kernel
theorem d_Taking_takeSymbol_171 : decode b_Taking_takeSymbol 171 = .ok (.aload_n 0, 1) := by decide +kernel
theorem d_Taking_takeSymbol_172 : decode b_Taking_takeSymbol 172 = .ok (.getfield 34, 3) := by decide +kernel
theorem d_Taking_takeSymbol_175 : decode b_Taking_takeSymbol 175 = .ok (.isub, 1) := by decide +kernel
theorem d_Taking_takeSymbol_176 : decode b_Taking_takeSymbol 176 = .ok (.iastore, 1) := by decide +kernel
theorem d_Taking_takeSymbol_177 : decode b_Taking_takeSymbol 177 = .ok (.aload_n 0, 1) := by decide +kernel
theorem d_Taking_takeSymbol_178 : decode b_Taking_takeSymbol 178 = .ok (.getfield 24, 3) := by decide +kernel
theorem d_Taking_takeSymbol_181 : decode b_Taking_takeSymbol 181 = .ok (.iload_n 3, 1) := by decide +kernel
theorem d_Taking_takeSymbol_182 : decode b_Taking_takeSymbol 182 = .ok (.iconst 2, 1) := by decide +kernel
theorem d_Taking_takeSymbol_183 : decode b_Taking_takeSymbol 183 = .ok (.irem, 1) := by decide +kernel
theorem d_Taking_takeSymbol_184 : decode b_Taking_takeSymbol 184 = .ok (.iload 4, 2) := by decide +kernel
theorem d_Taking_takeSymbol_186 : decode b_Taking_takeSymbol 186 = .ok (.iastore, 1) := by decide +kernel
theorem d_Taking_takeSymbol_187 : decode b_Taking_takeSymbol 187 = .ok (.return_, 1) := by decide +kernel
def rm_Taking_takeSymbol : Room := { frames := 1, cells := 0, slots := 0, locals := 21 }
theorem mf_Taking_takeSymbol : zMV y_Taking_takeSymbol b_Taking_takeSymbol 8 none 3 := ⟨q451, qs21, q10, q452, by decide +kernel⟩
def B_Taking_takeSymbol_152 (K : zH → Prop)  (p0 : Nat) (x3 : Int) (x4 : Int) (x6 : Int)  (h : zH) : Prop :=
  (0 ≤ x3 ∧ x3 < 40) ∧ (∀ h_2 : zH, h_2 = zs h (p0 + 1) x3.toNat x6 → ((0 ≤ x3 ∧ x3 < 40) ∧ (zr ((h_2 (p0 + 3) x3.toNat) - (h_2 p0 5)) ∧ ((0 ≤ x3 ∧ x3 < 40) ∧ (∀ h_6 : zH, h_6 = zs h_2 (p0 + 4) x3.toNat ((h_2 (p0 + 3) x3.toNat) - (h_2 p0 5)) → (0 ≤ x3 ∧ ((0 ≤ x3 % 2 ∧ x3 % 2 < 2) ∧ (∀ h_9 : zH, h_9 = zs h_6 (p0 + 5) ((x3 % 2).toNat) x4 → (K h_9)))))))))
set_option maxRecDepth 100000 in
theorem s_Taking_takeSymbol_152 {Wf : Heap → List Loc → JFrame → Prop} {m : MethodId} {g : zG} {n : Nat} {H0 : Heap} (X : zX Wf m rm_Taking_takeSymbol b_Taking_takeSymbol "AliasStreams$Taking" 8 g n H0) {K : zH → Prop} (E : zEx Wf m b_Taking_takeSymbol none 8 g n H0 (zPv K))  {p0 : Nat} {x3 : Int} {x4 : Int} {x6 : Int}  (op0 : zO n p0 7) (rx3 : zr x3) (rx4 : zr x4) (rx6 : zr x6)   {h : zH} (hh : zh h) (hv : B_Taking_takeSymbol_152 K  p0 x3 x4 x6  h) : zW Wf m 8 g n H0 152 [(0, .ref (g.2.2 p0)), (3, zi x3), (4, zi x4), (6, zi x6)] [] h := by
  unfold B_Taking_takeSymbol_152 at hv
  refine z_aload_n (pc := 152) (q := 0) X d_Taking_takeSymbol_152 rfl ?_
  refine z_getr (pc := 153) (j := 0) (dd := 1) X cf_Taking op0 (by decide) q254 rfl rfl d_Taking_takeSymbol_153 ?_
  refine z_iload_n (pc := 156) (q := 1) X d_Taking_takeSymbol_156 rfl ?_
  refine z_iload (pc := 157) (q := 3) X d_Taking_takeSymbol_157 rfl ?_
  obtain ⟨v_1, hv⟩ := hv
  refine z_iastj (pc := 159) (j := x3.toNat) X (gf_Taking_0 op0) (gl_Taking_0 op0) rx3 v_1 rfl d_Taking_takeSymbol_159 ?_
  refine z_toph (fun h_2 eh_2 => ?_)
  have zh_2 : zh h_2 := by rw [eh_2]; exact zh_set hh (zO.ne (gf_Taking_0 op0) (by decide)) rx6
  replace hv := hv h_2 eh_2
  refine z_aload_n (pc := 160) (q := 0) X d_Taking_takeSymbol_160 rfl ?_
  refine z_getr (pc := 161) (j := 3) (dd := 4) X cf_Taking op0 (by decide) q262 rfl rfl d_Taking_takeSymbol_161 ?_
  refine z_iload_n (pc := 164) (q := 1) X d_Taking_takeSymbol_164 rfl ?_
  refine z_aload_n (pc := 165) (q := 0) X d_Taking_takeSymbol_165 rfl ?_
  refine z_getr (pc := 166) (j := 2) (dd := 3) X cf_Taking op0 (by decide) q260 rfl rfl d_Taking_takeSymbol_166 ?_
  refine z_iload_n (pc := 169) (q := 1) X d_Taking_takeSymbol_169 rfl ?_
  obtain ⟨v_3, hv⟩ := hv
  refine z_ialdj (pc := 170) (j := x3.toNat) X (gf_Taking_2 op0) (gl_Taking_2 op0) rx3 v_3 rfl d_Taking_takeSymbol_170 ?_
  refine z_aload_n (pc := 171) (q := 0) X d_Taking_takeSymbol_171 rfl ?_
  refine z_geti (pc := 172) (j := 5) X cf_Taking op0 (by decide) q265 rfl rfl d_Taking_takeSymbol_172 ?_
  obtain ⟨v_4, hv⟩ := hv
  refine z_isub (pc := 175) X d_Taking_takeSymbol_175 ?_
  obtain ⟨v_5, hv⟩ := hv
  refine z_iastj (pc := 176) (j := x3.toNat) X (gf_Taking_3 op0) (gl_Taking_3 op0) rx3 v_5 rfl d_Taking_takeSymbol_176 ?_
  refine z_toph (fun h_6 eh_6 => ?_)
  have zh_6 : zh h_6 := by rw [eh_6]; exact zh_set zh_2 (zO.ne (gf_Taking_3 op0) (by decide)) v_4
  replace hv := hv h_6 eh_6
  refine z_aload_n (pc := 177) (q := 0) X d_Taking_takeSymbol_177 rfl ?_
  refine z_getr (pc := 178) (j := 4) (dd := 5) X cf_Taking op0 (by decide) q264 rfl rfl d_Taking_takeSymbol_178 ?_
  refine z_iload_n (pc := 181) (q := 1) X d_Taking_takeSymbol_181 rfl ?_
  refine z_iconst (pc := 182) X d_Taking_takeSymbol_182 ?_
  obtain ⟨v_7, hv⟩ := hv
  refine z_irem (pc := 183) X rx3 (show zr 2 from by decide) v_7 (by decide) d_Taking_takeSymbol_183 ?_
  refine z_iload (pc := 184) (q := 2) X d_Taking_takeSymbol_184 rfl ?_
  obtain ⟨v_8, hv⟩ := hv
  refine z_iastj (pc := 186) (j := (x3 % 2).toNat) X (gf_Taking_4 op0) (gl_Taking_4 op0) (zr_rem (show zr 2 from by decide) (by decide)) v_8 rfl d_Taking_takeSymbol_186 ?_
  refine z_toph (fun h_9 eh_9 => ?_)
  have zh_9 : zh h_9 := by rw [eh_9]; exact zh_set zh_6 (zO.ne (gf_Taking_4 op0) (by decide)) rx4
  replace hv := hv h_9 eh_9
  exact E.1 rfl _ _ _ d_Taking_takeSymbol_187 ⟨rfl, zh_9, hv⟩
def F_Taking_takeSymbol_86 (K : zH → Prop)  (L86 : Int × Int × zH → Prop) (p0 : Nat) (p1 : Nat) (x3 : Int) (x6 : Int) (x4 : Int) (x7 : Int) (h : zH) : Prop :=
  (2 ≤ x7 → (B_Taking_takeSymbol_152 K  p0 x3 x4 x6  h)) ∧ (x7 < 2 → ((512 ≤ x4 → (B_Taking_takeSymbol_152 K  p0 x3 x4 x6  h)) ∧ (x4 < 512 → (zr ((h p0 5) - 1) ∧ (M_Tape_hasDigit p1 ((h p0 5) - 1) h (fun r_3 h_2 => (r_3 ≠ 0 → (zr ((h_2 p0 5) - 1) ∧ ((∀ h_5 : zH, h_5 = zs h_2 p0 5 ((h_2 p0 5) - 1) → (zr (16 * x4) ∧ ((0 ≤ h_5 p0 5 ∧ h_5 p0 5 < 80) ∧ (zr ((16 * x4) + (h_5 (p1 + 2) ((h_5 p0 5).toNat))) ∧ ((∀ x4_9 : Int, x4_9 = (16 * x4) + (h_5 (p1 + 2) ((h_5 p0 5).toNat)) → (zr (x7 + 1) ∧ (L86 (x4_9, x7 + 1, h_5)))))))))))) ∧ (r_3 = 0 → ((∀ h_11 : zH, h_11 = zs h_2 p0 6 x3 → (K h_11))))))))))
set_option maxRecDepth 100000 in
theorem s_Taking_takeSymbol_86 {Wf : Heap → List Loc → JFrame → Prop} {m : MethodId} {g : zG} {n : Nat} {H0 : Heap} (X : zX Wf m rm_Taking_takeSymbol b_Taking_takeSymbol "AliasStreams$Taking" 8 g n H0) {K : zH → Prop} (E : zEx Wf m b_Taking_takeSymbol none 8 g n H0 (zPv K))  {p0 : Nat} {p1 : Nat} {x3 : Int} {x6 : Int}  (op0 : zO n p0 7) (op1 : zO n p1 8) (rx3 : zr x3) (rx6 : zr x6) {q0 : Int × Int × zH} (hv0 : zLoop (fun L q => F_Taking_takeSymbol_86 K  L p0 p1 x3 x6 q.1 q.2.1 q.2.2) q0) : zr q0.1 → zr q0.2.1 → zh (q0.2.2) → zW Wf m 8 g n H0 86 [(0, .ref (g.2.2 p0)), (1, .ref (g.2.2 p1)), (3, zi x3), (4, zi q0.1), (6, zi x6), (7, zi q0.2.1)] [] (q0.2.2) := by
  refine zLoop_use (G := fun q => zr q.1 → zr q.2.1 → zh (q.2.2) → zW Wf m 8 g n H0 86 [(0, .ref (g.2.2 p0)), (1, .ref (g.2.2 p1)), (3, zi x3), (4, zi q.1), (6, zi x6), (7, zi q.2.1)] [] (q.2.2)) ?_ hv0
  rintro L86 ⟨x4, x7, h⟩ hL86 hv rx4 rx7 hh
  have hv : F_Taking_takeSymbol_86 K  L86 p0 p1 x3 x6 x4 x7 h := hv
  unfold F_Taking_takeSymbol_86 at hv
  show zW Wf m 8 g n H0 86 [(0, .ref (g.2.2 p0)), (1, .ref (g.2.2 p1)), (3, zi x3), (4, zi x4), (6, zi x6), (7, zi x7)] [] h
  refine z_iload (pc := 86) (q := 5) X d_Taking_takeSymbol_86 rfl ?_
  refine z_iconst (pc := 88) X d_Taking_takeSymbol_88 ?_
  refine z_icmp_ge (pc := 89) (tgt := 152) X rx7 (show zr 2 from by decide) d_Taking_takeSymbol_89 (by decide) (fun hc => ?_) (fun hc => ?_)
  · replace hv := hv.1 hc
    refine z_perm [0, 2, 3, 4] rfl ?_
    exact s_Taking_takeSymbol_152 X E  op0 rx3 rx4 rx6  hh hv
  · replace hv := hv.2 hc
    refine z_iload (pc := 92) (q := 3) X d_Taking_takeSymbol_92 rfl ?_
    refine z_sipush (pc := 94) X d_Taking_takeSymbol_94 (by decide) ?_
    refine z_icmp_ge (pc := 97) (tgt := 152) X rx4 (show zr 512 from by decide) d_Taking_takeSymbol_97 (by decide) (fun hc => ?_) (fun hc => ?_)
    · replace hv := hv.1 hc
      refine z_perm [0, 2, 3, 4] rfl ?_
      exact s_Taking_takeSymbol_152 X E  op0 rx3 rx4 rx6  hh hv
    · replace hv := hv.2 hc
      refine z_aload_n (pc := 100) (q := 1) X d_Taking_takeSymbol_100 rfl ?_
      refine z_aload_n (pc := 101) (q := 0) X d_Taking_takeSymbol_101 rfl ?_
      refine z_geti (pc := 102) (j := 5) X cf_Taking op0 (by decide) q265 rfl rfl d_Taking_takeSymbol_102 ?_
      refine z_iconst (pc := 105) X d_Taking_takeSymbol_105 ?_
      obtain ⟨v_1, hv⟩ := hv
      refine z_isub (pc := 106) X d_Taking_takeSymbol_106 ?_
      refine z_callVNi (pc := 107) (As := [zi ((h p0 5) - 1)]) (rest := []) X (fun l hl => c_Tape_hasDigit hl op1 v_1 hh hv) cf_Tape op1 rfl mf_Tape_hasDigit q457 ⟨⟨by decide, by decide⟩, rfl, rfl⟩ rfl d_Taking_takeSymbol_107 rfl (Nat.le_of_ble_eq_true rfl) (fun r_3 h_2 rr_3 zh_2 hv => ?_)
      refine z_if_ne (pc := 110) (tgt := 119) X rr_3 d_Taking_takeSymbol_110 (by decide) (fun hc => ?_) (fun hc => ?_)
      · replace hv := hv.1 hc
        refine z_aload_n (pc := 119) (q := 0) X d_Taking_takeSymbol_119 rfl ?_
        refine z_dup (pc := 120) X d_Taking_takeSymbol_120 rfl ?_
        refine z_geti (pc := 121) (j := 5) X cf_Taking op0 (by decide) q265 rfl rfl d_Taking_takeSymbol_121 ?_
        refine z_iconst (pc := 124) X d_Taking_takeSymbol_124 ?_
        obtain ⟨v_4, hv⟩ := hv
        refine z_isub (pc := 125) X d_Taking_takeSymbol_125 ?_
        refine z_put (pc := 126) (j := 5) X cf_Taking op0 (by decide) q265 rfl rfl rfl rfl d_Taking_takeSymbol_126 ?_
        refine z_toph (fun h_5 eh_5 => ?_)
        have zh_5 : zh h_5 := by rw [eh_5]; exact zh_set zh_2 (zO.ne op0 (by decide)) v_4
        replace hv := hv h_5 eh_5
        refine z_bipush (pc := 129) X d_Taking_takeSymbol_129 (by decide) ?_
        refine z_iload (pc := 131) (q := 3) X d_Taking_takeSymbol_131 rfl ?_
        obtain ⟨v_6, hv⟩ := hv
        refine z_imul (pc := 133) X d_Taking_takeSymbol_133 ?_
        refine z_aload_n (pc := 134) (q := 1) X d_Taking_takeSymbol_134 rfl ?_
        refine z_getrN (pc := 135) (j := 1) (dd := 2) X cf_Tape op1 (by decide) q144 rfl rfl d_Taking_takeSymbol_135 ?_
        refine z_aload_n (pc := 138) (q := 0) X d_Taking_takeSymbol_138 rfl ?_
        refine z_geti (pc := 139) (j := 5) X cf_Taking op0 (by decide) q265 rfl rfl d_Taking_takeSymbol_139 ?_
        obtain ⟨v_7, hv⟩ := hv
        refine z_ialdj (pc := 142) (j := (h_5 p0 5).toNat) X (gf_Tape_1 op1) (gl_Tape_1 op1) (zh_5.1 _ _ (zO.ne op0 (by decide))) v_7 rfl d_Taking_takeSymbol_142 ?_
        obtain ⟨v_8, hv⟩ := hv
        refine z_iadd (pc := 143) X d_Taking_takeSymbol_143 ?_
        refine z_topi (fun x4_9 ex4_9 => ?_)
        have rx4_9 : zr x4_9 := by rw [ex4_9]; exact v_8
        replace hv := hv x4_9 ex4_9
        refine z_istore (pc := 144) (lv' := [(4, zi x4_9), (0, .ref (g.2.2 p0)), (1, .ref (g.2.2 p1)), (3, zi x3), (6, zi x6), (7, zi x7)]) X d_Taking_takeSymbol_144 (by decide) rfl ?_
        obtain ⟨v_10, hv⟩ := hv
        refine z_iinc (pc := 146) (q := 5) (lv' := [(7, zi (x7 + 1)), (4, zi x4_9), (0, .ref (g.2.2 p0)), (1, .ref (g.2.2 p1)), (3, zi x3), (6, zi x6)]) X d_Taking_takeSymbol_146 rfl (by decide) rfl ?_
        refine z_goto (pc := 149) (tgt := 86) X d_Taking_takeSymbol_149 (by decide) ?_
        refine z_perm [2, 3, 4, 1, 5, 0] rfl ?_
        exact hL86 _ hv rx4_9 v_10 zh_5
      · replace hv := hv.2 hc
        refine z_aload_n (pc := 113) (q := 0) X d_Taking_takeSymbol_113 rfl ?_
        refine z_iload_n (pc := 114) (q := 2) X d_Taking_takeSymbol_114 rfl ?_
        refine z_put (pc := 115) (j := 6) X cf_Taking op0 (by decide) q266 rfl rfl rfl rfl d_Taking_takeSymbol_115 ?_
        refine z_toph (fun h_11 eh_11 => ?_)
        have zh_11 : zh h_11 := by rw [eh_11]; exact zh_set zh_2 (zO.ne op0 (by decide)) rx3
        replace hv := hv h_11 eh_11
        exact E.1 rfl _ _ _ d_Taking_takeSymbol_118 ⟨rfl, zh_11, hv⟩
def M_Taking_takeSymbol (p0 : Nat) (p1 : Nat) (p2 : Nat) (x3 : Int) (h : zH) (K : zH → Prop) : Prop :=
  (x3 < 0 → (K h)) ∧ (0 ≤ x3 → ((x3 < 40 → (0 ≤ x3 ∧ ((0 ≤ x3 % 2 ∧ x3 % 2 < 2) ∧ ((∀ x4_3 : Int, x4_3 = h (p0 + 5) ((x3 % 2).toNat) → ((0 ≤ x3 ∧ x3 < 40) ∧ (∀ h_5 : zH, h_5 = zs h (p0 + 2) x3.toNat x4_3 → ((0 ≤ x3 ∧ x3 < 40) ∧ (∀ h_7 : zH, h_7 = zs h_5 (p0 + 3) x3.toNat (h_5 p0 5) → (0 ≤ x4_3 ∧ ((∀ x5_9 : Int, x5_9 = x4_3 % 32 → ((0 ≤ x5_9 → ((0 ≤ x5_9 ∧ x5_9 < 32) ∧ ((∀ x6_11 : Int, x6_11 = h_7 (p2 + 6) x5_9.toNat → (M_Model_frequencyOf p2 x6_11 h_7 (fun r_13 h_12 => 0 ≤ x4_3 ∧ (zr (r_13 * (x4_3 / 32)) ∧ ((0 ≤ x5_9 ∧ x5_9 < 32) ∧ (zr ((r_13 * (x4_3 / 32)) + (h_12 (p2 + 7) x5_9.toNat)) ∧ ((∀ x4_18 : Int, x4_18 = (r_13 * (x4_3 / 32)) + (h_12 (p2 + 7) x5_9.toNat) → (zLoop (fun L q => F_Taking_takeSymbol_86 K  L p0 p1 x3 x6_11 q.1 q.2.1 q.2.2) (x4_18, 0, h_12))))))))))))) ∧ (x5_9 < 0 → (K h_7))))))))))))))) ∧ (40 ≤ x3 → (K h))))
set_option maxRecDepth 100000 in
theorem c_Taking_takeSymbol {l : Launch} (hfl : l.flags = flags0) {g : zG} {n : Nat} {p0 : Nat} {p1 : Nat} {p2 : Nat} {x3 : Int} (op0 : zO n p0 7) (op1 : zO n p1 8) (op2 : zO n p2 1) (rx3 : zr x3) {h : zH} (hh : zh h) {K : zH → Prop} (hv : M_Taking_takeSymbol p0 p1 p2 x3 h K) : zMet l y_Taking_takeSymbol b_Taking_takeSymbol 8 none rm_Taking_takeSymbol g n [.ref (g.2.2 p0), .ref (g.2.2 p1), .ref (g.2.2 p2), zi x3] h (zPv K) := by
  refine zMet_of (own := "AliasStreams$Taking") hfl (by decide) rfl (Nat.le_of_ble_eq_true rfl) (fun Wf m H0 X E => ?_)
  unfold M_Taking_takeSymbol at hv
  show zW Wf m 8 g n H0 0 [(0, .ref (g.2.2 p0)), (1, .ref (g.2.2 p1)), (2, .ref (g.2.2 p2)), (3, zi x3)] [] h
  refine z_iload_n (pc := 0) (q := 3) X d_Taking_takeSymbol_0 rfl ?_
  refine z_if_lt (pc := 1) (tgt := 10) X rx3 d_Taking_takeSymbol_1 (by decide) (fun hc => ?_) (fun hc => ?_)
  · replace hv := hv.1 hc
    exact E.1 rfl _ _ _ d_Taking_takeSymbol_10 ⟨rfl, hh, hv⟩
  · replace hv := hv.2 hc
    refine z_iload_n (pc := 4) (q := 3) X d_Taking_takeSymbol_4 rfl ?_
    refine z_bipush (pc := 5) X d_Taking_takeSymbol_5 (by decide) ?_
    refine z_icmp_lt (pc := 7) (tgt := 11) X rx3 (show zr 40 from by decide) d_Taking_takeSymbol_7 (by decide) (fun hc => ?_) (fun hc => ?_)
    · replace hv := hv.1 hc
      refine z_aload_n (pc := 11) (q := 0) X d_Taking_takeSymbol_11 rfl ?_
      refine z_getr (pc := 12) (j := 4) (dd := 5) X cf_Taking op0 (by decide) q264 rfl rfl d_Taking_takeSymbol_12 ?_
      refine z_iload_n (pc := 15) (q := 3) X d_Taking_takeSymbol_15 rfl ?_
      refine z_iconst (pc := 16) X d_Taking_takeSymbol_16 ?_
      obtain ⟨v_1, hv⟩ := hv
      refine z_irem (pc := 17) X rx3 (show zr 2 from by decide) v_1 (by decide) d_Taking_takeSymbol_17 ?_
      obtain ⟨v_2, hv⟩ := hv
      refine z_ialdj (pc := 18) (j := (x3 % 2).toNat) X (gf_Taking_4 op0) (gl_Taking_4 op0) (zr_rem (show zr 2 from by decide) (by decide)) v_2 rfl d_Taking_takeSymbol_18 ?_
      refine z_topi (fun x4_3 ex4_3 => ?_)
      have rx4_3 : zr x4_3 := by rw [ex4_3]; exact (hh.1 _ _ (zO.ne (gf_Taking_4 op0) (by decide)))
      replace hv := hv x4_3 ex4_3
      refine z_istore (pc := 19) (lv' := [(4, zi x4_3), (0, .ref (g.2.2 p0)), (1, .ref (g.2.2 p1)), (2, .ref (g.2.2 p2)), (3, zi x3)]) X d_Taking_takeSymbol_19 (by decide) rfl ?_
      refine z_aload_n (pc := 21) (q := 1) X d_Taking_takeSymbol_21 rfl ?_
      refine z_getr (pc := 22) (j := 1) (dd := 2) X cf_Taking op0 (by decide) q258 rfl rfl d_Taking_takeSymbol_22 ?_
      refine z_iload_n (pc := 25) (q := 4) X d_Taking_takeSymbol_25 rfl ?_
      refine z_iload (pc := 26) (q := 0) X d_Taking_takeSymbol_26 rfl ?_
      obtain ⟨v_4, hv⟩ := hv
      refine z_iastj (pc := 28) (j := x3.toNat) X (gf_Taking_1 op0) (gl_Taking_1 op0) rx3 v_4 rfl d_Taking_takeSymbol_28 ?_
      refine z_toph (fun h_5 eh_5 => ?_)
      have zh_5 : zh h_5 := by rw [eh_5]; exact zh_set hh (zO.ne (gf_Taking_1 op0) (by decide)) rx4_3
      replace hv := hv h_5 eh_5
      refine z_aload_n (pc := 29) (q := 1) X d_Taking_takeSymbol_29 rfl ?_
      refine z_getr (pc := 30) (j := 2) (dd := 3) X cf_Taking op0 (by decide) q260 rfl rfl d_Taking_takeSymbol_30 ?_
      refine z_iload_n (pc := 33) (q := 4) X d_Taking_takeSymbol_33 rfl ?_
      refine z_aload_n (pc := 34) (q := 1) X d_Taking_takeSymbol_34 rfl ?_
      refine z_geti (pc := 35) (j := 5) X cf_Taking op0 (by decide) q265 rfl rfl d_Taking_takeSymbol_35 ?_
      obtain ⟨v_6, hv⟩ := hv
      refine z_iastj (pc := 38) (j := x3.toNat) X (gf_Taking_2 op0) (gl_Taking_2 op0) rx3 v_6 rfl d_Taking_takeSymbol_38 ?_
      refine z_toph (fun h_7 eh_7 => ?_)
      have zh_7 : zh h_7 := by rw [eh_7]; exact zh_set zh_5 (zO.ne (gf_Taking_2 op0) (by decide)) (zh_5.1 _ _ (zO.ne op0 (by decide)))
      replace hv := hv h_7 eh_7
      refine z_iload (pc := 39) (q := 0) X d_Taking_takeSymbol_39 rfl ?_
      refine z_bipush (pc := 41) X d_Taking_takeSymbol_41 (by decide) ?_
      obtain ⟨v_8, hv⟩ := hv
      refine z_irem (pc := 43) X rx4_3 (show zr 32 from by decide) v_8 (by decide) d_Taking_takeSymbol_43 ?_
      refine z_topi (fun x5_9 ex5_9 => ?_)
      have rx5_9 : zr x5_9 := by rw [ex5_9]; exact (zr_rem (show zr 32 from by decide) (by decide))
      replace hv := hv x5_9 ex5_9
      refine z_istore (pc := 44) (lv' := [(5, zi x5_9), (4, zi x4_3), (0, .ref (g.2.2 p0)), (1, .ref (g.2.2 p1)), (2, .ref (g.2.2 p2)), (3, zi x3)]) X d_Taking_takeSymbol_44 (by decide) rfl ?_
      refine z_iload (pc := 46) (q := 0) X d_Taking_takeSymbol_46 rfl ?_
      refine z_if_ge (pc := 48) (tgt := 52) X rx5_9 d_Taking_takeSymbol_48 (by decide) (fun hc => ?_) (fun hc => ?_)
      · replace hv := hv.1 hc
        refine z_aload_n (pc := 52) (q := 4) X d_Taking_takeSymbol_52 rfl ?_
        refine z_getrN (pc := 53) (j := 5) (dd := 6) X cf_Model op2 (by decide) q88 rfl rfl d_Taking_takeSymbol_53 ?_
        refine z_iload (pc := 56) (q := 0) X d_Taking_takeSymbol_56 rfl ?_
        obtain ⟨v_10, hv⟩ := hv
        refine z_ialdj (pc := 58) (j := x5_9.toNat) X (gf_Model_5 op2) (gl_Model_5 op2) rx5_9 v_10 rfl d_Taking_takeSymbol_58 ?_
        refine z_topi (fun x6_11 ex6_11 => ?_)
        have rx6_11 : zr x6_11 := by rw [ex6_11]; exact (zh_7.1 _ _ (zO.ne (gf_Model_5 op2) (by decide)))
        replace hv := hv x6_11 ex6_11
        refine z_istore (pc := 59) (lv' := [(6, zi x6_11), (5, zi x5_9), (4, zi x4_3), (0, .ref (g.2.2 p0)), (1, .ref (g.2.2 p1)), (2, .ref (g.2.2 p2)), (3, zi x3)]) X d_Taking_takeSymbol_59 (by decide) rfl ?_
        refine z_aload_n (pc := 61) (q := 5) X d_Taking_takeSymbol_61 rfl ?_
        refine z_iload (pc := 62) (q := 0) X d_Taking_takeSymbol_62 rfl ?_
        refine z_callVNi (pc := 64) (As := [zi x6_11]) (rest := []) X (fun l hl => c_Model_frequencyOf hl op2 rx6_11 zh_7 hv) cf_Model op2 rfl mf_Model_frequencyOf q453 ⟨⟨by decide, by decide⟩, rfl, rfl⟩ rfl d_Taking_takeSymbol_64 rfl (Nat.le_of_ble_eq_true rfl) (fun r_13 h_12 rr_13 zh_12 hv => ?_)
        refine z_iload (pc := 67) (q := 2) X d_Taking_takeSymbol_67 rfl ?_
        refine z_bipush (pc := 69) X d_Taking_takeSymbol_69 (by decide) ?_
        obtain ⟨v_14, hv⟩ := hv
        refine z_idiv (pc := 71) X rx4_3 (show zr 32 from by decide) v_14 (by decide) d_Taking_takeSymbol_71 ?_
        obtain ⟨v_15, hv⟩ := hv
        refine z_imul (pc := 72) X d_Taking_takeSymbol_72 ?_
        refine z_aload_n (pc := 73) (q := 5) X d_Taking_takeSymbol_73 rfl ?_
        refine z_getrN (pc := 74) (j := 6) (dd := 7) X cf_Model op2 (by decide) q91 rfl rfl d_Taking_takeSymbol_74 ?_
        refine z_iload (pc := 77) (q := 1) X d_Taking_takeSymbol_77 rfl ?_
        obtain ⟨v_16, hv⟩ := hv
        refine z_ialdj (pc := 79) (j := x5_9.toNat) X (gf_Model_6 op2) (gl_Model_6 op2) rx5_9 v_16 rfl d_Taking_takeSymbol_79 ?_
        obtain ⟨v_17, hv⟩ := hv
        refine z_iadd (pc := 80) X d_Taking_takeSymbol_80 ?_
        refine z_topi (fun x4_18 ex4_18 => ?_)
        have rx4_18 : zr x4_18 := by rw [ex4_18]; exact v_17
        replace hv := hv x4_18 ex4_18
        refine z_istore (pc := 81) (lv' := [(4, zi x4_18), (6, zi x6_11), (5, zi x5_9), (0, .ref (g.2.2 p0)), (1, .ref (g.2.2 p1)), (2, .ref (g.2.2 p2)), (3, zi x3)]) X d_Taking_takeSymbol_81 (by decide) rfl ?_
        refine z_iconst (pc := 83) X d_Taking_takeSymbol_83 ?_
        refine z_istore (pc := 84) (lv' := [(7, zi 0), (4, zi x4_18), (6, zi x6_11), (5, zi x5_9), (0, .ref (g.2.2 p0)), (1, .ref (g.2.2 p1)), (2, .ref (g.2.2 p2)), (3, zi x3)]) X d_Taking_takeSymbol_84 (by decide) rfl ?_
        refine z_perm [4, 5, 7, 1, 2, 0] rfl ?_
        exact s_Taking_takeSymbol_86 X E  op0 op1 rx3 rx6_11 hv rx4_18 (show zr 0 from by decide) zh_12
      · replace hv := hv.2 hc
        exact E.1 rfl _ _ _ d_Taking_takeSymbol_51 ⟨rfl, zh_7, hv⟩
    · replace hv := hv.2 hc
      exact E.1 rfl _ _ _ d_Taking_takeSymbol_10 ⟨rfl, hh, hv⟩
theorem d_Taking_takeAll_0 : decode b_Taking_takeAll 0 = .ok (.iconst 0, 1) := by decide +kernel
theorem d_Taking_takeAll_1 : decode b_Taking_takeAll 1 = .ok (.istore_n 3, 1) := by decide +kernel
theorem d_Taking_takeAll_2 : decode b_Taking_takeAll 2 = .ok (.iload_n 3, 1) := by decide +kernel
theorem d_Taking_takeAll_3 : decode b_Taking_takeAll 3 = .ok (.bipush 40, 2) := by decide +kernel
theorem d_Taking_takeAll_5 : decode b_Taking_takeAll 5 = .ok (.if_icmp .ge 41, 3) := by decide +kernel
theorem d_Taking_takeAll_8 : decode b_Taking_takeAll 8 = .ok (.aload_n 0, 1) := by decide +kernel
theorem d_Taking_takeAll_9 : decode b_Taking_takeAll 9 = .ok (.getfield 9, 3) := by decide +kernel
theorem d_Taking_takeAll_12 : decode b_Taking_takeAll 12 = .ok (.iload_n 3, 1) := by decide +kernel
theorem d_Taking_takeAll_13 : decode b_Taking_takeAll 13 = .ok (.bipush (-9), 2) := by decide +kernel
theorem d_Taking_takeAll_15 : decode b_Taking_takeAll 15 = .ok (.iastore, 1) := by decide +kernel
theorem d_Taking_takeAll_16 : decode b_Taking_takeAll 16 = .ok (.aload_n 0, 1) := by decide +kernel
theorem d_Taking_takeAll_17 : decode b_Taking_takeAll 17 = .ok (.getfield 15, 3) := by decide +kernel
theorem d_Taking_takeAll_20 : decode b_Taking_takeAll 20 = .ok (.iload_n 3, 1) := by decide +kernel
theorem d_Taking_takeAll_21 : decode b_Taking_takeAll 21 = .ok (.bipush (-9), 2) := by decide +kernel
theorem d_Taking_takeAll_23 : decode b_Taking_takeAll 23 = .ok (.iastore, 1) := by decide +kernel
theorem d_Taking_takeAll_24 : decode b_Taking_takeAll 24 = .ok (.aload_n 0, 1) := by decide +kernel
theorem d_Taking_takeAll_25 : decode b_Taking_takeAll 25 = .ok (.getfield 18, 3) := by decide +kernel
theorem d_Taking_takeAll_28 : decode b_Taking_takeAll 28 = .ok (.iload_n 3, 1) := by decide +kernel
theorem d_Taking_takeAll_29 : decode b_Taking_takeAll 29 = .ok (.bipush (-9), 2) := by decide +kernel
theorem d_Taking_takeAll_31 : decode b_Taking_takeAll 31 = .ok (.iastore, 1) := by decide +kernel
theorem d_Taking_takeAll_32 : decode b_Taking_takeAll 32 = .ok (.aload_n 0, 1) := by decide +kernel
theorem d_Taking_takeAll_33 : decode b_Taking_takeAll 33 = .ok (.getfield 21, 3) := by decide +kernel
theorem d_Taking_takeAll_36 : decode b_Taking_takeAll 36 = .ok (.iload_n 3, 1) := by decide +kernel
theorem d_Taking_takeAll_37 : decode b_Taking_takeAll 37 = .ok (.bipush (-9), 2) := by decide +kernel
theorem d_Taking_takeAll_39 : decode b_Taking_takeAll 39 = .ok (.iastore, 1) := by decide +kernel
theorem d_Taking_takeAll_40 : decode b_Taking_takeAll 40 = .ok (.iinc 3 1, 3) := by decide +kernel
theorem d_Taking_takeAll_43 : decode b_Taking_takeAll 43 = .ok (.goto (-41), 3) := by decide +kernel
theorem d_Taking_takeAll_46 : decode b_Taking_takeAll 46 = .ok (.aload_n 0, 1) := by decide +kernel
theorem d_Taking_takeAll_47 : decode b_Taking_takeAll 47 = .ok (.getfield 24, 3) := by decide +kernel
theorem d_Taking_takeAll_50 : decode b_Taking_takeAll 50 = .ok (.iconst 0, 1) := by decide +kernel
theorem d_Taking_takeAll_51 : decode b_Taking_takeAll 51 = .ok (.aload_n 1, 1) := by decide +kernel
theorem d_Taking_takeAll_52 : decode b_Taking_takeAll 52 = .ok (.getfield 27, 3) := by decide +kernel
theorem d_Taking_takeAll_55 : decode b_Taking_takeAll 55 = .ok (.iconst 0, 1) := by decide +kernel
theorem d_Taking_takeAll_56 : decode b_Taking_takeAll 56 = .ok (.iaload, 1) := by decide +kernel
theorem d_Taking_takeAll_57 : decode b_Taking_takeAll 57 = .ok (.iastore, 1) := by decide +kernel
theorem d_Taking_takeAll_58 : decode b_Taking_takeAll 58 = .ok (.aload_n 0, 1) := by decide +kernel
theorem d_Taking_takeAll_59 : decode b_Taking_takeAll 59 = .ok (.getfield 24, 3) := by decide +kernel
theorem d_Taking_takeAll_62 : decode b_Taking_takeAll 62 = .ok (.iconst 1, 1) := by decide +kernel
theorem d_Taking_takeAll_63 : decode b_Taking_takeAll 63 = .ok (.aload_n 1, 1) := by decide +kernel
theorem d_Taking_takeAll_64 : decode b_Taking_takeAll 64 = .ok (.getfield 27, 3) := by decide +kernel
theorem d_Taking_takeAll_67 : decode b_Taking_takeAll 67 = .ok (.iconst 1, 1) := by decide +kernel
theorem d_Taking_takeAll_68 : decode b_Taking_takeAll 68 = .ok (.iaload, 1) := by decide +kernel
theorem d_Taking_takeAll_69 : decode b_Taking_takeAll 69 = .ok (.iastore, 1) := by decide +kernel
theorem d_Taking_takeAll_70 : decode b_Taking_takeAll 70 = .ok (.aload_n 0, 1) := by decide +kernel
theorem d_Taking_takeAll_71 : decode b_Taking_takeAll 71 = .ok (.aload_n 1, 1) := by decide +kernel
theorem d_Taking_takeAll_72 : decode b_Taking_takeAll 72 = .ok (.getfield 30, 3) := by decide +kernel
theorem d_Taking_takeAll_75 : decode b_Taking_takeAll 75 = .ok (.putfield 34, 3) := by decide +kernel
theorem d_Taking_takeAll_78 : decode b_Taking_takeAll 78 = .ok (.aload_n 0, 1) := by decide +kernel
theorem d_Taking_takeAll_79 : decode b_Taking_takeAll 79 = .ok (.bipush (-9), 2) := by decide +kernel
theorem d_Taking_takeAll_81 : decode b_Taking_takeAll 81 = .ok (.putfield 37, 3) := by decide +kernel
theorem d_Taking_takeAll_84 : decode b_Taking_takeAll 84 = .ok (.iconst 0, 1) := by decide +kernel
theorem d_Taking_takeAll_85 : decode b_Taking_takeAll 85 = .ok (.istore_n 3, 1) := by decide +kernel
theorem d_Taking_takeAll_86 : decode b_Taking_takeAll 86 = .ok (.iload_n 3, 1) := by decide +kernel
theorem d_Taking_takeAll_87 : decode b_Taking_takeAll 87 = .ok (.aload_n 1, 1) := by decide +kernel
theorem d_Taking_takeAll_88 : decode b_Taking_takeAll 88 = .ok (.getfield 40, 3) := by decide +kernel
theorem d_Taking_takeAll_91 : decode b_Taking_takeAll 91 = .ok (.if_icmp .ge 40, 3) := by decide +kernel
theorem d_Taking_takeAll_94 : decode b_Taking_takeAll 94 = .ok (.iload_n 3, 1) := by decide +kernel
theorem d_Taking_takeAll_95 : decode b_Taking_takeAll 95 = .ok (.bipush 40, 2) := by decide +kernel
theorem d_Taking_takeAll_97 : decode b_Taking_takeAll 97 = .ok (.if_icmp .ge 34, 3) := by decide +kernel
theorem d_Taking_takeAll_100 : decode b_Taking_takeAll 100 = .ok (.aload_n 0, 1) := by decide +kernel
theorem d_Taking_takeAll_101 : decode b_Taking_takeAll 101 = .ok (.getfield 37, 3) := by decide +kernel
theorem d_Taking_takeAll_104 : decode b_Taking_takeAll 104 = .ok (.bipush (-9), 2) := by decide +kernel
theorem d_Taking_takeAll_106 : decode b_Taking_takeAll 106 = .ok (.if_icmp .ne 25, 3) := by decide +kernel
theorem d_Taking_takeAll_109 : decode b_Taking_takeAll 109 = .ok (.aload_n 0, 1) := by decide +kernel
theorem d_Taking_takeAll_110 : decode b_Taking_takeAll 110 = .ok (.aload_n 1, 1) := by decide +kernel
theorem d_Taking_takeAll_111 : decode b_Taking_takeAll 111 = .ok (.aload_n 2, 1) := by decide +kernel
theorem d_Taking_takeAll_112 : decode b_Taking_takeAll 112 = .ok (.aload_n 1, 1) := by decide +kernel
theorem d_Taking_takeAll_113 : decode b_Taking_takeAll 113 = .ok (.getfield 43, 3) := by decide +kernel
theorem d_Taking_takeAll_116 : decode b_Taking_takeAll 116 = .ok (.iload_n 3, 1) := by decide +kernel
theorem d_Taking_takeAll_117 : decode b_Taking_takeAll 117 = .ok (.iaload, 1) := by decide +kernel
theorem d_Taking_takeAll_118 : decode b_Taking_takeAll 118 = .ok (.invokevirtual 46, 3) := by decide +kernel
theorem d_Taking_takeAll_121 : decode b_Taking_takeAll 121 = .ok (.iload_n 3, 1) := by decide +kernel
theorem d_Taking_takeAll_122 : decode b_Taking_takeAll 122 = .ok (.invokevirtual 52, 3) := by decide +kernel
theorem d_Taking_takeAll_125 : decode b_Taking_takeAll 125 = .ok (.iinc 3 1, 3) := by decide +kernel
theorem d_Taking_takeAll_128 : decode b_Taking_takeAll 128 = .ok (.goto (-42), 3) := by decide +kernel
theorem d_Taking_takeAll_131 : decode b_Taking_takeAll 131 = .ok (.aload_n 0, 1) := by decide +kernel
theorem d_Taking_takeAll_132 : decode b_Taking_takeAll 132 = .ok (.aload_n 0, 1) := by decide +kernel
theorem d_Taking_takeAll_133 : decode b_Taking_takeAll 133 = .ok (.getfield 37, 3) := by decide +kernel
theorem d_Taking_takeAll_136 : decode b_Taking_takeAll 136 = .ok (.bipush (-9), 2) := by decide +kernel
theorem d_Taking_takeAll_138 : decode b_Taking_takeAll 138 = .ok (.if_icmp .ne 38, 3) := by decide +kernel
theorem d_Taking_takeAll_141 : decode b_Taking_takeAll 141 = .ok (.aload_n 0, 1) := by decide +kernel
theorem d_Taking_takeAll_142 : decode b_Taking_takeAll 142 = .ok (.getfield 34, 3) := by decide +kernel
theorem d_Taking_takeAll_145 : decode b_Taking_takeAll 145 = .ok (.ifCond .ne 31, 3) := by decide +kernel
theorem d_Taking_takeAll_148 : decode b_Taking_takeAll 148 = .ok (.aload_n 0, 1) := by decide +kernel
theorem d_Taking_takeAll_149 : decode b_Taking_takeAll 149 = .ok (.getfield 24, 3) := by decide +kernel
theorem d_Taking_takeAll_152 : decode b_Taking_takeAll 152 = .ok (.iconst 0, 1) := by decide +kernel
theorem d_Taking_takeAll_153 : decode b_Taking_takeAll 153 = .ok (.iaload, 1) := by decide +kernel
theorem d_Taking_takeAll_154 : decode b_Taking_takeAll 154 = .ok (.sipush 512, 3) := by decide +kernel
theorem d_Taking_takeAll_157 : decode b_Taking_takeAll 157 = .ok (.if_icmp .ne 19, 3) := by decide +kernel
theorem d_Taking_takeAll_160 : decode b_Taking_takeAll 160 = .ok (.aload_n 0, 1) := by decide +kernel
theorem d_Taking_takeAll_161 : decode b_Taking_takeAll 161 = .ok (.getfield 24, 3) := by decide +kernel
theorem d_Taking_takeAll_164 : decode b_Taking_takeAll 164 = .ok (.iconst 1, 1) := by decide +kernel
theorem d_Taking_takeAll_165 : decode b_Taking_takeAll 165 = .ok (.iaload, 1) := by decide +kernel
theorem d_Taking_takeAll_166 : decode b_Taking_takeAll 166 = .ok (.sipush 512, 3) := by decide +kernel
theorem d_Taking_takeAll_169 : decode b_Taking_takeAll 169 = .ok (.if_icmp .ne 7, 3) := by decide +kernel
theorem d_Taking_takeAll_172 : decode b_Taking_takeAll 172 = .ok (.iconst 1, 1) := by decide +kernel
theorem d_Taking_takeAll_173 : decode b_Taking_takeAll 173 = .ok (.goto 4, 3) := by decide +kernel
theorem d_Taking_takeAll_176 : decode b_Taking_takeAll 176 = .ok (.iconst 0, 1) := by decide +kernel
theorem d_Taking_takeAll_177 : decode b_Taking_takeAll 177 = .ok (.putfield 56, 3) := by decide +kernel
theorem d_Taking_takeAll_180 : decode b_Taking_takeAll 180 = .ok (.return_, 1) := by decide +kernel
def rm_Taking_takeAll : Room := { frames := 2, cells := 0, slots := 0, locals := 48 }
theorem mf_Taking_takeAll : zMV y_Taking_takeAll b_Taking_takeAll 4 none 2 := ⟨q443, qs19, q10, q444, by decide +kernel⟩
def B_Taking_takeAll_131 (K : zH → Prop)  (p0 : Nat)  (h : zH) : Prop :=
  (h p0 6 ≠ (-9) → ((∀ h_1 : zH, h_1 = zs h p0 7 0 → (K h_1)))) ∧ (h p0 6 = (-9) → ((h p0 5 ≠ 0 → ((∀ h_2 : zH, h_2 = zs h p0 7 0 → (K h_2)))) ∧ (h p0 5 = 0 → ((h (p0 + 5) 0 ≠ 512 → ((∀ h_3 : zH, h_3 = zs h p0 7 0 → (K h_3)))) ∧ (h (p0 + 5) 0 = 512 → ((h (p0 + 5) 1 ≠ 512 → ((∀ h_4 : zH, h_4 = zs h p0 7 0 → (K h_4)))) ∧ (h (p0 + 5) 1 = 512 → ((∀ h_5 : zH, h_5 = zs h p0 7 1 → (K h_5))))))))))
set_option maxRecDepth 100000 in
theorem s_Taking_takeAll_131 {Wf : Heap → List Loc → JFrame → Prop} {m : MethodId} {g : zG} {n : Nat} {H0 : Heap} (X : zX Wf m rm_Taking_takeAll b_Taking_takeAll "AliasStreams$Taking" 4 g n H0) {K : zH → Prop} (E : zEx Wf m b_Taking_takeAll none 4 g n H0 (zPv K))  {p0 : Nat}  (op0 : zO n p0 7)   {h : zH} (hh : zh h) (hv : B_Taking_takeAll_131 K  p0  h) : zW Wf m 4 g n H0 131 [(0, .ref (g.2.2 p0))] [] h := by
  unfold B_Taking_takeAll_131 at hv
  refine z_aload_n (pc := 131) (q := 0) X d_Taking_takeAll_131 rfl ?_
  refine z_aload_n (pc := 132) (q := 0) X d_Taking_takeAll_132 rfl ?_
  refine z_geti (pc := 133) (j := 6) X cf_Taking op0 (by decide) q266 rfl rfl d_Taking_takeAll_133 ?_
  refine z_bipush (pc := 136) X d_Taking_takeAll_136 (by decide) ?_
  refine z_icmp_ne (pc := 138) (tgt := 176) X (hh.1 _ _ (zO.ne op0 (by decide))) (show zr (-9) from by decide) d_Taking_takeAll_138 (by decide) (fun hc => ?_) (fun hc => ?_)
  · replace hv := hv.1 hc
    refine z_iconst (pc := 176) X d_Taking_takeAll_176 ?_
    refine z_putZ (pc := 177) (j := 7) X cf_Taking op0 (by decide) q269 rfl rfl rfl rfl (by decide) d_Taking_takeAll_177 ?_
    refine z_toph (fun h_1 eh_1 => ?_)
    have zh_1 : zh h_1 := by rw [eh_1]; exact zh_set hh (zO.ne op0 (by decide)) (show zr 0 from by decide)
    replace hv := hv h_1 eh_1
    exact E.1 rfl _ _ _ d_Taking_takeAll_180 ⟨rfl, zh_1, hv⟩
  · replace hv := hv.2 hc
    refine z_aload_n (pc := 141) (q := 0) X d_Taking_takeAll_141 rfl ?_
    refine z_geti (pc := 142) (j := 5) X cf_Taking op0 (by decide) q265 rfl rfl d_Taking_takeAll_142 ?_
    refine z_if_ne (pc := 145) (tgt := 176) X (hh.1 _ _ (zO.ne op0 (by decide))) d_Taking_takeAll_145 (by decide) (fun hc => ?_) (fun hc => ?_)
    · replace hv := hv.1 hc
      refine z_iconst (pc := 176) X d_Taking_takeAll_176 ?_
      refine z_putZ (pc := 177) (j := 7) X cf_Taking op0 (by decide) q269 rfl rfl rfl rfl (by decide) d_Taking_takeAll_177 ?_
      refine z_toph (fun h_2 eh_2 => ?_)
      have zh_2 : zh h_2 := by rw [eh_2]; exact zh_set hh (zO.ne op0 (by decide)) (show zr 0 from by decide)
      replace hv := hv h_2 eh_2
      exact E.1 rfl _ _ _ d_Taking_takeAll_180 ⟨rfl, zh_2, hv⟩
    · replace hv := hv.2 hc
      refine z_aload_n (pc := 148) (q := 0) X d_Taking_takeAll_148 rfl ?_
      refine z_getr (pc := 149) (j := 4) (dd := 5) X cf_Taking op0 (by decide) q264 rfl rfl d_Taking_takeAll_149 ?_
      refine z_iconst (pc := 152) X d_Taking_takeAll_152 ?_
      refine z_ialdj (pc := 153) (j := 0) X (gf_Taking_4 op0) (gl_Taking_4 op0) (show zr 0 from by decide) ⟨by decide, by decide⟩ rfl d_Taking_takeAll_153 ?_
      refine z_sipush (pc := 154) X d_Taking_takeAll_154 (by decide) ?_
      refine z_icmp_ne (pc := 157) (tgt := 176) X (hh.1 _ _ (zO.ne (gf_Taking_4 op0) (by decide))) (show zr 512 from by decide) d_Taking_takeAll_157 (by decide) (fun hc => ?_) (fun hc => ?_)
      · replace hv := hv.1 hc
        refine z_iconst (pc := 176) X d_Taking_takeAll_176 ?_
        refine z_putZ (pc := 177) (j := 7) X cf_Taking op0 (by decide) q269 rfl rfl rfl rfl (by decide) d_Taking_takeAll_177 ?_
        refine z_toph (fun h_3 eh_3 => ?_)
        have zh_3 : zh h_3 := by rw [eh_3]; exact zh_set hh (zO.ne op0 (by decide)) (show zr 0 from by decide)
        replace hv := hv h_3 eh_3
        exact E.1 rfl _ _ _ d_Taking_takeAll_180 ⟨rfl, zh_3, hv⟩
      · replace hv := hv.2 hc
        refine z_aload_n (pc := 160) (q := 0) X d_Taking_takeAll_160 rfl ?_
        refine z_getr (pc := 161) (j := 4) (dd := 5) X cf_Taking op0 (by decide) q264 rfl rfl d_Taking_takeAll_161 ?_
        refine z_iconst (pc := 164) X d_Taking_takeAll_164 ?_
        refine z_ialdj (pc := 165) (j := 1) X (gf_Taking_4 op0) (gl_Taking_4 op0) (show zr 1 from by decide) ⟨by decide, by decide⟩ rfl d_Taking_takeAll_165 ?_
        refine z_sipush (pc := 166) X d_Taking_takeAll_166 (by decide) ?_
        refine z_icmp_ne (pc := 169) (tgt := 176) X (hh.1 _ _ (zO.ne (gf_Taking_4 op0) (by decide))) (show zr 512 from by decide) d_Taking_takeAll_169 (by decide) (fun hc => ?_) (fun hc => ?_)
        · replace hv := hv.1 hc
          refine z_iconst (pc := 176) X d_Taking_takeAll_176 ?_
          refine z_putZ (pc := 177) (j := 7) X cf_Taking op0 (by decide) q269 rfl rfl rfl rfl (by decide) d_Taking_takeAll_177 ?_
          refine z_toph (fun h_4 eh_4 => ?_)
          have zh_4 : zh h_4 := by rw [eh_4]; exact zh_set hh (zO.ne op0 (by decide)) (show zr 0 from by decide)
          replace hv := hv h_4 eh_4
          exact E.1 rfl _ _ _ d_Taking_takeAll_180 ⟨rfl, zh_4, hv⟩
        · replace hv := hv.2 hc
          refine z_iconst (pc := 172) X d_Taking_takeAll_172 ?_
          refine z_goto (pc := 173) (tgt := 177) X d_Taking_takeAll_173 (by decide) ?_
          refine z_putZ (pc := 177) (j := 7) X cf_Taking op0 (by decide) q269 rfl rfl rfl rfl (by decide) d_Taking_takeAll_177 ?_
          refine z_toph (fun h_5 eh_5 => ?_)
          have zh_5 : zh h_5 := by rw [eh_5]; exact zh_set hh (zO.ne op0 (by decide)) (show zr 1 from by decide)
          replace hv := hv h_5 eh_5
          exact E.1 rfl _ _ _ d_Taking_takeAll_180 ⟨rfl, zh_5, hv⟩
def F_Taking_takeAll_86 (K : zH → Prop)  (L86 : Int × zH → Prop) (p0 : Nat) (p1 : Nat) (p2 : Nat) (x3 : Int) (h : zH) : Prop :=
  (h p1 3 ≤ x3 → (B_Taking_takeAll_131 K  p0  h)) ∧ (x3 < h p1 3 → ((40 ≤ x3 → (B_Taking_takeAll_131 K  p0  h)) ∧ (x3 < 40 → ((h p0 6 ≠ (-9) → (B_Taking_takeAll_131 K  p0  h)) ∧ (h p0 6 = (-9) → ((0 ≤ x3 ∧ x3 < 40) ∧ (M_Models_of p2 (h (p1 + 1) x3.toNat) h (fun p_3 h_2 => M_Taking_takeSymbol p0 p1 p_3 x3 h_2 (fun h_4 => zr (x3 + 1) ∧ (L86 (x3 + 1, h_4)))))))))))
set_option maxRecDepth 100000 in
theorem s_Taking_takeAll_86 {Wf : Heap → List Loc → JFrame → Prop} {m : MethodId} {g : zG} {n : Nat} {H0 : Heap} (X : zX Wf m rm_Taking_takeAll b_Taking_takeAll "AliasStreams$Taking" 4 g n H0) {K : zH → Prop} (E : zEx Wf m b_Taking_takeAll none 4 g n H0 (zPv K))  {p0 : Nat} {p1 : Nat} {p2 : Nat}  (op0 : zO n p0 7) (op1 : zO n p1 8) (op2 : zO n p2 2) {q0 : Int × zH} (hv0 : zLoop (fun L q => F_Taking_takeAll_86 K  L p0 p1 p2 q.1 q.2) q0) : zr q0.1 → zh (q0.2) → zW Wf m 4 g n H0 86 [(0, .ref (g.2.2 p0)), (1, .ref (g.2.2 p1)), (2, .ref (g.2.2 p2)), (3, zi q0.1)] [] (q0.2) := by
  refine zLoop_use (G := fun q => zr q.1 → zh (q.2) → zW Wf m 4 g n H0 86 [(0, .ref (g.2.2 p0)), (1, .ref (g.2.2 p1)), (2, .ref (g.2.2 p2)), (3, zi q.1)] [] (q.2)) ?_ hv0
  rintro L86 ⟨x3, h⟩ hL86 hv rx3 hh
  have hv : F_Taking_takeAll_86 K  L86 p0 p1 p2 x3 h := hv
  unfold F_Taking_takeAll_86 at hv
  show zW Wf m 4 g n H0 86 [(0, .ref (g.2.2 p0)), (1, .ref (g.2.2 p1)), (2, .ref (g.2.2 p2)), (3, zi x3)] [] h
  refine z_iload_n (pc := 86) (q := 3) X d_Taking_takeAll_86 rfl ?_
  refine z_aload_n (pc := 87) (q := 1) X d_Taking_takeAll_87 rfl ?_
  refine z_getiN (pc := 88) (j := 3) X cf_Tape op1 (by decide) q151 rfl rfl d_Taking_takeAll_88 ?_
  refine z_icmp_ge (pc := 91) (tgt := 131) X rx3 (hh.1 _ _ (zO.ne op1 (by decide))) d_Taking_takeAll_91 (by decide) (fun hc => ?_) (fun hc => ?_)
  · replace hv := hv.1 hc
    refine z_perm [0] rfl ?_
    exact s_Taking_takeAll_131 X E  op0  hh hv
  · replace hv := hv.2 hc
    refine z_iload_n (pc := 94) (q := 3) X d_Taking_takeAll_94 rfl ?_
    refine z_bipush (pc := 95) X d_Taking_takeAll_95 (by decide) ?_
    refine z_icmp_ge (pc := 97) (tgt := 131) X rx3 (show zr 40 from by decide) d_Taking_takeAll_97 (by decide) (fun hc => ?_) (fun hc => ?_)
    · replace hv := hv.1 hc
      refine z_perm [0] rfl ?_
      exact s_Taking_takeAll_131 X E  op0  hh hv
    · replace hv := hv.2 hc
      refine z_aload_n (pc := 100) (q := 0) X d_Taking_takeAll_100 rfl ?_
      refine z_geti (pc := 101) (j := 6) X cf_Taking op0 (by decide) q266 rfl rfl d_Taking_takeAll_101 ?_
      refine z_bipush (pc := 104) X d_Taking_takeAll_104 (by decide) ?_
      refine z_icmp_ne (pc := 106) (tgt := 131) X (hh.1 _ _ (zO.ne op0 (by decide))) (show zr (-9) from by decide) d_Taking_takeAll_106 (by decide) (fun hc => ?_) (fun hc => ?_)
      · replace hv := hv.1 hc
        refine z_perm [0] rfl ?_
        exact s_Taking_takeAll_131 X E  op0  hh hv
      · replace hv := hv.2 hc
        refine z_aload_n (pc := 109) (q := 0) X d_Taking_takeAll_109 rfl ?_
        refine z_aload_n (pc := 110) (q := 1) X d_Taking_takeAll_110 rfl ?_
        refine z_aload_n (pc := 111) (q := 2) X d_Taking_takeAll_111 rfl ?_
        refine z_aload_n (pc := 112) (q := 1) X d_Taking_takeAll_112 rfl ?_
        refine z_getrN (pc := 113) (j := 0) (dd := 1) X cf_Tape op1 (by decide) q140 rfl rfl d_Taking_takeAll_113 ?_
        refine z_iload_n (pc := 116) (q := 3) X d_Taking_takeAll_116 rfl ?_
        obtain ⟨v_1, hv⟩ := hv
        refine z_ialdj (pc := 117) (j := x3.toNat) X (gf_Tape_0 op1) (gl_Tape_0 op1) rx3 v_1 rfl d_Taking_takeAll_117 ?_
        refine z_callVNr (pc := 118) (As := [zi (h (p1 + 1) x3.toNat)]) (rest := [.ref (g.2.2 p1), .ref (g.2.2 p0)]) X (fun l hl => c_Models_of hl op2 (hh.1 _ _ (zO.ne (gf_Tape_0 op1) (by decide))) hh hv) cf_Models op2 rfl mf_Models_of q445 ⟨⟨by decide, by decide⟩, rfl, rfl⟩ rfl d_Taking_takeAll_118 rfl (Nat.le_of_ble_eq_true rfl) (fun p_3 h_2 op_3 zh_2 hv => ?_)
        refine z_iload_n (pc := 121) (q := 3) X d_Taking_takeAll_121 rfl ?_
        refine z_callVv (pc := 122) (As := [.ref (g.2.2 p1), .ref (g.2.2 p_3), zi x3]) (rest := []) X (fun l hl => c_Taking_takeSymbol hl op0 op1 op_3 rx3 zh_2 hv) cf_Taking op0 rfl mf_Taking_takeSymbol q449 ⟨⟨by decide, by decide⟩, rfl, rfl⟩ rfl d_Taking_takeAll_122 rfl (Nat.le_of_ble_eq_true rfl) (fun h_4 zh_4 hv => ?_)
        obtain ⟨v_6, hv⟩ := hv
        refine z_iinc (pc := 125) (q := 3) (lv' := [(3, zi (x3 + 1)), (0, .ref (g.2.2 p0)), (1, .ref (g.2.2 p1)), (2, .ref (g.2.2 p2))]) X d_Taking_takeAll_125 rfl (by decide) rfl ?_
        refine z_goto (pc := 128) (tgt := 86) X d_Taking_takeAll_128 (by decide) ?_
        refine z_perm [1, 2, 3, 0] rfl ?_
        exact hL86 _ hv v_6 zh_4
def F_Taking_takeAll_2 (K : zH → Prop)  (L2 : Int × zH → Prop) (p0 : Nat) (p1 : Nat) (p2 : Nat) (x3 : Int) (h : zH) : Prop :=
  (40 ≤ x3 → ((∀ h_1 : zH, h_1 = zs h (p0 + 5) 0 (h (p1 + 3) 0) → ((∀ h_2 : zH, h_2 = zs h_1 (p0 + 5) 1 (h_1 (p1 + 3) 1) → ((∀ h_3 : zH, h_3 = zs h_2 p0 5 (h_2 p1 4) → ((∀ h_4 : zH, h_4 = zs h_3 p0 6 (-9) → (zLoop (fun L q => F_Taking_takeAll_86 K  L p0 p1 p2 q.1 q.2) (0, h_4))))))))))) ∧ (x3 < 40 → ((0 ≤ x3 ∧ x3 < 40) ∧ (∀ h_6 : zH, h_6 = zs h (p0 + 1) x3.toNat (-9) → ((0 ≤ x3 ∧ x3 < 40) ∧ (∀ h_8 : zH, h_8 = zs h_6 (p0 + 2) x3.toNat (-9) → ((0 ≤ x3 ∧ x3 < 40) ∧ (∀ h_10 : zH, h_10 = zs h_8 (p0 + 3) x3.toNat (-9) → ((0 ≤ x3 ∧ x3 < 40) ∧ (∀ h_12 : zH, h_12 = zs h_10 (p0 + 4) x3.toNat (-9) → (zr (x3 + 1) ∧ (L2 (x3 + 1, h_12))))))))))))
set_option maxRecDepth 100000 in
theorem s_Taking_takeAll_2 {Wf : Heap → List Loc → JFrame → Prop} {m : MethodId} {g : zG} {n : Nat} {H0 : Heap} (X : zX Wf m rm_Taking_takeAll b_Taking_takeAll "AliasStreams$Taking" 4 g n H0) {K : zH → Prop} (E : zEx Wf m b_Taking_takeAll none 4 g n H0 (zPv K))  {p0 : Nat} {p1 : Nat} {p2 : Nat}  (op0 : zO n p0 7) (op1 : zO n p1 8) (op2 : zO n p2 2) {q0 : Int × zH} (hv0 : zLoop (fun L q => F_Taking_takeAll_2 K  L p0 p1 p2 q.1 q.2) q0) : zr q0.1 → zh (q0.2) → zW Wf m 4 g n H0 2 [(0, .ref (g.2.2 p0)), (1, .ref (g.2.2 p1)), (2, .ref (g.2.2 p2)), (3, zi q0.1)] [] (q0.2) := by
  refine zLoop_use (G := fun q => zr q.1 → zh (q.2) → zW Wf m 4 g n H0 2 [(0, .ref (g.2.2 p0)), (1, .ref (g.2.2 p1)), (2, .ref (g.2.2 p2)), (3, zi q.1)] [] (q.2)) ?_ hv0
  rintro L2 ⟨x3, h⟩ hL2 hv rx3 hh
  have hv : F_Taking_takeAll_2 K  L2 p0 p1 p2 x3 h := hv
  unfold F_Taking_takeAll_2 at hv
  show zW Wf m 4 g n H0 2 [(0, .ref (g.2.2 p0)), (1, .ref (g.2.2 p1)), (2, .ref (g.2.2 p2)), (3, zi x3)] [] h
  refine z_iload_n (pc := 2) (q := 3) X d_Taking_takeAll_2 rfl ?_
  refine z_bipush (pc := 3) X d_Taking_takeAll_3 (by decide) ?_
  refine z_icmp_ge (pc := 5) (tgt := 46) X rx3 (show zr 40 from by decide) d_Taking_takeAll_5 (by decide) (fun hc => ?_) (fun hc => ?_)
  · replace hv := hv.1 hc
    refine z_aload_n (pc := 46) (q := 0) X d_Taking_takeAll_46 rfl ?_
    refine z_getr (pc := 47) (j := 4) (dd := 5) X cf_Taking op0 (by decide) q264 rfl rfl d_Taking_takeAll_47 ?_
    refine z_iconst (pc := 50) X d_Taking_takeAll_50 ?_
    refine z_aload_n (pc := 51) (q := 1) X d_Taking_takeAll_51 rfl ?_
    refine z_getrN (pc := 52) (j := 2) (dd := 3) X cf_Tape op1 (by decide) q148 rfl rfl d_Taking_takeAll_52 ?_
    refine z_iconst (pc := 55) X d_Taking_takeAll_55 ?_
    refine z_ialdj (pc := 56) (j := 0) X (gf_Tape_2 op1) (gl_Tape_2 op1) (show zr 0 from by decide) ⟨by decide, by decide⟩ rfl d_Taking_takeAll_56 ?_
    refine z_iastj (pc := 57) (j := 0) X (gf_Taking_4 op0) (gl_Taking_4 op0) (show zr 0 from by decide) ⟨by decide, by decide⟩ rfl d_Taking_takeAll_57 ?_
    refine z_toph (fun h_1 eh_1 => ?_)
    have zh_1 : zh h_1 := by rw [eh_1]; exact zh_set hh (zO.ne (gf_Taking_4 op0) (by decide)) (hh.1 _ _ (zO.ne (gf_Tape_2 op1) (by decide)))
    replace hv := hv h_1 eh_1
    refine z_aload_n (pc := 58) (q := 0) X d_Taking_takeAll_58 rfl ?_
    refine z_getr (pc := 59) (j := 4) (dd := 5) X cf_Taking op0 (by decide) q264 rfl rfl d_Taking_takeAll_59 ?_
    refine z_iconst (pc := 62) X d_Taking_takeAll_62 ?_
    refine z_aload_n (pc := 63) (q := 1) X d_Taking_takeAll_63 rfl ?_
    refine z_getrN (pc := 64) (j := 2) (dd := 3) X cf_Tape op1 (by decide) q148 rfl rfl d_Taking_takeAll_64 ?_
    refine z_iconst (pc := 67) X d_Taking_takeAll_67 ?_
    refine z_ialdj (pc := 68) (j := 1) X (gf_Tape_2 op1) (gl_Tape_2 op1) (show zr 1 from by decide) ⟨by decide, by decide⟩ rfl d_Taking_takeAll_68 ?_
    refine z_iastj (pc := 69) (j := 1) X (gf_Taking_4 op0) (gl_Taking_4 op0) (show zr 1 from by decide) ⟨by decide, by decide⟩ rfl d_Taking_takeAll_69 ?_
    refine z_toph (fun h_2 eh_2 => ?_)
    have zh_2 : zh h_2 := by rw [eh_2]; exact zh_set zh_1 (zO.ne (gf_Taking_4 op0) (by decide)) (zh_1.1 _ _ (zO.ne (gf_Tape_2 op1) (by decide)))
    replace hv := hv h_2 eh_2
    refine z_aload_n (pc := 70) (q := 0) X d_Taking_takeAll_70 rfl ?_
    refine z_aload_n (pc := 71) (q := 1) X d_Taking_takeAll_71 rfl ?_
    refine z_getiN (pc := 72) (j := 4) X cf_Tape op1 (by decide) q154 rfl rfl d_Taking_takeAll_72 ?_
    refine z_put (pc := 75) (j := 5) X cf_Taking op0 (by decide) q265 rfl rfl rfl rfl d_Taking_takeAll_75 ?_
    refine z_toph (fun h_3 eh_3 => ?_)
    have zh_3 : zh h_3 := by rw [eh_3]; exact zh_set zh_2 (zO.ne op0 (by decide)) (zh_2.1 _ _ (zO.ne op1 (by decide)))
    replace hv := hv h_3 eh_3
    refine z_aload_n (pc := 78) (q := 0) X d_Taking_takeAll_78 rfl ?_
    refine z_bipush (pc := 79) X d_Taking_takeAll_79 (by decide) ?_
    refine z_put (pc := 81) (j := 6) X cf_Taking op0 (by decide) q266 rfl rfl rfl rfl d_Taking_takeAll_81 ?_
    refine z_toph (fun h_4 eh_4 => ?_)
    have zh_4 : zh h_4 := by rw [eh_4]; exact zh_set zh_3 (zO.ne op0 (by decide)) (show zr (-9) from by decide)
    replace hv := hv h_4 eh_4
    refine z_iconst (pc := 84) X d_Taking_takeAll_84 ?_
    refine z_istore_n (pc := 85) (lv' := [(3, zi 0), (0, .ref (g.2.2 p0)), (1, .ref (g.2.2 p1)), (2, .ref (g.2.2 p2))]) X d_Taking_takeAll_85 (by decide) rfl ?_
    refine z_perm [1, 2, 3, 0] rfl ?_
    exact s_Taking_takeAll_86 X E  op0 op1 op2 hv (show zr 0 from by decide) zh_4
  · replace hv := hv.2 hc
    refine z_aload_n (pc := 8) (q := 0) X d_Taking_takeAll_8 rfl ?_
    refine z_getr (pc := 9) (j := 0) (dd := 1) X cf_Taking op0 (by decide) q254 rfl rfl d_Taking_takeAll_9 ?_
    refine z_iload_n (pc := 12) (q := 3) X d_Taking_takeAll_12 rfl ?_
    refine z_bipush (pc := 13) X d_Taking_takeAll_13 (by decide) ?_
    obtain ⟨v_5, hv⟩ := hv
    refine z_iastj (pc := 15) (j := x3.toNat) X (gf_Taking_0 op0) (gl_Taking_0 op0) rx3 v_5 rfl d_Taking_takeAll_15 ?_
    refine z_toph (fun h_6 eh_6 => ?_)
    have zh_6 : zh h_6 := by rw [eh_6]; exact zh_set hh (zO.ne (gf_Taking_0 op0) (by decide)) (show zr (-9) from by decide)
    replace hv := hv h_6 eh_6
    refine z_aload_n (pc := 16) (q := 0) X d_Taking_takeAll_16 rfl ?_
    refine z_getr (pc := 17) (j := 1) (dd := 2) X cf_Taking op0 (by decide) q258 rfl rfl d_Taking_takeAll_17 ?_
    refine z_iload_n (pc := 20) (q := 3) X d_Taking_takeAll_20 rfl ?_
    refine z_bipush (pc := 21) X d_Taking_takeAll_21 (by decide) ?_
    obtain ⟨v_7, hv⟩ := hv
    refine z_iastj (pc := 23) (j := x3.toNat) X (gf_Taking_1 op0) (gl_Taking_1 op0) rx3 v_7 rfl d_Taking_takeAll_23 ?_
    refine z_toph (fun h_8 eh_8 => ?_)
    have zh_8 : zh h_8 := by rw [eh_8]; exact zh_set zh_6 (zO.ne (gf_Taking_1 op0) (by decide)) (show zr (-9) from by decide)
    replace hv := hv h_8 eh_8
    refine z_aload_n (pc := 24) (q := 0) X d_Taking_takeAll_24 rfl ?_
    refine z_getr (pc := 25) (j := 2) (dd := 3) X cf_Taking op0 (by decide) q260 rfl rfl d_Taking_takeAll_25 ?_
    refine z_iload_n (pc := 28) (q := 3) X d_Taking_takeAll_28 rfl ?_
    refine z_bipush (pc := 29) X d_Taking_takeAll_29 (by decide) ?_
    obtain ⟨v_9, hv⟩ := hv
    refine z_iastj (pc := 31) (j := x3.toNat) X (gf_Taking_2 op0) (gl_Taking_2 op0) rx3 v_9 rfl d_Taking_takeAll_31 ?_
    refine z_toph (fun h_10 eh_10 => ?_)
    have zh_10 : zh h_10 := by rw [eh_10]; exact zh_set zh_8 (zO.ne (gf_Taking_2 op0) (by decide)) (show zr (-9) from by decide)
    replace hv := hv h_10 eh_10
    refine z_aload_n (pc := 32) (q := 0) X d_Taking_takeAll_32 rfl ?_
    refine z_getr (pc := 33) (j := 3) (dd := 4) X cf_Taking op0 (by decide) q262 rfl rfl d_Taking_takeAll_33 ?_
    refine z_iload_n (pc := 36) (q := 3) X d_Taking_takeAll_36 rfl ?_
    refine z_bipush (pc := 37) X d_Taking_takeAll_37 (by decide) ?_
    obtain ⟨v_11, hv⟩ := hv
    refine z_iastj (pc := 39) (j := x3.toNat) X (gf_Taking_3 op0) (gl_Taking_3 op0) rx3 v_11 rfl d_Taking_takeAll_39 ?_
    refine z_toph (fun h_12 eh_12 => ?_)
    have zh_12 : zh h_12 := by rw [eh_12]; exact zh_set zh_10 (zO.ne (gf_Taking_3 op0) (by decide)) (show zr (-9) from by decide)
    replace hv := hv h_12 eh_12
    obtain ⟨v_13, hv⟩ := hv
    refine z_iinc (pc := 40) (q := 3) (lv' := [(3, zi (x3 + 1)), (0, .ref (g.2.2 p0)), (1, .ref (g.2.2 p1)), (2, .ref (g.2.2 p2))]) X d_Taking_takeAll_40 rfl (by decide) rfl ?_
    refine z_goto (pc := 43) (tgt := 2) X d_Taking_takeAll_43 (by decide) ?_
    refine z_perm [1, 2, 3, 0] rfl ?_
    exact hL2 _ hv v_13 zh_12
def M_Taking_takeAll (p0 : Nat) (p1 : Nat) (p2 : Nat) (h : zH) (K : zH → Prop) : Prop :=
  zLoop (fun L q => F_Taking_takeAll_2 K  L p0 p1 p2 q.1 q.2) (0, h)
set_option maxRecDepth 100000 in
theorem c_Taking_takeAll {l : Launch} (hfl : l.flags = flags0) {g : zG} {n : Nat} {p0 : Nat} {p1 : Nat} {p2 : Nat} (op0 : zO n p0 7) (op1 : zO n p1 8) (op2 : zO n p2 2) {h : zH} (hh : zh h) {K : zH → Prop} (hv : M_Taking_takeAll p0 p1 p2 h K) : zMet l y_Taking_takeAll b_Taking_takeAll 4 none rm_Taking_takeAll g n [.ref (g.2.2 p0), .ref (g.2.2 p1), .ref (g.2.2 p2)] h (zPv K) := by
  refine zMet_of (own := "AliasStreams$Taking") hfl (by decide) rfl (Nat.le_of_ble_eq_true rfl) (fun Wf m H0 X E => ?_)
  unfold M_Taking_takeAll at hv
  show zW Wf m 4 g n H0 0 [(0, .ref (g.2.2 p0)), (1, .ref (g.2.2 p1)), (2, .ref (g.2.2 p2))] [] h
  refine z_iconst (pc := 0) X d_Taking_takeAll_0 ?_
  refine z_istore_n (pc := 1) (lv' := [(3, zi 0), (0, .ref (g.2.2 p0)), (1, .ref (g.2.2 p1)), (2, .ref (g.2.2 p2))]) X d_Taking_takeAll_1 (by decide) rfl ?_
  refine z_perm [1, 2, 3, 0] rfl ?_
  exact s_Taking_takeAll_2 X E  op0 op1 op2 hv (show zr 0 from by decide) hh
theorem d_Taking_countOtherSymbols_0 : decode b_Taking_countOtherSymbols 0 = .ok (.iconst 0, 1) := by decide +kernel
theorem d_Taking_countOtherSymbols_1 : decode b_Taking_countOtherSymbols 1 = .ok (.istore_n 2, 1) := by decide +kernel
theorem d_Taking_countOtherSymbols_2 : decode b_Taking_countOtherSymbols 2 = .ok (.iconst 0, 1) := by decide +kernel
theorem d_Taking_countOtherSymbols_3 : decode b_Taking_countOtherSymbols 3 = .ok (.istore_n 3, 1) := by decide +kernel
theorem d_Taking_countOtherSymbols_4 : decode b_Taking_countOtherSymbols 4 = .ok (.iload_n 3, 1) := by decide +kernel
theorem d_Taking_countOtherSymbols_5 : decode b_Taking_countOtherSymbols 5 = .ok (.bipush 40, 2) := by decide +kernel
theorem d_Taking_countOtherSymbols_7 : decode b_Taking_countOtherSymbols 7 = .ok (.if_icmp .ge 27, 3) := by decide +kernel
theorem d_Taking_countOtherSymbols_10 : decode b_Taking_countOtherSymbols 10 = .ok (.aload_n 0, 1) := by decide +kernel
theorem d_Taking_countOtherSymbols_11 : decode b_Taking_countOtherSymbols 11 = .ok (.getfield 9, 3) := by decide +kernel
theorem d_Taking_countOtherSymbols_14 : decode b_Taking_countOtherSymbols 14 = .ok (.iload_n 3, 1) := by decide +kernel
theorem d_Taking_countOtherSymbols_15 : decode b_Taking_countOtherSymbols 15 = .ok (.iaload, 1) := by decide +kernel
theorem d_Taking_countOtherSymbols_16 : decode b_Taking_countOtherSymbols 16 = .ok (.aload_n 1, 1) := by decide +kernel
theorem d_Taking_countOtherSymbols_17 : decode b_Taking_countOtherSymbols 17 = .ok (.getfield 9, 3) := by decide +kernel
theorem d_Taking_countOtherSymbols_20 : decode b_Taking_countOtherSymbols 20 = .ok (.iload_n 3, 1) := by decide +kernel
theorem d_Taking_countOtherSymbols_21 : decode b_Taking_countOtherSymbols 21 = .ok (.iaload, 1) := by decide +kernel
theorem d_Taking_countOtherSymbols_22 : decode b_Taking_countOtherSymbols 22 = .ok (.if_icmp .eq 6, 3) := by decide +kernel
theorem d_Taking_countOtherSymbols_25 : decode b_Taking_countOtherSymbols 25 = .ok (.iinc 2 1, 3) := by decide +kernel
theorem d_Taking_countOtherSymbols_28 : decode b_Taking_countOtherSymbols 28 = .ok (.iinc 3 1, 3) := by decide +kernel
theorem d_Taking_countOtherSymbols_31 : decode b_Taking_countOtherSymbols 31 = .ok (.goto (-27), 3) := by decide +kernel
theorem d_Taking_countOtherSymbols_34 : decode b_Taking_countOtherSymbols 34 = .ok (.iload_n 2, 1) := by decide +kernel
theorem d_Taking_countOtherSymbols_35 : decode b_Taking_countOtherSymbols 35 = .ok (.ireturn, 1) := by decide +kernel
def rm_Taking_countOtherSymbols : Room := { frames := 0, cells := 0, slots := 0, locals := 0 }
theorem mf_Taking_countOtherSymbols : zMV y_Taking_countOtherSymbols b_Taking_countOtherSymbols 4 (some .int) 1 := ⟨q913, qs55, q10, q914, by decide +kernel⟩
def F_Taking_countOtherSymbols_4 (K : Int → zH → Prop)  (L4 : Int × Int × zH → Prop) (p0 : Nat) (p1 : Nat) (x2 : Int) (x3 : Int) (h : zH) : Prop :=
  (40 ≤ x3 → (K x2 h)) ∧ (x3 < 40 → ((0 ≤ x3 ∧ x3 < 40) ∧ ((0 ≤ x3 ∧ x3 < 40) ∧ ((h (p0 + 1) x3.toNat = h (p1 + 1) x3.toNat → (zr (x3 + 1) ∧ (L4 (x2, x3 + 1, h)))) ∧ (h (p0 + 1) x3.toNat ≠ h (p1 + 1) x3.toNat → (zr (x2 + 1) ∧ (zr (x3 + 1) ∧ (L4 (x2 + 1, x3 + 1, h)))))))))
set_option maxRecDepth 100000 in
theorem s_Taking_countOtherSymbols_4 {Wf : Heap → List Loc → JFrame → Prop} {m : MethodId} {g : zG} {n : Nat} {H0 : Heap} (X : zX Wf m rm_Taking_countOtherSymbols b_Taking_countOtherSymbols "AliasStreams$Taking" 4 g n H0) {K : Int → zH → Prop} (E : zEx Wf m b_Taking_countOtherSymbols (some .int) 4 g n H0 (zPi K))  {p0 : Nat} {p1 : Nat}  (op0 : zO n p0 7) (op1 : zO n p1 7) {q0 : Int × Int × zH} (hv0 : zLoop (fun L q => F_Taking_countOtherSymbols_4 K  L p0 p1 q.1 q.2.1 q.2.2) q0) : zr q0.1 → zr q0.2.1 → zh (q0.2.2) → zW Wf m 4 g n H0 4 [(0, .ref (g.2.2 p0)), (1, .ref (g.2.2 p1)), (2, zi q0.1), (3, zi q0.2.1)] [] (q0.2.2) := by
  refine zLoop_use (G := fun q => zr q.1 → zr q.2.1 → zh (q.2.2) → zW Wf m 4 g n H0 4 [(0, .ref (g.2.2 p0)), (1, .ref (g.2.2 p1)), (2, zi q.1), (3, zi q.2.1)] [] (q.2.2)) ?_ hv0
  rintro L4 ⟨x2, x3, h⟩ hL4 hv rx2 rx3 hh
  have hv : F_Taking_countOtherSymbols_4 K  L4 p0 p1 x2 x3 h := hv
  unfold F_Taking_countOtherSymbols_4 at hv
  show zW Wf m 4 g n H0 4 [(0, .ref (g.2.2 p0)), (1, .ref (g.2.2 p1)), (2, zi x2), (3, zi x3)] [] h
  refine z_iload_n (pc := 4) (q := 3) X d_Taking_countOtherSymbols_4 rfl ?_
  refine z_bipush (pc := 5) X d_Taking_countOtherSymbols_5 (by decide) ?_
  refine z_icmp_ge (pc := 7) (tgt := 34) X rx3 (show zr 40 from by decide) d_Taking_countOtherSymbols_7 (by decide) (fun hc => ?_) (fun hc => ?_)
  · replace hv := hv.1 hc
    refine z_iload_n (pc := 34) (q := 2) X d_Taking_countOtherSymbols_34 rfl ?_
    exact E.2.1 rfl _ _ _ _ d_Taking_countOtherSymbols_35 ⟨_, rfl, rx2, hh, hv⟩
  · replace hv := hv.2 hc
    refine z_aload_n (pc := 10) (q := 0) X d_Taking_countOtherSymbols_10 rfl ?_
    refine z_getr (pc := 11) (j := 0) (dd := 1) X cf_Taking op0 (by decide) q254 rfl rfl d_Taking_countOtherSymbols_11 ?_
    refine z_iload_n (pc := 14) (q := 3) X d_Taking_countOtherSymbols_14 rfl ?_
    obtain ⟨v_1, hv⟩ := hv
    refine z_ialdj (pc := 15) (j := x3.toNat) X (gf_Taking_0 op0) (gl_Taking_0 op0) rx3 v_1 rfl d_Taking_countOtherSymbols_15 ?_
    refine z_aload_n (pc := 16) (q := 1) X d_Taking_countOtherSymbols_16 rfl ?_
    refine z_getr (pc := 17) (j := 0) (dd := 1) X cf_Taking op1 (by decide) q254 rfl rfl d_Taking_countOtherSymbols_17 ?_
    refine z_iload_n (pc := 20) (q := 3) X d_Taking_countOtherSymbols_20 rfl ?_
    obtain ⟨v_2, hv⟩ := hv
    refine z_ialdj (pc := 21) (j := x3.toNat) X (gf_Taking_0 op1) (gl_Taking_0 op1) rx3 v_2 rfl d_Taking_countOtherSymbols_21 ?_
    refine z_icmp_eq (pc := 22) (tgt := 28) X (hh.1 _ _ (zO.ne (gf_Taking_0 op0) (by decide))) (hh.1 _ _ (zO.ne (gf_Taking_0 op1) (by decide))) d_Taking_countOtherSymbols_22 (by decide) (fun hc => ?_) (fun hc => ?_)
    · replace hv := hv.1 hc
      obtain ⟨v_3, hv⟩ := hv
      refine z_iinc (pc := 28) (q := 3) (lv' := [(3, zi (x3 + 1)), (0, .ref (g.2.2 p0)), (1, .ref (g.2.2 p1)), (2, zi x2)]) X d_Taking_countOtherSymbols_28 rfl (by decide) rfl ?_
      refine z_goto (pc := 31) (tgt := 4) X d_Taking_countOtherSymbols_31 (by decide) ?_
      refine z_perm [1, 2, 3, 0] rfl ?_
      exact hL4 _ hv rx2 v_3 hh
    · replace hv := hv.2 hc
      obtain ⟨v_4, hv⟩ := hv
      refine z_iinc (pc := 25) (q := 2) (lv' := [(2, zi (x2 + 1)), (0, .ref (g.2.2 p0)), (1, .ref (g.2.2 p1)), (3, zi x3)]) X d_Taking_countOtherSymbols_25 rfl (by decide) rfl ?_
      obtain ⟨v_5, hv⟩ := hv
      refine z_iinc (pc := 28) (q := 3) (lv' := [(3, zi (x3 + 1)), (2, zi (x2 + 1)), (0, .ref (g.2.2 p0)), (1, .ref (g.2.2 p1))]) X d_Taking_countOtherSymbols_28 rfl (by decide) rfl ?_
      refine z_goto (pc := 31) (tgt := 4) X d_Taking_countOtherSymbols_31 (by decide) ?_
      refine z_perm [2, 3, 1, 0] rfl ?_
      exact hL4 _ hv v_4 v_5 hh
def M_Taking_countOtherSymbols (p0 : Nat) (p1 : Nat) (h : zH) (K : Int → zH → Prop) : Prop :=
  zLoop (fun L q => F_Taking_countOtherSymbols_4 K  L p0 p1 q.1 q.2.1 q.2.2) (0, 0, h)
set_option maxRecDepth 100000 in
theorem c_Taking_countOtherSymbols {l : Launch} (hfl : l.flags = flags0) {g : zG} {n : Nat} {p0 : Nat} {p1 : Nat} (op0 : zO n p0 7) (op1 : zO n p1 7) {h : zH} (hh : zh h) {K : Int → zH → Prop} (hv : M_Taking_countOtherSymbols p0 p1 h K) : zMet l y_Taking_countOtherSymbols b_Taking_countOtherSymbols 4 (some .int) rm_Taking_countOtherSymbols g n [.ref (g.2.2 p0), .ref (g.2.2 p1)] h (zPi K) := by
  refine zMet_of (own := "AliasStreams$Taking") hfl (by decide) rfl (Nat.le_of_ble_eq_true rfl) (fun Wf m H0 X E => ?_)
  unfold M_Taking_countOtherSymbols at hv
  show zW Wf m 4 g n H0 0 [(0, .ref (g.2.2 p0)), (1, .ref (g.2.2 p1))] [] h
  refine z_iconst (pc := 0) X d_Taking_countOtherSymbols_0 ?_
  refine z_istore_n (pc := 1) (lv' := [(2, zi 0), (0, .ref (g.2.2 p0)), (1, .ref (g.2.2 p1))]) X d_Taking_countOtherSymbols_1 (by decide) rfl ?_
  refine z_iconst (pc := 2) X d_Taking_countOtherSymbols_2 ?_
  refine z_istore_n (pc := 3) (lv' := [(3, zi 0), (2, zi 0), (0, .ref (g.2.2 p0)), (1, .ref (g.2.2 p1))]) X d_Taking_countOtherSymbols_3 (by decide) rfl ?_
  refine z_perm [2, 3, 1, 0] rfl ?_
  exact s_Taking_countOtherSymbols_4 X E  op0 op1 hv (show zr 0 from by decide) (show zr 0 from by decide) hh
theorem d_Script_addLast_0 : decode b_Script_addLast 0 = .ok (.aload_n 2, 1) := by decide +kernel
theorem d_Script_addLast_1 : decode b_Script_addLast 1 = .ok (.iload_n 1, 1) := by decide +kernel
theorem d_Script_addLast_2 : decode b_Script_addLast 2 = .ok (.invokevirtual 85, 3) := by decide +kernel
theorem d_Script_addLast_5 : decode b_Script_addLast 5 = .ok (.ifCond .eq 15, 3) := by decide +kernel
theorem d_Script_addLast_8 : decode b_Script_addLast 8 = .ok (.aload_n 0, 1) := by decide +kernel
theorem d_Script_addLast_9 : decode b_Script_addLast 9 = .ok (.getfield 12, 3) := by decide +kernel
theorem d_Script_addLast_12 : decode b_Script_addLast 12 = .ok (.getfield 90, 3) := by decide +kernel
theorem d_Script_addLast_15 : decode b_Script_addLast 15 = .ok (.bipush 40, 2) := by decide +kernel
theorem d_Script_addLast_17 : decode b_Script_addLast 17 = .ok (.if_icmp .lt 5, 3) := by decide +kernel
theorem d_Script_addLast_20 : decode b_Script_addLast 20 = .ok (.iconst 0, 1) := by decide +kernel
theorem d_Script_addLast_21 : decode b_Script_addLast 21 = .ok (.ireturn, 1) := by decide +kernel
theorem d_Script_addLast_22 : decode b_Script_addLast 22 = .ok (.aload_n 0, 1) := by decide +kernel
theorem d_Script_addLast_23 : decode b_Script_addLast 23 = .ok (.getfield 12, 3) := by decide +kernel
theorem d_Script_addLast_26 : decode b_Script_addLast 26 = .ok (.aload_n 0, 1) := by decide +kernel
theorem d_Script_addLast_27 : decode b_Script_addLast 27 = .ok (.getfield 12, 3) := by decide +kernel
theorem d_Script_addLast_30 : decode b_Script_addLast 30 = .ok (.getfield 90, 3) := by decide +kernel
theorem d_Script_addLast_33 : decode b_Script_addLast 33 = .ok (.iload_n 1, 1) := by decide +kernel
theorem d_Script_addLast_34 : decode b_Script_addLast 34 = .ok (.invokevirtual 93, 3) := by decide +kernel
theorem d_Script_addLast_37 : decode b_Script_addLast 37 = .ok (.iconst 1, 1) := by decide +kernel
theorem d_Script_addLast_38 : decode b_Script_addLast 38 = .ok (.ireturn, 1) := by decide +kernel
def rm_Script_addLast : Room := { frames := 2, cells := 0, slots := 0, locals := 42 }
theorem mf_Script_addLast : zMV y_Script_addLast b_Script_addLast 3 (some .boolean) 2 := ⟨q942, qs58, q11, q943, by decide +kernel⟩
def M_Script_addLast (p0 : Nat) (x1 : Int) (p2 : Nat) (h : zH) (K : Int → zH → Prop) : Prop :=
  M_Models_allowItem p2 x1 h (fun r_2 h_1 => (r_2 = 0 → (K 0 h_1)) ∧ (r_2 ≠ 0 → ((h_1 (p0 + 1) 3 < 40 → (M_State_addItem (p0 + 1) (h_1 (p0 + 1) 3) x1 h_1 (fun h_3 => K 1 h_3))) ∧ (40 ≤ h_1 (p0 + 1) 3 → (K 0 h_1)))))
set_option maxRecDepth 100000 in
theorem c_Script_addLast {l : Launch} (hfl : l.flags = flags0) {g : zG} {n : Nat} {p0 : Nat} {x1 : Int} {p2 : Nat} (op0 : zO n p0 4) (rx1 : zr x1) (op2 : zO n p2 2) {h : zH} (hh : zh h) {K : Int → zH → Prop} (hv : M_Script_addLast p0 x1 p2 h K) : zMet l y_Script_addLast b_Script_addLast 3 (some .boolean) rm_Script_addLast g n [.ref (g.2.2 p0), zi x1, .ref (g.2.2 p2)] h (zPi K) := by
  refine zMet_of (own := "AliasStreams$Script") hfl (by decide) rfl (Nat.le_of_ble_eq_true rfl) (fun Wf m H0 X E => ?_)
  unfold M_Script_addLast at hv
  show zW Wf m 3 g n H0 0 [(0, .ref (g.2.2 p0)), (1, zi x1), (2, .ref (g.2.2 p2))] [] h
  refine z_aload_n (pc := 0) (q := 2) X d_Script_addLast_0 rfl ?_
  refine z_iload_n (pc := 1) (q := 1) X d_Script_addLast_1 rfl ?_
  refine z_callVNi (pc := 2) (As := [zi x1]) (rest := []) X (fun l hl => c_Models_allowItem hl op2 rx1 hh hv) cf_Models op2 rfl mf_Models_allowItem q944 ⟨⟨by decide, by decide⟩, rfl, rfl⟩ rfl d_Script_addLast_2 rfl (Nat.le_of_ble_eq_true rfl) (fun r_2 h_1 rr_2 zh_1 hv => ?_)
  refine z_if_eq (pc := 5) (tgt := 20) X rr_2 d_Script_addLast_5 (by decide) (fun hc => ?_) (fun hc => ?_)
  · replace hv := hv.1 hc
    refine z_iconst (pc := 20) X d_Script_addLast_20 ?_
    exact E.2.2.1 rfl _ _ _ _ (by decide) d_Script_addLast_21 ⟨_, rfl, (show zr 0 from by decide), zh_1, hv⟩
  · replace hv := hv.2 hc
    refine z_aload_n (pc := 8) (q := 0) X d_Script_addLast_8 rfl ?_
    refine z_getr (pc := 9) (j := 0) (dd := 1) X cf_Script op0 (by decide) q303 rfl rfl d_Script_addLast_9 ?_
    refine z_getiN (pc := 12) (j := 3) X cf_State (gf_Script_0 op0) (by decide) q179 rfl rfl d_Script_addLast_12 ?_
    refine z_bipush (pc := 15) X d_Script_addLast_15 (by decide) ?_
    refine z_icmp_lt (pc := 17) (tgt := 22) X (zh_1.1 _ _ (zO.ne (gf_Script_0 op0) (by decide))) (show zr 40 from by decide) d_Script_addLast_17 (by decide) (fun hc => ?_) (fun hc => ?_)
    · replace hv := hv.1 hc
      refine z_aload_n (pc := 22) (q := 0) X d_Script_addLast_22 rfl ?_
      refine z_getr (pc := 23) (j := 0) (dd := 1) X cf_Script op0 (by decide) q303 rfl rfl d_Script_addLast_23 ?_
      refine z_aload_n (pc := 26) (q := 0) X d_Script_addLast_26 rfl ?_
      refine z_getr (pc := 27) (j := 0) (dd := 1) X cf_Script op0 (by decide) q303 rfl rfl d_Script_addLast_27 ?_
      refine z_getiN (pc := 30) (j := 3) X cf_State (gf_Script_0 op0) (by decide) q179 rfl rfl d_Script_addLast_30 ?_
      refine z_iload_n (pc := 33) (q := 1) X d_Script_addLast_33 rfl ?_
      refine z_callVNv (pc := 34) (As := [zi (h_1 (p0 + 1) 3), zi x1]) (rest := []) X (fun l hl => c_State_addItem hl (gf_Script_0 op0) (zh_1.1 _ _ (zO.ne (gf_Script_0 op0) (by decide))) rx1 zh_1 hv) cf_State (gf_Script_0 op0) rfl mf_State_addItem q945 ⟨⟨by decide, by decide⟩, rfl, rfl⟩ rfl d_Script_addLast_34 rfl (Nat.le_of_ble_eq_true rfl) (fun h_3 zh_3 hv => ?_)
      refine z_iconst (pc := 37) X d_Script_addLast_37 ?_
      exact E.2.2.1 rfl _ _ _ _ (by decide) d_Script_addLast_38 ⟨_, rfl, (show zr 1 from by decide), zh_3, hv⟩
    · replace hv := hv.2 hc
      refine z_iconst (pc := 20) X d_Script_addLast_20 ?_
      exact E.2.2.1 rfl _ _ _ _ (by decide) d_Script_addLast_21 ⟨_, rfl, (show zr 0 from by decide), zh_1, hv⟩
theorem d_Script_dropOne_0 : decode b_Script_dropOne 0 = .ok (.aload_n 0, 1) := by decide +kernel
theorem d_Script_dropOne_1 : decode b_Script_dropOne 1 = .ok (.getfield 12, 3) := by decide +kernel
theorem d_Script_dropOne_4 : decode b_Script_dropOne 4 = .ok (.iload_n 1, 1) := by decide +kernel
theorem d_Script_dropOne_5 : decode b_Script_dropOne 5 = .ok (.invokevirtual 97, 3) := by decide +kernel
theorem d_Script_dropOne_8 : decode b_Script_dropOne 8 = .ok (.ifCond .ne 5, 3) := by decide +kernel
theorem d_Script_dropOne_11 : decode b_Script_dropOne 11 = .ok (.iconst 0, 1) := by decide +kernel
theorem d_Script_dropOne_12 : decode b_Script_dropOne 12 = .ok (.ireturn, 1) := by decide +kernel
theorem d_Script_dropOne_13 : decode b_Script_dropOne 13 = .ok (.aload_n 0, 1) := by decide +kernel
theorem d_Script_dropOne_14 : decode b_Script_dropOne 14 = .ok (.getfield 12, 3) := by decide +kernel
theorem d_Script_dropOne_17 : decode b_Script_dropOne 17 = .ok (.iload_n 1, 1) := by decide +kernel
theorem d_Script_dropOne_18 : decode b_Script_dropOne 18 = .ok (.invokevirtual 100, 3) := by decide +kernel
theorem d_Script_dropOne_21 : decode b_Script_dropOne 21 = .ok (.iconst 1, 1) := by decide +kernel
theorem d_Script_dropOne_22 : decode b_Script_dropOne 22 = .ok (.ireturn, 1) := by decide +kernel
def rm_Script_dropOne : Room := { frames := 2, cells := 0, slots := 0, locals := 43 }
theorem mf_Script_dropOne : zMV y_Script_dropOne b_Script_dropOne 2 (some .boolean) 1 := ⟨q948, qs59, q11, q949, by decide +kernel⟩
def M_Script_dropOne (p0 : Nat) (x1 : Int) (h : zH) (K : Int → zH → Prop) : Prop :=
  M_State_hasItem (p0 + 1) x1 h (fun r_2 h_1 => (r_2 ≠ 0 → (M_State_dropItem (p0 + 1) x1 h_1 (fun h_3 => K 1 h_3))) ∧ (r_2 = 0 → (K 0 h_1)))
set_option maxRecDepth 100000 in
theorem c_Script_dropOne {l : Launch} (hfl : l.flags = flags0) {g : zG} {n : Nat} {p0 : Nat} {x1 : Int} (op0 : zO n p0 4) (rx1 : zr x1) {h : zH} (hh : zh h) {K : Int → zH → Prop} (hv : M_Script_dropOne p0 x1 h K) : zMet l y_Script_dropOne b_Script_dropOne 2 (some .boolean) rm_Script_dropOne g n [.ref (g.2.2 p0), zi x1] h (zPi K) := by
  refine zMet_of (own := "AliasStreams$Script") hfl (by decide) rfl (Nat.le_of_ble_eq_true rfl) (fun Wf m H0 X E => ?_)
  unfold M_Script_dropOne at hv
  show zW Wf m 2 g n H0 0 [(0, .ref (g.2.2 p0)), (1, zi x1)] [] h
  refine z_aload_n (pc := 0) (q := 0) X d_Script_dropOne_0 rfl ?_
  refine z_getr (pc := 1) (j := 0) (dd := 1) X cf_Script op0 (by decide) q303 rfl rfl d_Script_dropOne_1 ?_
  refine z_iload_n (pc := 4) (q := 1) X d_Script_dropOne_4 rfl ?_
  refine z_callVNi (pc := 5) (As := [zi x1]) (rest := []) X (fun l hl => c_State_hasItem hl (gf_Script_0 op0) rx1 hh hv) cf_State (gf_Script_0 op0) rfl mf_State_hasItem q950 ⟨⟨by decide, by decide⟩, rfl, rfl⟩ rfl d_Script_dropOne_5 rfl (Nat.le_of_ble_eq_true rfl) (fun r_2 h_1 rr_2 zh_1 hv => ?_)
  refine z_if_ne (pc := 8) (tgt := 13) X rr_2 d_Script_dropOne_8 (by decide) (fun hc => ?_) (fun hc => ?_)
  · replace hv := hv.1 hc
    refine z_aload_n (pc := 13) (q := 0) X d_Script_dropOne_13 rfl ?_
    refine z_getr (pc := 14) (j := 0) (dd := 1) X cf_Script op0 (by decide) q303 rfl rfl d_Script_dropOne_14 ?_
    refine z_iload_n (pc := 17) (q := 1) X d_Script_dropOne_17 rfl ?_
    refine z_callVNv (pc := 18) (As := [zi x1]) (rest := []) X (fun l hl => c_State_dropItem hl (gf_Script_0 op0) rx1 zh_1 hv) cf_State (gf_Script_0 op0) rfl mf_State_dropItem q951 ⟨⟨by decide, by decide⟩, rfl, rfl⟩ rfl d_Script_dropOne_18 rfl (Nat.le_of_ble_eq_true rfl) (fun h_3 zh_3 hv => ?_)
    refine z_iconst (pc := 21) X d_Script_dropOne_21 ?_
    exact E.2.2.1 rfl _ _ _ _ (by decide) d_Script_dropOne_22 ⟨_, rfl, (show zr 1 from by decide), zh_3, hv⟩
  · replace hv := hv.2 hc
    refine z_iconst (pc := 11) X d_Script_dropOne_11 ?_
    exact E.2.2.1 rfl _ _ _ _ (by decide) d_Script_dropOne_12 ⟨_, rfl, (show zr 0 from by decide), zh_1, hv⟩
theorem d_Script_fillTape_0 : decode b_Script_fillTape 0 = .ok (.aload_n 0, 1) := by decide +kernel
theorem d_Script_fillTape_1 : decode b_Script_fillTape 1 = .ok (.getfield 21, 3) := by decide +kernel
theorem d_Script_fillTape_4 : decode b_Script_fillTape 4 = .ok (.aload_n 0, 1) := by decide +kernel
theorem d_Script_fillTape_5 : decode b_Script_fillTape 5 = .ok (.getfield 12, 3) := by decide +kernel
theorem d_Script_fillTape_8 : decode b_Script_fillTape 8 = .ok (.invokevirtual 104, 3) := by decide +kernel
theorem d_Script_fillTape_11 : decode b_Script_fillTape 11 = .ok (.aload_n 0, 1) := by decide +kernel
theorem d_Script_fillTape_12 : decode b_Script_fillTape 12 = .ok (.getfield 21, 3) := by decide +kernel
theorem d_Script_fillTape_15 : decode b_Script_fillTape 15 = .ok (.aload_n 1, 1) := by decide +kernel
theorem d_Script_fillTape_16 : decode b_Script_fillTape 16 = .ok (.invokevirtual 107, 3) := by decide +kernel
theorem d_Script_fillTape_19 : decode b_Script_fillTape 19 = .ok (.bipush (-9), 2) := by decide +kernel
theorem d_Script_fillTape_21 : decode b_Script_fillTape 21 = .ok (.if_icmp .eq 5, 3) := by decide +kernel
theorem d_Script_fillTape_24 : decode b_Script_fillTape 24 = .ok (.iconst 0, 1) := by decide +kernel
theorem d_Script_fillTape_25 : decode b_Script_fillTape 25 = .ok (.ireturn, 1) := by decide +kernel
theorem d_Script_fillTape_26 : decode b_Script_fillTape 26 = .ok (.aload_n 0, 1) := by decide +kernel
theorem d_Script_fillTape_27 : decode b_Script_fillTape 27 = .ok (.getfield 12, 3) := by decide +kernel
theorem d_Script_fillTape_30 : decode b_Script_fillTape 30 = .ok (.getfield 68, 3) := by decide +kernel
theorem d_Script_fillTape_33 : decode b_Script_fillTape 33 = .ok (.aload_n 0, 1) := by decide +kernel
theorem d_Script_fillTape_34 : decode b_Script_fillTape 34 = .ok (.getfield 21, 3) := by decide +kernel
theorem d_Script_fillTape_37 : decode b_Script_fillTape 37 = .ok (.aload_n 1, 1) := by decide +kernel
theorem d_Script_fillTape_38 : decode b_Script_fillTape 38 = .ok (.invokevirtual 111, 3) := by decide +kernel
theorem d_Script_fillTape_41 : decode b_Script_fillTape 41 = .ok (.iconst 1, 1) := by decide +kernel
theorem d_Script_fillTape_42 : decode b_Script_fillTape 42 = .ok (.ireturn, 1) := by decide +kernel
def rm_Script_fillTape : Room := { frames := 3, cells := 0, slots := 0, locals := 72 }
theorem mf_Script_fillTape : zMV y_Script_fillTape b_Script_fillTape 2 (some .boolean) 1 := ⟨q954, qs60, q11, q955, by decide +kernel⟩
def M_Script_fillTape (p0 : Nat) (p1 : Nat) (h : zH) (K : Int → zH → Prop) : Prop :=
  M_Symbols_list (p0 + 8) (p0 + 1) h (fun h_1 => M_Symbols_firstUnfit (p0 + 8) p1 h_1 (fun r_4 h_3 => (r_4 = (-9) → (M_Tape_fill ((p0 + 1) + 3) (p0 + 8) p1 h_3 (fun h_5 => K 1 h_5))) ∧ (r_4 ≠ (-9) → (K 0 h_3))))
set_option maxRecDepth 100000 in
theorem c_Script_fillTape {l : Launch} (hfl : l.flags = flags0) {g : zG} {n : Nat} {p0 : Nat} {p1 : Nat} (op0 : zO n p0 4) (op1 : zO n p1 2) {h : zH} (hh : zh h) {K : Int → zH → Prop} (hv : M_Script_fillTape p0 p1 h K) : zMet l y_Script_fillTape b_Script_fillTape 2 (some .boolean) rm_Script_fillTape g n [.ref (g.2.2 p0), .ref (g.2.2 p1)] h (zPi K) := by
  refine zMet_of (own := "AliasStreams$Script") hfl (by decide) rfl (Nat.le_of_ble_eq_true rfl) (fun Wf m H0 X E => ?_)
  unfold M_Script_fillTape at hv
  show zW Wf m 2 g n H0 0 [(0, .ref (g.2.2 p0)), (1, .ref (g.2.2 p1))] [] h
  refine z_aload_n (pc := 0) (q := 0) X d_Script_fillTape_0 rfl ?_
  refine z_getr (pc := 1) (j := 1) (dd := 8) X cf_Script op0 (by decide) q304 rfl rfl d_Script_fillTape_1 ?_
  refine z_aload_n (pc := 4) (q := 0) X d_Script_fillTape_4 rfl ?_
  refine z_getr (pc := 5) (j := 0) (dd := 1) X cf_Script op0 (by decide) q303 rfl rfl d_Script_fillTape_5 ?_
  refine z_callVNv (pc := 8) (As := [.ref (g.2.2 (p0 + 1))]) (rest := []) X (fun l hl => c_Symbols_list hl (gf_Script_1 op0) (gf_Script_0 op0) hh hv) cf_Symbols (gf_Script_1 op0) rfl mf_Symbols_list q956 ⟨⟨by decide, by decide⟩, rfl, rfl⟩ rfl d_Script_fillTape_8 rfl (Nat.le_of_ble_eq_true rfl) (fun h_1 zh_1 hv => ?_)
  refine z_aload_n (pc := 11) (q := 0) X d_Script_fillTape_11 rfl ?_
  refine z_getr (pc := 12) (j := 1) (dd := 8) X cf_Script op0 (by decide) q304 rfl rfl d_Script_fillTape_12 ?_
  refine z_aload_n (pc := 15) (q := 1) X d_Script_fillTape_15 rfl ?_
  refine z_callVNi (pc := 16) (As := [.ref (g.2.2 p1)]) (rest := []) X (fun l hl => c_Symbols_firstUnfit hl (gf_Script_1 op0) op1 zh_1 hv) cf_Symbols (gf_Script_1 op0) rfl mf_Symbols_firstUnfit q957 ⟨⟨by decide, by decide⟩, rfl, rfl⟩ rfl d_Script_fillTape_16 rfl (Nat.le_of_ble_eq_true rfl) (fun r_4 h_3 rr_4 zh_3 hv => ?_)
  refine z_bipush (pc := 19) X d_Script_fillTape_19 (by decide) ?_
  refine z_icmp_eq (pc := 21) (tgt := 26) X rr_4 (show zr (-9) from by decide) d_Script_fillTape_21 (by decide) (fun hc => ?_) (fun hc => ?_)
  · replace hv := hv.1 hc
    refine z_aload_n (pc := 26) (q := 0) X d_Script_fillTape_26 rfl ?_
    refine z_getr (pc := 27) (j := 0) (dd := 1) X cf_Script op0 (by decide) q303 rfl rfl d_Script_fillTape_27 ?_
    refine z_getrN (pc := 30) (j := 2) (dd := 3) X cf_State (gf_Script_0 op0) (by decide) q175 rfl rfl d_Script_fillTape_30 ?_
    refine z_aload_n (pc := 33) (q := 0) X d_Script_fillTape_33 rfl ?_
    refine z_getr (pc := 34) (j := 1) (dd := 8) X cf_Script op0 (by decide) q304 rfl rfl d_Script_fillTape_34 ?_
    refine z_aload_n (pc := 37) (q := 1) X d_Script_fillTape_37 rfl ?_
    refine z_callVNv (pc := 38) (As := [.ref (g.2.2 (p0 + 8)), .ref (g.2.2 p1)]) (rest := []) X (fun l hl => c_Tape_fill hl (gf_State_2 (gf_Script_0 op0)) (gf_Script_1 op0) op1 zh_3 hv) cf_Tape (gf_State_2 (gf_Script_0 op0)) rfl mf_Tape_fill q958 ⟨⟨by decide, by decide⟩, rfl, rfl⟩ rfl d_Script_fillTape_38 rfl (Nat.le_of_ble_eq_true rfl) (fun h_5 zh_5 hv => ?_)
    refine z_iconst (pc := 41) X d_Script_fillTape_41 ?_
    exact E.2.2.1 rfl _ _ _ _ (by decide) d_Script_fillTape_42 ⟨_, rfl, (show zr 1 from by decide), zh_5, hv⟩
  · replace hv := hv.2 hc
    refine z_iconst (pc := 24) X d_Script_fillTape_24 ?_
    exact E.2.2.1 rfl _ _ _ _ (by decide) d_Script_fillTape_25 ⟨_, rfl, (show zr 0 from by decide), zh_3, hv⟩
theorem d_Script_takeMessage_0 : decode b_Script_takeMessage 0 = .ok (.aload_n 0, 1) := by decide +kernel
theorem d_Script_takeMessage_1 : decode b_Script_takeMessage 1 = .ok (.getfield 28, 3) := by decide +kernel
theorem d_Script_takeMessage_4 : decode b_Script_takeMessage 4 = .ok (.aload_n 0, 1) := by decide +kernel
theorem d_Script_takeMessage_5 : decode b_Script_takeMessage 5 = .ok (.getfield 12, 3) := by decide +kernel
theorem d_Script_takeMessage_8 : decode b_Script_takeMessage 8 = .ok (.getfield 68, 3) := by decide +kernel
theorem d_Script_takeMessage_11 : decode b_Script_takeMessage 11 = .ok (.aload_n 1, 1) := by decide +kernel
theorem d_Script_takeMessage_12 : decode b_Script_takeMessage 12 = .ok (.invokevirtual 115, 3) := by decide +kernel
theorem d_Script_takeMessage_15 : decode b_Script_takeMessage 15 = .ok (.aload_n 0, 1) := by decide +kernel
theorem d_Script_takeMessage_16 : decode b_Script_takeMessage 16 = .ok (.getfield 28, 3) := by decide +kernel
theorem d_Script_takeMessage_19 : decode b_Script_takeMessage 19 = .ok (.getfield 119, 3) := by decide +kernel
theorem d_Script_takeMessage_22 : decode b_Script_takeMessage 22 = .ok (.bipush (-9), 2) := by decide +kernel
theorem d_Script_takeMessage_24 : decode b_Script_takeMessage 24 = .ok (.if_icmp .ne 18, 3) := by decide +kernel
theorem d_Script_takeMessage_27 : decode b_Script_takeMessage 27 = .ok (.aload_n 0, 1) := by decide +kernel
theorem d_Script_takeMessage_28 : decode b_Script_takeMessage 28 = .ok (.getfield 12, 3) := by decide +kernel
theorem d_Script_takeMessage_31 : decode b_Script_takeMessage 31 = .ok (.getfield 68, 3) := by decide +kernel
theorem d_Script_takeMessage_34 : decode b_Script_takeMessage 34 = .ok (.invokevirtual 122, 3) := by decide +kernel
theorem d_Script_takeMessage_37 : decode b_Script_takeMessage 37 = .ok (.bipush 40, 2) := by decide +kernel
theorem d_Script_takeMessage_39 : decode b_Script_takeMessage 39 = .ok (.if_icmp .le 5, 3) := by decide +kernel
theorem d_Script_takeMessage_42 : decode b_Script_takeMessage 42 = .ok (.iconst 0, 1) := by decide +kernel
theorem d_Script_takeMessage_43 : decode b_Script_takeMessage 43 = .ok (.ireturn, 1) := by decide +kernel
theorem d_Script_takeMessage_44 : decode b_Script_takeMessage 44 = .ok (.aload_n 0, 1) := by decide +kernel
theorem d_Script_takeMessage_45 : decode b_Script_takeMessage 45 = .ok (.getfield 12, 3) := by decide +kernel
theorem d_Script_takeMessage_48 : decode b_Script_takeMessage 48 = .ok (.aload_n 0, 1) := by decide +kernel
theorem d_Script_takeMessage_49 : decode b_Script_takeMessage 49 = .ok (.getfield 28, 3) := by decide +kernel
theorem d_Script_takeMessage_52 : decode b_Script_takeMessage 52 = .ok (.invokevirtual 126, 3) := by decide +kernel
theorem d_Script_takeMessage_55 : decode b_Script_takeMessage 55 = .ok (.iconst 1, 1) := by decide +kernel
theorem d_Script_takeMessage_56 : decode b_Script_takeMessage 56 = .ok (.ireturn, 1) := by decide +kernel
def rm_Script_takeMessage : Room := { frames := 3, cells := 0, slots := 0, locals := 71 }
theorem mf_Script_takeMessage : zMV y_Script_takeMessage b_Script_takeMessage 2 (some .boolean) 1 := ⟨q961, qs61, q11, q962, by decide +kernel⟩
def M_Script_takeMessage (p0 : Nat) (p1 : Nat) (h : zH) (K : Int → zH → Prop) : Prop :=
  M_Taking_takeAll (p0 + 11) ((p0 + 1) + 3) p1 h (fun h_1 => (h_1 (p0 + 11) 6 ≠ (-9) → (K 0 h_1)) ∧ (h_1 (p0 + 11) 6 = (-9) → (M_Tape_itemsNeeded ((p0 + 1) + 3) h_1 (fun r_4 h_3 => (r_4 ≤ 40 → (M_State_takeMessage (p0 + 1) (p0 + 11) h_3 (fun h_5 => K 1 h_5))) ∧ (40 < r_4 → (K 0 h_3))))))
set_option maxRecDepth 100000 in
theorem c_Script_takeMessage {l : Launch} (hfl : l.flags = flags0) {g : zG} {n : Nat} {p0 : Nat} {p1 : Nat} (op0 : zO n p0 4) (op1 : zO n p1 2) {h : zH} (hh : zh h) {K : Int → zH → Prop} (hv : M_Script_takeMessage p0 p1 h K) : zMet l y_Script_takeMessage b_Script_takeMessage 2 (some .boolean) rm_Script_takeMessage g n [.ref (g.2.2 p0), .ref (g.2.2 p1)] h (zPi K) := by
  refine zMet_of (own := "AliasStreams$Script") hfl (by decide) rfl (Nat.le_of_ble_eq_true rfl) (fun Wf m H0 X E => ?_)
  unfold M_Script_takeMessage at hv
  show zW Wf m 2 g n H0 0 [(0, .ref (g.2.2 p0)), (1, .ref (g.2.2 p1))] [] h
  refine z_aload_n (pc := 0) (q := 0) X d_Script_takeMessage_0 rfl ?_
  refine z_getr (pc := 1) (j := 2) (dd := 11) X cf_Script op0 (by decide) q305 rfl rfl d_Script_takeMessage_1 ?_
  refine z_aload_n (pc := 4) (q := 0) X d_Script_takeMessage_4 rfl ?_
  refine z_getr (pc := 5) (j := 0) (dd := 1) X cf_Script op0 (by decide) q303 rfl rfl d_Script_takeMessage_5 ?_
  refine z_getrN (pc := 8) (j := 2) (dd := 3) X cf_State (gf_Script_0 op0) (by decide) q175 rfl rfl d_Script_takeMessage_8 ?_
  refine z_aload_n (pc := 11) (q := 1) X d_Script_takeMessage_11 rfl ?_
  refine z_callVNv (pc := 12) (As := [.ref (g.2.2 ((p0 + 1) + 3)), .ref (g.2.2 p1)]) (rest := []) X (fun l hl => c_Taking_takeAll hl (gf_Script_2 op0) (gf_State_2 (gf_Script_0 op0)) op1 hh hv) cf_Taking (gf_Script_2 op0) rfl mf_Taking_takeAll q963 ⟨⟨by decide, by decide⟩, rfl, rfl⟩ rfl d_Script_takeMessage_12 rfl (Nat.le_of_ble_eq_true rfl) (fun h_1 zh_1 hv => ?_)
  refine z_aload_n (pc := 15) (q := 0) X d_Script_takeMessage_15 rfl ?_
  refine z_getr (pc := 16) (j := 2) (dd := 11) X cf_Script op0 (by decide) q305 rfl rfl d_Script_takeMessage_16 ?_
  refine z_getiN (pc := 19) (j := 6) X cf_Taking (gf_Script_2 op0) (by decide) q267 rfl rfl d_Script_takeMessage_19 ?_
  refine z_bipush (pc := 22) X d_Script_takeMessage_22 (by decide) ?_
  refine z_icmp_ne (pc := 24) (tgt := 42) X (zh_1.1 _ _ (zO.ne (gf_Script_2 op0) (by decide))) (show zr (-9) from by decide) d_Script_takeMessage_24 (by decide) (fun hc => ?_) (fun hc => ?_)
  · replace hv := hv.1 hc
    refine z_iconst (pc := 42) X d_Script_takeMessage_42 ?_
    exact E.2.2.1 rfl _ _ _ _ (by decide) d_Script_takeMessage_43 ⟨_, rfl, (show zr 0 from by decide), zh_1, hv⟩
  · replace hv := hv.2 hc
    refine z_aload_n (pc := 27) (q := 0) X d_Script_takeMessage_27 rfl ?_
    refine z_getr (pc := 28) (j := 0) (dd := 1) X cf_Script op0 (by decide) q303 rfl rfl d_Script_takeMessage_28 ?_
    refine z_getrN (pc := 31) (j := 2) (dd := 3) X cf_State (gf_Script_0 op0) (by decide) q175 rfl rfl d_Script_takeMessage_31 ?_
    refine z_callVNi (pc := 34) (As := []) (rest := []) X (fun l hl => c_Tape_itemsNeeded hl (gf_State_2 (gf_Script_0 op0)) zh_1 hv) cf_Tape (gf_State_2 (gf_Script_0 op0)) rfl mf_Tape_itemsNeeded q964 ⟨⟨by decide, by decide⟩, rfl, rfl⟩ rfl d_Script_takeMessage_34 rfl (Nat.le_of_ble_eq_true rfl) (fun r_4 h_3 rr_4 zh_3 hv => ?_)
    refine z_bipush (pc := 37) X d_Script_takeMessage_37 (by decide) ?_
    refine z_icmp_le (pc := 39) (tgt := 44) X rr_4 (show zr 40 from by decide) d_Script_takeMessage_39 (by decide) (fun hc => ?_) (fun hc => ?_)
    · replace hv := hv.1 hc
      refine z_aload_n (pc := 44) (q := 0) X d_Script_takeMessage_44 rfl ?_
      refine z_getr (pc := 45) (j := 0) (dd := 1) X cf_Script op0 (by decide) q303 rfl rfl d_Script_takeMessage_45 ?_
      refine z_aload_n (pc := 48) (q := 0) X d_Script_takeMessage_48 rfl ?_
      refine z_getr (pc := 49) (j := 2) (dd := 11) X cf_Script op0 (by decide) q305 rfl rfl d_Script_takeMessage_49 ?_
      refine z_callVNv (pc := 52) (As := [.ref (g.2.2 (p0 + 11))]) (rest := []) X (fun l hl => c_State_takeMessage hl (gf_Script_0 op0) (gf_Script_2 op0) zh_3 hv) cf_State (gf_Script_0 op0) rfl mf_State_takeMessage q965 ⟨⟨by decide, by decide⟩, rfl, rfl⟩ rfl d_Script_takeMessage_52 rfl (Nat.le_of_ble_eq_true rfl) (fun h_5 zh_5 hv => ?_)
      refine z_iconst (pc := 55) X d_Script_takeMessage_55 ?_
      exact E.2.2.1 rfl _ _ _ _ (by decide) d_Script_takeMessage_56 ⟨_, rfl, (show zr 1 from by decide), zh_5, hv⟩
    · replace hv := hv.2 hc
      refine z_iconst (pc := 42) X d_Script_takeMessage_42 ?_
      exact E.2.2.1 rfl _ _ _ _ (by decide) d_Script_takeMessage_43 ⟨_, rfl, (show zr 0 from by decide), zh_3, hv⟩
theorem d_Script_changeDigit_0 : decode b_Script_changeDigit 0 = .ok (.aload_n 0, 1) := by decide +kernel
theorem d_Script_changeDigit_1 : decode b_Script_changeDigit 1 = .ok (.getfield 12, 3) := by decide +kernel
theorem d_Script_changeDigit_4 : decode b_Script_changeDigit 4 = .ok (.getfield 68, 3) := by decide +kernel
theorem d_Script_changeDigit_7 : decode b_Script_changeDigit 7 = .ok (.iload_n 1, 1) := by decide +kernel
theorem d_Script_changeDigit_8 : decode b_Script_changeDigit 8 = .ok (.invokevirtual 129, 3) := by decide +kernel
theorem d_Script_changeDigit_11 : decode b_Script_changeDigit 11 = .ok (.ifCond .ne 5, 3) := by decide +kernel
theorem d_Script_changeDigit_14 : decode b_Script_changeDigit 14 = .ok (.iconst 0, 1) := by decide +kernel
theorem d_Script_changeDigit_15 : decode b_Script_changeDigit 15 = .ok (.ireturn, 1) := by decide +kernel
theorem d_Script_changeDigit_16 : decode b_Script_changeDigit 16 = .ok (.aload_n 0, 1) := by decide +kernel
theorem d_Script_changeDigit_17 : decode b_Script_changeDigit 17 = .ok (.getfield 12, 3) := by decide +kernel
theorem d_Script_changeDigit_20 : decode b_Script_changeDigit 20 = .ok (.getfield 68, 3) := by decide +kernel
theorem d_Script_changeDigit_23 : decode b_Script_changeDigit 23 = .ok (.getfield 132, 3) := by decide +kernel
theorem d_Script_changeDigit_26 : decode b_Script_changeDigit 26 = .ok (.iload_n 1, 1) := by decide +kernel
theorem d_Script_changeDigit_27 : decode b_Script_changeDigit 27 = .ok (.iload_n 2, 1) := by decide +kernel
theorem d_Script_changeDigit_28 : decode b_Script_changeDigit 28 = .ok (.iastore, 1) := by decide +kernel
theorem d_Script_changeDigit_29 : decode b_Script_changeDigit 29 = .ok (.iconst 1, 1) := by decide +kernel
theorem d_Script_changeDigit_30 : decode b_Script_changeDigit 30 = .ok (.ireturn, 1) := by decide +kernel
def rm_Script_changeDigit : Room := { frames := 1, cells := 0, slots := 0, locals := 21 }
theorem mf_Script_changeDigit : zMV y_Script_changeDigit b_Script_changeDigit 3 (some .boolean) 2 := ⟨q968, qs62, q11, q969, by decide +kernel⟩
def M_Script_changeDigit (p0 : Nat) (x1 : Int) (x2 : Int) (h : zH) (K : Int → zH → Prop) : Prop :=
  M_Tape_hasDigit ((p0 + 1) + 3) x1 h (fun r_2 h_1 => (r_2 ≠ 0 → ((0 ≤ x1 ∧ x1 < 80) ∧ (∀ h_4 : zH, h_4 = zs h_1 (((p0 + 1) + 3) + 2) x1.toNat x2 → (K 1 h_4)))) ∧ (r_2 = 0 → (K 0 h_1)))
set_option maxRecDepth 100000 in
theorem c_Script_changeDigit {l : Launch} (hfl : l.flags = flags0) {g : zG} {n : Nat} {p0 : Nat} {x1 : Int} {x2 : Int} (op0 : zO n p0 4) (rx1 : zr x1) (rx2 : zr x2) {h : zH} (hh : zh h) {K : Int → zH → Prop} (hv : M_Script_changeDigit p0 x1 x2 h K) : zMet l y_Script_changeDigit b_Script_changeDigit 3 (some .boolean) rm_Script_changeDigit g n [.ref (g.2.2 p0), zi x1, zi x2] h (zPi K) := by
  refine zMet_of (own := "AliasStreams$Script") hfl (by decide) rfl (Nat.le_of_ble_eq_true rfl) (fun Wf m H0 X E => ?_)
  unfold M_Script_changeDigit at hv
  show zW Wf m 3 g n H0 0 [(0, .ref (g.2.2 p0)), (1, zi x1), (2, zi x2)] [] h
  refine z_aload_n (pc := 0) (q := 0) X d_Script_changeDigit_0 rfl ?_
  refine z_getr (pc := 1) (j := 0) (dd := 1) X cf_Script op0 (by decide) q303 rfl rfl d_Script_changeDigit_1 ?_
  refine z_getrN (pc := 4) (j := 2) (dd := 3) X cf_State (gf_Script_0 op0) (by decide) q175 rfl rfl d_Script_changeDigit_4 ?_
  refine z_iload_n (pc := 7) (q := 1) X d_Script_changeDigit_7 rfl ?_
  refine z_callVNi (pc := 8) (As := [zi x1]) (rest := []) X (fun l hl => c_Tape_hasDigit hl (gf_State_2 (gf_Script_0 op0)) rx1 hh hv) cf_Tape (gf_State_2 (gf_Script_0 op0)) rfl mf_Tape_hasDigit q970 ⟨⟨by decide, by decide⟩, rfl, rfl⟩ rfl d_Script_changeDigit_8 rfl (Nat.le_of_ble_eq_true rfl) (fun r_2 h_1 rr_2 zh_1 hv => ?_)
  refine z_if_ne (pc := 11) (tgt := 16) X rr_2 d_Script_changeDigit_11 (by decide) (fun hc => ?_) (fun hc => ?_)
  · replace hv := hv.1 hc
    refine z_aload_n (pc := 16) (q := 0) X d_Script_changeDigit_16 rfl ?_
    refine z_getr (pc := 17) (j := 0) (dd := 1) X cf_Script op0 (by decide) q303 rfl rfl d_Script_changeDigit_17 ?_
    refine z_getrN (pc := 20) (j := 2) (dd := 3) X cf_State (gf_Script_0 op0) (by decide) q175 rfl rfl d_Script_changeDigit_20 ?_
    refine z_getrN (pc := 23) (j := 1) (dd := 2) X cf_Tape (gf_State_2 (gf_Script_0 op0)) (by decide) q145 rfl rfl d_Script_changeDigit_23 ?_
    refine z_iload_n (pc := 26) (q := 1) X d_Script_changeDigit_26 rfl ?_
    refine z_iload_n (pc := 27) (q := 2) X d_Script_changeDigit_27 rfl ?_
    obtain ⟨v_3, hv⟩ := hv
    refine z_iastj (pc := 28) (j := x1.toNat) X (gf_Tape_1 (gf_State_2 (gf_Script_0 op0))) (gl_Tape_1 (gf_State_2 (gf_Script_0 op0))) rx1 v_3 rfl d_Script_changeDigit_28 ?_
    refine z_toph (fun h_4 eh_4 => ?_)
    have zh_4 : zh h_4 := by rw [eh_4]; exact zh_set zh_1 (zO.ne (gf_Tape_1 (gf_State_2 (gf_Script_0 op0))) (by decide)) rx2
    replace hv := hv h_4 eh_4
    refine z_iconst (pc := 29) X d_Script_changeDigit_29 ?_
    exact E.2.2.1 rfl _ _ _ _ (by decide) d_Script_changeDigit_30 ⟨_, rfl, (show zr 1 from by decide), zh_4, hv⟩
  · replace hv := hv.2 hc
    refine z_iconst (pc := 14) X d_Script_changeDigit_14 ?_
    exact E.2.2.1 rfl _ _ _ _ (by decide) d_Script_changeDigit_15 ⟨_, rfl, (show zr 0 from by decide), zh_1, hv⟩
theorem d_Script_isIntact_0 : decode b_Script_isIntact 0 = .ok (.aload_n 0, 1) := by decide +kernel
theorem d_Script_isIntact_1 : decode b_Script_isIntact 1 = .ok (.getfield 28, 3) := by decide +kernel
theorem d_Script_isIntact_4 : decode b_Script_isIntact 4 = .ok (.aload_n 0, 1) := by decide +kernel
theorem d_Script_isIntact_5 : decode b_Script_isIntact 5 = .ok (.getfield 12, 3) := by decide +kernel
theorem d_Script_isIntact_8 : decode b_Script_isIntact 8 = .ok (.getfield 68, 3) := by decide +kernel
theorem d_Script_isIntact_11 : decode b_Script_isIntact 11 = .ok (.aload_n 1, 1) := by decide +kernel
theorem d_Script_isIntact_12 : decode b_Script_isIntact 12 = .ok (.invokevirtual 115, 3) := by decide +kernel
theorem d_Script_isIntact_15 : decode b_Script_isIntact 15 = .ok (.aload_n 0, 1) := by decide +kernel
theorem d_Script_isIntact_16 : decode b_Script_isIntact 16 = .ok (.getfield 28, 3) := by decide +kernel
theorem d_Script_isIntact_19 : decode b_Script_isIntact 19 = .ok (.getfield 136, 3) := by decide +kernel
theorem d_Script_isIntact_22 : decode b_Script_isIntact 22 = .ok (.ireturn, 1) := by decide +kernel
def rm_Script_isIntact : Room := { frames := 3, cells := 0, slots := 0, locals := 71 }
theorem mf_Script_isIntact : zMV y_Script_isIntact b_Script_isIntact 2 (some .boolean) 1 := ⟨q973, qs63, q11, q974, by decide +kernel⟩
def M_Script_isIntact (p0 : Nat) (p1 : Nat) (h : zH) (K : Int → zH → Prop) : Prop :=
  M_Taking_takeAll (p0 + 11) ((p0 + 1) + 3) p1 h (fun h_1 => (h_1 (p0 + 11) 7 = 0 ∨ h_1 (p0 + 11) 7 = 1) ∧ K (h_1 (p0 + 11) 7) h_1)
set_option maxRecDepth 100000 in
theorem c_Script_isIntact {l : Launch} (hfl : l.flags = flags0) {g : zG} {n : Nat} {p0 : Nat} {p1 : Nat} (op0 : zO n p0 4) (op1 : zO n p1 2) {h : zH} (hh : zh h) {K : Int → zH → Prop} (hv : M_Script_isIntact p0 p1 h K) : zMet l y_Script_isIntact b_Script_isIntact 2 (some .boolean) rm_Script_isIntact g n [.ref (g.2.2 p0), .ref (g.2.2 p1)] h (zPi K) := by
  refine zMet_of (own := "AliasStreams$Script") hfl (by decide) rfl (Nat.le_of_ble_eq_true rfl) (fun Wf m H0 X E => ?_)
  unfold M_Script_isIntact at hv
  show zW Wf m 2 g n H0 0 [(0, .ref (g.2.2 p0)), (1, .ref (g.2.2 p1))] [] h
  refine z_aload_n (pc := 0) (q := 0) X d_Script_isIntact_0 rfl ?_
  refine z_getr (pc := 1) (j := 2) (dd := 11) X cf_Script op0 (by decide) q305 rfl rfl d_Script_isIntact_1 ?_
  refine z_aload_n (pc := 4) (q := 0) X d_Script_isIntact_4 rfl ?_
  refine z_getr (pc := 5) (j := 0) (dd := 1) X cf_Script op0 (by decide) q303 rfl rfl d_Script_isIntact_5 ?_
  refine z_getrN (pc := 8) (j := 2) (dd := 3) X cf_State (gf_Script_0 op0) (by decide) q175 rfl rfl d_Script_isIntact_8 ?_
  refine z_aload_n (pc := 11) (q := 1) X d_Script_isIntact_11 rfl ?_
  refine z_callVNv (pc := 12) (As := [.ref (g.2.2 ((p0 + 1) + 3)), .ref (g.2.2 p1)]) (rest := []) X (fun l hl => c_Taking_takeAll hl (gf_Script_2 op0) (gf_State_2 (gf_Script_0 op0)) op1 hh hv) cf_Taking (gf_Script_2 op0) rfl mf_Taking_takeAll q963 ⟨⟨by decide, by decide⟩, rfl, rfl⟩ rfl d_Script_isIntact_12 rfl (Nat.le_of_ble_eq_true rfl) (fun h_1 zh_1 hv => ?_)
  refine z_aload_n (pc := 15) (q := 0) X d_Script_isIntact_15 rfl ?_
  refine z_getr (pc := 16) (j := 2) (dd := 11) X cf_Script op0 (by decide) q305 rfl rfl d_Script_isIntact_16 ?_
  refine z_getiN (pc := 19) (j := 7) X cf_Taking (gf_Script_2 op0) (by decide) q271 rfl rfl d_Script_isIntact_19 ?_
  obtain ⟨v_3, hv⟩ := hv
  exact E.2.2.1 rfl _ _ _ _ v_3 d_Script_isIntact_22 ⟨_, rfl, (zh_1.1 _ _ (zO.ne (gf_Script_2 op0) (by decide))), zh_1, hv⟩
theorem d_Script_takes_0 : decode b_Script_takes 0 = .ok (.aload_n 0, 1) := by decide +kernel
theorem d_Script_takes_1 : decode b_Script_takes 1 = .ok (.getfield 28, 3) := by decide +kernel
theorem d_Script_takes_4 : decode b_Script_takes 4 = .ok (.aload_n 0, 1) := by decide +kernel
theorem d_Script_takes_5 : decode b_Script_takes 5 = .ok (.getfield 12, 3) := by decide +kernel
theorem d_Script_takes_8 : decode b_Script_takes 8 = .ok (.getfield 68, 3) := by decide +kernel
theorem d_Script_takes_11 : decode b_Script_takes 11 = .ok (.aload_n 3, 1) := by decide +kernel
theorem d_Script_takes_12 : decode b_Script_takes 12 = .ok (.invokevirtual 115, 3) := by decide +kernel
theorem d_Script_takes_15 : decode b_Script_takes 15 = .ok (.aload_n 0, 1) := by decide +kernel
theorem d_Script_takes_16 : decode b_Script_takes 16 = .ok (.getfield 12, 3) := by decide +kernel
theorem d_Script_takes_19 : decode b_Script_takes 19 = .ok (.getfield 68, 3) := by decide +kernel
theorem d_Script_takes_22 : decode b_Script_takes 22 = .ok (.iload_n 1, 1) := by decide +kernel
theorem d_Script_takes_23 : decode b_Script_takes 23 = .ok (.invokevirtual 140, 3) := by decide +kernel
theorem d_Script_takes_26 : decode b_Script_takes 26 = .ok (.ifCond .eq 20, 3) := by decide +kernel
theorem d_Script_takes_29 : decode b_Script_takes 29 = .ok (.aload_n 0, 1) := by decide +kernel
theorem d_Script_takes_30 : decode b_Script_takes 30 = .ok (.getfield 28, 3) := by decide +kernel
theorem d_Script_takes_33 : decode b_Script_takes 33 = .ok (.getfield 143, 3) := by decide +kernel
theorem d_Script_takes_36 : decode b_Script_takes 36 = .ok (.iload_n 1, 1) := by decide +kernel
theorem d_Script_takes_37 : decode b_Script_takes 37 = .ok (.iaload, 1) := by decide +kernel
theorem d_Script_takes_38 : decode b_Script_takes 38 = .ok (.iload_n 2, 1) := by decide +kernel
theorem d_Script_takes_39 : decode b_Script_takes 39 = .ok (.if_icmp .ne 7, 3) := by decide +kernel
theorem d_Script_takes_42 : decode b_Script_takes 42 = .ok (.iconst 1, 1) := by decide +kernel
theorem d_Script_takes_43 : decode b_Script_takes 43 = .ok (.goto 4, 3) := by decide +kernel
theorem d_Script_takes_46 : decode b_Script_takes 46 = .ok (.iconst 0, 1) := by decide +kernel
theorem d_Script_takes_47 : decode b_Script_takes 47 = .ok (.ireturn, 1) := by decide +kernel
def rm_Script_takes : Room := { frames := 3, cells := 0, slots := 0, locals := 71 }
theorem mf_Script_takes : zMV y_Script_takes b_Script_takes 4 (some .boolean) 3 := ⟨q977, qs64, q11, q978, by decide +kernel⟩
def M_Script_takes (p0 : Nat) (x1 : Int) (x2 : Int) (p3 : Nat) (h : zH) (K : Int → zH → Prop) : Prop :=
  M_Taking_takeAll (p0 + 11) ((p0 + 1) + 3) p3 h (fun h_1 => M_Tape_hasPlanned ((p0 + 1) + 3) x1 h_1 (fun r_4 h_3 => (r_4 = 0 → (K 0 h_3)) ∧ (r_4 ≠ 0 → ((0 ≤ x1 ∧ x1 < 40) ∧ ((h_3 ((p0 + 11) + 1) x1.toNat ≠ x2 → (K 0 h_3)) ∧ (h_3 ((p0 + 11) + 1) x1.toNat = x2 → (K 1 h_3)))))))
set_option maxRecDepth 100000 in
theorem c_Script_takes {l : Launch} (hfl : l.flags = flags0) {g : zG} {n : Nat} {p0 : Nat} {x1 : Int} {x2 : Int} {p3 : Nat} (op0 : zO n p0 4) (rx1 : zr x1) (rx2 : zr x2) (op3 : zO n p3 2) {h : zH} (hh : zh h) {K : Int → zH → Prop} (hv : M_Script_takes p0 x1 x2 p3 h K) : zMet l y_Script_takes b_Script_takes 4 (some .boolean) rm_Script_takes g n [.ref (g.2.2 p0), zi x1, zi x2, .ref (g.2.2 p3)] h (zPi K) := by
  refine zMet_of (own := "AliasStreams$Script") hfl (by decide) rfl (Nat.le_of_ble_eq_true rfl) (fun Wf m H0 X E => ?_)
  unfold M_Script_takes at hv
  show zW Wf m 4 g n H0 0 [(0, .ref (g.2.2 p0)), (1, zi x1), (2, zi x2), (3, .ref (g.2.2 p3))] [] h
  refine z_aload_n (pc := 0) (q := 0) X d_Script_takes_0 rfl ?_
  refine z_getr (pc := 1) (j := 2) (dd := 11) X cf_Script op0 (by decide) q305 rfl rfl d_Script_takes_1 ?_
  refine z_aload_n (pc := 4) (q := 0) X d_Script_takes_4 rfl ?_
  refine z_getr (pc := 5) (j := 0) (dd := 1) X cf_Script op0 (by decide) q303 rfl rfl d_Script_takes_5 ?_
  refine z_getrN (pc := 8) (j := 2) (dd := 3) X cf_State (gf_Script_0 op0) (by decide) q175 rfl rfl d_Script_takes_8 ?_
  refine z_aload_n (pc := 11) (q := 3) X d_Script_takes_11 rfl ?_
  refine z_callVNv (pc := 12) (As := [.ref (g.2.2 ((p0 + 1) + 3)), .ref (g.2.2 p3)]) (rest := []) X (fun l hl => c_Taking_takeAll hl (gf_Script_2 op0) (gf_State_2 (gf_Script_0 op0)) op3 hh hv) cf_Taking (gf_Script_2 op0) rfl mf_Taking_takeAll q963 ⟨⟨by decide, by decide⟩, rfl, rfl⟩ rfl d_Script_takes_12 rfl (Nat.le_of_ble_eq_true rfl) (fun h_1 zh_1 hv => ?_)
  refine z_aload_n (pc := 15) (q := 0) X d_Script_takes_15 rfl ?_
  refine z_getr (pc := 16) (j := 0) (dd := 1) X cf_Script op0 (by decide) q303 rfl rfl d_Script_takes_16 ?_
  refine z_getrN (pc := 19) (j := 2) (dd := 3) X cf_State (gf_Script_0 op0) (by decide) q175 rfl rfl d_Script_takes_19 ?_
  refine z_iload_n (pc := 22) (q := 1) X d_Script_takes_22 rfl ?_
  refine z_callVNi (pc := 23) (As := [zi x1]) (rest := []) X (fun l hl => c_Tape_hasPlanned hl (gf_State_2 (gf_Script_0 op0)) rx1 zh_1 hv) cf_Tape (gf_State_2 (gf_Script_0 op0)) rfl mf_Tape_hasPlanned q979 ⟨⟨by decide, by decide⟩, rfl, rfl⟩ rfl d_Script_takes_23 rfl (Nat.le_of_ble_eq_true rfl) (fun r_4 h_3 rr_4 zh_3 hv => ?_)
  refine z_if_eq (pc := 26) (tgt := 46) X rr_4 d_Script_takes_26 (by decide) (fun hc => ?_) (fun hc => ?_)
  · replace hv := hv.1 hc
    refine z_iconst (pc := 46) X d_Script_takes_46 ?_
    exact E.2.2.1 rfl _ _ _ _ (by decide) d_Script_takes_47 ⟨_, rfl, (show zr 0 from by decide), zh_3, hv⟩
  · replace hv := hv.2 hc
    refine z_aload_n (pc := 29) (q := 0) X d_Script_takes_29 rfl ?_
    refine z_getr (pc := 30) (j := 2) (dd := 11) X cf_Script op0 (by decide) q305 rfl rfl d_Script_takes_30 ?_
    refine z_getrN (pc := 33) (j := 0) (dd := 1) X cf_Taking (gf_Script_2 op0) (by decide) q256 rfl rfl d_Script_takes_33 ?_
    refine z_iload_n (pc := 36) (q := 1) X d_Script_takes_36 rfl ?_
    obtain ⟨v_5, hv⟩ := hv
    refine z_ialdj (pc := 37) (j := x1.toNat) X (gf_Taking_0 (gf_Script_2 op0)) (gl_Taking_0 (gf_Script_2 op0)) rx1 v_5 rfl d_Script_takes_37 ?_
    refine z_iload_n (pc := 38) (q := 2) X d_Script_takes_38 rfl ?_
    refine z_icmp_ne (pc := 39) (tgt := 46) X (zh_3.1 _ _ (zO.ne (gf_Taking_0 (gf_Script_2 op0)) (by decide))) rx2 d_Script_takes_39 (by decide) (fun hc => ?_) (fun hc => ?_)
    · replace hv := hv.1 hc
      refine z_iconst (pc := 46) X d_Script_takes_46 ?_
      exact E.2.2.1 rfl _ _ _ _ (by decide) d_Script_takes_47 ⟨_, rfl, (show zr 0 from by decide), zh_3, hv⟩
    · replace hv := hv.2 hc
      refine z_iconst (pc := 42) X d_Script_takes_42 ?_
      refine z_goto (pc := 43) (tgt := 47) X d_Script_takes_43 (by decide) ?_
      exact E.2.2.1 rfl _ _ _ _ (by decide) d_Script_takes_47 ⟨_, rfl, (show zr 1 from by decide), zh_3, hv⟩
theorem d_Script_execute_0 : decode b_Script_execute 0 = .ok (.iload_n 1, 1) := by decide +kernel
theorem d_Script_execute_1 : decode b_Script_execute 1 = .ok (.bipush 100, 2) := by decide +kernel
theorem d_Script_execute_3 : decode b_Script_execute 3 = .ok (.idiv, 1) := by decide +kernel
theorem d_Script_execute_4 : decode b_Script_execute 4 = .ok (.bipush 10, 2) := by decide +kernel
theorem d_Script_execute_6 : decode b_Script_execute 6 = .ok (.irem, 1) := by decide +kernel
theorem d_Script_execute_7 : decode b_Script_execute 7 = .ok (.istore_n 3, 1) := by decide +kernel
theorem d_Script_execute_8 : decode b_Script_execute 8 = .ok (.iload_n 1, 1) := by decide +kernel
theorem d_Script_execute_9 : decode b_Script_execute 9 = .ok (.bipush 100, 2) := by decide +kernel
theorem d_Script_execute_11 : decode b_Script_execute 11 = .ok (.irem, 1) := by decide +kernel
theorem d_Script_execute_12 : decode b_Script_execute 12 = .ok (.istore 4, 2) := by decide +kernel
theorem d_Script_execute_14 : decode b_Script_execute 14 = .ok (.iload_n 1, 1) := by decide +kernel
theorem d_Script_execute_15 : decode b_Script_execute 15 = .ok (.sipush 1000, 3) := by decide +kernel
theorem d_Script_execute_18 : decode b_Script_execute 18 = .ok (.idiv, 1) := by decide +kernel
theorem d_Script_execute_19 : decode b_Script_execute 19 = .ok (.tableswitch 207 1 8 #[45, 65, 84, 107, 130, 138, 163, 198], 45) := by decide +kernel
theorem d_Script_execute_64 : decode b_Script_execute 64 = .ok (.iload_n 3, 1) := by decide +kernel
theorem d_Script_execute_65 : decode b_Script_execute 65 = .ok (.ifCond .ne 17, 3) := by decide +kernel
theorem d_Script_execute_68 : decode b_Script_execute 68 = .ok (.aload_n 0, 1) := by decide +kernel
theorem d_Script_execute_69 : decode b_Script_execute 69 = .ok (.iload 4, 2) := by decide +kernel
theorem d_Script_execute_71 : decode b_Script_execute 71 = .ok (.aload_n 2, 1) := by decide +kernel
theorem d_Script_execute_72 : decode b_Script_execute 72 = .ok (.invokevirtual 50, 3) := by decide +kernel
theorem d_Script_execute_75 : decode b_Script_execute 75 = .ok (.ifCond .eq 7, 3) := by decide +kernel
theorem d_Script_execute_78 : decode b_Script_execute 78 = .ok (.iconst 1, 1) := by decide +kernel
theorem d_Script_execute_79 : decode b_Script_execute 79 = .ok (.goto 4, 3) := by decide +kernel
theorem d_Script_execute_82 : decode b_Script_execute 82 = .ok (.iconst 0, 1) := by decide +kernel
theorem d_Script_execute_83 : decode b_Script_execute 83 = .ok (.ireturn, 1) := by decide +kernel
theorem d_Script_execute_84 : decode b_Script_execute 84 = .ok (.iload_n 3, 1) := by decide +kernel
theorem d_Script_execute_85 : decode b_Script_execute 85 = .ok (.ifCond .ne 16, 3) := by decide +kernel
theorem d_Script_execute_88 : decode b_Script_execute 88 = .ok (.aload_n 0, 1) := by decide +kernel
theorem d_Script_execute_89 : decode b_Script_execute 89 = .ok (.iload 4, 2) := by decide +kernel
theorem d_Script_execute_91 : decode b_Script_execute 91 = .ok (.invokevirtual 53, 3) := by decide +kernel
theorem d_Script_execute_94 : decode b_Script_execute 94 = .ok (.ifCond .eq 7, 3) := by decide +kernel
theorem d_Script_execute_97 : decode b_Script_execute 97 = .ok (.iconst 1, 1) := by decide +kernel
theorem d_Script_execute_98 : decode b_Script_execute 98 = .ok (.goto 4, 3) := by decide +kernel
theorem d_Script_execute_101 : decode b_Script_execute 101 = .ok (.iconst 0, 1) := by decide +kernel
theorem d_Script_execute_102 : decode b_Script_execute 102 = .ok (.ireturn, 1) := by decide +kernel
theorem d_Script_execute_103 : decode b_Script_execute 103 = .ok (.iload_n 3, 1) := by decide +kernel
theorem d_Script_execute_104 : decode b_Script_execute 104 = .ok (.ifCond .ne 20, 3) := by decide +kernel
theorem d_Script_execute_107 : decode b_Script_execute 107 = .ok (.iload 4, 2) := by decide +kernel
theorem d_Script_execute_109 : decode b_Script_execute 109 = .ok (.ifCond .ne 15, 3) := by decide +kernel
theorem d_Script_execute_112 : decode b_Script_execute 112 = .ok (.aload_n 0, 1) := by decide +kernel
theorem d_Script_execute_113 : decode b_Script_execute 113 = .ok (.aload_n 2, 1) := by decide +kernel
theorem d_Script_execute_114 : decode b_Script_execute 114 = .ok (.invokevirtual 57, 3) := by decide +kernel
theorem d_Script_execute_117 : decode b_Script_execute 117 = .ok (.ifCond .eq 7, 3) := by decide +kernel
theorem d_Script_execute_120 : decode b_Script_execute 120 = .ok (.iconst 1, 1) := by decide +kernel
theorem d_Script_execute_121 : decode b_Script_execute 121 = .ok (.goto 4, 3) := by decide +kernel
theorem d_Script_execute_124 : decode b_Script_execute 124 = .ok (.iconst 0, 1) := by decide +kernel
theorem d_Script_execute_125 : decode b_Script_execute 125 = .ok (.ireturn, 1) := by decide +kernel
theorem d_Script_execute_126 : decode b_Script_execute 126 = .ok (.iload_n 3, 1) := by decide +kernel
theorem d_Script_execute_127 : decode b_Script_execute 127 = .ok (.ifCond .ne 20, 3) := by decide +kernel
theorem d_Script_execute_130 : decode b_Script_execute 130 = .ok (.iload 4, 2) := by decide +kernel
theorem d_Script_execute_132 : decode b_Script_execute 132 = .ok (.ifCond .ne 15, 3) := by decide +kernel
theorem d_Script_execute_135 : decode b_Script_execute 135 = .ok (.aload_n 0, 1) := by decide +kernel
theorem d_Script_execute_136 : decode b_Script_execute 136 = .ok (.aload_n 2, 1) := by decide +kernel
theorem d_Script_execute_137 : decode b_Script_execute 137 = .ok (.invokevirtual 61, 3) := by decide +kernel
theorem d_Script_execute_140 : decode b_Script_execute 140 = .ok (.ifCond .eq 7, 3) := by decide +kernel
theorem d_Script_execute_143 : decode b_Script_execute 143 = .ok (.iconst 1, 1) := by decide +kernel
theorem d_Script_execute_144 : decode b_Script_execute 144 = .ok (.goto 4, 3) := by decide +kernel
theorem d_Script_execute_147 : decode b_Script_execute 147 = .ok (.iconst 0, 1) := by decide +kernel
theorem d_Script_execute_148 : decode b_Script_execute 148 = .ok (.ireturn, 1) := by decide +kernel
theorem d_Script_execute_149 : decode b_Script_execute 149 = .ok (.aload_n 0, 1) := by decide +kernel
theorem d_Script_execute_150 : decode b_Script_execute 150 = .ok (.iload 4, 2) := by decide +kernel
theorem d_Script_execute_152 : decode b_Script_execute 152 = .ok (.iload_n 3, 1) := by decide +kernel
theorem d_Script_execute_153 : decode b_Script_execute 153 = .ok (.invokevirtual 64, 3) := by decide +kernel
theorem d_Script_execute_156 : decode b_Script_execute 156 = .ok (.ireturn, 1) := by decide +kernel
theorem d_Script_execute_157 : decode b_Script_execute 157 = .ok (.iload_n 3, 1) := by decide +kernel
theorem d_Script_execute_158 : decode b_Script_execute 158 = .ok (.ifCond .ne 22, 3) := by decide +kernel
theorem d_Script_execute_161 : decode b_Script_execute 161 = .ok (.aload_n 0, 1) := by decide +kernel
theorem d_Script_execute_162 : decode b_Script_execute 162 = .ok (.getfield 12, 3) := by decide +kernel
theorem d_Script_execute_165 : decode b_Script_execute 165 = .ok (.getfield 68, 3) := by decide +kernel
theorem d_Script_execute_168 : decode b_Script_execute 168 = .ok (.getfield 72, 3) := by decide +kernel
theorem d_Script_execute_171 : decode b_Script_execute 171 = .ok (.iload 4, 2) := by decide +kernel
theorem d_Script_execute_173 : decode b_Script_execute 173 = .ok (.if_icmp .ne 7, 3) := by decide +kernel
theorem d_Script_execute_176 : decode b_Script_execute 176 = .ok (.iconst 1, 1) := by decide +kernel
theorem d_Script_execute_177 : decode b_Script_execute 177 = .ok (.goto 4, 3) := by decide +kernel
theorem d_Script_execute_180 : decode b_Script_execute 180 = .ok (.iconst 0, 1) := by decide +kernel
theorem d_Script_execute_181 : decode b_Script_execute 181 = .ok (.ireturn, 1) := by decide +kernel
theorem d_Script_execute_182 : decode b_Script_execute 182 = .ok (.iload_n 3, 1) := by decide +kernel
theorem d_Script_execute_183 : decode b_Script_execute 183 = .ok (.ifCond .ne 32, 3) := by decide +kernel
theorem d_Script_execute_186 : decode b_Script_execute 186 = .ok (.iload 4, 2) := by decide +kernel
theorem d_Script_execute_188 : decode b_Script_execute 188 = .ok (.iconst 1, 1) := by decide +kernel
theorem d_Script_execute_189 : decode b_Script_execute 189 = .ok (.if_icmp .gt 26, 3) := by decide +kernel
theorem d_Script_execute_192 : decode b_Script_execute 192 = .ok (.aload_n 0, 1) := by decide +kernel
theorem d_Script_execute_193 : decode b_Script_execute 193 = .ok (.aload_n 2, 1) := by decide +kernel
theorem d_Script_execute_194 : decode b_Script_execute 194 = .ok (.invokevirtual 78, 3) := by decide +kernel
theorem d_Script_execute_197 : decode b_Script_execute 197 = .ok (.iload 4, 2) := by decide +kernel
theorem d_Script_execute_199 : decode b_Script_execute 199 = .ok (.iconst 1, 1) := by decide +kernel
theorem d_Script_execute_200 : decode b_Script_execute 200 = .ok (.if_icmp .ne 7, 3) := by decide +kernel
theorem d_Script_execute_203 : decode b_Script_execute 203 = .ok (.iconst 1, 1) := by decide +kernel
theorem d_Script_execute_204 : decode b_Script_execute 204 = .ok (.goto 4, 3) := by decide +kernel
theorem d_Script_execute_207 : decode b_Script_execute 207 = .ok (.iconst 0, 1) := by decide +kernel
theorem d_Script_execute_208 : decode b_Script_execute 208 = .ok (.if_icmp .ne 7, 3) := by decide +kernel
theorem d_Script_execute_211 : decode b_Script_execute 211 = .ok (.iconst 1, 1) := by decide +kernel
theorem d_Script_execute_212 : decode b_Script_execute 212 = .ok (.goto 4, 3) := by decide +kernel
theorem d_Script_execute_215 : decode b_Script_execute 215 = .ok (.iconst 0, 1) := by decide +kernel
theorem d_Script_execute_216 : decode b_Script_execute 216 = .ok (.ireturn, 1) := by decide +kernel
theorem d_Script_execute_217 : decode b_Script_execute 217 = .ok (.aload_n 0, 1) := by decide +kernel
theorem d_Script_execute_218 : decode b_Script_execute 218 = .ok (.iload 4, 2) := by decide +kernel
theorem d_Script_execute_220 : decode b_Script_execute 220 = .ok (.iload_n 3, 1) := by decide +kernel
theorem d_Script_execute_221 : decode b_Script_execute 221 = .ok (.aload_n 2, 1) := by decide +kernel
theorem d_Script_execute_222 : decode b_Script_execute 222 = .ok (.invokevirtual 81, 3) := by decide +kernel
theorem d_Script_execute_225 : decode b_Script_execute 225 = .ok (.ireturn, 1) := by decide +kernel
theorem d_Script_execute_226 : decode b_Script_execute 226 = .ok (.iconst 0, 1) := by decide +kernel
theorem d_Script_execute_227 : decode b_Script_execute 227 = .ok (.ireturn, 1) := by decide +kernel
def rm_Script_execute : Room := { frames := 4, cells := 0, slots := 0, locals := 94 }
theorem mf_Script_execute : zMV y_Script_execute b_Script_execute 5 (some .boolean) 2 := ⟨q938, qs57, q11, q939, by decide +kernel⟩
def B_Script_execute_208 (K : Int → zH → Prop)   (u0 : Int) (u1 : Int) (h : zH) : Prop :=
  (u0 ≠ u1 → (K 0 h)) ∧ (u0 = u1 → (K 1 h))
set_option maxRecDepth 100000 in
theorem s_Script_execute_208 {Wf : Heap → List Loc → JFrame → Prop} {m : MethodId} {g : zG} {n : Nat} {H0 : Heap} (X : zX Wf m rm_Script_execute b_Script_execute "AliasStreams$Script" 5 g n H0) {K : Int → zH → Prop} (E : zEx Wf m b_Script_execute (some .boolean) 5 g n H0 (zPi K))     {u0 : Int} {u1 : Int} (ru0 : zr u0) (ru1 : zr u1) {h : zH} (hh : zh h) (hv : B_Script_execute_208 K   u0 u1 h) : zW Wf m 5 g n H0 208 [] [zi u1, zi u0] h := by
  unfold B_Script_execute_208 at hv
  refine z_icmp_ne (pc := 208) (tgt := 215) X ru0 ru1 d_Script_execute_208 (by decide) (fun hc => ?_) (fun hc => ?_)
  · replace hv := hv.1 hc
    refine z_iconst (pc := 215) X d_Script_execute_215 ?_
    exact E.2.2.1 rfl _ _ _ _ (by decide) d_Script_execute_216 ⟨_, rfl, (show zr 0 from by decide), hh, hv⟩
  · replace hv := hv.2 hc
    refine z_iconst (pc := 211) X d_Script_execute_211 ?_
    refine z_goto (pc := 212) (tgt := 216) X d_Script_execute_212 (by decide) ?_
    exact E.2.2.1 rfl _ _ _ _ (by decide) d_Script_execute_216 ⟨_, rfl, (show zr 1 from by decide), hh, hv⟩
def M_Script_execute (p0 : Nat) (x1 : Int) (p2 : Nat) (h : zH) (K : Int → zH → Prop) : Prop :=
  0 ≤ x1 ∧ (0 ≤ x1 / 100 ∧ ((∀ x3_3 : Int, x3_3 = (x1 / 100) % 10 → (0 ≤ x1 ∧ ((∀ x4_5 : Int, x4_5 = x1 % 100 → (0 ≤ x1 ∧ (((x1 / 1000 < 1 ∨ 8 < x1 / 1000) → (K 0 h)) ∧ (x1 / 1000 = 1 → ((x3_3 ≠ 0 → (K 0 h)) ∧ (x3_3 = 0 → (M_Script_addLast p0 x4_5 p2 h (fun r_8 h_7 => (r_8 = 0 → (K 0 h_7)) ∧ (r_8 ≠ 0 → (K 1 h_7))))))) ∧ (x1 / 1000 = 2 → ((x3_3 ≠ 0 → (K 0 h)) ∧ (x3_3 = 0 → (M_Script_dropOne p0 x4_5 h (fun r_10 h_9 => (r_10 = 0 → (K 0 h_9)) ∧ (r_10 ≠ 0 → (K 1 h_9))))))) ∧ (x1 / 1000 = 3 → ((x3_3 ≠ 0 → (K 0 h)) ∧ (x3_3 = 0 → ((x4_5 ≠ 0 → (K 0 h)) ∧ (x4_5 = 0 → (M_Script_fillTape p0 p2 h (fun r_12 h_11 => (r_12 = 0 → (K 0 h_11)) ∧ (r_12 ≠ 0 → (K 1 h_11))))))))) ∧ (x1 / 1000 = 4 → ((x3_3 ≠ 0 → (K 0 h)) ∧ (x3_3 = 0 → ((x4_5 ≠ 0 → (K 0 h)) ∧ (x4_5 = 0 → (M_Script_takeMessage p0 p2 h (fun r_14 h_13 => (r_14 = 0 → (K 0 h_13)) ∧ (r_14 ≠ 0 → (K 1 h_13))))))))) ∧ (x1 / 1000 = 5 → (M_Script_changeDigit p0 x4_5 x3_3 h (fun r_16 h_15 => (r_16 = 0 ∨ r_16 = 1) ∧ K r_16 h_15))) ∧ (x1 / 1000 = 6 → ((x3_3 ≠ 0 → (K 0 h)) ∧ (x3_3 = 0 → ((h ((p0 + 1) + 3) 4 ≠ x4_5 → (K 0 h)) ∧ (h ((p0 + 1) + 3) 4 = x4_5 → (K 1 h)))))) ∧ (x1 / 1000 = 7 → ((x3_3 ≠ 0 → (K 0 h)) ∧ (x3_3 = 0 → ((1 < x4_5 → (K 0 h)) ∧ (x4_5 ≤ 1 → (M_Script_isIntact p0 p2 h (fun r_19 h_18 => (x4_5 ≠ 1 → (B_Script_execute_208 K   r_19 0 h_18)) ∧ (x4_5 = 1 → (B_Script_execute_208 K   r_19 1 h_18))))))))) ∧ (x1 / 1000 = 8 → (M_Script_takes p0 x4_5 x3_3 p2 h (fun r_21 h_20 => (r_21 = 0 ∨ r_21 = 1) ∧ K r_21 h_20)))))))))))
set_option maxRecDepth 100000 in
theorem c_Script_execute {l : Launch} (hfl : l.flags = flags0) {g : zG} {n : Nat} {p0 : Nat} {x1 : Int} {p2 : Nat} (op0 : zO n p0 4) (rx1 : zr x1) (op2 : zO n p2 2) {h : zH} (hh : zh h) {K : Int → zH → Prop} (hv : M_Script_execute p0 x1 p2 h K) : zMet l y_Script_execute b_Script_execute 5 (some .boolean) rm_Script_execute g n [.ref (g.2.2 p0), zi x1, .ref (g.2.2 p2)] h (zPi K) := by
  refine zMet_of (own := "AliasStreams$Script") hfl (by decide) rfl (Nat.le_of_ble_eq_true rfl) (fun Wf m H0 X E => ?_)
  unfold M_Script_execute at hv
  show zW Wf m 5 g n H0 0 [(0, .ref (g.2.2 p0)), (1, zi x1), (2, .ref (g.2.2 p2))] [] h
  refine z_iload_n (pc := 0) (q := 1) X d_Script_execute_0 rfl ?_
  refine z_bipush (pc := 1) X d_Script_execute_1 (by decide) ?_
  obtain ⟨v_1, hv⟩ := hv
  refine z_idiv (pc := 3) X rx1 (show zr 100 from by decide) v_1 (by decide) d_Script_execute_3 ?_
  refine z_bipush (pc := 4) X d_Script_execute_4 (by decide) ?_
  obtain ⟨v_2, hv⟩ := hv
  refine z_irem (pc := 6) X (zr_div rx1 v_1 (by decide)) (show zr 10 from by decide) v_2 (by decide) d_Script_execute_6 ?_
  refine z_topi (fun x3_3 ex3_3 => ?_)
  have rx3_3 : zr x3_3 := by rw [ex3_3]; exact (zr_rem (show zr 10 from by decide) (by decide))
  replace hv := hv x3_3 ex3_3
  refine z_istore_n (pc := 7) (lv' := [(3, zi x3_3), (0, .ref (g.2.2 p0)), (1, zi x1), (2, .ref (g.2.2 p2))]) X d_Script_execute_7 (by decide) rfl ?_
  refine z_iload_n (pc := 8) (q := 2) X d_Script_execute_8 rfl ?_
  refine z_bipush (pc := 9) X d_Script_execute_9 (by decide) ?_
  obtain ⟨v_4, hv⟩ := hv
  refine z_irem (pc := 11) X rx1 (show zr 100 from by decide) v_4 (by decide) d_Script_execute_11 ?_
  refine z_topi (fun x4_5 ex4_5 => ?_)
  have rx4_5 : zr x4_5 := by rw [ex4_5]; exact (zr_rem (show zr 100 from by decide) (by decide))
  replace hv := hv x4_5 ex4_5
  refine z_istore (pc := 12) (lv' := [(4, zi x4_5), (3, zi x3_3), (0, .ref (g.2.2 p0)), (1, zi x1), (2, .ref (g.2.2 p2))]) X d_Script_execute_12 (by decide) rfl ?_
  refine z_iload_n (pc := 14) (q := 3) X d_Script_execute_14 rfl ?_
  refine z_sipush (pc := 15) X d_Script_execute_15 (by decide) ?_
  obtain ⟨v_6, hv⟩ := hv
  refine z_idiv (pc := 18) X rx1 (show zr 1000 from by decide) v_6 (by decide) d_Script_execute_18 ?_
  rcases (show (x1 / 1000 < 1 ∨ 8 < x1 / 1000) ∨ x1 / 1000 = 1 ∨ x1 / 1000 = 2 ∨ x1 / 1000 = 3 ∨ x1 / 1000 = 4 ∨ x1 / 1000 = 5 ∨ x1 / 1000 = 6 ∨ x1 / 1000 = 7 ∨ x1 / 1000 = 8 by omega) with hc | hc | hc | hc | hc | hc | hc | hc | hc
  · replace hv := hv.1 hc
    refine z_tableOut (pc := 19) (tgt := 226) X (zr_div rx1 v_6 (by decide)) d_Script_execute_19 hc (by decide) ?_
    refine z_iconst (pc := 226) X d_Script_execute_226 ?_
    exact E.2.2.1 rfl _ _ _ _ (by decide) d_Script_execute_227 ⟨_, rfl, (show zr 0 from by decide), hh, hv⟩
  · replace hv := hv.2.1 hc
    refine z_tableIn (pc := 19) (tgt := 64) (off := 45) X (zr_div rx1 v_6 (by decide)) d_Script_execute_19 (by omega) (by omega) (by rw [hc]; rfl) (by decide) ?_
    refine z_iload_n (pc := 64) (q := 1) X d_Script_execute_64 rfl ?_
    refine z_if_ne (pc := 65) (tgt := 82) X rx3_3 d_Script_execute_65 (by decide) (fun hc => ?_) (fun hc => ?_)
    · replace hv := hv.1 hc
      refine z_iconst (pc := 82) X d_Script_execute_82 ?_
      exact E.2.2.1 rfl _ _ _ _ (by decide) d_Script_execute_83 ⟨_, rfl, (show zr 0 from by decide), hh, hv⟩
    · replace hv := hv.2 hc
      refine z_aload_n (pc := 68) (q := 2) X d_Script_execute_68 rfl ?_
      refine z_iload (pc := 69) (q := 0) X d_Script_execute_69 rfl ?_
      refine z_aload_n (pc := 71) (q := 4) X d_Script_execute_71 rfl ?_
      refine z_callVi (pc := 72) (As := [zi x4_5, .ref (g.2.2 p2)]) (rest := []) X (fun l hl => c_Script_addLast hl op0 rx4_5 op2 hh hv) cf_Script op0 rfl mf_Script_addLast q940 ⟨⟨by decide, by decide⟩, rfl, rfl⟩ rfl d_Script_execute_72 rfl (Nat.le_of_ble_eq_true rfl) (fun r_8 h_7 rr_8 zh_7 hv => ?_)
      refine z_if_eq (pc := 75) (tgt := 82) X rr_8 d_Script_execute_75 (by decide) (fun hc => ?_) (fun hc => ?_)
      · replace hv := hv.1 hc
        refine z_iconst (pc := 82) X d_Script_execute_82 ?_
        exact E.2.2.1 rfl _ _ _ _ (by decide) d_Script_execute_83 ⟨_, rfl, (show zr 0 from by decide), zh_7, hv⟩
      · replace hv := hv.2 hc
        refine z_iconst (pc := 78) X d_Script_execute_78 ?_
        refine z_goto (pc := 79) (tgt := 83) X d_Script_execute_79 (by decide) ?_
        exact E.2.2.1 rfl _ _ _ _ (by decide) d_Script_execute_83 ⟨_, rfl, (show zr 1 from by decide), zh_7, hv⟩
  · replace hv := hv.2.2.1 hc
    refine z_tableIn (pc := 19) (tgt := 84) (off := 65) X (zr_div rx1 v_6 (by decide)) d_Script_execute_19 (by omega) (by omega) (by rw [hc]; rfl) (by decide) ?_
    refine z_iload_n (pc := 84) (q := 1) X d_Script_execute_84 rfl ?_
    refine z_if_ne (pc := 85) (tgt := 101) X rx3_3 d_Script_execute_85 (by decide) (fun hc => ?_) (fun hc => ?_)
    · replace hv := hv.1 hc
      refine z_iconst (pc := 101) X d_Script_execute_101 ?_
      exact E.2.2.1 rfl _ _ _ _ (by decide) d_Script_execute_102 ⟨_, rfl, (show zr 0 from by decide), hh, hv⟩
    · replace hv := hv.2 hc
      refine z_aload_n (pc := 88) (q := 2) X d_Script_execute_88 rfl ?_
      refine z_iload (pc := 89) (q := 0) X d_Script_execute_89 rfl ?_
      refine z_callVi (pc := 91) (As := [zi x4_5]) (rest := []) X (fun l hl => c_Script_dropOne hl op0 rx4_5 hh hv) cf_Script op0 rfl mf_Script_dropOne q946 ⟨⟨by decide, by decide⟩, rfl, rfl⟩ rfl d_Script_execute_91 rfl (Nat.le_of_ble_eq_true rfl) (fun r_10 h_9 rr_10 zh_9 hv => ?_)
      refine z_if_eq (pc := 94) (tgt := 101) X rr_10 d_Script_execute_94 (by decide) (fun hc => ?_) (fun hc => ?_)
      · replace hv := hv.1 hc
        refine z_iconst (pc := 101) X d_Script_execute_101 ?_
        exact E.2.2.1 rfl _ _ _ _ (by decide) d_Script_execute_102 ⟨_, rfl, (show zr 0 from by decide), zh_9, hv⟩
      · replace hv := hv.2 hc
        refine z_iconst (pc := 97) X d_Script_execute_97 ?_
        refine z_goto (pc := 98) (tgt := 102) X d_Script_execute_98 (by decide) ?_
        exact E.2.2.1 rfl _ _ _ _ (by decide) d_Script_execute_102 ⟨_, rfl, (show zr 1 from by decide), zh_9, hv⟩
  · replace hv := hv.2.2.2.1 hc
    refine z_tableIn (pc := 19) (tgt := 103) (off := 84) X (zr_div rx1 v_6 (by decide)) d_Script_execute_19 (by omega) (by omega) (by rw [hc]; rfl) (by decide) ?_
    refine z_iload_n (pc := 103) (q := 1) X d_Script_execute_103 rfl ?_
    refine z_if_ne (pc := 104) (tgt := 124) X rx3_3 d_Script_execute_104 (by decide) (fun hc => ?_) (fun hc => ?_)
    · replace hv := hv.1 hc
      refine z_iconst (pc := 124) X d_Script_execute_124 ?_
      exact E.2.2.1 rfl _ _ _ _ (by decide) d_Script_execute_125 ⟨_, rfl, (show zr 0 from by decide), hh, hv⟩
    · replace hv := hv.2 hc
      refine z_iload (pc := 107) (q := 0) X d_Script_execute_107 rfl ?_
      refine z_if_ne (pc := 109) (tgt := 124) X rx4_5 d_Script_execute_109 (by decide) (fun hc => ?_) (fun hc => ?_)
      · replace hv := hv.1 hc
        refine z_iconst (pc := 124) X d_Script_execute_124 ?_
        exact E.2.2.1 rfl _ _ _ _ (by decide) d_Script_execute_125 ⟨_, rfl, (show zr 0 from by decide), hh, hv⟩
      · replace hv := hv.2 hc
        refine z_aload_n (pc := 112) (q := 2) X d_Script_execute_112 rfl ?_
        refine z_aload_n (pc := 113) (q := 4) X d_Script_execute_113 rfl ?_
        refine z_callVi (pc := 114) (As := [.ref (g.2.2 p2)]) (rest := []) X (fun l hl => c_Script_fillTape hl op0 op2 hh hv) cf_Script op0 rfl mf_Script_fillTape q952 ⟨⟨by decide, by decide⟩, rfl, rfl⟩ rfl d_Script_execute_114 rfl (Nat.le_of_ble_eq_true rfl) (fun r_12 h_11 rr_12 zh_11 hv => ?_)
        refine z_if_eq (pc := 117) (tgt := 124) X rr_12 d_Script_execute_117 (by decide) (fun hc => ?_) (fun hc => ?_)
        · replace hv := hv.1 hc
          refine z_iconst (pc := 124) X d_Script_execute_124 ?_
          exact E.2.2.1 rfl _ _ _ _ (by decide) d_Script_execute_125 ⟨_, rfl, (show zr 0 from by decide), zh_11, hv⟩
        · replace hv := hv.2 hc
          refine z_iconst (pc := 120) X d_Script_execute_120 ?_
          refine z_goto (pc := 121) (tgt := 125) X d_Script_execute_121 (by decide) ?_
          exact E.2.2.1 rfl _ _ _ _ (by decide) d_Script_execute_125 ⟨_, rfl, (show zr 1 from by decide), zh_11, hv⟩
  · replace hv := hv.2.2.2.2.1 hc
    refine z_tableIn (pc := 19) (tgt := 126) (off := 107) X (zr_div rx1 v_6 (by decide)) d_Script_execute_19 (by omega) (by omega) (by rw [hc]; rfl) (by decide) ?_
    refine z_iload_n (pc := 126) (q := 1) X d_Script_execute_126 rfl ?_
    refine z_if_ne (pc := 127) (tgt := 147) X rx3_3 d_Script_execute_127 (by decide) (fun hc => ?_) (fun hc => ?_)
    · replace hv := hv.1 hc
      refine z_iconst (pc := 147) X d_Script_execute_147 ?_
      exact E.2.2.1 rfl _ _ _ _ (by decide) d_Script_execute_148 ⟨_, rfl, (show zr 0 from by decide), hh, hv⟩
    · replace hv := hv.2 hc
      refine z_iload (pc := 130) (q := 0) X d_Script_execute_130 rfl ?_
      refine z_if_ne (pc := 132) (tgt := 147) X rx4_5 d_Script_execute_132 (by decide) (fun hc => ?_) (fun hc => ?_)
      · replace hv := hv.1 hc
        refine z_iconst (pc := 147) X d_Script_execute_147 ?_
        exact E.2.2.1 rfl _ _ _ _ (by decide) d_Script_execute_148 ⟨_, rfl, (show zr 0 from by decide), hh, hv⟩
      · replace hv := hv.2 hc
        refine z_aload_n (pc := 135) (q := 2) X d_Script_execute_135 rfl ?_
        refine z_aload_n (pc := 136) (q := 4) X d_Script_execute_136 rfl ?_
        refine z_callVi (pc := 137) (As := [.ref (g.2.2 p2)]) (rest := []) X (fun l hl => c_Script_takeMessage hl op0 op2 hh hv) cf_Script op0 rfl mf_Script_takeMessage q959 ⟨⟨by decide, by decide⟩, rfl, rfl⟩ rfl d_Script_execute_137 rfl (Nat.le_of_ble_eq_true rfl) (fun r_14 h_13 rr_14 zh_13 hv => ?_)
        refine z_if_eq (pc := 140) (tgt := 147) X rr_14 d_Script_execute_140 (by decide) (fun hc => ?_) (fun hc => ?_)
        · replace hv := hv.1 hc
          refine z_iconst (pc := 147) X d_Script_execute_147 ?_
          exact E.2.2.1 rfl _ _ _ _ (by decide) d_Script_execute_148 ⟨_, rfl, (show zr 0 from by decide), zh_13, hv⟩
        · replace hv := hv.2 hc
          refine z_iconst (pc := 143) X d_Script_execute_143 ?_
          refine z_goto (pc := 144) (tgt := 148) X d_Script_execute_144 (by decide) ?_
          exact E.2.2.1 rfl _ _ _ _ (by decide) d_Script_execute_148 ⟨_, rfl, (show zr 1 from by decide), zh_13, hv⟩
  · replace hv := hv.2.2.2.2.2.1 hc
    refine z_tableIn (pc := 19) (tgt := 149) (off := 130) X (zr_div rx1 v_6 (by decide)) d_Script_execute_19 (by omega) (by omega) (by rw [hc]; rfl) (by decide) ?_
    refine z_aload_n (pc := 149) (q := 2) X d_Script_execute_149 rfl ?_
    refine z_iload (pc := 150) (q := 0) X d_Script_execute_150 rfl ?_
    refine z_iload_n (pc := 152) (q := 1) X d_Script_execute_152 rfl ?_
    refine z_callVi (pc := 153) (As := [zi x4_5, zi x3_3]) (rest := []) X (fun l hl => c_Script_changeDigit hl op0 rx4_5 rx3_3 hh hv) cf_Script op0 rfl mf_Script_changeDigit q966 ⟨⟨by decide, by decide⟩, rfl, rfl⟩ rfl d_Script_execute_153 rfl (Nat.le_of_ble_eq_true rfl) (fun r_16 h_15 rr_16 zh_15 hv => ?_)
    obtain ⟨v_17, hv⟩ := hv
    exact E.2.2.1 rfl _ _ _ _ v_17 d_Script_execute_156 ⟨_, rfl, rr_16, zh_15, hv⟩
  · replace hv := hv.2.2.2.2.2.2.1 hc
    refine z_tableIn (pc := 19) (tgt := 157) (off := 138) X (zr_div rx1 v_6 (by decide)) d_Script_execute_19 (by omega) (by omega) (by rw [hc]; rfl) (by decide) ?_
    refine z_iload_n (pc := 157) (q := 1) X d_Script_execute_157 rfl ?_
    refine z_if_ne (pc := 158) (tgt := 180) X rx3_3 d_Script_execute_158 (by decide) (fun hc => ?_) (fun hc => ?_)
    · replace hv := hv.1 hc
      refine z_iconst (pc := 180) X d_Script_execute_180 ?_
      exact E.2.2.1 rfl _ _ _ _ (by decide) d_Script_execute_181 ⟨_, rfl, (show zr 0 from by decide), hh, hv⟩
    · replace hv := hv.2 hc
      refine z_aload_n (pc := 161) (q := 2) X d_Script_execute_161 rfl ?_
      refine z_getr (pc := 162) (j := 0) (dd := 1) X cf_Script op0 (by decide) q303 rfl rfl d_Script_execute_162 ?_
      refine z_getrN (pc := 165) (j := 2) (dd := 3) X cf_State (gf_Script_0 op0) (by decide) q175 rfl rfl d_Script_execute_165 ?_
      refine z_getiN (pc := 168) (j := 4) X cf_Tape (gf_State_2 (gf_Script_0 op0)) (by decide) q156 rfl rfl d_Script_execute_168 ?_
      refine z_iload (pc := 171) (q := 0) X d_Script_execute_171 rfl ?_
      refine z_icmp_ne (pc := 173) (tgt := 180) X (hh.1 _ _ (zO.ne (gf_State_2 (gf_Script_0 op0)) (by decide))) rx4_5 d_Script_execute_173 (by decide) (fun hc => ?_) (fun hc => ?_)
      · replace hv := hv.1 hc
        refine z_iconst (pc := 180) X d_Script_execute_180 ?_
        exact E.2.2.1 rfl _ _ _ _ (by decide) d_Script_execute_181 ⟨_, rfl, (show zr 0 from by decide), hh, hv⟩
      · replace hv := hv.2 hc
        refine z_iconst (pc := 176) X d_Script_execute_176 ?_
        refine z_goto (pc := 177) (tgt := 181) X d_Script_execute_177 (by decide) ?_
        exact E.2.2.1 rfl _ _ _ _ (by decide) d_Script_execute_181 ⟨_, rfl, (show zr 1 from by decide), hh, hv⟩
  · replace hv := hv.2.2.2.2.2.2.2.1 hc
    refine z_tableIn (pc := 19) (tgt := 182) (off := 163) X (zr_div rx1 v_6 (by decide)) d_Script_execute_19 (by omega) (by omega) (by rw [hc]; rfl) (by decide) ?_
    refine z_iload_n (pc := 182) (q := 1) X d_Script_execute_182 rfl ?_
    refine z_if_ne (pc := 183) (tgt := 215) X rx3_3 d_Script_execute_183 (by decide) (fun hc => ?_) (fun hc => ?_)
    · replace hv := hv.1 hc
      refine z_iconst (pc := 215) X d_Script_execute_215 ?_
      exact E.2.2.1 rfl _ _ _ _ (by decide) d_Script_execute_216 ⟨_, rfl, (show zr 0 from by decide), hh, hv⟩
    · replace hv := hv.2 hc
      refine z_iload (pc := 186) (q := 0) X d_Script_execute_186 rfl ?_
      refine z_iconst (pc := 188) X d_Script_execute_188 ?_
      refine z_icmp_gt (pc := 189) (tgt := 215) X rx4_5 (show zr 1 from by decide) d_Script_execute_189 (by decide) (fun hc => ?_) (fun hc => ?_)
      · replace hv := hv.1 hc
        refine z_iconst (pc := 215) X d_Script_execute_215 ?_
        exact E.2.2.1 rfl _ _ _ _ (by decide) d_Script_execute_216 ⟨_, rfl, (show zr 0 from by decide), hh, hv⟩
      · replace hv := hv.2 hc
        refine z_aload_n (pc := 192) (q := 2) X d_Script_execute_192 rfl ?_
        refine z_aload_n (pc := 193) (q := 4) X d_Script_execute_193 rfl ?_
        refine z_callVi (pc := 194) (As := [.ref (g.2.2 p2)]) (rest := []) X (fun l hl => c_Script_isIntact hl op0 op2 hh hv) cf_Script op0 rfl mf_Script_isIntact q971 ⟨⟨by decide, by decide⟩, rfl, rfl⟩ rfl d_Script_execute_194 rfl (Nat.le_of_ble_eq_true rfl) (fun r_19 h_18 rr_19 zh_18 hv => ?_)
        refine z_iload (pc := 197) (q := 0) X d_Script_execute_197 rfl ?_
        refine z_iconst (pc := 199) X d_Script_execute_199 ?_
        refine z_icmp_ne (pc := 200) (tgt := 207) X rx4_5 (show zr 1 from by decide) d_Script_execute_200 (by decide) (fun hc => ?_) (fun hc => ?_)
        · replace hv := hv.1 hc
          refine z_iconst (pc := 207) X d_Script_execute_207 ?_
          refine z_perm [] rfl ?_
          exact s_Script_execute_208 X E   rr_19 (show zr 0 from by decide) zh_18 hv
        · replace hv := hv.2 hc
          refine z_iconst (pc := 203) X d_Script_execute_203 ?_
          refine z_goto (pc := 204) (tgt := 208) X d_Script_execute_204 (by decide) ?_
          refine z_perm [] rfl ?_
          exact s_Script_execute_208 X E   rr_19 (show zr 1 from by decide) zh_18 hv
  · replace hv := hv.2.2.2.2.2.2.2.2 hc
    refine z_tableIn (pc := 19) (tgt := 217) (off := 198) X (zr_div rx1 v_6 (by decide)) d_Script_execute_19 (by omega) (by omega) (by rw [hc]; rfl) (by decide) ?_
    refine z_aload_n (pc := 217) (q := 2) X d_Script_execute_217 rfl ?_
    refine z_iload (pc := 218) (q := 0) X d_Script_execute_218 rfl ?_
    refine z_iload_n (pc := 220) (q := 1) X d_Script_execute_220 rfl ?_
    refine z_aload_n (pc := 221) (q := 4) X d_Script_execute_221 rfl ?_
    refine z_callVi (pc := 222) (As := [zi x4_5, zi x3_3, .ref (g.2.2 p2)]) (rest := []) X (fun l hl => c_Script_takes hl op0 rx4_5 rx3_3 op2 hh hv) cf_Script op0 rfl mf_Script_takes q975 ⟨⟨by decide, by decide⟩, rfl, rfl⟩ rfl d_Script_execute_222 rfl (Nat.le_of_ble_eq_true rfl) (fun r_21 h_20 rr_21 zh_20 hv => ?_)
    obtain ⟨v_22, hv⟩ := hv
    exact E.2.2.1 rfl _ _ _ _ v_22 d_Script_execute_225 ⟨_, rfl, rr_21, zh_20, hv⟩

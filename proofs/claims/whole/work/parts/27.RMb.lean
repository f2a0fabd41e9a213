/-! 27.RMb (printed by wip/whole/methgen.py) -/
theorem d_RM_encodeTo_0 : decode b_RM_encodeTo 0 = .ok (.aload_n 1, 1) := by decide +kernel
theorem d_RM_encodeTo_1 : decode b_RM_encodeTo 1 = .ok (.sipush 190, 3) := by decide +kernel
theorem d_RM_encodeTo_4 : decode b_RM_encodeTo 4 = .ok (.iconst 0, 1) := by decide +kernel
theorem d_RM_encodeTo_5 : decode b_RM_encodeTo 5 = .ok (.iastore, 1) := by decide +kernel
theorem d_RM_encodeTo_6 : decode b_RM_encodeTo 6 = .ok (.aload_n 1, 1) := by decide +kernel
theorem d_RM_encodeTo_7 : decode b_RM_encodeTo 7 = .ok (.sipush 191, 3) := by decide +kernel
theorem d_RM_encodeTo_10 : decode b_RM_encodeTo 10 = .ok (.sipush 512, 3) := by decide +kernel
theorem d_RM_encodeTo_13 : decode b_RM_encodeTo 13 = .ok (.iastore, 1) := by decide +kernel
theorem d_RM_encodeTo_14 : decode b_RM_encodeTo 14 = .ok (.aload_n 1, 1) := by decide +kernel
theorem d_RM_encodeTo_15 : decode b_RM_encodeTo 15 = .ok (.sipush 192, 3) := by decide +kernel
theorem d_RM_encodeTo_18 : decode b_RM_encodeTo 18 = .ok (.sipush 512, 3) := by decide +kernel
theorem d_RM_encodeTo_21 : decode b_RM_encodeTo 21 = .ok (.iastore, 1) := by decide +kernel
theorem d_RM_encodeTo_22 : decode b_RM_encodeTo 22 = .ok (.aload_n 1, 1) := by decide +kernel
theorem d_RM_encodeTo_23 : decode b_RM_encodeTo 23 = .ok (.sipush 189, 3) := by decide +kernel
theorem d_RM_encodeTo_26 : decode b_RM_encodeTo 26 = .ok (.aload_n 0, 1) := by decide +kernel
theorem d_RM_encodeTo_27 : decode b_RM_encodeTo 27 = .ok (.getfield 99, 3) := by decide +kernel
theorem d_RM_encodeTo_30 : decode b_RM_encodeTo 30 = .ok (.iastore, 1) := by decide +kernel
theorem d_RM_encodeTo_31 : decode b_RM_encodeTo 31 = .ok (.aload_n 0, 1) := by decide +kernel
theorem d_RM_encodeTo_32 : decode b_RM_encodeTo 32 = .ok (.getfield 99, 3) := by decide +kernel
theorem d_RM_encodeTo_35 : decode b_RM_encodeTo 35 = .ok (.iconst 1, 1) := by decide +kernel
theorem d_RM_encodeTo_36 : decode b_RM_encodeTo 36 = .ok (.isub, 1) := by decide +kernel
theorem d_RM_encodeTo_37 : decode b_RM_encodeTo 37 = .ok (.istore_n 2, 1) := by decide +kernel
theorem d_RM_encodeTo_38 : decode b_RM_encodeTo 38 = .ok (.iload_n 2, 1) := by decide +kernel
theorem d_RM_encodeTo_39 : decode b_RM_encodeTo 39 = .ok (.ifCond .lt 141, 3) := by decide +kernel
theorem d_RM_encodeTo_42 : decode b_RM_encodeTo 42 = .ok (.aload_n 0, 1) := by decide +kernel
theorem d_RM_encodeTo_43 : decode b_RM_encodeTo 43 = .ok (.getfield 81, 3) := by decide +kernel
theorem d_RM_encodeTo_46 : decode b_RM_encodeTo 46 = .ok (.iload_n 2, 1) := by decide +kernel
theorem d_RM_encodeTo_47 : decode b_RM_encodeTo 47 = .ok (.iaload, 1) := by decide +kernel
theorem d_RM_encodeTo_48 : decode b_RM_encodeTo 48 = .ok (.istore_n 3, 1) := by decide +kernel
theorem d_RM_encodeTo_49 : decode b_RM_encodeTo 49 = .ok (.aload_n 0, 1) := by decide +kernel
theorem d_RM_encodeTo_50 : decode b_RM_encodeTo 50 = .ok (.getfield 78, 3) := by decide +kernel
theorem d_RM_encodeTo_53 : decode b_RM_encodeTo 53 = .ok (.iload_n 2, 1) := by decide +kernel
theorem d_RM_encodeTo_54 : decode b_RM_encodeTo 54 = .ok (.iaload, 1) := by decide +kernel
theorem d_RM_encodeTo_55 : decode b_RM_encodeTo 55 = .ok (.istore 4, 2) := by decide +kernel
theorem d_RM_encodeTo_57 : decode b_RM_encodeTo 57 = .ok (.aload_n 0, 1) := by decide +kernel
theorem d_RM_encodeTo_58 : decode b_RM_encodeTo 58 = .ok (.getfield 42, 3) := by decide +kernel
theorem d_RM_encodeTo_61 : decode b_RM_encodeTo 61 = .ok (.bipush 8, 2) := by decide +kernel
theorem d_RM_encodeTo_63 : decode b_RM_encodeTo 63 = .ok (.iload_n 3, 1) := by decide +kernel
theorem d_RM_encodeTo_64 : decode b_RM_encodeTo 64 = .ok (.imul, 1) := by decide +kernel
theorem d_RM_encodeTo_65 : decode b_RM_encodeTo 65 = .ok (.iload 4, 2) := by decide +kernel
theorem d_RM_encodeTo_67 : decode b_RM_encodeTo 67 = .ok (.iadd, 1) := by decide +kernel
theorem d_RM_encodeTo_68 : decode b_RM_encodeTo 68 = .ok (.iaload, 1) := by decide +kernel
theorem d_RM_encodeTo_69 : decode b_RM_encodeTo 69 = .ok (.istore 5, 2) := by decide +kernel
theorem d_RM_encodeTo_71 : decode b_RM_encodeTo 71 = .ok (.aload_n 1, 1) := by decide +kernel
theorem d_RM_encodeTo_72 : decode b_RM_encodeTo 72 = .ok (.sipush 191, 3) := by decide +kernel
theorem d_RM_encodeTo_75 : decode b_RM_encodeTo 75 = .ok (.iload_n 2, 1) := by decide +kernel
theorem d_RM_encodeTo_76 : decode b_RM_encodeTo 76 = .ok (.iconst 2, 1) := by decide +kernel
theorem d_RM_encodeTo_77 : decode b_RM_encodeTo 77 = .ok (.irem, 1) := by decide +kernel
theorem d_RM_encodeTo_78 : decode b_RM_encodeTo 78 = .ok (.iadd, 1) := by decide +kernel
theorem d_RM_encodeTo_79 : decode b_RM_encodeTo 79 = .ok (.iaload, 1) := by decide +kernel
theorem d_RM_encodeTo_80 : decode b_RM_encodeTo 80 = .ok (.istore 6, 2) := by decide +kernel
theorem d_RM_encodeTo_82 : decode b_RM_encodeTo 82 = .ok (.aload_n 1, 1) := by decide +kernel
theorem d_RM_encodeTo_83 : decode b_RM_encodeTo 83 = .ok (.bipush 64, 2) := by decide +kernel
theorem d_RM_encodeTo_85 : decode b_RM_encodeTo 85 = .ok (.iload_n 2, 1) := by decide +kernel
theorem d_RM_encodeTo_86 : decode b_RM_encodeTo 86 = .ok (.iadd, 1) := by decide +kernel
theorem d_RM_encodeTo_87 : decode b_RM_encodeTo 87 = .ok (.iload_n 3, 1) := by decide +kernel
theorem d_RM_encodeTo_88 : decode b_RM_encodeTo 88 = .ok (.iastore, 1) := by decide +kernel
theorem d_RM_encodeTo_89 : decode b_RM_encodeTo 89 = .ok (.iload 6, 2) := by decide +kernel
theorem d_RM_encodeTo_91 : decode b_RM_encodeTo 91 = .ok (.sipush 256, 3) := by decide +kernel
theorem d_RM_encodeTo_94 : decode b_RM_encodeTo 94 = .ok (.iload 5, 2) := by decide +kernel
theorem d_RM_encodeTo_96 : decode b_RM_encodeTo 96 = .ok (.imul, 1) := by decide +kernel
theorem d_RM_encodeTo_97 : decode b_RM_encodeTo 97 = .ok (.if_icmp .lt 37, 3) := by decide +kernel
theorem d_RM_encodeTo_100 : decode b_RM_encodeTo 100 = .ok (.aload_n 1, 1) := by decide +kernel
theorem d_RM_encodeTo_101 : decode b_RM_encodeTo 101 = .ok (.bipush 104, 2) := by decide +kernel
theorem d_RM_encodeTo_103 : decode b_RM_encodeTo 103 = .ok (.aload_n 1, 1) := by decide +kernel
theorem d_RM_encodeTo_104 : decode b_RM_encodeTo 104 = .ok (.sipush 190, 3) := by decide +kernel
theorem d_RM_encodeTo_107 : decode b_RM_encodeTo 107 = .ok (.iaload, 1) := by decide +kernel
theorem d_RM_encodeTo_108 : decode b_RM_encodeTo 108 = .ok (.iadd, 1) := by decide +kernel
theorem d_RM_encodeTo_109 : decode b_RM_encodeTo 109 = .ok (.iload 6, 2) := by decide +kernel
theorem d_RM_encodeTo_111 : decode b_RM_encodeTo 111 = .ok (.bipush 16, 2) := by decide +kernel
theorem d_RM_encodeTo_113 : decode b_RM_encodeTo 113 = .ok (.irem, 1) := by decide +kernel
theorem d_RM_encodeTo_114 : decode b_RM_encodeTo 114 = .ok (.iastore, 1) := by decide +kernel
theorem d_RM_encodeTo_115 : decode b_RM_encodeTo 115 = .ok (.aload_n 1, 1) := by decide +kernel
theorem d_RM_encodeTo_116 : decode b_RM_encodeTo 116 = .ok (.sipush 190, 3) := by decide +kernel
theorem d_RM_encodeTo_119 : decode b_RM_encodeTo 119 = .ok (.dup2, 1) := by decide +kernel
theorem d_RM_encodeTo_120 : decode b_RM_encodeTo 120 = .ok (.iaload, 1) := by decide +kernel
theorem d_RM_encodeTo_121 : decode b_RM_encodeTo 121 = .ok (.iconst 1, 1) := by decide +kernel
theorem d_RM_encodeTo_122 : decode b_RM_encodeTo 122 = .ok (.iadd, 1) := by decide +kernel
theorem d_RM_encodeTo_123 : decode b_RM_encodeTo 123 = .ok (.iastore, 1) := by decide +kernel
theorem d_RM_encodeTo_124 : decode b_RM_encodeTo 124 = .ok (.iload 6, 2) := by decide +kernel
theorem d_RM_encodeTo_126 : decode b_RM_encodeTo 126 = .ok (.bipush 16, 2) := by decide +kernel
theorem d_RM_encodeTo_128 : decode b_RM_encodeTo 128 = .ok (.idiv, 1) := by decide +kernel
theorem d_RM_encodeTo_129 : decode b_RM_encodeTo 129 = .ok (.istore 6, 2) := by decide +kernel
theorem d_RM_encodeTo_131 : decode b_RM_encodeTo 131 = .ok (.goto (-42), 3) := by decide +kernel
theorem d_RM_encodeTo_134 : decode b_RM_encodeTo 134 = .ok (.aload_n 1, 1) := by decide +kernel
theorem d_RM_encodeTo_135 : decode b_RM_encodeTo 135 = .ok (.sipush 191, 3) := by decide +kernel
theorem d_RM_encodeTo_138 : decode b_RM_encodeTo 138 = .ok (.iload_n 2, 1) := by decide +kernel
theorem d_RM_encodeTo_139 : decode b_RM_encodeTo 139 = .ok (.iconst 2, 1) := by decide +kernel
theorem d_RM_encodeTo_140 : decode b_RM_encodeTo 140 = .ok (.irem, 1) := by decide +kernel
theorem d_RM_encodeTo_141 : decode b_RM_encodeTo 141 = .ok (.iadd, 1) := by decide +kernel
theorem d_RM_encodeTo_142 : decode b_RM_encodeTo 142 = .ok (.bipush 32, 2) := by decide +kernel
theorem d_RM_encodeTo_144 : decode b_RM_encodeTo 144 = .ok (.iload 6, 2) := by decide +kernel
theorem d_RM_encodeTo_146 : decode b_RM_encodeTo 146 = .ok (.iload 5, 2) := by decide +kernel
theorem d_RM_encodeTo_148 : decode b_RM_encodeTo 148 = .ok (.idiv, 1) := by decide +kernel
theorem d_RM_encodeTo_149 : decode b_RM_encodeTo 149 = .ok (.imul, 1) := by decide +kernel
theorem d_RM_encodeTo_150 : decode b_RM_encodeTo 150 = .ok (.aload_n 0, 1) := by decide +kernel
theorem d_RM_encodeTo_151 : decode b_RM_encodeTo 151 = .ok (.getfield 57, 3) := by decide +kernel
theorem d_RM_encodeTo_154 : decode b_RM_encodeTo 154 = .ok (.sipush 256, 3) := by decide +kernel
theorem d_RM_encodeTo_157 : decode b_RM_encodeTo 157 = .ok (.iload_n 3, 1) := by decide +kernel
theorem d_RM_encodeTo_158 : decode b_RM_encodeTo 158 = .ok (.imul, 1) := by decide +kernel
theorem d_RM_encodeTo_159 : decode b_RM_encodeTo 159 = .ok (.bipush 32, 2) := by decide +kernel
theorem d_RM_encodeTo_161 : decode b_RM_encodeTo 161 = .ok (.iload 4, 2) := by decide +kernel
theorem d_RM_encodeTo_163 : decode b_RM_encodeTo 163 = .ok (.imul, 1) := by decide +kernel
theorem d_RM_encodeTo_164 : decode b_RM_encodeTo 164 = .ok (.iadd, 1) := by decide +kernel
theorem d_RM_encodeTo_165 : decode b_RM_encodeTo 165 = .ok (.iload 6, 2) := by decide +kernel
theorem d_RM_encodeTo_167 : decode b_RM_encodeTo 167 = .ok (.iload 5, 2) := by decide +kernel
theorem d_RM_encodeTo_169 : decode b_RM_encodeTo 169 = .ok (.irem, 1) := by decide +kernel
theorem d_RM_encodeTo_170 : decode b_RM_encodeTo 170 = .ok (.iadd, 1) := by decide +kernel
theorem d_RM_encodeTo_171 : decode b_RM_encodeTo 171 = .ok (.iaload, 1) := by decide +kernel
theorem d_RM_encodeTo_172 : decode b_RM_encodeTo 172 = .ok (.iadd, 1) := by decide +kernel
theorem d_RM_encodeTo_173 : decode b_RM_encodeTo 173 = .ok (.iastore, 1) := by decide +kernel
theorem d_RM_encodeTo_174 : decode b_RM_encodeTo 174 = .ok (.iinc 2 (-1), 3) := by decide +kernel
theorem d_RM_encodeTo_177 : decode b_RM_encodeTo 177 = .ok (.goto (-139), 3) := by decide +kernel
theorem d_RM_encodeTo_180 : decode b_RM_encodeTo 180 = .ok (.return_, 1) := by decide +kernel
def rm_RM_encodeTo : Room := { frames := 0, cells := 0, slots := 0, locals := 0 }
theorem mf_RM_encodeTo : zMV y_RM_encodeTo b_RM_encodeTo 7 none 1 := ⟨q1272, qs84, q13, q1273, by decide +kernel⟩
def F_RM_encodeTo_89 (K : zH → Prop) (L38 : Int × zH → Prop) (L89 : Int × zH → Prop) (p0 : Nat) (p1 : Nat) (x2 : Int) (x3 : Int) (x4 : Int) (x5 : Int) (x6 : Int) (h : zH) : Prop :=
  zr (256 * x5) ∧ ((x6 < 256 * x5 → (0 ≤ x2 ∧ (zr (191 + (x2 % 2)) ∧ ((0 ≤ x6 ∧ 0 < x5) ∧ (zr (32 * (x6 / x5)) ∧ (zr (256 * x3) ∧ (zr (32 * x4) ∧ (zr ((256 * x3) + (32 * x4)) ∧ ((0 ≤ x6 ∧ 0 < x5) ∧ (zr (((256 * x3) + (32 * x4)) + (x6 % x5)) ∧ ((0 ≤ ((256 * x3) + (32 * x4)) + (x6 % x5) ∧ ((256 * x3) + (32 * x4)) + (x6 % x5) < 768) ∧ (zr ((32 * (x6 / x5)) + (h (p0 + 14) ((((256 * x3) + (32 * x4)) + (x6 % x5)).toNat))) ∧ ((0 ≤ 191 + (x2 % 2) ∧ 191 + (x2 % 2) < ((zln p1 : Nat) : Int)) ∧ (∀ h_14 : zH, h_14 = zs h p1 ((191 + (x2 % 2)).toNat) ((32 * (x6 / x5)) + (h (p0 + 14) ((((256 * x3) + (32 * x4)) + (x6 % x5)).toNat))) → (zr (x2 + (-1)) ∧ (L38 (x2 + (-1), h_14))))))))))))))))) ∧ (256 * x5 ≤ x6 → ((190 : Int) < ((zln p1 : Nat) : Int) ∧ (zr (104 + (h p1 190)) ∧ (0 ≤ x6 ∧ ((0 ≤ 104 + (h p1 190) ∧ 104 + (h p1 190) < ((zln p1 : Nat) : Int)) ∧ (∀ h_20 : zH, h_20 = zs h p1 ((104 + (h p1 190)).toNat) (x6 % 16) → ((190 : Int) < ((zln p1 : Nat) : Int) ∧ (zr ((h_20 p1 190) + 1) ∧ ((190 : Int) < ((zln p1 : Nat) : Int) ∧ (∀ h_24 : zH, h_24 = zs h_20 p1 190 ((h_20 p1 190) + 1) → (0 ≤ x6 ∧ ((∀ x6_26 : Int, x6_26 = x6 / 16 → (L89 (x6_26, h_24))))))))))))))))
set_option maxRecDepth 100000 in
theorem s_RM_encodeTo_89 {Wf : Heap → List Loc → JFrame → Prop} {m : MethodId} {g : zG} {n : Nat} {H0 : Heap} (X : zX Wf m rm_RM_encodeTo b_RM_encodeTo "AliasStreamsModel" 7 g n H0) {K : zH → Prop} (E : zEx Wf m b_RM_encodeTo none 7 g n H0 (zPv K)) {L38 : Int × zH → Prop} {p0 : Nat} {p1 : Nat} {x2 : Int} {x3 : Int} {x4 : Int} {x5 : Int} (hL38 : ∀ q : Int × zH, L38 q → zr q.1 → zh (q.2) → zW Wf m 7 g n H0 38 [(0, .ref (g.2.2 p0)), (1, .ref (g.2.2 p1)), (2, zi q.1)] [] (q.2)) (op0 : zO n p0 11) (op1 : zO n p1 12) (rx2 : zr x2) (rx3 : zr x3) (rx4 : zr x4) (rx5 : zr x5) {q0 : Int × zH} (hv0 : zLoop (fun L q => F_RM_encodeTo_89 K L38 L p0 p1 x2 x3 x4 x5 q.1 q.2) q0) : zr q0.1 → zh (q0.2) → zW Wf m 7 g n H0 89 [(0, .ref (g.2.2 p0)), (1, .ref (g.2.2 p1)), (2, zi x2), (3, zi x3), (4, zi x4), (5, zi x5), (6, zi q0.1)] [] (q0.2) := by
  refine zLoop_use (G := fun q => zr q.1 → zh (q.2) → zW Wf m 7 g n H0 89 [(0, .ref (g.2.2 p0)), (1, .ref (g.2.2 p1)), (2, zi x2), (3, zi x3), (4, zi x4), (5, zi x5), (6, zi q.1)] [] (q.2)) ?_ hv0
  rintro L89 ⟨x6, h⟩ hL89 hv rx6 hh
  have hv : F_RM_encodeTo_89 K L38 L89 p0 p1 x2 x3 x4 x5 x6 h := hv
  unfold F_RM_encodeTo_89 at hv
  show zW Wf m 7 g n H0 89 [(0, .ref (g.2.2 p0)), (1, .ref (g.2.2 p1)), (2, zi x2), (3, zi x3), (4, zi x4), (5, zi x5), (6, zi x6)] [] h
  refine z_iload (pc := 89) (q := 6) X d_RM_encodeTo_89 rfl ?_
  refine z_sipush (pc := 91) X d_RM_encodeTo_91 (by decide) ?_
  refine z_iload (pc := 94) (q := 5) X d_RM_encodeTo_94 rfl ?_
  obtain ⟨v_1, hv⟩ := hv
  refine z_imul (pc := 96) X d_RM_encodeTo_96 ?_
  refine z_icmp_lt (pc := 97) (tgt := 134) X rx6 v_1 d_RM_encodeTo_97 (by decide) (fun hc => ?_) (fun hc => ?_)
  · replace hv := hv.1 hc
    refine z_aload_n (pc := 134) (q := 1) X d_RM_encodeTo_134 rfl ?_
    refine z_sipush (pc := 135) X d_RM_encodeTo_135 (by decide) ?_
    refine z_iload_n (pc := 138) (q := 2) X d_RM_encodeTo_138 rfl ?_
    refine z_iconst (pc := 139) X d_RM_encodeTo_139 ?_
    obtain ⟨v_2, hv⟩ := hv
    refine z_irem (pc := 140) X rx2 (show zr 2 from by decide) v_2 (by decide) d_RM_encodeTo_140 ?_
    obtain ⟨v_3, hv⟩ := hv
    refine z_iadd (pc := 141) X d_RM_encodeTo_141 ?_
    refine z_bipush (pc := 142) X d_RM_encodeTo_142 (by decide) ?_
    refine z_iload (pc := 144) (q := 6) X d_RM_encodeTo_144 rfl ?_
    refine z_iload (pc := 146) (q := 5) X d_RM_encodeTo_146 rfl ?_
    obtain ⟨v_4, hv⟩ := hv
    refine z_idiv (pc := 148) X rx6 rx5 v_4.1 v_4.2 d_RM_encodeTo_148 ?_
    obtain ⟨v_5, hv⟩ := hv
    refine z_imul (pc := 149) X d_RM_encodeTo_149 ?_
    refine z_aload_n (pc := 150) (q := 0) X d_RM_encodeTo_150 rfl ?_
    refine z_getr (pc := 151) (j := 21) (dd := 14) X cf_RM op0 (by decide) q1042 rfl rfl d_RM_encodeTo_151 ?_
    refine z_sipush (pc := 154) X d_RM_encodeTo_154 (by decide) ?_
    refine z_iload_n (pc := 157) (q := 3) X d_RM_encodeTo_157 rfl ?_
    obtain ⟨v_6, hv⟩ := hv
    refine z_imul (pc := 158) X d_RM_encodeTo_158 ?_
    refine z_bipush (pc := 159) X d_RM_encodeTo_159 (by decide) ?_
    refine z_iload (pc := 161) (q := 4) X d_RM_encodeTo_161 rfl ?_
    obtain ⟨v_7, hv⟩ := hv
    refine z_imul (pc := 163) X d_RM_encodeTo_163 ?_
    obtain ⟨v_8, hv⟩ := hv
    refine z_iadd (pc := 164) X d_RM_encodeTo_164 ?_
    refine z_iload (pc := 165) (q := 6) X d_RM_encodeTo_165 rfl ?_
    refine z_iload (pc := 167) (q := 5) X d_RM_encodeTo_167 rfl ?_
    obtain ⟨v_9, hv⟩ := hv
    refine z_irem (pc := 169) X rx6 rx5 v_9.1 v_9.2 d_RM_encodeTo_169 ?_
    obtain ⟨v_10, hv⟩ := hv
    refine z_iadd (pc := 170) X d_RM_encodeTo_170 ?_
    obtain ⟨v_11, hv⟩ := hv
    refine z_ialdj (pc := 171) (j := (((256 * x3) + (32 * x4)) + (x6 % x5)).toNat) X (gf_RM_21 op0) (gl_RM_21 op0) v_10 v_11 rfl d_RM_encodeTo_171 ?_
    obtain ⟨v_12, hv⟩ := hv
    refine z_iadd (pc := 172) X d_RM_encodeTo_172 ?_
    obtain ⟨v_13, hv⟩ := hv
    refine z_iastj (pc := 173) (j := (191 + (x2 % 2)).toNat) X op1 rfl v_3 v_13 rfl d_RM_encodeTo_173 ?_
    refine z_toph (fun h_14 eh_14 => ?_)
    have zh_14 : zh h_14 := by rw [eh_14]; exact zh_set hh (zO.ne op1 (by decide)) v_12
    replace hv := hv h_14 eh_14
    obtain ⟨v_15, hv⟩ := hv
    refine z_iinc (pc := 174) (q := 2) (lv' := [(2, zi (x2 + (-1))), (0, .ref (g.2.2 p0)), (1, .ref (g.2.2 p1)), (3, zi x3), (4, zi x4), (5, zi x5), (6, zi x6)]) X d_RM_encodeTo_174 rfl (by decide) rfl ?_
    refine z_goto (pc := 177) (tgt := 38) X d_RM_encodeTo_177 (by decide) ?_
    refine z_perm [1, 2, 0] rfl ?_
    exact hL38 _ hv v_15 zh_14
  · replace hv := hv.2 hc
    refine z_aload_n (pc := 100) (q := 1) X d_RM_encodeTo_100 rfl ?_
    refine z_bipush (pc := 101) X d_RM_encodeTo_101 (by decide) ?_
    refine z_aload_n (pc := 103) (q := 1) X d_RM_encodeTo_103 rfl ?_
    refine z_sipush (pc := 104) X d_RM_encodeTo_104 (by decide) ?_
    obtain ⟨v_16, hv⟩ := hv
    refine z_ialdj (pc := 107) (j := 190) X op1 rfl (show zr 190 from by decide) ⟨by decide, v_16⟩ rfl d_RM_encodeTo_107 ?_
    obtain ⟨v_17, hv⟩ := hv
    refine z_iadd (pc := 108) X d_RM_encodeTo_108 ?_
    refine z_iload (pc := 109) (q := 6) X d_RM_encodeTo_109 rfl ?_
    refine z_bipush (pc := 111) X d_RM_encodeTo_111 (by decide) ?_
    obtain ⟨v_18, hv⟩ := hv
    refine z_irem (pc := 113) X rx6 (show zr 16 from by decide) v_18 (by decide) d_RM_encodeTo_113 ?_
    obtain ⟨v_19, hv⟩ := hv
    refine z_iastj (pc := 114) (j := (104 + (h p1 190)).toNat) X op1 rfl v_17 v_19 rfl d_RM_encodeTo_114 ?_
    refine z_toph (fun h_20 eh_20 => ?_)
    have zh_20 : zh h_20 := by rw [eh_20]; exact zh_set hh (zO.ne op1 (by decide)) (zr_rem (show zr 16 from by decide) (by decide))
    replace hv := hv h_20 eh_20
    refine z_aload_n (pc := 115) (q := 1) X d_RM_encodeTo_115 rfl ?_
    refine z_sipush (pc := 116) X d_RM_encodeTo_116 (by decide) ?_
    refine z_dup2 (pc := 119) X d_RM_encodeTo_119 rfl rfl ?_
    obtain ⟨v_21, hv⟩ := hv
    refine z_ialdj (pc := 120) (j := 190) X op1 rfl (show zr 190 from by decide) ⟨by decide, v_21⟩ rfl d_RM_encodeTo_120 ?_
    refine z_iconst (pc := 121) X d_RM_encodeTo_121 ?_
    obtain ⟨v_22, hv⟩ := hv
    refine z_iadd (pc := 122) X d_RM_encodeTo_122 ?_
    obtain ⟨v_23, hv⟩ := hv
    refine z_iastj (pc := 123) (j := 190) X op1 rfl (show zr 190 from by decide) ⟨by decide, v_23⟩ rfl d_RM_encodeTo_123 ?_
    refine z_toph (fun h_24 eh_24 => ?_)
    have zh_24 : zh h_24 := by rw [eh_24]; exact zh_set zh_20 (zO.ne op1 (by decide)) v_22
    replace hv := hv h_24 eh_24
    refine z_iload (pc := 124) (q := 6) X d_RM_encodeTo_124 rfl ?_
    refine z_bipush (pc := 126) X d_RM_encodeTo_126 (by decide) ?_
    obtain ⟨v_25, hv⟩ := hv
    refine z_idiv (pc := 128) X rx6 (show zr 16 from by decide) v_25 (by decide) d_RM_encodeTo_128 ?_
    refine z_topi (fun x6_26 ex6_26 => ?_)
    have rx6_26 : zr x6_26 := by rw [ex6_26]; exact (zr_div rx6 v_25 (by decide))
    replace hv := hv x6_26 ex6_26
    refine z_istore (pc := 129) (lv' := [(6, zi x6_26), (0, .ref (g.2.2 p0)), (1, .ref (g.2.2 p1)), (2, zi x2), (3, zi x3), (4, zi x4), (5, zi x5)]) X d_RM_encodeTo_129 (by decide) rfl ?_
    refine z_goto (pc := 131) (tgt := 89) X d_RM_encodeTo_131 (by decide) ?_
    refine z_perm [1, 2, 3, 4, 5, 6, 0] rfl ?_
    exact hL89 _ hv rx6_26 zh_24
def F_RM_encodeTo_38 (K : zH → Prop)  (L38 : Int × zH → Prop) (p0 : Nat) (p1 : Nat) (x2 : Int) (h : zH) : Prop :=
  (x2 < 0 → (K h)) ∧ (0 ≤ x2 → ((0 ≤ x2 ∧ x2 < 40) ∧ ((∀ x3_2 : Int, x3_2 = h (p0 + 22) x2.toNat → ((0 ≤ x2 ∧ x2 < 40) ∧ ((∀ x4_4 : Int, x4_4 = h (p0 + 21) x2.toNat → (zr (8 * x3_2) ∧ (zr ((8 * x3_2) + x4_4) ∧ ((0 ≤ (8 * x3_2) + x4_4 ∧ (8 * x3_2) + x4_4 < 24) ∧ ((∀ x5_8 : Int, x5_8 = h (p0 + 9) (((8 * x3_2) + x4_4).toNat) → (0 ≤ x2 ∧ (zr (191 + (x2 % 2)) ∧ ((0 ≤ 191 + (x2 % 2) ∧ 191 + (x2 % 2) < ((zln p1 : Nat) : Int)) ∧ ((∀ x6_12 : Int, x6_12 = h p1 ((191 + (x2 % 2)).toNat) → (zr (64 + x2) ∧ ((0 ≤ 64 + x2 ∧ 64 + x2 < ((zln p1 : Nat) : Int)) ∧ (∀ h_15 : zH, h_15 = zs h p1 ((64 + x2).toNat) x3_2 → (zLoop (fun L q => F_RM_encodeTo_89 K L38 L p0 p1 x2 x3_2 x4_4 x5_8 q.1 q.2) (x6_12, h_15))))))))))))))))))))))
set_option maxRecDepth 100000 in
theorem s_RM_encodeTo_38 {Wf : Heap → List Loc → JFrame → Prop} {m : MethodId} {g : zG} {n : Nat} {H0 : Heap} (X : zX Wf m rm_RM_encodeTo b_RM_encodeTo "AliasStreamsModel" 7 g n H0) {K : zH → Prop} (E : zEx Wf m b_RM_encodeTo none 7 g n H0 (zPv K))  {p0 : Nat} {p1 : Nat}  (op0 : zO n p0 11) (op1 : zO n p1 12) {q0 : Int × zH} (hv0 : zLoop (fun L q => F_RM_encodeTo_38 K  L p0 p1 q.1 q.2) q0) : zr q0.1 → zh (q0.2) → zW Wf m 7 g n H0 38 [(0, .ref (g.2.2 p0)), (1, .ref (g.2.2 p1)), (2, zi q0.1)] [] (q0.2) := by
  refine zLoop_use (G := fun q => zr q.1 → zh (q.2) → zW Wf m 7 g n H0 38 [(0, .ref (g.2.2 p0)), (1, .ref (g.2.2 p1)), (2, zi q.1)] [] (q.2)) ?_ hv0
  rintro L38 ⟨x2, h⟩ hL38 hv rx2 hh
  have hv : F_RM_encodeTo_38 K  L38 p0 p1 x2 h := hv
  unfold F_RM_encodeTo_38 at hv
  show zW Wf m 7 g n H0 38 [(0, .ref (g.2.2 p0)), (1, .ref (g.2.2 p1)), (2, zi x2)] [] h
  refine z_iload_n (pc := 38) (q := 2) X d_RM_encodeTo_38 rfl ?_
  refine z_if_lt (pc := 39) (tgt := 180) X rx2 d_RM_encodeTo_39 (by decide) (fun hc => ?_) (fun hc => ?_)
  · replace hv := hv.1 hc
    exact E.1 rfl _ _ _ d_RM_encodeTo_180 ⟨rfl, hh, hv⟩
  · replace hv := hv.2 hc
    refine z_aload_n (pc := 42) (q := 0) X d_RM_encodeTo_42 rfl ?_
    refine z_getr (pc := 43) (j := 30) (dd := 22) X cf_RM op0 (by decide) q1051 rfl rfl d_RM_encodeTo_43 ?_
    refine z_iload_n (pc := 46) (q := 2) X d_RM_encodeTo_46 rfl ?_
    obtain ⟨v_1, hv⟩ := hv
    refine z_ialdj (pc := 47) (j := x2.toNat) X (gf_RM_30 op0) (gl_RM_30 op0) rx2 v_1 rfl d_RM_encodeTo_47 ?_
    refine z_topi (fun x3_2 ex3_2 => ?_)
    have rx3_2 : zr x3_2 := by rw [ex3_2]; exact (hh.1 _ _ (zO.ne (gf_RM_30 op0) (by decide)))
    replace hv := hv x3_2 ex3_2
    refine z_istore_n (pc := 48) (lv' := [(3, zi x3_2), (0, .ref (g.2.2 p0)), (1, .ref (g.2.2 p1)), (2, zi x2)]) X d_RM_encodeTo_48 (by decide) rfl ?_
    refine z_aload_n (pc := 49) (q := 1) X d_RM_encodeTo_49 rfl ?_
    refine z_getr (pc := 50) (j := 29) (dd := 21) X cf_RM op0 (by decide) q1050 rfl rfl d_RM_encodeTo_50 ?_
    refine z_iload_n (pc := 53) (q := 3) X d_RM_encodeTo_53 rfl ?_
    obtain ⟨v_3, hv⟩ := hv
    refine z_ialdj (pc := 54) (j := x2.toNat) X (gf_RM_29 op0) (gl_RM_29 op0) rx2 v_3 rfl d_RM_encodeTo_54 ?_
    refine z_topi (fun x4_4 ex4_4 => ?_)
    have rx4_4 : zr x4_4 := by rw [ex4_4]; exact (hh.1 _ _ (zO.ne (gf_RM_29 op0) (by decide)))
    replace hv := hv x4_4 ex4_4
    refine z_istore (pc := 55) (lv' := [(4, zi x4_4), (3, zi x3_2), (0, .ref (g.2.2 p0)), (1, .ref (g.2.2 p1)), (2, zi x2)]) X d_RM_encodeTo_55 (by decide) rfl ?_
    refine z_aload_n (pc := 57) (q := 2) X d_RM_encodeTo_57 rfl ?_
    refine z_getr (pc := 58) (j := 16) (dd := 9) X cf_RM op0 (by decide) q1037 rfl rfl d_RM_encodeTo_58 ?_
    refine z_bipush (pc := 61) X d_RM_encodeTo_61 (by decide) ?_
    refine z_iload_n (pc := 63) (q := 1) X d_RM_encodeTo_63 rfl ?_
    obtain ⟨v_5, hv⟩ := hv
    refine z_imul (pc := 64) X d_RM_encodeTo_64 ?_
    refine z_iload (pc := 65) (q := 0) X d_RM_encodeTo_65 rfl ?_
    obtain ⟨v_6, hv⟩ := hv
    refine z_iadd (pc := 67) X d_RM_encodeTo_67 ?_
    obtain ⟨v_7, hv⟩ := hv
    refine z_ialdj (pc := 68) (j := ((8 * x3_2) + x4_4).toNat) X (gf_RM_16 op0) (gl_RM_16 op0) v_6 v_7 rfl d_RM_encodeTo_68 ?_
    refine z_topi (fun x5_8 ex5_8 => ?_)
    have rx5_8 : zr x5_8 := by rw [ex5_8]; exact (hh.1 _ _ (zO.ne (gf_RM_16 op0) (by decide)))
    replace hv := hv x5_8 ex5_8
    refine z_istore (pc := 69) (lv' := [(5, zi x5_8), (4, zi x4_4), (3, zi x3_2), (0, .ref (g.2.2 p0)), (1, .ref (g.2.2 p1)), (2, zi x2)]) X d_RM_encodeTo_69 (by decide) rfl ?_
    refine z_aload_n (pc := 71) (q := 4) X d_RM_encodeTo_71 rfl ?_
    refine z_sipush (pc := 72) X d_RM_encodeTo_72 (by decide) ?_
    refine z_iload_n (pc := 75) (q := 5) X d_RM_encodeTo_75 rfl ?_
    refine z_iconst (pc := 76) X d_RM_encodeTo_76 ?_
    obtain ⟨v_9, hv⟩ := hv
    refine z_irem (pc := 77) X rx2 (show zr 2 from by decide) v_9 (by decide) d_RM_encodeTo_77 ?_
    obtain ⟨v_10, hv⟩ := hv
    refine z_iadd (pc := 78) X d_RM_encodeTo_78 ?_
    obtain ⟨v_11, hv⟩ := hv
    refine z_ialdj (pc := 79) (j := (191 + (x2 % 2)).toNat) X op1 rfl v_10 v_11 rfl d_RM_encodeTo_79 ?_
    refine z_topi (fun x6_12 ex6_12 => ?_)
    have rx6_12 : zr x6_12 := by rw [ex6_12]; exact (hh.1 _ _ (zO.ne op1 (by decide)))
    replace hv := hv x6_12 ex6_12
    refine z_istore (pc := 80) (lv' := [(6, zi x6_12), (5, zi x5_8), (4, zi x4_4), (3, zi x3_2), (0, .ref (g.2.2 p0)), (1, .ref (g.2.2 p1)), (2, zi x2)]) X d_RM_encodeTo_80 (by decide) rfl ?_
    refine z_aload_n (pc := 82) (q := 5) X d_RM_encodeTo_82 rfl ?_
    refine z_bipush (pc := 83) X d_RM_encodeTo_83 (by decide) ?_
    refine z_iload_n (pc := 85) (q := 6) X d_RM_encodeTo_85 rfl ?_
    obtain ⟨v_13, hv⟩ := hv
    refine z_iadd (pc := 86) X d_RM_encodeTo_86 ?_
    refine z_iload_n (pc := 87) (q := 3) X d_RM_encodeTo_87 rfl ?_
    obtain ⟨v_14, hv⟩ := hv
    refine z_iastj (pc := 88) (j := (64 + x2).toNat) X op1 rfl v_13 v_14 rfl d_RM_encodeTo_88 ?_
    refine z_toph (fun h_15 eh_15 => ?_)
    have zh_15 : zh h_15 := by rw [eh_15]; exact zh_set hh (zO.ne op1 (by decide)) rx3_2
    replace hv := hv h_15 eh_15
    refine z_perm [4, 5, 6, 3, 2, 1, 0] rfl ?_
    exact s_RM_encodeTo_89 X E hL38 op0 op1 rx2 rx3_2 rx4_4 rx5_8 hv rx6_12 zh_15
def M_RM_encodeTo (p0 : Nat) (p1 : Nat) (h : zH) (K : zH → Prop) : Prop :=
  (190 : Int) < ((zln p1 : Nat) : Int) ∧ (∀ h_2 : zH, h_2 = zs h p1 190 0 → ((191 : Int) < ((zln p1 : Nat) : Int) ∧ (∀ h_4 : zH, h_4 = zs h_2 p1 191 512 → ((192 : Int) < ((zln p1 : Nat) : Int) ∧ (∀ h_6 : zH, h_6 = zs h_4 p1 192 512 → ((189 : Int) < ((zln p1 : Nat) : Int) ∧ (∀ h_8 : zH, h_8 = zs h_6 p1 189 (h_6 p0 31) → (zr ((h_8 p0 31) - 1) ∧ ((∀ x2_10 : Int, x2_10 = (h_8 p0 31) - 1 → (zLoop (fun L q => F_RM_encodeTo_38 K  L p0 p1 q.1 q.2) (x2_10, h_8))))))))))))
set_option maxRecDepth 100000 in
theorem c_RM_encodeTo {l : Launch} (hfl : l.flags = flags0) {g : zG} {n : Nat} {p0 : Nat} {p1 : Nat} (op0 : zO n p0 11) (op1 : zO n p1 12) {h : zH} (hh : zh h) {K : zH → Prop} (hv : M_RM_encodeTo p0 p1 h K) : zMet l y_RM_encodeTo b_RM_encodeTo 7 none rm_RM_encodeTo g n [.ref (g.2.2 p0), .ref (g.2.2 p1)] h (zPv K) := by
  refine zMet_of (own := "AliasStreamsModel") hfl (by decide) rfl (Nat.le_of_ble_eq_true rfl) (fun Wf m H0 X E => ?_)
  unfold M_RM_encodeTo at hv
  show zW Wf m 7 g n H0 0 [(0, .ref (g.2.2 p0)), (1, .ref (g.2.2 p1))] [] h
  refine z_aload_n (pc := 0) (q := 1) X d_RM_encodeTo_0 rfl ?_
  refine z_sipush (pc := 1) X d_RM_encodeTo_1 (by decide) ?_
  refine z_iconst (pc := 4) X d_RM_encodeTo_4 ?_
  obtain ⟨v_1, hv⟩ := hv
  refine z_iastj (pc := 5) (j := 190) X op1 rfl (show zr 190 from by decide) ⟨by decide, v_1⟩ rfl d_RM_encodeTo_5 ?_
  refine z_toph (fun h_2 eh_2 => ?_)
  have zh_2 : zh h_2 := by rw [eh_2]; exact zh_set hh (zO.ne op1 (by decide)) (show zr 0 from by decide)
  replace hv := hv h_2 eh_2
  refine z_aload_n (pc := 6) (q := 1) X d_RM_encodeTo_6 rfl ?_
  refine z_sipush (pc := 7) X d_RM_encodeTo_7 (by decide) ?_
  refine z_sipush (pc := 10) X d_RM_encodeTo_10 (by decide) ?_
  obtain ⟨v_3, hv⟩ := hv
  refine z_iastj (pc := 13) (j := 191) X op1 rfl (show zr 191 from by decide) ⟨by decide, v_3⟩ rfl d_RM_encodeTo_13 ?_
  refine z_toph (fun h_4 eh_4 => ?_)
  have zh_4 : zh h_4 := by rw [eh_4]; exact zh_set zh_2 (zO.ne op1 (by decide)) (show zr 512 from by decide)
  replace hv := hv h_4 eh_4
  refine z_aload_n (pc := 14) (q := 1) X d_RM_encodeTo_14 rfl ?_
  refine z_sipush (pc := 15) X d_RM_encodeTo_15 (by decide) ?_
  refine z_sipush (pc := 18) X d_RM_encodeTo_18 (by decide) ?_
  obtain ⟨v_5, hv⟩ := hv
  refine z_iastj (pc := 21) (j := 192) X op1 rfl (show zr 192 from by decide) ⟨by decide, v_5⟩ rfl d_RM_encodeTo_21 ?_
  refine z_toph (fun h_6 eh_6 => ?_)
  have zh_6 : zh h_6 := by rw [eh_6]; exact zh_set zh_4 (zO.ne op1 (by decide)) (show zr 512 from by decide)
  replace hv := hv h_6 eh_6
  refine z_aload_n (pc := 22) (q := 1) X d_RM_encodeTo_22 rfl ?_
  refine z_sipush (pc := 23) X d_RM_encodeTo_23 (by decide) ?_
  refine z_aload_n (pc := 26) (q := 0) X d_RM_encodeTo_26 rfl ?_
  refine z_geti (pc := 27) (j := 31) X cf_RM op0 (by decide) q1052 rfl rfl d_RM_encodeTo_27 ?_
  obtain ⟨v_7, hv⟩ := hv
  refine z_iastj (pc := 30) (j := 189) X op1 rfl (show zr 189 from by decide) ⟨by decide, v_7⟩ rfl d_RM_encodeTo_30 ?_
  refine z_toph (fun h_8 eh_8 => ?_)
  have zh_8 : zh h_8 := by rw [eh_8]; exact zh_set zh_6 (zO.ne op1 (by decide)) (zh_6.1 _ _ (zO.ne op0 (by decide)))
  replace hv := hv h_8 eh_8
  refine z_aload_n (pc := 31) (q := 0) X d_RM_encodeTo_31 rfl ?_
  refine z_geti (pc := 32) (j := 31) X cf_RM op0 (by decide) q1052 rfl rfl d_RM_encodeTo_32 ?_
  refine z_iconst (pc := 35) X d_RM_encodeTo_35 ?_
  obtain ⟨v_9, hv⟩ := hv
  refine z_isub (pc := 36) X d_RM_encodeTo_36 ?_
  refine z_topi (fun x2_10 ex2_10 => ?_)
  have rx2_10 : zr x2_10 := by rw [ex2_10]; exact v_9
  replace hv := hv x2_10 ex2_10
  refine z_istore_n (pc := 37) (lv' := [(2, zi x2_10), (0, .ref (g.2.2 p0)), (1, .ref (g.2.2 p1))]) X d_RM_encodeTo_37 (by decide) rfl ?_
  refine z_perm [1, 2, 0] rfl ?_
  exact s_RM_encodeTo_38 X E  op0 op1 hv rx2_10 zh_8
theorem d_RM_take_0 : decode b_RM_take 0 = .ok (.aload_n 1, 1) := by decide +kernel
theorem d_RM_take_1 : decode b_RM_take 1 = .ok (.sipush 190, 3) := by decide +kernel
theorem d_RM_take_4 : decode b_RM_take 4 = .ok (.iaload, 1) := by decide +kernel
theorem d_RM_take_5 : decode b_RM_take 5 = .ok (.istore_n 2, 1) := by decide +kernel
theorem d_RM_take_6 : decode b_RM_take 6 = .ok (.aload_n 1, 1) := by decide +kernel
theorem d_RM_take_7 : decode b_RM_take 7 = .ok (.sipush 191, 3) := by decide +kernel
theorem d_RM_take_10 : decode b_RM_take 10 = .ok (.iaload, 1) := by decide +kernel
theorem d_RM_take_11 : decode b_RM_take 11 = .ok (.istore_n 3, 1) := by decide +kernel
theorem d_RM_take_12 : decode b_RM_take 12 = .ok (.aload_n 1, 1) := by decide +kernel
theorem d_RM_take_13 : decode b_RM_take 13 = .ok (.sipush 192, 3) := by decide +kernel
theorem d_RM_take_16 : decode b_RM_take 16 = .ok (.iaload, 1) := by decide +kernel
theorem d_RM_take_17 : decode b_RM_take 17 = .ok (.istore 4, 2) := by decide +kernel
theorem d_RM_take_19 : decode b_RM_take 19 = .ok (.aload_n 0, 1) := by decide +kernel
theorem d_RM_take_20 : decode b_RM_take 20 = .ok (.iconst 0, 1) := by decide +kernel
theorem d_RM_take_21 : decode b_RM_take 21 = .ok (.putfield 102, 3) := by decide +kernel
theorem d_RM_take_24 : decode b_RM_take 24 = .ok (.aload_n 0, 1) := by decide +kernel
theorem d_RM_take_25 : decode b_RM_take 25 = .ok (.getfield 72, 3) := by decide +kernel
theorem d_RM_take_28 : decode b_RM_take 28 = .ok (.iconst 0, 1) := by decide +kernel
theorem d_RM_take_29 : decode b_RM_take 29 = .ok (.iload_n 2, 1) := by decide +kernel
theorem d_RM_take_30 : decode b_RM_take 30 = .ok (.iastore, 1) := by decide +kernel
theorem d_RM_take_31 : decode b_RM_take 31 = .ok (.iconst 0, 1) := by decide +kernel
theorem d_RM_take_32 : decode b_RM_take 32 = .ok (.istore 5, 2) := by decide +kernel
theorem d_RM_take_34 : decode b_RM_take 34 = .ok (.iload 5, 2) := by decide +kernel
theorem d_RM_take_36 : decode b_RM_take 36 = .ok (.aload_n 1, 1) := by decide +kernel
theorem d_RM_take_37 : decode b_RM_take 37 = .ok (.sipush 189, 3) := by decide +kernel
theorem d_RM_take_40 : decode b_RM_take 40 = .ok (.iaload, 1) := by decide +kernel
theorem d_RM_take_41 : decode b_RM_take 41 = .ok (.if_icmp .ge 207, 3) := by decide +kernel
theorem d_RM_take_44 : decode b_RM_take 44 = .ok (.aload_n 1, 1) := by decide +kernel
theorem d_RM_take_45 : decode b_RM_take 45 = .ok (.bipush 64, 2) := by decide +kernel
theorem d_RM_take_47 : decode b_RM_take 47 = .ok (.iload 5, 2) := by decide +kernel
theorem d_RM_take_49 : decode b_RM_take 49 = .ok (.iadd, 1) := by decide +kernel
theorem d_RM_take_50 : decode b_RM_take 50 = .ok (.iaload, 1) := by decide +kernel
theorem d_RM_take_51 : decode b_RM_take 51 = .ok (.istore 6, 2) := by decide +kernel
theorem d_RM_take_53 : decode b_RM_take 53 = .ok (.iload 5, 2) := by decide +kernel
theorem d_RM_take_55 : decode b_RM_take 55 = .ok (.iconst 2, 1) := by decide +kernel
theorem d_RM_take_56 : decode b_RM_take 56 = .ok (.irem, 1) := by decide +kernel
theorem d_RM_take_57 : decode b_RM_take 57 = .ok (.ifCond .ne 7, 3) := by decide +kernel
theorem d_RM_take_60 : decode b_RM_take 60 = .ok (.iload_n 3, 1) := by decide +kernel
theorem d_RM_take_61 : decode b_RM_take 61 = .ok (.goto 5, 3) := by decide +kernel
theorem d_RM_take_64 : decode b_RM_take 64 = .ok (.iload 4, 2) := by decide +kernel
theorem d_RM_take_66 : decode b_RM_take 66 = .ok (.istore 7, 2) := by decide +kernel
theorem d_RM_take_68 : decode b_RM_take 68 = .ok (.aload_n 0, 1) := by decide +kernel
theorem d_RM_take_69 : decode b_RM_take 69 = .ok (.getfield 69, 3) := by decide +kernel
theorem d_RM_take_72 : decode b_RM_take 72 = .ok (.iload 5, 2) := by decide +kernel
theorem d_RM_take_74 : decode b_RM_take 74 = .ok (.iload 7, 2) := by decide +kernel
theorem d_RM_take_76 : decode b_RM_take 76 = .ok (.iastore, 1) := by decide +kernel
theorem d_RM_take_77 : decode b_RM_take 77 = .ok (.aload_n 0, 1) := by decide +kernel
theorem d_RM_take_78 : decode b_RM_take 78 = .ok (.getfield 72, 3) := by decide +kernel
theorem d_RM_take_81 : decode b_RM_take 81 = .ok (.iload 5, 2) := by decide +kernel
theorem d_RM_take_83 : decode b_RM_take 83 = .ok (.iload_n 2, 1) := by decide +kernel
theorem d_RM_take_84 : decode b_RM_take 84 = .ok (.iastore, 1) := by decide +kernel
theorem d_RM_take_85 : decode b_RM_take 85 = .ok (.iload 7, 2) := by decide +kernel
theorem d_RM_take_87 : decode b_RM_take 87 = .ok (.bipush 32, 2) := by decide +kernel
theorem d_RM_take_89 : decode b_RM_take 89 = .ok (.irem, 1) := by decide +kernel
theorem d_RM_take_90 : decode b_RM_take 90 = .ok (.istore 8, 2) := by decide +kernel
theorem d_RM_take_92 : decode b_RM_take 92 = .ok (.aload_n 0, 1) := by decide +kernel
theorem d_RM_take_93 : decode b_RM_take 93 = .ok (.getfield 51, 3) := by decide +kernel
theorem d_RM_take_96 : decode b_RM_take 96 = .ok (.bipush 32, 2) := by decide +kernel
theorem d_RM_take_98 : decode b_RM_take 98 = .ok (.iload 6, 2) := by decide +kernel
theorem d_RM_take_100 : decode b_RM_take 100 = .ok (.imul, 1) := by decide +kernel
theorem d_RM_take_101 : decode b_RM_take 101 = .ok (.iload 8, 2) := by decide +kernel
theorem d_RM_take_103 : decode b_RM_take 103 = .ok (.iadd, 1) := by decide +kernel
theorem d_RM_take_104 : decode b_RM_take 104 = .ok (.iaload, 1) := by decide +kernel
theorem d_RM_take_105 : decode b_RM_take 105 = .ok (.istore 9, 2) := by decide +kernel
theorem d_RM_take_107 : decode b_RM_take 107 = .ok (.aload_n 0, 1) := by decide +kernel
theorem d_RM_take_108 : decode b_RM_take 108 = .ok (.getfield 42, 3) := by decide +kernel
theorem d_RM_take_111 : decode b_RM_take 111 = .ok (.bipush 8, 2) := by decide +kernel
theorem d_RM_take_113 : decode b_RM_take 113 = .ok (.iload 6, 2) := by decide +kernel
theorem d_RM_take_115 : decode b_RM_take 115 = .ok (.imul, 1) := by decide +kernel
theorem d_RM_take_116 : decode b_RM_take 116 = .ok (.iload 9, 2) := by decide +kernel
theorem d_RM_take_118 : decode b_RM_take 118 = .ok (.iadd, 1) := by decide +kernel
theorem d_RM_take_119 : decode b_RM_take 119 = .ok (.iaload, 1) := by decide +kernel
theorem d_RM_take_120 : decode b_RM_take 120 = .ok (.iload 7, 2) := by decide +kernel
theorem d_RM_take_122 : decode b_RM_take 122 = .ok (.bipush 32, 2) := by decide +kernel
theorem d_RM_take_124 : decode b_RM_take 124 = .ok (.idiv, 1) := by decide +kernel
theorem d_RM_take_125 : decode b_RM_take 125 = .ok (.imul, 1) := by decide +kernel
theorem d_RM_take_126 : decode b_RM_take 126 = .ok (.aload_n 0, 1) := by decide +kernel
theorem d_RM_take_127 : decode b_RM_take 127 = .ok (.getfield 54, 3) := by decide +kernel
theorem d_RM_take_130 : decode b_RM_take 130 = .ok (.bipush 32, 2) := by decide +kernel
theorem d_RM_take_132 : decode b_RM_take 132 = .ok (.iload 6, 2) := by decide +kernel
theorem d_RM_take_134 : decode b_RM_take 134 = .ok (.imul, 1) := by decide +kernel
theorem d_RM_take_135 : decode b_RM_take 135 = .ok (.iload 8, 2) := by decide +kernel
theorem d_RM_take_137 : decode b_RM_take 137 = .ok (.iadd, 1) := by decide +kernel
theorem d_RM_take_138 : decode b_RM_take 138 = .ok (.iaload, 1) := by decide +kernel
theorem d_RM_take_139 : decode b_RM_take 139 = .ok (.iadd, 1) := by decide +kernel
theorem d_RM_take_140 : decode b_RM_take 140 = .ok (.istore 7, 2) := by decide +kernel
theorem d_RM_take_142 : decode b_RM_take 142 = .ok (.iload 7, 2) := by decide +kernel
theorem d_RM_take_144 : decode b_RM_take 144 = .ok (.sipush 512, 3) := by decide +kernel
theorem d_RM_take_147 : decode b_RM_take 147 = .ok (.if_icmp .ge 27, 3) := by decide +kernel
theorem d_RM_take_150 : decode b_RM_take 150 = .ok (.iload_n 2, 1) := by decide +kernel
theorem d_RM_take_151 : decode b_RM_take 151 = .ok (.ifCond .le 23, 3) := by decide +kernel
theorem d_RM_take_154 : decode b_RM_take 154 = .ok (.iinc 2 (-1), 3) := by decide +kernel
theorem d_RM_take_157 : decode b_RM_take 157 = .ok (.bipush 16, 2) := by decide +kernel
theorem d_RM_take_159 : decode b_RM_take 159 = .ok (.iload 7, 2) := by decide +kernel
theorem d_RM_take_161 : decode b_RM_take 161 = .ok (.imul, 1) := by decide +kernel
theorem d_RM_take_162 : decode b_RM_take 162 = .ok (.aload_n 1, 1) := by decide +kernel
theorem d_RM_take_163 : decode b_RM_take 163 = .ok (.bipush 104, 2) := by decide +kernel
theorem d_RM_take_165 : decode b_RM_take 165 = .ok (.iload_n 2, 1) := by decide +kernel
theorem d_RM_take_166 : decode b_RM_take 166 = .ok (.iadd, 1) := by decide +kernel
theorem d_RM_take_167 : decode b_RM_take 167 = .ok (.iaload, 1) := by decide +kernel
theorem d_RM_take_168 : decode b_RM_take 168 = .ok (.iadd, 1) := by decide +kernel
theorem d_RM_take_169 : decode b_RM_take 169 = .ok (.istore 7, 2) := by decide +kernel
theorem d_RM_take_171 : decode b_RM_take 171 = .ok (.goto (-29), 3) := by decide +kernel
theorem d_RM_take_174 : decode b_RM_take 174 = .ok (.iload 7, 2) := by decide +kernel
theorem d_RM_take_176 : decode b_RM_take 176 = .ok (.sipush 512, 3) := by decide +kernel
theorem d_RM_take_179 : decode b_RM_take 179 = .ok (.if_icmp .ge 5, 3) := by decide +kernel
theorem d_RM_take_182 : decode b_RM_take 182 = .ok (.iconst 0, 1) := by decide +kernel
theorem d_RM_take_183 : decode b_RM_take 183 = .ok (.ireturn, 1) := by decide +kernel
theorem d_RM_take_184 : decode b_RM_take 184 = .ok (.aload_n 0, 1) := by decide +kernel
theorem d_RM_take_185 : decode b_RM_take 185 = .ok (.getfield 66, 3) := by decide +kernel
theorem d_RM_take_188 : decode b_RM_take 188 = .ok (.iload 5, 2) := by decide +kernel
theorem d_RM_take_190 : decode b_RM_take 190 = .ok (.iload 9, 2) := by decide +kernel
theorem d_RM_take_192 : decode b_RM_take 192 = .ok (.iastore, 1) := by decide +kernel
theorem d_RM_take_193 : decode b_RM_take 193 = .ok (.aload_n 0, 1) := by decide +kernel
theorem d_RM_take_194 : decode b_RM_take 194 = .ok (.iload 5, 2) := by decide +kernel
theorem d_RM_take_196 : decode b_RM_take 196 = .ok (.iconst 1, 1) := by decide +kernel
theorem d_RM_take_197 : decode b_RM_take 197 = .ok (.iadd, 1) := by decide +kernel
theorem d_RM_take_198 : decode b_RM_take 198 = .ok (.putfield 102, 3) := by decide +kernel
theorem d_RM_take_201 : decode b_RM_take 201 = .ok (.aload_n 0, 1) := by decide +kernel
theorem d_RM_take_202 : decode b_RM_take 202 = .ok (.getfield 72, 3) := by decide +kernel
theorem d_RM_take_205 : decode b_RM_take 205 = .ok (.iload 5, 2) := by decide +kernel
theorem d_RM_take_207 : decode b_RM_take 207 = .ok (.iconst 1, 1) := by decide +kernel
theorem d_RM_take_208 : decode b_RM_take 208 = .ok (.iadd, 1) := by decide +kernel
theorem d_RM_take_209 : decode b_RM_take 209 = .ok (.iload_n 2, 1) := by decide +kernel
theorem d_RM_take_210 : decode b_RM_take 210 = .ok (.iastore, 1) := by decide +kernel
theorem d_RM_take_211 : decode b_RM_take 211 = .ok (.iload 5, 2) := by decide +kernel
theorem d_RM_take_213 : decode b_RM_take 213 = .ok (.iconst 2, 1) := by decide +kernel
theorem d_RM_take_214 : decode b_RM_take 214 = .ok (.irem, 1) := by decide +kernel
theorem d_RM_take_215 : decode b_RM_take 215 = .ok (.ifCond .ne 8, 3) := by decide +kernel
theorem d_RM_take_218 : decode b_RM_take 218 = .ok (.iload 7, 2) := by decide +kernel
theorem d_RM_take_220 : decode b_RM_take 220 = .ok (.goto 4, 3) := by decide +kernel
theorem d_RM_take_223 : decode b_RM_take 223 = .ok (.iload_n 3, 1) := by decide +kernel
theorem d_RM_take_224 : decode b_RM_take 224 = .ok (.istore_n 3, 1) := by decide +kernel
theorem d_RM_take_225 : decode b_RM_take 225 = .ok (.iload 5, 2) := by decide +kernel
theorem d_RM_take_227 : decode b_RM_take 227 = .ok (.iconst 2, 1) := by decide +kernel
theorem d_RM_take_228 : decode b_RM_take 228 = .ok (.irem, 1) := by decide +kernel
theorem d_RM_take_229 : decode b_RM_take 229 = .ok (.iconst 1, 1) := by decide +kernel
theorem d_RM_take_230 : decode b_RM_take 230 = .ok (.if_icmp .ne 8, 3) := by decide +kernel
theorem d_RM_take_233 : decode b_RM_take 233 = .ok (.iload 7, 2) := by decide +kernel
theorem d_RM_take_235 : decode b_RM_take 235 = .ok (.goto 5, 3) := by decide +kernel
theorem d_RM_take_238 : decode b_RM_take 238 = .ok (.iload 4, 2) := by decide +kernel
theorem d_RM_take_240 : decode b_RM_take 240 = .ok (.istore 4, 2) := by decide +kernel
theorem d_RM_take_242 : decode b_RM_take 242 = .ok (.iinc 5 1, 3) := by decide +kernel
theorem d_RM_take_245 : decode b_RM_take 245 = .ok (.goto (-211), 3) := by decide +kernel
theorem d_RM_take_248 : decode b_RM_take 248 = .ok (.iload_n 3, 1) := by decide +kernel
theorem d_RM_take_249 : decode b_RM_take 249 = .ok (.sipush 512, 3) := by decide +kernel
theorem d_RM_take_252 : decode b_RM_take 252 = .ok (.if_icmp .ne 19, 3) := by decide +kernel
theorem d_RM_take_255 : decode b_RM_take 255 = .ok (.iload 4, 2) := by decide +kernel
theorem d_RM_take_257 : decode b_RM_take 257 = .ok (.sipush 512, 3) := by decide +kernel
theorem d_RM_take_260 : decode b_RM_take 260 = .ok (.if_icmp .ne 11, 3) := by decide +kernel
theorem d_RM_take_263 : decode b_RM_take 263 = .ok (.iload_n 2, 1) := by decide +kernel
theorem d_RM_take_264 : decode b_RM_take 264 = .ok (.ifCond .ne 7, 3) := by decide +kernel
theorem d_RM_take_267 : decode b_RM_take 267 = .ok (.iconst 1, 1) := by decide +kernel
theorem d_RM_take_268 : decode b_RM_take 268 = .ok (.goto 4, 3) := by decide +kernel
theorem d_RM_take_271 : decode b_RM_take 271 = .ok (.iconst 0, 1) := by decide +kernel
theorem d_RM_take_272 : decode b_RM_take 272 = .ok (.ireturn, 1) := by decide +kernel
def rm_RM_take : Room := { frames := 0, cells := 0, slots := 0, locals := 0 }
theorem mf_RM_take : zMV y_RM_take b_RM_take 10 (some .boolean) 1 := ⟨q1195, qs76, q13, q1196, by decide +kernel⟩
def B_RM_take_224 (K : Int → zH → Prop) (L34 : Int × Int × Int × Int × zH → Prop) (p0 : Nat) (p1 : Nat) (x2 : Int) (x4 : Int) (x5 : Int) (x7 : Int) (u0 : Int) (h : zH) : Prop :=
  0 ≤ x5 ∧ ((x5 % 2 ≠ 1 → (zr (x5 + 1) ∧ (L34 (x2, u0, x4, x5 + 1, h)))) ∧ (x5 % 2 = 1 → (zr (x5 + 1) ∧ (L34 (x2, u0, x7, x5 + 1, h)))))
set_option maxRecDepth 100000 in
theorem s_RM_take_224 {Wf : Heap → List Loc → JFrame → Prop} {m : MethodId} {g : zG} {n : Nat} {H0 : Heap} (X : zX Wf m rm_RM_take b_RM_take "AliasStreamsModel" 10 g n H0) {K : Int → zH → Prop} (E : zEx Wf m b_RM_take (some .boolean) 10 g n H0 (zPi K)) {L34 : Int × Int × Int × Int × zH → Prop} {p0 : Nat} {p1 : Nat} {x2 : Int} {x4 : Int} {x5 : Int} {x7 : Int} (hL34 : ∀ q : Int × Int × Int × Int × zH, L34 q → zr q.1 → zr q.2.1 → zr q.2.2.1 → zr q.2.2.2.1 → zh (q.2.2.2.2) → zW Wf m 10 g n H0 34 [(0, .ref (g.2.2 p0)), (1, .ref (g.2.2 p1)), (2, zi q.1), (3, zi q.2.1), (4, zi q.2.2.1), (5, zi q.2.2.2.1)] [] (q.2.2.2.2)) (op0 : zO n p0 11) (op1 : zO n p1 12) (rx2 : zr x2) (rx4 : zr x4) (rx5 : zr x5) (rx7 : zr x7) {u0 : Int} (ru0 : zr u0) {h : zH} (hh : zh h) (hv : B_RM_take_224 K L34 p0 p1 x2 x4 x5 x7 u0 h) : zW Wf m 10 g n H0 224 [(0, .ref (g.2.2 p0)), (1, .ref (g.2.2 p1)), (2, zi x2), (4, zi x4), (5, zi x5), (7, zi x7)] [zi u0] h := by
  unfold B_RM_take_224 at hv
  refine z_istore_n (pc := 224) (lv' := [(3, zi u0), (0, .ref (g.2.2 p0)), (1, .ref (g.2.2 p1)), (2, zi x2), (4, zi x4), (5, zi x5), (7, zi x7)]) X d_RM_take_224 (by decide) rfl ?_
  refine z_iload (pc := 225) (q := 5) X d_RM_take_225 rfl ?_
  refine z_iconst (pc := 227) X d_RM_take_227 ?_
  obtain ⟨v_1, hv⟩ := hv
  refine z_irem (pc := 228) X rx5 (show zr 2 from by decide) v_1 (by decide) d_RM_take_228 ?_
  refine z_iconst (pc := 229) X d_RM_take_229 ?_
  refine z_icmp_ne (pc := 230) (tgt := 238) X (zr_rem (show zr 2 from by decide) (by decide)) (show zr 1 from by decide) d_RM_take_230 (by decide) (fun hc => ?_) (fun hc => ?_)
  · replace hv := hv.1 hc
    refine z_iload (pc := 238) (q := 4) X d_RM_take_238 rfl ?_
    refine z_istore (pc := 240) (lv' := [(4, zi x4), (3, zi u0), (0, .ref (g.2.2 p0)), (1, .ref (g.2.2 p1)), (2, zi x2), (5, zi x5), (7, zi x7)]) X d_RM_take_240 (by decide) rfl ?_
    obtain ⟨v_2, hv⟩ := hv
    refine z_iinc (pc := 242) (q := 5) (lv' := [(5, zi (x5 + 1)), (4, zi x4), (3, zi u0), (0, .ref (g.2.2 p0)), (1, .ref (g.2.2 p1)), (2, zi x2), (7, zi x7)]) X d_RM_take_242 rfl (by decide) rfl ?_
    refine z_goto (pc := 245) (tgt := 34) X d_RM_take_245 (by decide) ?_
    refine z_perm [3, 4, 5, 2, 1, 0] rfl ?_
    exact hL34 _ hv rx2 ru0 rx4 v_2 hh
  · replace hv := hv.2 hc
    refine z_iload (pc := 233) (q := 6) X d_RM_take_233 rfl ?_
    refine z_goto (pc := 235) (tgt := 240) X d_RM_take_235 (by decide) ?_
    refine z_istore (pc := 240) (lv' := [(4, zi x7), (3, zi u0), (0, .ref (g.2.2 p0)), (1, .ref (g.2.2 p1)), (2, zi x2), (5, zi x5), (7, zi x7)]) X d_RM_take_240 (by decide) rfl ?_
    obtain ⟨v_3, hv⟩ := hv
    refine z_iinc (pc := 242) (q := 5) (lv' := [(5, zi (x5 + 1)), (4, zi x7), (3, zi u0), (0, .ref (g.2.2 p0)), (1, .ref (g.2.2 p1)), (2, zi x2), (7, zi x7)]) X d_RM_take_242 rfl (by decide) rfl ?_
    refine z_goto (pc := 245) (tgt := 34) X d_RM_take_245 (by decide) ?_
    refine z_perm [3, 4, 5, 2, 1, 0] rfl ?_
    exact hL34 _ hv rx2 ru0 rx7 v_3 hh
def B_RM_take_174 (K : Int → zH → Prop) (L34 : Int × Int × Int × Int × zH → Prop) (p0 : Nat) (p1 : Nat) (x2 : Int) (x3 : Int) (x4 : Int) (x5 : Int) (x7 : Int) (x9 : Int)  (h : zH) : Prop :=
  (512 ≤ x7 → ((0 ≤ x5 ∧ x5 < 40) ∧ (∀ h_2 : zH, h_2 = zs h (p0 + 17) x5.toNat x9 → (zr (x5 + 1) ∧ ((∀ h_4 : zH, h_4 = zs h_2 p0 27 (x5 + 1) → (zr (x5 + 1) ∧ ((0 ≤ x5 + 1 ∧ x5 + 1 < 41) ∧ (∀ h_7 : zH, h_7 = zs h_4 (p0 + 19) ((x5 + 1).toNat) x2 → (0 ≤ x5 ∧ ((x5 % 2 ≠ 0 → (B_RM_take_224 K L34 p0 p1 x2 x4 x5 x7 x3 h_7)) ∧ (x5 % 2 = 0 → (B_RM_take_224 K L34 p0 p1 x2 x4 x5 x7 x7 h_7))))))))))))) ∧ (x7 < 512 → (K 0 h))
set_option maxRecDepth 100000 in
theorem s_RM_take_174 {Wf : Heap → List Loc → JFrame → Prop} {m : MethodId} {g : zG} {n : Nat} {H0 : Heap} (X : zX Wf m rm_RM_take b_RM_take "AliasStreamsModel" 10 g n H0) {K : Int → zH → Prop} (E : zEx Wf m b_RM_take (some .boolean) 10 g n H0 (zPi K)) {L34 : Int × Int × Int × Int × zH → Prop} {p0 : Nat} {p1 : Nat} {x2 : Int} {x3 : Int} {x4 : Int} {x5 : Int} {x7 : Int} {x9 : Int} (hL34 : ∀ q : Int × Int × Int × Int × zH, L34 q → zr q.1 → zr q.2.1 → zr q.2.2.1 → zr q.2.2.2.1 → zh (q.2.2.2.2) → zW Wf m 10 g n H0 34 [(0, .ref (g.2.2 p0)), (1, .ref (g.2.2 p1)), (2, zi q.1), (3, zi q.2.1), (4, zi q.2.2.1), (5, zi q.2.2.2.1)] [] (q.2.2.2.2)) (op0 : zO n p0 11) (op1 : zO n p1 12) (rx2 : zr x2) (rx3 : zr x3) (rx4 : zr x4) (rx5 : zr x5) (rx7 : zr x7) (rx9 : zr x9)   {h : zH} (hh : zh h) (hv : B_RM_take_174 K L34 p0 p1 x2 x3 x4 x5 x7 x9  h) : zW Wf m 10 g n H0 174 [(0, .ref (g.2.2 p0)), (1, .ref (g.2.2 p1)), (2, zi x2), (3, zi x3), (4, zi x4), (5, zi x5), (7, zi x7), (9, zi x9)] [] h := by
  unfold B_RM_take_174 at hv
  refine z_iload (pc := 174) (q := 6) X d_RM_take_174 rfl ?_
  refine z_sipush (pc := 176) X d_RM_take_176 (by decide) ?_
  refine z_icmp_ge (pc := 179) (tgt := 184) X rx7 (show zr 512 from by decide) d_RM_take_179 (by decide) (fun hc => ?_) (fun hc => ?_)
  · replace hv := hv.1 hc
    refine z_aload_n (pc := 184) (q := 0) X d_RM_take_184 rfl ?_
    refine z_getr (pc := 185) (j := 24) (dd := 17) X cf_RM op0 (by decide) q1045 rfl rfl d_RM_take_185 ?_
    refine z_iload (pc := 188) (q := 5) X d_RM_take_188 rfl ?_
    refine z_iload (pc := 190) (q := 7) X d_RM_take_190 rfl ?_
    obtain ⟨v_1, hv⟩ := hv
    refine z_iastj (pc := 192) (j := x5.toNat) X (gf_RM_24 op0) (gl_RM_24 op0) rx5 v_1 rfl d_RM_take_192 ?_
    refine z_toph (fun h_2 eh_2 => ?_)
    have zh_2 : zh h_2 := by rw [eh_2]; exact zh_set hh (zO.ne (gf_RM_24 op0) (by decide)) rx9
    replace hv := hv h_2 eh_2
    refine z_aload_n (pc := 193) (q := 0) X d_RM_take_193 rfl ?_
    refine z_iload (pc := 194) (q := 5) X d_RM_take_194 rfl ?_
    refine z_iconst (pc := 196) X d_RM_take_196 ?_
    obtain ⟨v_3, hv⟩ := hv
    refine z_iadd (pc := 197) X d_RM_take_197 ?_
    refine z_put (pc := 198) (j := 27) X cf_RM op0 (by decide) q1048 rfl rfl rfl rfl d_RM_take_198 ?_
    refine z_toph (fun h_4 eh_4 => ?_)
    have zh_4 : zh h_4 := by rw [eh_4]; exact zh_set zh_2 (zO.ne op0 (by decide)) v_3
    replace hv := hv h_4 eh_4
    refine z_aload_n (pc := 201) (q := 0) X d_RM_take_201 rfl ?_
    refine z_getr (pc := 202) (j := 26) (dd := 19) X cf_RM op0 (by decide) q1047 rfl rfl d_RM_take_202 ?_
    refine z_iload (pc := 205) (q := 5) X d_RM_take_205 rfl ?_
    refine z_iconst (pc := 207) X d_RM_take_207 ?_
    obtain ⟨v_5, hv⟩ := hv
    refine z_iadd (pc := 208) X d_RM_take_208 ?_
    refine z_iload_n (pc := 209) (q := 2) X d_RM_take_209 rfl ?_
    obtain ⟨v_6, hv⟩ := hv
    refine z_iastj (pc := 210) (j := (x5 + 1).toNat) X (gf_RM_26 op0) (gl_RM_26 op0) v_5 v_6 rfl d_RM_take_210 ?_
    refine z_toph (fun h_7 eh_7 => ?_)
    have zh_7 : zh h_7 := by rw [eh_7]; exact zh_set zh_4 (zO.ne (gf_RM_26 op0) (by decide)) rx2
    replace hv := hv h_7 eh_7
    refine z_iload (pc := 211) (q := 5) X d_RM_take_211 rfl ?_
    refine z_iconst (pc := 213) X d_RM_take_213 ?_
    obtain ⟨v_8, hv⟩ := hv
    refine z_irem (pc := 214) X rx5 (show zr 2 from by decide) v_8 (by decide) d_RM_take_214 ?_
    refine z_if_ne (pc := 215) (tgt := 223) X (zr_rem (show zr 2 from by decide) (by decide)) d_RM_take_215 (by decide) (fun hc => ?_) (fun hc => ?_)
    · replace hv := hv.1 hc
      refine z_iload_n (pc := 223) (q := 3) X d_RM_take_223 rfl ?_
      refine z_perm [0, 1, 2, 4, 5, 6] rfl ?_
      exact s_RM_take_224 X E hL34 op0 op1 rx2 rx4 rx5 rx7 rx3 zh_7 hv
    · replace hv := hv.2 hc
      refine z_iload (pc := 218) (q := 6) X d_RM_take_218 rfl ?_
      refine z_goto (pc := 220) (tgt := 224) X d_RM_take_220 (by decide) ?_
      refine z_perm [0, 1, 2, 4, 5, 6] rfl ?_
      exact s_RM_take_224 X E hL34 op0 op1 rx2 rx4 rx5 rx7 rx7 zh_7 hv
  · replace hv := hv.2 hc
    refine z_iconst (pc := 182) X d_RM_take_182 ?_
    exact E.2.2.1 rfl _ _ _ _ (by decide) d_RM_take_183 ⟨_, rfl, (show zr 0 from by decide), hh, hv⟩
def F_RM_take_142 (K : Int → zH → Prop) (L34 : Int × Int × Int × Int × zH → Prop) (L142 : Int × Int × zH → Prop) (p0 : Nat) (p1 : Nat) (x3 : Int) (x4 : Int) (x5 : Int) (x9 : Int) (x2 : Int) (x7 : Int) (h : zH) : Prop :=
  (512 ≤ x7 → (B_RM_take_174 K L34 p0 p1 x2 x3 x4 x5 x7 x9  h)) ∧ (x7 < 512 → ((x2 ≤ 0 → (B_RM_take_174 K L34 p0 p1 x2 x3 x4 x5 x7 x9  h)) ∧ (0 < x2 → (zr (x2 + (-1)) ∧ (zr (16 * x7) ∧ (zr (104 + (x2 + (-1))) ∧ ((0 ≤ 104 + (x2 + (-1)) ∧ 104 + (x2 + (-1)) < ((zln p1 : Nat) : Int)) ∧ (zr ((16 * x7) + (h p1 ((104 + (x2 + (-1))).toNat))) ∧ ((∀ x7_6 : Int, x7_6 = (16 * x7) + (h p1 ((104 + (x2 + (-1))).toNat)) → (L142 (x2 + (-1), x7_6, h))))))))))))
set_option maxRecDepth 100000 in
theorem s_RM_take_142 {Wf : Heap → List Loc → JFrame → Prop} {m : MethodId} {g : zG} {n : Nat} {H0 : Heap} (X : zX Wf m rm_RM_take b_RM_take "AliasStreamsModel" 10 g n H0) {K : Int → zH → Prop} (E : zEx Wf m b_RM_take (some .boolean) 10 g n H0 (zPi K)) {L34 : Int × Int × Int × Int × zH → Prop} {p0 : Nat} {p1 : Nat} {x3 : Int} {x4 : Int} {x5 : Int} {x9 : Int} (hL34 : ∀ q : Int × Int × Int × Int × zH, L34 q → zr q.1 → zr q.2.1 → zr q.2.2.1 → zr q.2.2.2.1 → zh (q.2.2.2.2) → zW Wf m 10 g n H0 34 [(0, .ref (g.2.2 p0)), (1, .ref (g.2.2 p1)), (2, zi q.1), (3, zi q.2.1), (4, zi q.2.2.1), (5, zi q.2.2.2.1)] [] (q.2.2.2.2)) (op0 : zO n p0 11) (op1 : zO n p1 12) (rx3 : zr x3) (rx4 : zr x4) (rx5 : zr x5) (rx9 : zr x9) {q0 : Int × Int × zH} (hv0 : zLoop (fun L q => F_RM_take_142 K L34 L p0 p1 x3 x4 x5 x9 q.1 q.2.1 q.2.2) q0) : zr q0.1 → zr q0.2.1 → zh (q0.2.2) → zW Wf m 10 g n H0 142 [(0, .ref (g.2.2 p0)), (1, .ref (g.2.2 p1)), (2, zi q0.1), (3, zi x3), (4, zi x4), (5, zi x5), (7, zi q0.2.1), (9, zi x9)] [] (q0.2.2) := by
  refine zLoop_use (G := fun q => zr q.1 → zr q.2.1 → zh (q.2.2) → zW Wf m 10 g n H0 142 [(0, .ref (g.2.2 p0)), (1, .ref (g.2.2 p1)), (2, zi q.1), (3, zi x3), (4, zi x4), (5, zi x5), (7, zi q.2.1), (9, zi x9)] [] (q.2.2)) ?_ hv0
  rintro L142 ⟨x2, x7, h⟩ hL142 hv rx2 rx7 hh
  have hv : F_RM_take_142 K L34 L142 p0 p1 x3 x4 x5 x9 x2 x7 h := hv
  unfold F_RM_take_142 at hv
  show zW Wf m 10 g n H0 142 [(0, .ref (g.2.2 p0)), (1, .ref (g.2.2 p1)), (2, zi x2), (3, zi x3), (4, zi x4), (5, zi x5), (7, zi x7), (9, zi x9)] [] h
  refine z_iload (pc := 142) (q := 6) X d_RM_take_142 rfl ?_
  refine z_sipush (pc := 144) X d_RM_take_144 (by decide) ?_
  refine z_icmp_ge (pc := 147) (tgt := 174) X rx7 (show zr 512 from by decide) d_RM_take_147 (by decide) (fun hc => ?_) (fun hc => ?_)
  · replace hv := hv.1 hc
    exact s_RM_take_174 X E hL34 op0 op1 rx2 rx3 rx4 rx5 rx7 rx9  hh hv
  · replace hv := hv.2 hc
    refine z_iload_n (pc := 150) (q := 2) X d_RM_take_150 rfl ?_
    refine z_if_le (pc := 151) (tgt := 174) X rx2 d_RM_take_151 (by decide) (fun hc => ?_) (fun hc => ?_)
    · replace hv := hv.1 hc
      exact s_RM_take_174 X E hL34 op0 op1 rx2 rx3 rx4 rx5 rx7 rx9  hh hv
    · replace hv := hv.2 hc
      obtain ⟨v_1, hv⟩ := hv
      refine z_iinc (pc := 154) (q := 2) (lv' := [(2, zi (x2 + (-1))), (0, .ref (g.2.2 p0)), (1, .ref (g.2.2 p1)), (3, zi x3), (4, zi x4), (5, zi x5), (7, zi x7), (9, zi x9)]) X d_RM_take_154 rfl (by decide) rfl ?_
      refine z_bipush (pc := 157) X d_RM_take_157 (by decide) ?_
      refine z_iload (pc := 159) (q := 6) X d_RM_take_159 rfl ?_
      obtain ⟨v_2, hv⟩ := hv
      refine z_imul (pc := 161) X d_RM_take_161 ?_
      refine z_aload_n (pc := 162) (q := 2) X d_RM_take_162 rfl ?_
      refine z_bipush (pc := 163) X d_RM_take_163 (by decide) ?_
      refine z_iload_n (pc := 165) (q := 0) X d_RM_take_165 rfl ?_
      obtain ⟨v_3, hv⟩ := hv
      refine z_iadd (pc := 166) X d_RM_take_166 ?_
      obtain ⟨v_4, hv⟩ := hv
      refine z_ialdj (pc := 167) (j := (104 + (x2 + (-1))).toNat) X op1 rfl v_3 v_4 rfl d_RM_take_167 ?_
      obtain ⟨v_5, hv⟩ := hv
      refine z_iadd (pc := 168) X d_RM_take_168 ?_
      refine z_topi (fun x7_6 ex7_6 => ?_)
      have rx7_6 : zr x7_6 := by rw [ex7_6]; exact v_5
      replace hv := hv x7_6 ex7_6
      refine z_istore (pc := 169) (lv' := [(7, zi x7_6), (2, zi (x2 + (-1))), (0, .ref (g.2.2 p0)), (1, .ref (g.2.2 p1)), (3, zi x3), (4, zi x4), (5, zi x5), (9, zi x9)]) X d_RM_take_169 (by decide) rfl ?_
      refine z_goto (pc := 171) (tgt := 142) X d_RM_take_171 (by decide) ?_
      refine z_perm [2, 3, 1, 4, 5, 6, 0, 7] rfl ?_
      exact hL142 _ hv v_1 rx7_6 hh
def B_RM_take_66 (K : Int → zH → Prop) (L34 : Int × Int × Int × Int × zH → Prop) (p0 : Nat) (p1 : Nat) (x2 : Int) (x3 : Int) (x4 : Int) (x5 : Int) (x6 : Int) (u0 : Int) (h : zH) : Prop :=
  (0 ≤ x5 ∧ x5 < 40) ∧ (∀ h_2 : zH, h_2 = zs h (p0 + 18) x5.toNat u0 → ((0 ≤ x5 ∧ x5 < 41) ∧ (∀ h_4 : zH, h_4 = zs h_2 (p0 + 19) x5.toNat x2 → (0 ≤ u0 ∧ ((∀ x8_6 : Int, x8_6 = u0 % 32 → (zr (32 * x6) ∧ (zr ((32 * x6) + x8_6) ∧ ((0 ≤ (32 * x6) + x8_6 ∧ (32 * x6) + x8_6 < 96) ∧ ((∀ x9_10 : Int, x9_10 = h_4 (p0 + 12) (((32 * x6) + x8_6).toNat) → (zr (8 * x6) ∧ (zr ((8 * x6) + x9_10) ∧ ((0 ≤ (8 * x6) + x9_10 ∧ (8 * x6) + x9_10 < 24) ∧ (0 ≤ u0 ∧ (zr ((h_4 (p0 + 9) (((8 * x6) + x9_10).toNat)) * (u0 / 32)) ∧ (zr (32 * x6) ∧ (zr ((32 * x6) + x8_6) ∧ ((0 ≤ (32 * x6) + x8_6 ∧ (32 * x6) + x8_6 < 96) ∧ (zr (((h_4 (p0 + 9) (((8 * x6) + x9_10).toNat)) * (u0 / 32)) + (h_4 (p0 + 13) (((32 * x6) + x8_6).toNat))) ∧ ((∀ x7_20 : Int, x7_20 = ((h_4 (p0 + 9) (((8 * x6) + x9_10).toNat)) * (u0 / 32)) + (h_4 (p0 + 13) (((32 * x6) + x8_6).toNat)) → (zLoop (fun L q => F_RM_take_142 K L34 L p0 p1 x3 x4 x5 x9_10 q.1 q.2.1 q.2.2) (x2, x7_20, h_4))))))))))))))))))))))))
set_option maxRecDepth 100000 in
theorem s_RM_take_66 {Wf : Heap → List Loc → JFrame → Prop} {m : MethodId} {g : zG} {n : Nat} {H0 : Heap} (X : zX Wf m rm_RM_take b_RM_take "AliasStreamsModel" 10 g n H0) {K : Int → zH → Prop} (E : zEx Wf m b_RM_take (some .boolean) 10 g n H0 (zPi K)) {L34 : Int × Int × Int × Int × zH → Prop} {p0 : Nat} {p1 : Nat} {x2 : Int} {x3 : Int} {x4 : Int} {x5 : Int} {x6 : Int} (hL34 : ∀ q : Int × Int × Int × Int × zH, L34 q → zr q.1 → zr q.2.1 → zr q.2.2.1 → zr q.2.2.2.1 → zh (q.2.2.2.2) → zW Wf m 10 g n H0 34 [(0, .ref (g.2.2 p0)), (1, .ref (g.2.2 p1)), (2, zi q.1), (3, zi q.2.1), (4, zi q.2.2.1), (5, zi q.2.2.2.1)] [] (q.2.2.2.2)) (op0 : zO n p0 11) (op1 : zO n p1 12) (rx2 : zr x2) (rx3 : zr x3) (rx4 : zr x4) (rx5 : zr x5) (rx6 : zr x6) {u0 : Int} (ru0 : zr u0) {h : zH} (hh : zh h) (hv : B_RM_take_66 K L34 p0 p1 x2 x3 x4 x5 x6 u0 h) : zW Wf m 10 g n H0 66 [(0, .ref (g.2.2 p0)), (1, .ref (g.2.2 p1)), (2, zi x2), (3, zi x3), (4, zi x4), (5, zi x5), (6, zi x6)] [zi u0] h := by
  unfold B_RM_take_66 at hv
  refine z_istore (pc := 66) (lv' := [(7, zi u0), (0, .ref (g.2.2 p0)), (1, .ref (g.2.2 p1)), (2, zi x2), (3, zi x3), (4, zi x4), (5, zi x5), (6, zi x6)]) X d_RM_take_66 (by decide) rfl ?_
  refine z_aload_n (pc := 68) (q := 1) X d_RM_take_68 rfl ?_
  refine z_getr (pc := 69) (j := 25) (dd := 18) X cf_RM op0 (by decide) q1046 rfl rfl d_RM_take_69 ?_
  refine z_iload (pc := 72) (q := 6) X d_RM_take_72 rfl ?_
  refine z_iload (pc := 74) (q := 0) X d_RM_take_74 rfl ?_
  obtain ⟨v_1, hv⟩ := hv
  refine z_iastj (pc := 76) (j := x5.toNat) X (gf_RM_25 op0) (gl_RM_25 op0) rx5 v_1 rfl d_RM_take_76 ?_
  refine z_toph (fun h_2 eh_2 => ?_)
  have zh_2 : zh h_2 := by rw [eh_2]; exact zh_set hh (zO.ne (gf_RM_25 op0) (by decide)) ru0
  replace hv := hv h_2 eh_2
  refine z_aload_n (pc := 77) (q := 1) X d_RM_take_77 rfl ?_
  refine z_getr (pc := 78) (j := 26) (dd := 19) X cf_RM op0 (by decide) q1047 rfl rfl d_RM_take_78 ?_
  refine z_iload (pc := 81) (q := 6) X d_RM_take_81 rfl ?_
  refine z_iload_n (pc := 83) (q := 3) X d_RM_take_83 rfl ?_
  obtain ⟨v_3, hv⟩ := hv
  refine z_iastj (pc := 84) (j := x5.toNat) X (gf_RM_26 op0) (gl_RM_26 op0) rx5 v_3 rfl d_RM_take_84 ?_
  refine z_toph (fun h_4 eh_4 => ?_)
  have zh_4 : zh h_4 := by rw [eh_4]; exact zh_set zh_2 (zO.ne (gf_RM_26 op0) (by decide)) rx2
  replace hv := hv h_4 eh_4
  refine z_iload (pc := 85) (q := 0) X d_RM_take_85 rfl ?_
  refine z_bipush (pc := 87) X d_RM_take_87 (by decide) ?_
  obtain ⟨v_5, hv⟩ := hv
  refine z_irem (pc := 89) X ru0 (show zr 32 from by decide) v_5 (by decide) d_RM_take_89 ?_
  refine z_topi (fun x8_6 ex8_6 => ?_)
  have rx8_6 : zr x8_6 := by rw [ex8_6]; exact (zr_rem (show zr 32 from by decide) (by decide))
  replace hv := hv x8_6 ex8_6
  refine z_istore (pc := 90) (lv' := [(8, zi x8_6), (7, zi u0), (0, .ref (g.2.2 p0)), (1, .ref (g.2.2 p1)), (2, zi x2), (3, zi x3), (4, zi x4), (5, zi x5), (6, zi x6)]) X d_RM_take_90 (by decide) rfl ?_
  refine z_aload_n (pc := 92) (q := 2) X d_RM_take_92 rfl ?_
  refine z_getr (pc := 93) (j := 19) (dd := 12) X cf_RM op0 (by decide) q1040 rfl rfl d_RM_take_93 ?_
  refine z_bipush (pc := 96) X d_RM_take_96 (by decide) ?_
  refine z_iload (pc := 98) (q := 8) X d_RM_take_98 rfl ?_
  obtain ⟨v_7, hv⟩ := hv
  refine z_imul (pc := 100) X d_RM_take_100 ?_
  refine z_iload (pc := 101) (q := 0) X d_RM_take_101 rfl ?_
  obtain ⟨v_8, hv⟩ := hv
  refine z_iadd (pc := 103) X d_RM_take_103 ?_
  obtain ⟨v_9, hv⟩ := hv
  refine z_ialdj (pc := 104) (j := ((32 * x6) + x8_6).toNat) X (gf_RM_19 op0) (gl_RM_19 op0) v_8 v_9 rfl d_RM_take_104 ?_
  refine z_topi (fun x9_10 ex9_10 => ?_)
  have rx9_10 : zr x9_10 := by rw [ex9_10]; exact (zh_4.1 _ _ (zO.ne (gf_RM_19 op0) (by decide)))
  replace hv := hv x9_10 ex9_10
  refine z_istore (pc := 105) (lv' := [(9, zi x9_10), (8, zi x8_6), (7, zi u0), (0, .ref (g.2.2 p0)), (1, .ref (g.2.2 p1)), (2, zi x2), (3, zi x3), (4, zi x4), (5, zi x5), (6, zi x6)]) X d_RM_take_105 (by decide) rfl ?_
  refine z_aload_n (pc := 107) (q := 3) X d_RM_take_107 rfl ?_
  refine z_getr (pc := 108) (j := 16) (dd := 9) X cf_RM op0 (by decide) q1037 rfl rfl d_RM_take_108 ?_
  refine z_bipush (pc := 111) X d_RM_take_111 (by decide) ?_
  refine z_iload (pc := 113) (q := 9) X d_RM_take_113 rfl ?_
  obtain ⟨v_11, hv⟩ := hv
  refine z_imul (pc := 115) X d_RM_take_115 ?_
  refine z_iload (pc := 116) (q := 0) X d_RM_take_116 rfl ?_
  obtain ⟨v_12, hv⟩ := hv
  refine z_iadd (pc := 118) X d_RM_take_118 ?_
  obtain ⟨v_13, hv⟩ := hv
  refine z_ialdj (pc := 119) (j := ((8 * x6) + x9_10).toNat) X (gf_RM_16 op0) (gl_RM_16 op0) v_12 v_13 rfl d_RM_take_119 ?_
  refine z_iload (pc := 120) (q := 2) X d_RM_take_120 rfl ?_
  refine z_bipush (pc := 122) X d_RM_take_122 (by decide) ?_
  obtain ⟨v_14, hv⟩ := hv
  refine z_idiv (pc := 124) X ru0 (show zr 32 from by decide) v_14 (by decide) d_RM_take_124 ?_
  obtain ⟨v_15, hv⟩ := hv
  refine z_imul (pc := 125) X d_RM_take_125 ?_
  refine z_aload_n (pc := 126) (q := 3) X d_RM_take_126 rfl ?_
  refine z_getr (pc := 127) (j := 20) (dd := 13) X cf_RM op0 (by decide) q1041 rfl rfl d_RM_take_127 ?_
  refine z_bipush (pc := 130) X d_RM_take_130 (by decide) ?_
  refine z_iload (pc := 132) (q := 9) X d_RM_take_132 rfl ?_
  obtain ⟨v_16, hv⟩ := hv
  refine z_imul (pc := 134) X d_RM_take_134 ?_
  refine z_iload (pc := 135) (q := 1) X d_RM_take_135 rfl ?_
  obtain ⟨v_17, hv⟩ := hv
  refine z_iadd (pc := 137) X d_RM_take_137 ?_
  obtain ⟨v_18, hv⟩ := hv
  refine z_ialdj (pc := 138) (j := ((32 * x6) + x8_6).toNat) X (gf_RM_20 op0) (gl_RM_20 op0) v_17 v_18 rfl d_RM_take_138 ?_
  obtain ⟨v_19, hv⟩ := hv
  refine z_iadd (pc := 139) X d_RM_take_139 ?_
  refine z_topi (fun x7_20 ex7_20 => ?_)
  have rx7_20 : zr x7_20 := by rw [ex7_20]; exact v_19
  replace hv := hv x7_20 ex7_20
  refine z_istore (pc := 140) (lv' := [(7, zi x7_20), (9, zi x9_10), (8, zi x8_6), (0, .ref (g.2.2 p0)), (1, .ref (g.2.2 p1)), (2, zi x2), (3, zi x3), (4, zi x4), (5, zi x5), (6, zi x6)]) X d_RM_take_140 (by decide) rfl ?_
  refine z_perm [3, 4, 5, 6, 7, 8, 0, 1] rfl ?_
  exact s_RM_take_142 X E hL34 op0 op1 rx3 rx4 rx5 rx9_10 hv rx2 rx7_20 zh_4
def F_RM_take_34 (K : Int → zH → Prop)  (L34 : Int × Int × Int × Int × zH → Prop) (p0 : Nat) (p1 : Nat) (x2 : Int) (x3 : Int) (x4 : Int) (x5 : Int) (h : zH) : Prop :=
  (189 : Int) < ((zln p1 : Nat) : Int) ∧ ((h p1 189 ≤ x5 → ((x3 ≠ 512 → (K 0 h)) ∧ (x3 = 512 → ((x4 ≠ 512 → (K 0 h)) ∧ (x4 = 512 → ((x2 ≠ 0 → (K 0 h)) ∧ (x2 = 0 → (K 1 h)))))))) ∧ (x5 < h p1 189 → (zr (64 + x5) ∧ ((0 ≤ 64 + x5 ∧ 64 + x5 < ((zln p1 : Nat) : Int)) ∧ ((∀ x6_4 : Int, x6_4 = h p1 ((64 + x5).toNat) → (0 ≤ x5 ∧ ((x5 % 2 ≠ 0 → (B_RM_take_66 K L34 p0 p1 x2 x3 x4 x5 x6_4 x4 h)) ∧ (x5 % 2 = 0 → (B_RM_take_66 K L34 p0 p1 x2 x3 x4 x5 x6_4 x3 h))))))))))
set_option maxRecDepth 100000 in
theorem s_RM_take_34 {Wf : Heap → List Loc → JFrame → Prop} {m : MethodId} {g : zG} {n : Nat} {H0 : Heap} (X : zX Wf m rm_RM_take b_RM_take "AliasStreamsModel" 10 g n H0) {K : Int → zH → Prop} (E : zEx Wf m b_RM_take (some .boolean) 10 g n H0 (zPi K))  {p0 : Nat} {p1 : Nat}  (op0 : zO n p0 11) (op1 : zO n p1 12) {q0 : Int × Int × Int × Int × zH} (hv0 : zLoop (fun L q => F_RM_take_34 K  L p0 p1 q.1 q.2.1 q.2.2.1 q.2.2.2.1 q.2.2.2.2) q0) : zr q0.1 → zr q0.2.1 → zr q0.2.2.1 → zr q0.2.2.2.1 → zh (q0.2.2.2.2) → zW Wf m 10 g n H0 34 [(0, .ref (g.2.2 p0)), (1, .ref (g.2.2 p1)), (2, zi q0.1), (3, zi q0.2.1), (4, zi q0.2.2.1), (5, zi q0.2.2.2.1)] [] (q0.2.2.2.2) := by
  refine zLoop_use (G := fun q => zr q.1 → zr q.2.1 → zr q.2.2.1 → zr q.2.2.2.1 → zh (q.2.2.2.2) → zW Wf m 10 g n H0 34 [(0, .ref (g.2.2 p0)), (1, .ref (g.2.2 p1)), (2, zi q.1), (3, zi q.2.1), (4, zi q.2.2.1), (5, zi q.2.2.2.1)] [] (q.2.2.2.2)) ?_ hv0
  rintro L34 ⟨x2, x3, x4, x5, h⟩ hL34 hv rx2 rx3 rx4 rx5 hh
  have hv : F_RM_take_34 K  L34 p0 p1 x2 x3 x4 x5 h := hv
  unfold F_RM_take_34 at hv
  show zW Wf m 10 g n H0 34 [(0, .ref (g.2.2 p0)), (1, .ref (g.2.2 p1)), (2, zi x2), (3, zi x3), (4, zi x4), (5, zi x5)] [] h
  refine z_iload (pc := 34) (q := 5) X d_RM_take_34 rfl ?_
  refine z_aload_n (pc := 36) (q := 1) X d_RM_take_36 rfl ?_
  refine z_sipush (pc := 37) X d_RM_take_37 (by decide) ?_
  obtain ⟨v_1, hv⟩ := hv
  refine z_ialdj (pc := 40) (j := 189) X op1 rfl (show zr 189 from by decide) ⟨by decide, v_1⟩ rfl d_RM_take_40 ?_
  refine z_icmp_ge (pc := 41) (tgt := 248) X rx5 (hh.1 _ _ (zO.ne op1 (by decide))) d_RM_take_41 (by decide) (fun hc => ?_) (fun hc => ?_)
  · replace hv := hv.1 hc
    refine z_iload_n (pc := 248) (q := 3) X d_RM_take_248 rfl ?_
    refine z_sipush (pc := 249) X d_RM_take_249 (by decide) ?_
    refine z_icmp_ne (pc := 252) (tgt := 271) X rx3 (show zr 512 from by decide) d_RM_take_252 (by decide) (fun hc => ?_) (fun hc => ?_)
    · replace hv := hv.1 hc
      refine z_iconst (pc := 271) X d_RM_take_271 ?_
      exact E.2.2.1 rfl _ _ _ _ (by decide) d_RM_take_272 ⟨_, rfl, (show zr 0 from by decide), hh, hv⟩
    · replace hv := hv.2 hc
      refine z_iload (pc := 255) (q := 4) X d_RM_take_255 rfl ?_
      refine z_sipush (pc := 257) X d_RM_take_257 (by decide) ?_
      refine z_icmp_ne (pc := 260) (tgt := 271) X rx4 (show zr 512 from by decide) d_RM_take_260 (by decide) (fun hc => ?_) (fun hc => ?_)
      · replace hv := hv.1 hc
        refine z_iconst (pc := 271) X d_RM_take_271 ?_
        exact E.2.2.1 rfl _ _ _ _ (by decide) d_RM_take_272 ⟨_, rfl, (show zr 0 from by decide), hh, hv⟩
      · replace hv := hv.2 hc
        refine z_iload_n (pc := 263) (q := 2) X d_RM_take_263 rfl ?_
        refine z_if_ne (pc := 264) (tgt := 271) X rx2 d_RM_take_264 (by decide) (fun hc => ?_) (fun hc => ?_)
        · replace hv := hv.1 hc
          refine z_iconst (pc := 271) X d_RM_take_271 ?_
          exact E.2.2.1 rfl _ _ _ _ (by decide) d_RM_take_272 ⟨_, rfl, (show zr 0 from by decide), hh, hv⟩
        · replace hv := hv.2 hc
          refine z_iconst (pc := 267) X d_RM_take_267 ?_
          refine z_goto (pc := 268) (tgt := 272) X d_RM_take_268 (by decide) ?_
          exact E.2.2.1 rfl _ _ _ _ (by decide) d_RM_take_272 ⟨_, rfl, (show zr 1 from by decide), hh, hv⟩
  · replace hv := hv.2 hc
    refine z_aload_n (pc := 44) (q := 1) X d_RM_take_44 rfl ?_
    refine z_bipush (pc := 45) X d_RM_take_45 (by decide) ?_
    refine z_iload (pc := 47) (q := 5) X d_RM_take_47 rfl ?_
    obtain ⟨v_2, hv⟩ := hv
    refine z_iadd (pc := 49) X d_RM_take_49 ?_
    obtain ⟨v_3, hv⟩ := hv
    refine z_ialdj (pc := 50) (j := (64 + x5).toNat) X op1 rfl v_2 v_3 rfl d_RM_take_50 ?_
    refine z_topi (fun x6_4 ex6_4 => ?_)
    have rx6_4 : zr x6_4 := by rw [ex6_4]; exact (hh.1 _ _ (zO.ne op1 (by decide)))
    replace hv := hv x6_4 ex6_4
    refine z_istore (pc := 51) (lv' := [(6, zi x6_4), (0, .ref (g.2.2 p0)), (1, .ref (g.2.2 p1)), (2, zi x2), (3, zi x3), (4, zi x4), (5, zi x5)]) X d_RM_take_51 (by decide) rfl ?_
    refine z_iload (pc := 53) (q := 6) X d_RM_take_53 rfl ?_
    refine z_iconst (pc := 55) X d_RM_take_55 ?_
    obtain ⟨v_5, hv⟩ := hv
    refine z_irem (pc := 56) X rx5 (show zr 2 from by decide) v_5 (by decide) d_RM_take_56 ?_
    refine z_if_ne (pc := 57) (tgt := 64) X (zr_rem (show zr 2 from by decide) (by decide)) d_RM_take_57 (by decide) (fun hc => ?_) (fun hc => ?_)
    · replace hv := hv.1 hc
      refine z_iload (pc := 64) (q := 5) X d_RM_take_64 rfl ?_
      refine z_perm [1, 2, 3, 4, 5, 6, 0] rfl ?_
      exact s_RM_take_66 X E hL34 op0 op1 rx2 rx3 rx4 rx5 rx6_4 rx4 hh hv
    · replace hv := hv.2 hc
      refine z_iload_n (pc := 60) (q := 4) X d_RM_take_60 rfl ?_
      refine z_goto (pc := 61) (tgt := 66) X d_RM_take_61 (by decide) ?_
      refine z_perm [1, 2, 3, 4, 5, 6, 0] rfl ?_
      exact s_RM_take_66 X E hL34 op0 op1 rx2 rx3 rx4 rx5 rx6_4 rx3 hh hv
def M_RM_take (p0 : Nat) (p1 : Nat) (h : zH) (K : Int → zH → Prop) : Prop :=
  (190 : Int) < ((zln p1 : Nat) : Int) ∧ ((∀ x2_2 : Int, x2_2 = h p1 190 → ((191 : Int) < ((zln p1 : Nat) : Int) ∧ ((∀ x3_4 : Int, x3_4 = h p1 191 → ((192 : Int) < ((zln p1 : Nat) : Int) ∧ ((∀ x4_6 : Int, x4_6 = h p1 192 → ((∀ h_7 : zH, h_7 = zs h p0 27 0 → ((∀ h_8 : zH, h_8 = zs h_7 (p0 + 19) 0 x2_2 → (zLoop (fun L q => F_RM_take_34 K  L p0 p1 q.1 q.2.1 q.2.2.1 q.2.2.2.1 q.2.2.2.2) (x2_2, x3_4, x4_6, 0, h_8))))))))))))))
set_option maxRecDepth 100000 in
theorem c_RM_take {l : Launch} (hfl : l.flags = flags0) {g : zG} {n : Nat} {p0 : Nat} {p1 : Nat} (op0 : zO n p0 11) (op1 : zO n p1 12) {h : zH} (hh : zh h) {K : Int → zH → Prop} (hv : M_RM_take p0 p1 h K) : zMet l y_RM_take b_RM_take 10 (some .boolean) rm_RM_take g n [.ref (g.2.2 p0), .ref (g.2.2 p1)] h (zPi K) := by
  refine zMet_of (own := "AliasStreamsModel") hfl (by decide) rfl (Nat.le_of_ble_eq_true rfl) (fun Wf m H0 X E => ?_)
  unfold M_RM_take at hv
  show zW Wf m 10 g n H0 0 [(0, .ref (g.2.2 p0)), (1, .ref (g.2.2 p1))] [] h
  refine z_aload_n (pc := 0) (q := 1) X d_RM_take_0 rfl ?_
  refine z_sipush (pc := 1) X d_RM_take_1 (by decide) ?_
  obtain ⟨v_1, hv⟩ := hv
  refine z_ialdj (pc := 4) (j := 190) X op1 rfl (show zr 190 from by decide) ⟨by decide, v_1⟩ rfl d_RM_take_4 ?_
  refine z_topi (fun x2_2 ex2_2 => ?_)
  have rx2_2 : zr x2_2 := by rw [ex2_2]; exact (hh.1 _ _ (zO.ne op1 (by decide)))
  replace hv := hv x2_2 ex2_2
  refine z_istore_n (pc := 5) (lv' := [(2, zi x2_2), (0, .ref (g.2.2 p0)), (1, .ref (g.2.2 p1))]) X d_RM_take_5 (by decide) rfl ?_
  refine z_aload_n (pc := 6) (q := 2) X d_RM_take_6 rfl ?_
  refine z_sipush (pc := 7) X d_RM_take_7 (by decide) ?_
  obtain ⟨v_3, hv⟩ := hv
  refine z_ialdj (pc := 10) (j := 191) X op1 rfl (show zr 191 from by decide) ⟨by decide, v_3⟩ rfl d_RM_take_10 ?_
  refine z_topi (fun x3_4 ex3_4 => ?_)
  have rx3_4 : zr x3_4 := by rw [ex3_4]; exact (hh.1 _ _ (zO.ne op1 (by decide)))
  replace hv := hv x3_4 ex3_4
  refine z_istore_n (pc := 11) (lv' := [(3, zi x3_4), (2, zi x2_2), (0, .ref (g.2.2 p0)), (1, .ref (g.2.2 p1))]) X d_RM_take_11 (by decide) rfl ?_
  refine z_aload_n (pc := 12) (q := 3) X d_RM_take_12 rfl ?_
  refine z_sipush (pc := 13) X d_RM_take_13 (by decide) ?_
  obtain ⟨v_5, hv⟩ := hv
  refine z_ialdj (pc := 16) (j := 192) X op1 rfl (show zr 192 from by decide) ⟨by decide, v_5⟩ rfl d_RM_take_16 ?_
  refine z_topi (fun x4_6 ex4_6 => ?_)
  have rx4_6 : zr x4_6 := by rw [ex4_6]; exact (hh.1 _ _ (zO.ne op1 (by decide)))
  replace hv := hv x4_6 ex4_6
  refine z_istore (pc := 17) (lv' := [(4, zi x4_6), (3, zi x3_4), (2, zi x2_2), (0, .ref (g.2.2 p0)), (1, .ref (g.2.2 p1))]) X d_RM_take_17 (by decide) rfl ?_
  refine z_aload_n (pc := 19) (q := 3) X d_RM_take_19 rfl ?_
  refine z_iconst (pc := 20) X d_RM_take_20 ?_
  refine z_put (pc := 21) (j := 27) X cf_RM op0 (by decide) q1048 rfl rfl rfl rfl d_RM_take_21 ?_
  refine z_toph (fun h_7 eh_7 => ?_)
  have zh_7 : zh h_7 := by rw [eh_7]; exact zh_set hh (zO.ne op0 (by decide)) (show zr 0 from by decide)
  replace hv := hv h_7 eh_7
  refine z_aload_n (pc := 24) (q := 3) X d_RM_take_24 rfl ?_
  refine z_getr (pc := 25) (j := 26) (dd := 19) X cf_RM op0 (by decide) q1047 rfl rfl d_RM_take_25 ?_
  refine z_iconst (pc := 28) X d_RM_take_28 ?_
  refine z_iload_n (pc := 29) (q := 2) X d_RM_take_29 rfl ?_
  refine z_iastj (pc := 30) (j := 0) X (gf_RM_26 op0) (gl_RM_26 op0) (show zr 0 from by decide) ⟨by decide, by decide⟩ rfl d_RM_take_30 ?_
  refine z_toph (fun h_8 eh_8 => ?_)
  have zh_8 : zh h_8 := by rw [eh_8]; exact zh_set zh_7 (zO.ne (gf_RM_26 op0) (by decide)) rx2_2
  replace hv := hv h_8 eh_8
  refine z_iconst (pc := 31) X d_RM_take_31 ?_
  refine z_istore (pc := 32) (lv' := [(5, zi 0), (4, zi x4_6), (3, zi x3_4), (2, zi x2_2), (0, .ref (g.2.2 p0)), (1, .ref (g.2.2 p1))]) X d_RM_take_32 (by decide) rfl ?_
  refine z_perm [4, 5, 3, 2, 1, 0] rfl ?_
  exact s_RM_take_34 X E  op0 op1 hv rx2_2 rx3_4 rx4_6 (show zr 0 from by decide) zh_8
theorem d_RM_fails_0 : decode b_RM_fails 0 = .ok (.aload_n 0, 1) := by decide +kernel
theorem d_RM_fails_1 : decode b_RM_fails 1 = .ok (.aload_n 1, 1) := by decide +kernel
theorem d_RM_fails_2 : decode b_RM_fails 2 = .ok (.invokevirtual 105, 3) := by decide +kernel
theorem d_RM_fails_5 : decode b_RM_fails 5 = .ok (.pop, 1) := by decide +kernel
theorem d_RM_fails_6 : decode b_RM_fails 6 = .ok (.aload_n 0, 1) := by decide +kernel
theorem d_RM_fails_7 : decode b_RM_fails 7 = .ok (.getfield 102, 3) := by decide +kernel
theorem d_RM_fails_10 : decode b_RM_fails 10 = .ok (.aload_n 1, 1) := by decide +kernel
theorem d_RM_fails_11 : decode b_RM_fails 11 = .ok (.sipush 189, 3) := by decide +kernel
theorem d_RM_fails_14 : decode b_RM_fails 14 = .ok (.iaload, 1) := by decide +kernel
theorem d_RM_fails_15 : decode b_RM_fails 15 = .ok (.if_icmp .ge 7, 3) := by decide +kernel
theorem d_RM_fails_18 : decode b_RM_fails 18 = .ok (.iconst 1, 1) := by decide +kernel
theorem d_RM_fails_19 : decode b_RM_fails 19 = .ok (.goto 4, 3) := by decide +kernel
theorem d_RM_fails_22 : decode b_RM_fails 22 = .ok (.iconst 0, 1) := by decide +kernel
theorem d_RM_fails_23 : decode b_RM_fails 23 = .ok (.ireturn, 1) := by decide +kernel
def rm_RM_fails : Room := { frames := 1, cells := 0, slots := 0, locals := 29 }
theorem mf_RM_fails : zMV y_RM_fails b_RM_fails 2 (some .boolean) 1 := ⟨q1284, qs86, q13, q1285, by decide +kernel⟩
def M_RM_fails (p0 : Nat) (p1 : Nat) (h : zH) (K : Int → zH → Prop) : Prop :=
  M_RM_take p0 p1 h (fun r_2 h_1 => (189 : Int) < ((zln p1 : Nat) : Int) ∧ ((h_1 p1 189 ≤ h_1 p0 27 → (K 0 h_1)) ∧ (h_1 p0 27 < h_1 p1 189 → (K 1 h_1))))
set_option maxRecDepth 100000 in
theorem c_RM_fails {l : Launch} (hfl : l.flags = flags0) {g : zG} {n : Nat} {p0 : Nat} {p1 : Nat} (op0 : zO n p0 11) (op1 : zO n p1 12) {h : zH} (hh : zh h) {K : Int → zH → Prop} (hv : M_RM_fails p0 p1 h K) : zMet l y_RM_fails b_RM_fails 2 (some .boolean) rm_RM_fails g n [.ref (g.2.2 p0), .ref (g.2.2 p1)] h (zPi K) := by
  refine zMet_of (own := "AliasStreamsModel") hfl (by decide) rfl (Nat.le_of_ble_eq_true rfl) (fun Wf m H0 X E => ?_)
  unfold M_RM_fails at hv
  show zW Wf m 2 g n H0 0 [(0, .ref (g.2.2 p0)), (1, .ref (g.2.2 p1))] [] h
  refine z_aload_n (pc := 0) (q := 0) X d_RM_fails_0 rfl ?_
  refine z_aload_n (pc := 1) (q := 1) X d_RM_fails_1 rfl ?_
  refine z_callVi (pc := 2) (As := [.ref (g.2.2 p1)]) (rest := []) X (fun l hl => c_RM_take hl op0 op1 hh hv) cf_RM op0 rfl mf_RM_take q1193 ⟨⟨by decide, by decide⟩, rfl, rfl⟩ rfl d_RM_fails_2 rfl (Nat.le_of_ble_eq_true rfl) (fun r_2 h_1 rr_2 zh_1 hv => ?_)
  refine z_pop (pc := 5) X d_RM_fails_5 rfl ?_
  refine z_aload_n (pc := 6) (q := 0) X d_RM_fails_6 rfl ?_
  refine z_geti (pc := 7) (j := 27) X cf_RM op0 (by decide) q1048 rfl rfl d_RM_fails_7 ?_
  refine z_aload_n (pc := 10) (q := 1) X d_RM_fails_10 rfl ?_
  refine z_sipush (pc := 11) X d_RM_fails_11 (by decide) ?_
  obtain ⟨v_3, hv⟩ := hv
  refine z_ialdj (pc := 14) (j := 189) X op1 rfl (show zr 189 from by decide) ⟨by decide, v_3⟩ rfl d_RM_fails_14 ?_
  refine z_icmp_ge (pc := 15) (tgt := 22) X (zh_1.1 _ _ (zO.ne op0 (by decide))) (zh_1.1 _ _ (zO.ne op1 (by decide))) d_RM_fails_15 (by decide) (fun hc => ?_) (fun hc => ?_)
  · replace hv := hv.1 hc
    refine z_iconst (pc := 22) X d_RM_fails_22 ?_
    exact E.2.2.1 rfl _ _ _ _ (by decide) d_RM_fails_23 ⟨_, rfl, (show zr 0 from by decide), zh_1, hv⟩
  · replace hv := hv.2 hc
    refine z_iconst (pc := 18) X d_RM_fails_18 ?_
    refine z_goto (pc := 19) (tgt := 23) X d_RM_fails_19 (by decide) ?_
    exact E.2.2.1 rfl _ _ _ _ (by decide) d_RM_fails_23 ⟨_, rfl, (show zr 1 from by decide), zh_1, hv⟩
theorem d_RM_append_0 : decode b_RM_append 0 = .ok (.aload_n 0, 1) := by decide +kernel
theorem d_RM_append_1 : decode b_RM_append 1 = .ok (.iload_n 1, 1) := by decide +kernel
theorem d_RM_append_2 : decode b_RM_append 2 = .ok (.i2l, 1) := by decide +kernel
theorem d_RM_append_3 : decode b_RM_append 3 = .ok (.lconst 0, 1) := by decide +kernel
theorem d_RM_append_4 : decode b_RM_append 4 = .ok (.ldc2_w 109, 3) := by decide +kernel
theorem d_RM_append_7 : decode b_RM_append 7 = .ok (.invokestatic 87, 3) := by decide +kernel
theorem d_RM_append_10 : decode b_RM_append 10 = .ok (.ifCond .ne 7, 3) := by decide +kernel
theorem d_RM_append_13 : decode b_RM_append 13 = .ok (.iconst 1, 1) := by decide +kernel
theorem d_RM_append_14 : decode b_RM_append 14 = .ok (.goto 17, 3) := by decide +kernel
theorem d_RM_append_17 : decode b_RM_append 17 = .ok (.aload_n 0, 1) := by decide +kernel
theorem d_RM_append_18 : decode b_RM_append 18 = .ok (.getfield 111, 3) := by decide +kernel
theorem d_RM_append_21 : decode b_RM_append 21 = .ok (.bipush 100, 2) := by decide +kernel
theorem d_RM_append_23 : decode b_RM_append 23 = .ok (.if_icmp .ne 7, 3) := by decide +kernel
theorem d_RM_append_26 : decode b_RM_append 26 = .ok (.iconst 2, 1) := by decide +kernel
theorem d_RM_append_27 : decode b_RM_append 27 = .ok (.goto 4, 3) := by decide +kernel
theorem d_RM_append_30 : decode b_RM_append 30 = .ok (.iconst 0, 1) := by decide +kernel
theorem d_RM_append_31 : decode b_RM_append 31 = .ok (.invokevirtual 114, 3) := by decide +kernel
theorem d_RM_append_34 : decode b_RM_append 34 = .ok (.ifCond .eq 5, 3) := by decide +kernel
theorem d_RM_append_37 : decode b_RM_append 37 = .ok (.iconst 0, 1) := by decide +kernel
theorem d_RM_append_38 : decode b_RM_append 38 = .ok (.ireturn, 1) := by decide +kernel
theorem d_RM_append_39 : decode b_RM_append 39 = .ok (.aload_n 0, 1) := by decide +kernel
theorem d_RM_append_40 : decode b_RM_append 40 = .ok (.getfield 7, 3) := by decide +kernel
theorem d_RM_append_43 : decode b_RM_append 43 = .ok (.aload_n 0, 1) := by decide +kernel
theorem d_RM_append_44 : decode b_RM_append 44 = .ok (.getfield 111, 3) := by decide +kernel
theorem d_RM_append_47 : decode b_RM_append 47 = .ok (.iload_n 1, 1) := by decide +kernel
theorem d_RM_append_48 : decode b_RM_append 48 = .ok (.iastore, 1) := by decide +kernel
theorem d_RM_append_49 : decode b_RM_append 49 = .ok (.aload_n 0, 1) := by decide +kernel
theorem d_RM_append_50 : decode b_RM_append 50 = .ok (.dup, 1) := by decide +kernel
theorem d_RM_append_51 : decode b_RM_append 51 = .ok (.getfield 111, 3) := by decide +kernel
theorem d_RM_append_54 : decode b_RM_append 54 = .ok (.iconst 1, 1) := by decide +kernel
theorem d_RM_append_55 : decode b_RM_append 55 = .ok (.iadd, 1) := by decide +kernel
theorem d_RM_append_56 : decode b_RM_append 56 = .ok (.putfield 111, 3) := by decide +kernel
theorem d_RM_append_59 : decode b_RM_append 59 = .ok (.aload_n 0, 1) := by decide +kernel
theorem d_RM_append_60 : decode b_RM_append 60 = .ok (.getfield 111, 3) := by decide +kernel
theorem d_RM_append_63 : decode b_RM_append 63 = .ok (.ireturn, 1) := by decide +kernel
def rm_RM_append : Room := { frames := 1, cells := 0, slots := 0, locals := 25 }
theorem mf_RM_append : zMV y_RM_append b_RM_append 2 (some .int) 1 := ⟨q1123, q1124, q13, q1125, by decide +kernel⟩
def B_RM_append_31 (K : Int → zH → Prop)  (p0 : Nat) (x1 : Int) (w0 : Nat) (u1 : Int) (h : zH) : Prop :=
  M_RM_refused w0 u1 h (fun r_2 h_1 => (r_2 = 0 → ((0 ≤ h_1 p0 2 ∧ h_1 p0 2 < 100) ∧ (∀ h_4 : zH, h_4 = zs h_1 (p0 + 1) ((h_1 p0 2).toNat) x1 → (zr ((h_4 p0 2) + 1) ∧ ((∀ h_6 : zH, h_6 = zs h_4 p0 2 ((h_4 p0 2) + 1) → (K (h_6 p0 2) h_6))))))) ∧ (r_2 ≠ 0 → (K 0 h_1)))
set_option maxRecDepth 100000 in
theorem s_RM_append_31 {Wf : Heap → List Loc → JFrame → Prop} {m : MethodId} {g : zG} {n : Nat} {H0 : Heap} (X : zX Wf m rm_RM_append b_RM_append "AliasStreamsModel" 2 g n H0) {K : Int → zH → Prop} (E : zEx Wf m b_RM_append (some .int) 2 g n H0 (zPi K))  {p0 : Nat} {x1 : Int}  (op0 : zO n p0 11) (rx1 : zr x1) {w0 : Nat} {u1 : Int} (ow0 : zO n w0 11) (ru1 : zr u1) {h : zH} (hh : zh h) (hv : B_RM_append_31 K  p0 x1 w0 u1 h) : zW Wf m 2 g n H0 31 [(0, .ref (g.2.2 p0)), (1, zi x1)] [zi u1, .ref (g.2.2 w0)] h := by
  unfold B_RM_append_31 at hv
  refine z_callVi (pc := 31) (As := [zi u1]) (rest := []) X (fun l hl => c_RM_refused hl ow0 ru1 hh hv) cf_RM ow0 rfl mf_RM_refused q1130 ⟨⟨by decide, by decide⟩, rfl, rfl⟩ rfl d_RM_append_31 rfl (Nat.le_of_ble_eq_true rfl) (fun r_2 h_1 rr_2 zh_1 hv => ?_)
  refine z_if_eq (pc := 34) (tgt := 39) X rr_2 d_RM_append_34 (by decide) (fun hc => ?_) (fun hc => ?_)
  · replace hv := hv.1 hc
    refine z_aload_n (pc := 39) (q := 0) X d_RM_append_39 rfl ?_
    refine z_getr (pc := 40) (j := 1) (dd := 1) X cf_RM op0 (by decide) q1022 rfl rfl d_RM_append_40 ?_
    refine z_aload_n (pc := 43) (q := 0) X d_RM_append_43 rfl ?_
    refine z_geti (pc := 44) (j := 2) X cf_RM op0 (by decide) q1023 rfl rfl d_RM_append_44 ?_
    refine z_iload_n (pc := 47) (q := 1) X d_RM_append_47 rfl ?_
    obtain ⟨v_3, hv⟩ := hv
    refine z_iastj (pc := 48) (j := (h_1 p0 2).toNat) X (gf_RM_1 op0) (gl_RM_1 op0) (zh_1.1 _ _ (zO.ne op0 (by decide))) v_3 rfl d_RM_append_48 ?_
    refine z_toph (fun h_4 eh_4 => ?_)
    have zh_4 : zh h_4 := by rw [eh_4]; exact zh_set zh_1 (zO.ne (gf_RM_1 op0) (by decide)) rx1
    replace hv := hv h_4 eh_4
    refine z_aload_n (pc := 49) (q := 0) X d_RM_append_49 rfl ?_
    refine z_dup (pc := 50) X d_RM_append_50 rfl ?_
    refine z_geti (pc := 51) (j := 2) X cf_RM op0 (by decide) q1023 rfl rfl d_RM_append_51 ?_
    refine z_iconst (pc := 54) X d_RM_append_54 ?_
    obtain ⟨v_5, hv⟩ := hv
    refine z_iadd (pc := 55) X d_RM_append_55 ?_
    refine z_put (pc := 56) (j := 2) X cf_RM op0 (by decide) q1023 rfl rfl rfl rfl d_RM_append_56 ?_
    refine z_toph (fun h_6 eh_6 => ?_)
    have zh_6 : zh h_6 := by rw [eh_6]; exact zh_set zh_4 (zO.ne op0 (by decide)) v_5
    replace hv := hv h_6 eh_6
    refine z_aload_n (pc := 59) (q := 0) X d_RM_append_59 rfl ?_
    refine z_geti (pc := 60) (j := 2) X cf_RM op0 (by decide) q1023 rfl rfl d_RM_append_60 ?_
    exact E.2.1 rfl _ _ _ _ d_RM_append_63 ⟨_, rfl, (zh_6.1 _ _ (zO.ne op0 (by decide))), zh_6, hv⟩
  · replace hv := hv.2 hc
    refine z_iconst (pc := 37) X d_RM_append_37 ?_
    exact E.2.1 rfl _ _ _ _ d_RM_append_38 ⟨_, rfl, (show zr 0 from by decide), zh_1, hv⟩
def M_RM_append (p0 : Nat) (x1 : Int) (h : zH) (K : Int → zH → Prop) : Prop :=
  M_RM_in x1 0 255 h (fun r_2 h_1 => (r_2 ≠ 0 → ((h_1 p0 2 ≠ 100 → (B_RM_append_31 K  p0 x1 p0 0 h_1)) ∧ (h_1 p0 2 = 100 → (B_RM_append_31 K  p0 x1 p0 2 h_1)))) ∧ (r_2 = 0 → (B_RM_append_31 K  p0 x1 p0 1 h_1)))
set_option maxRecDepth 100000 in
theorem c_RM_append {l : Launch} (hfl : l.flags = flags0) {g : zG} {n : Nat} {p0 : Nat} {x1 : Int} (op0 : zO n p0 11) (rx1 : zr x1) {h : zH} (hh : zh h) {K : Int → zH → Prop} (hv : M_RM_append p0 x1 h K) : zMet l y_RM_append b_RM_append 2 (some .int) rm_RM_append g n [.ref (g.2.2 p0), zi x1] h (zPi K) := by
  refine zMet_of (own := "AliasStreamsModel") hfl (by decide) rfl (Nat.le_of_ble_eq_true rfl) (fun Wf m H0 X E => ?_)
  unfold M_RM_append at hv
  show zW Wf m 2 g n H0 0 [(0, .ref (g.2.2 p0)), (1, zi x1)] [] h
  refine z_aload_n (pc := 0) (q := 0) X d_RM_append_0 rfl ?_
  refine z_iload_n (pc := 1) (q := 1) X d_RM_append_1 rfl ?_
  refine z_i2l (pc := 2) X rx1 d_RM_append_2 ?_
  refine z_lconst (pc := 3) (x := 0) X d_RM_append_3 (by decide) ?_
  refine z_ldc2 (pc := 4) (x := 255) X d_RM_append_4 q1126 (by decide) ?_
  refine z_callSi (pc := 7) (As := [zj x1, zj 0, zj 255]) (rest := [.ref (g.2.2 p0)]) X (fun l hl => c_RM_in hl (zr_l rx1) (show zrl 0 from by decide) (show zrl 255 from by decide) hh hv) mf_RM_in q1127 ⟨⟨by decide, by decide⟩, rfl, rfl⟩ rfl d_RM_append_7 rfl (Nat.le_of_ble_eq_true rfl) (fun r_2 h_1 rr_2 zh_1 hv => ?_)
  refine z_if_ne (pc := 10) (tgt := 17) X rr_2 d_RM_append_10 (by decide) (fun hc => ?_) (fun hc => ?_)
  · replace hv := hv.1 hc
    refine z_aload_n (pc := 17) (q := 0) X d_RM_append_17 rfl ?_
    refine z_geti (pc := 18) (j := 2) X cf_RM op0 (by decide) q1023 rfl rfl d_RM_append_18 ?_
    refine z_bipush (pc := 21) X d_RM_append_21 (by decide) ?_
    refine z_icmp_ne (pc := 23) (tgt := 30) X (zh_1.1 _ _ (zO.ne op0 (by decide))) (show zr 100 from by decide) d_RM_append_23 (by decide) (fun hc => ?_) (fun hc => ?_)
    · replace hv := hv.1 hc
      refine z_iconst (pc := 30) X d_RM_append_30 ?_
      exact s_RM_append_31 X E  op0 rx1 op0 (show zr 0 from by decide) zh_1 hv
    · replace hv := hv.2 hc
      refine z_iconst (pc := 26) X d_RM_append_26 ?_
      refine z_goto (pc := 27) (tgt := 31) X d_RM_append_27 (by decide) ?_
      exact s_RM_append_31 X E  op0 rx1 op0 (show zr 2 from by decide) zh_1 hv
  · replace hv := hv.2 hc
    refine z_iconst (pc := 13) X d_RM_append_13 ?_
    refine z_goto (pc := 14) (tgt := 31) X d_RM_append_14 (by decide) ?_
    exact s_RM_append_31 X E  op0 rx1 op0 (show zr 1 from by decide) zh_1 hv
theorem d_RM_clearText_0 : decode b_RM_clearText 0 = .ok (.aload_n 0, 1) := by decide +kernel
theorem d_RM_clearText_1 : decode b_RM_clearText 1 = .ok (.iconst 0, 1) := by decide +kernel
theorem d_RM_clearText_2 : decode b_RM_clearText 2 = .ok (.putfield 84, 3) := by decide +kernel
theorem d_RM_clearText_5 : decode b_RM_clearText 5 = .ok (.aload_n 0, 1) := by decide +kernel
theorem d_RM_clearText_6 : decode b_RM_clearText 6 = .ok (.getfield 111, 3) := by decide +kernel
theorem d_RM_clearText_9 : decode b_RM_clearText 9 = .ok (.istore_n 1, 1) := by decide +kernel
theorem d_RM_clearText_10 : decode b_RM_clearText 10 = .ok (.aload_n 0, 1) := by decide +kernel
theorem d_RM_clearText_11 : decode b_RM_clearText 11 = .ok (.iconst 0, 1) := by decide +kernel
theorem d_RM_clearText_12 : decode b_RM_clearText 12 = .ok (.putfield 111, 3) := by decide +kernel
theorem d_RM_clearText_15 : decode b_RM_clearText 15 = .ok (.iload_n 1, 1) := by decide +kernel
theorem d_RM_clearText_16 : decode b_RM_clearText 16 = .ok (.ireturn, 1) := by decide +kernel
def rm_RM_clearText : Room := { frames := 0, cells := 0, slots := 0, locals := 0 }
theorem mf_RM_clearText : zMV y_RM_clearText b_RM_clearText 2 (some .int) 0 := ⟨q1135, q1136, q13, q1137, by decide +kernel⟩
def M_RM_clearText (p0 : Nat) (h : zH) (K : Int → zH → Prop) : Prop :=
  (∀ h_1 : zH, h_1 = zs h p0 0 0 → ((∀ x1_2 : Int, x1_2 = h_1 p0 2 → ((∀ h_3 : zH, h_3 = zs h_1 p0 2 0 → (K x1_2 h_3))))))
set_option maxRecDepth 100000 in
theorem c_RM_clearText {l : Launch} (hfl : l.flags = flags0) {g : zG} {n : Nat} {p0 : Nat} (op0 : zO n p0 11) {h : zH} (hh : zh h) {K : Int → zH → Prop} (hv : M_RM_clearText p0 h K) : zMet l y_RM_clearText b_RM_clearText 2 (some .int) rm_RM_clearText g n [.ref (g.2.2 p0)] h (zPi K) := by
  refine zMet_of (own := "AliasStreamsModel") hfl (by decide) rfl (Nat.le_of_ble_eq_true rfl) (fun Wf m H0 X E => ?_)
  unfold M_RM_clearText at hv
  show zW Wf m 2 g n H0 0 [(0, .ref (g.2.2 p0))] [] h
  refine z_aload_n (pc := 0) (q := 0) X d_RM_clearText_0 rfl ?_
  refine z_iconst (pc := 1) X d_RM_clearText_1 ?_
  refine z_put (pc := 2) (j := 0) X cf_RM op0 (by decide) q1021 rfl rfl rfl rfl d_RM_clearText_2 ?_
  refine z_toph (fun h_1 eh_1 => ?_)
  have zh_1 : zh h_1 := by rw [eh_1]; exact zh_set hh (zO.ne op0 (by decide)) (show zr 0 from by decide)
  replace hv := hv h_1 eh_1
  refine z_aload_n (pc := 5) (q := 0) X d_RM_clearText_5 rfl ?_
  refine z_geti (pc := 6) (j := 2) X cf_RM op0 (by decide) q1023 rfl rfl d_RM_clearText_6 ?_
  refine z_topi (fun x1_2 ex1_2 => ?_)
  have rx1_2 : zr x1_2 := by rw [ex1_2]; exact (zh_1.1 _ _ (zO.ne op0 (by decide)))
  replace hv := hv x1_2 ex1_2
  refine z_istore_n (pc := 9) (lv' := [(1, zi x1_2), (0, .ref (g.2.2 p0))]) X d_RM_clearText_9 (by decide) rfl ?_
  refine z_aload_n (pc := 10) (q := 1) X d_RM_clearText_10 rfl ?_
  refine z_iconst (pc := 11) X d_RM_clearText_11 ?_
  refine z_put (pc := 12) (j := 2) X cf_RM op0 (by decide) q1023 rfl rfl rfl rfl d_RM_clearText_12 ?_
  refine z_toph (fun h_3 eh_3 => ?_)
  have zh_3 : zh h_3 := by rw [eh_3]; exact zh_set zh_1 (zO.ne op0 (by decide)) (show zr 0 from by decide)
  replace hv := hv h_3 eh_3
  refine z_iload_n (pc := 15) (q := 0) X d_RM_clearText_15 rfl ?_
  exact E.2.1 rfl _ _ _ _ d_RM_clearText_16 ⟨_, rfl, rx1_2, zh_3, hv⟩
theorem d_RM_next_0 : decode b_RM_next 0 = .ok (.aload_n 0, 1) := by decide +kernel
theorem d_RM_next_1 : decode b_RM_next 1 = .ok (.getfield 118, 3) := by decide +kernel
theorem d_RM_next_4 : decode b_RM_next 4 = .ok (.aload_n 0, 1) := by decide +kernel
theorem d_RM_next_5 : decode b_RM_next 5 = .ok (.getfield 111, 3) := by decide +kernel
theorem d_RM_next_8 : decode b_RM_next 8 = .ok (.if_icmp .ge 17, 3) := by decide +kernel
theorem d_RM_next_11 : decode b_RM_next 11 = .ok (.aload_n 0, 1) := by decide +kernel
theorem d_RM_next_12 : decode b_RM_next 12 = .ok (.getfield 7, 3) := by decide +kernel
theorem d_RM_next_15 : decode b_RM_next 15 = .ok (.aload_n 0, 1) := by decide +kernel
theorem d_RM_next_16 : decode b_RM_next 16 = .ok (.getfield 118, 3) := by decide +kernel
theorem d_RM_next_19 : decode b_RM_next 19 = .ok (.iaload, 1) := by decide +kernel
theorem d_RM_next_20 : decode b_RM_next 20 = .ok (.iload_n 1, 1) := by decide +kernel
theorem d_RM_next_21 : decode b_RM_next 21 = .ok (.isub, 1) := by decide +kernel
theorem d_RM_next_22 : decode b_RM_next 22 = .ok (.goto 5, 3) := by decide +kernel
theorem d_RM_next_25 : decode b_RM_next 25 = .ok (.bipush (-9), 2) := by decide +kernel
theorem d_RM_next_27 : decode b_RM_next 27 = .ok (.ireturn, 1) := by decide +kernel
def rm_RM_next : Room := { frames := 0, cells := 0, slots := 0, locals := 0 }
theorem mf_RM_next : zMV y_RM_next b_RM_next 2 (some .int) 1 := ⟨q1148, qs68, q13, q1149, by decide +kernel⟩
def M_RM_next (p0 : Nat) (x1 : Int) (h : zH) (K : Int → zH → Prop) : Prop :=
  (h p0 2 ≤ h p0 3 → (K (-9) h)) ∧ (h p0 3 < h p0 2 → ((0 ≤ h p0 3 ∧ h p0 3 < 100) ∧ (zr ((h (p0 + 1) ((h p0 3).toNat)) - x1) ∧ (K ((h (p0 + 1) ((h p0 3).toNat)) - x1) h))))
set_option maxRecDepth 100000 in
theorem c_RM_next {l : Launch} (hfl : l.flags = flags0) {g : zG} {n : Nat} {p0 : Nat} {x1 : Int} (op0 : zO n p0 11) (rx1 : zr x1) {h : zH} (hh : zh h) {K : Int → zH → Prop} (hv : M_RM_next p0 x1 h K) : zMet l y_RM_next b_RM_next 2 (some .int) rm_RM_next g n [.ref (g.2.2 p0), zi x1] h (zPi K) := by
  refine zMet_of (own := "AliasStreamsModel") hfl (by decide) rfl (Nat.le_of_ble_eq_true rfl) (fun Wf m H0 X E => ?_)
  unfold M_RM_next at hv
  show zW Wf m 2 g n H0 0 [(0, .ref (g.2.2 p0)), (1, zi x1)] [] h
  refine z_aload_n (pc := 0) (q := 0) X d_RM_next_0 rfl ?_
  refine z_geti (pc := 1) (j := 3) X cf_RM op0 (by decide) q1024 rfl rfl d_RM_next_1 ?_
  refine z_aload_n (pc := 4) (q := 0) X d_RM_next_4 rfl ?_
  refine z_geti (pc := 5) (j := 2) X cf_RM op0 (by decide) q1023 rfl rfl d_RM_next_5 ?_
  refine z_icmp_ge (pc := 8) (tgt := 25) X (hh.1 _ _ (zO.ne op0 (by decide))) (hh.1 _ _ (zO.ne op0 (by decide))) d_RM_next_8 (by decide) (fun hc => ?_) (fun hc => ?_)
  · replace hv := hv.1 hc
    refine z_bipush (pc := 25) X d_RM_next_25 (by decide) ?_
    exact E.2.1 rfl _ _ _ _ d_RM_next_27 ⟨_, rfl, (show zr (-9) from by decide), hh, hv⟩
  · replace hv := hv.2 hc
    refine z_aload_n (pc := 11) (q := 0) X d_RM_next_11 rfl ?_
    refine z_getr (pc := 12) (j := 1) (dd := 1) X cf_RM op0 (by decide) q1022 rfl rfl d_RM_next_12 ?_
    refine z_aload_n (pc := 15) (q := 0) X d_RM_next_15 rfl ?_
    refine z_geti (pc := 16) (j := 3) X cf_RM op0 (by decide) q1024 rfl rfl d_RM_next_16 ?_
    obtain ⟨v_1, hv⟩ := hv
    refine z_ialdj (pc := 19) (j := (h p0 3).toNat) X (gf_RM_1 op0) (gl_RM_1 op0) (hh.1 _ _ (zO.ne op0 (by decide))) v_1 rfl d_RM_next_19 ?_
    refine z_iload_n (pc := 20) (q := 1) X d_RM_next_20 rfl ?_
    obtain ⟨v_2, hv⟩ := hv
    refine z_isub (pc := 21) X d_RM_next_21 ?_
    refine z_goto (pc := 22) (tgt := 27) X d_RM_next_22 (by decide) ?_
    exact E.2.1 rfl _ _ _ _ d_RM_next_27 ⟨_, rfl, v_2, hh, hv⟩
theorem d_RM_accepts_0 : decode b_RM_accepts 0 = .ok (.aload_n 0, 1) := by decide +kernel
theorem d_RM_accepts_1 : decode b_RM_accepts 1 = .ok (.dup, 1) := by decide +kernel
theorem d_RM_accepts_2 : decode b_RM_accepts 2 = .ok (.getfield 118, 3) := by decide +kernel
theorem d_RM_accepts_5 : decode b_RM_accepts 5 = .ok (.iload_n 1, 1) := by decide +kernel
theorem d_RM_accepts_6 : decode b_RM_accepts 6 = .ok (.ifCond .eq 7, 3) := by decide +kernel
theorem d_RM_accepts_9 : decode b_RM_accepts 9 = .ok (.iconst 1, 1) := by decide +kernel
theorem d_RM_accepts_10 : decode b_RM_accepts 10 = .ok (.goto 4, 3) := by decide +kernel
theorem d_RM_accepts_13 : decode b_RM_accepts 13 = .ok (.iconst 0, 1) := by decide +kernel
theorem d_RM_accepts_14 : decode b_RM_accepts 14 = .ok (.iadd, 1) := by decide +kernel
theorem d_RM_accepts_15 : decode b_RM_accepts 15 = .ok (.putfield 118, 3) := by decide +kernel
theorem d_RM_accepts_18 : decode b_RM_accepts 18 = .ok (.iload_n 1, 1) := by decide +kernel
theorem d_RM_accepts_19 : decode b_RM_accepts 19 = .ok (.ireturn, 1) := by decide +kernel
def rm_RM_accepts : Room := { frames := 0, cells := 0, slots := 0, locals := 0 }
theorem mf_RM_accepts : zMV y_RM_accepts b_RM_accepts 2 (some .boolean) 1 := ⟨q1152, qs69, q13, q1153, by decide +kernel⟩
def M_RM_accepts (p0 : Nat) (x1 : Int) (h : zH) (K : Int → zH → Prop) : Prop :=
  (x1 = 0 → (zr ((h p0 3) + 0) ∧ ((∀ h_2 : zH, h_2 = zs h p0 3 ((h p0 3) + 0) → ((x1 = 0 ∨ x1 = 1) ∧ K x1 h_2))))) ∧ (x1 ≠ 0 → (zr ((h p0 3) + 1) ∧ ((∀ h_5 : zH, h_5 = zs h p0 3 ((h p0 3) + 1) → ((x1 = 0 ∨ x1 = 1) ∧ K x1 h_5)))))
set_option maxRecDepth 100000 in
theorem c_RM_accepts {l : Launch} (hfl : l.flags = flags0) {g : zG} {n : Nat} {p0 : Nat} {x1 : Int} (op0 : zO n p0 11) (rx1 : zr x1) {h : zH} (hh : zh h) {K : Int → zH → Prop} (hv : M_RM_accepts p0 x1 h K) : zMet l y_RM_accepts b_RM_accepts 2 (some .boolean) rm_RM_accepts g n [.ref (g.2.2 p0), zi x1] h (zPi K) := by
  refine zMet_of (own := "AliasStreamsModel") hfl (by decide) rfl (Nat.le_of_ble_eq_true rfl) (fun Wf m H0 X E => ?_)
  unfold M_RM_accepts at hv
  show zW Wf m 2 g n H0 0 [(0, .ref (g.2.2 p0)), (1, zi x1)] [] h
  refine z_aload_n (pc := 0) (q := 0) X d_RM_accepts_0 rfl ?_
  refine z_dup (pc := 1) X d_RM_accepts_1 rfl ?_
  refine z_geti (pc := 2) (j := 3) X cf_RM op0 (by decide) q1024 rfl rfl d_RM_accepts_2 ?_
  refine z_iload_n (pc := 5) (q := 1) X d_RM_accepts_5 rfl ?_
  refine z_if_eq (pc := 6) (tgt := 13) X rx1 d_RM_accepts_6 (by decide) (fun hc => ?_) (fun hc => ?_)
  · replace hv := hv.1 hc
    refine z_iconst (pc := 13) X d_RM_accepts_13 ?_
    obtain ⟨v_1, hv⟩ := hv
    refine z_iadd (pc := 14) X d_RM_accepts_14 ?_
    refine z_put (pc := 15) (j := 3) X cf_RM op0 (by decide) q1024 rfl rfl rfl rfl d_RM_accepts_15 ?_
    refine z_toph (fun h_2 eh_2 => ?_)
    have zh_2 : zh h_2 := by rw [eh_2]; exact zh_set hh (zO.ne op0 (by decide)) v_1
    replace hv := hv h_2 eh_2
    refine z_iload_n (pc := 18) (q := 1) X d_RM_accepts_18 rfl ?_
    obtain ⟨v_3, hv⟩ := hv
    exact E.2.2.1 rfl _ _ _ _ v_3 d_RM_accepts_19 ⟨_, rfl, rx1, zh_2, hv⟩
  · replace hv := hv.2 hc
    refine z_iconst (pc := 9) X d_RM_accepts_9 ?_
    refine z_goto (pc := 10) (tgt := 14) X d_RM_accepts_10 (by decide) ?_
    obtain ⟨v_4, hv⟩ := hv
    refine z_iadd (pc := 14) X d_RM_accepts_14 ?_
    refine z_put (pc := 15) (j := 3) X cf_RM op0 (by decide) q1024 rfl rfl rfl rfl d_RM_accepts_15 ?_
    refine z_toph (fun h_5 eh_5 => ?_)
    have zh_5 : zh h_5 := by rw [eh_5]; exact zh_set hh (zO.ne op0 (by decide)) v_4
    replace hv := hv h_5 eh_5
    refine z_iload_n (pc := 18) (q := 1) X d_RM_accepts_18 rfl ?_
    obtain ⟨v_6, hv⟩ := hv
    exact E.2.2.1 rfl _ _ _ _ v_6 d_RM_accepts_19 ⟨_, rfl, rx1, zh_5, hv⟩
theorem d_RM_readCounts_0 : decode b_RM_readCounts 0 = .ok (.iconst 0, 1) := by decide +kernel
theorem d_RM_readCounts_1 : decode b_RM_readCounts 1 = .ok (.istore_n 1, 1) := by decide +kernel
theorem d_RM_readCounts_2 : decode b_RM_readCounts 2 = .ok (.iconst 0, 1) := by decide +kernel
theorem d_RM_readCounts_3 : decode b_RM_readCounts 3 = .ok (.istore_n 2, 1) := by decide +kernel
theorem d_RM_readCounts_4 : decode b_RM_readCounts 4 = .ok (.iload_n 2, 1) := by decide +kernel
theorem d_RM_readCounts_5 : decode b_RM_readCounts 5 = .ok (.iconst 2, 1) := by decide +kernel
theorem d_RM_readCounts_6 : decode b_RM_readCounts 6 = .ok (.aload_n 0, 1) := by decide +kernel
theorem d_RM_readCounts_7 : decode b_RM_readCounts 7 = .ok (.getfield 121, 3) := by decide +kernel
theorem d_RM_readCounts_10 : decode b_RM_readCounts 10 = .ok (.imul, 1) := by decide +kernel
theorem d_RM_readCounts_11 : decode b_RM_readCounts 11 = .ok (.if_icmp .ge 108, 3) := by decide +kernel
theorem d_RM_readCounts_14 : decode b_RM_readCounts 14 = .ok (.aload_n 0, 1) := by decide +kernel
theorem d_RM_readCounts_15 : decode b_RM_readCounts 15 = .ok (.bipush 48, 2) := by decide +kernel
theorem d_RM_readCounts_17 : decode b_RM_readCounts 17 = .ok (.invokevirtual 124, 3) := by decide +kernel
theorem d_RM_readCounts_20 : decode b_RM_readCounts 20 = .ok (.istore_n 3, 1) := by decide +kernel
theorem d_RM_readCounts_21 : decode b_RM_readCounts 21 = .ok (.iload_n 2, 1) := by decide +kernel
theorem d_RM_readCounts_22 : decode b_RM_readCounts 22 = .ok (.iconst 1, 1) := by decide +kernel
theorem d_RM_readCounts_23 : decode b_RM_readCounts 23 = .ok (.iadd, 1) := by decide +kernel
theorem d_RM_readCounts_24 : decode b_RM_readCounts 24 = .ok (.iconst 2, 1) := by decide +kernel
theorem d_RM_readCounts_25 : decode b_RM_readCounts 25 = .ok (.aload_n 0, 1) := by decide +kernel
theorem d_RM_readCounts_26 : decode b_RM_readCounts 26 = .ok (.getfield 121, 3) := by decide +kernel
theorem d_RM_readCounts_29 : decode b_RM_readCounts 29 = .ok (.imul, 1) := by decide +kernel
theorem d_RM_readCounts_30 : decode b_RM_readCounts 30 = .ok (.if_icmp .ne 7, 3) := by decide +kernel
theorem d_RM_readCounts_33 : decode b_RM_readCounts 33 = .ok (.iconst 1, 1) := by decide +kernel
theorem d_RM_readCounts_34 : decode b_RM_readCounts 34 = .ok (.goto 4, 3) := by decide +kernel
theorem d_RM_readCounts_37 : decode b_RM_readCounts 37 = .ok (.iconst 0, 1) := by decide +kernel
theorem d_RM_readCounts_38 : decode b_RM_readCounts 38 = .ok (.istore 4, 2) := by decide +kernel
theorem d_RM_readCounts_40 : decode b_RM_readCounts 40 = .ok (.aload_n 0, 1) := by decide +kernel
theorem d_RM_readCounts_41 : decode b_RM_readCounts 41 = .ok (.iload_n 3, 1) := by decide +kernel
theorem d_RM_readCounts_42 : decode b_RM_readCounts 42 = .ok (.i2l, 1) := by decide +kernel
theorem d_RM_readCounts_43 : decode b_RM_readCounts 43 = .ok (.lconst 0, 1) := by decide +kernel
theorem d_RM_readCounts_44 : decode b_RM_readCounts 44 = .ok (.ldc2_w 128, 3) := by decide +kernel
theorem d_RM_readCounts_47 : decode b_RM_readCounts 47 = .ok (.invokestatic 87, 3) := by decide +kernel
theorem d_RM_readCounts_50 : decode b_RM_readCounts 50 = .ok (.ifCond .eq 18, 3) := by decide +kernel
theorem d_RM_readCounts_53 : decode b_RM_readCounts 53 = .ok (.iload 4, 2) := by decide +kernel
theorem d_RM_readCounts_55 : decode b_RM_readCounts 55 = .ok (.ifCond .eq 9, 3) := by decide +kernel
theorem d_RM_readCounts_58 : decode b_RM_readCounts 58 = .ok (.iload_n 1, 1) := by decide +kernel
theorem d_RM_readCounts_59 : decode b_RM_readCounts 59 = .ok (.iload_n 3, 1) := by decide +kernel
theorem d_RM_readCounts_60 : decode b_RM_readCounts 60 = .ok (.iadd, 1) := by decide +kernel
theorem d_RM_readCounts_61 : decode b_RM_readCounts 61 = .ok (.ifCond .le 7, 3) := by decide +kernel
theorem d_RM_readCounts_64 : decode b_RM_readCounts 64 = .ok (.iconst 1, 1) := by decide +kernel
theorem d_RM_readCounts_65 : decode b_RM_readCounts 65 = .ok (.goto 4, 3) := by decide +kernel
theorem d_RM_readCounts_68 : decode b_RM_readCounts 68 = .ok (.iconst 0, 1) := by decide +kernel
theorem d_RM_readCounts_69 : decode b_RM_readCounts 69 = .ok (.invokevirtual 130, 3) := by decide +kernel
theorem d_RM_readCounts_72 : decode b_RM_readCounts 72 = .ok (.ifCond .ne 5, 3) := by decide +kernel
theorem d_RM_readCounts_75 : decode b_RM_readCounts 75 = .ok (.iconst 0, 1) := by decide +kernel
theorem d_RM_readCounts_76 : decode b_RM_readCounts 76 = .ok (.ireturn, 1) := by decide +kernel
theorem d_RM_readCounts_77 : decode b_RM_readCounts 77 = .ok (.bipush 8, 2) := by decide +kernel
theorem d_RM_readCounts_79 : decode b_RM_readCounts 79 = .ok (.aload_n 0, 1) := by decide +kernel
theorem d_RM_readCounts_80 : decode b_RM_readCounts 80 = .ok (.getfield 134, 3) := by decide +kernel
theorem d_RM_readCounts_83 : decode b_RM_readCounts 83 = .ok (.imul, 1) := by decide +kernel
theorem d_RM_readCounts_84 : decode b_RM_readCounts 84 = .ok (.iload_n 2, 1) := by decide +kernel
theorem d_RM_readCounts_85 : decode b_RM_readCounts 85 = .ok (.iconst 2, 1) := by decide +kernel
theorem d_RM_readCounts_86 : decode b_RM_readCounts 86 = .ok (.idiv, 1) := by decide +kernel
theorem d_RM_readCounts_87 : decode b_RM_readCounts 87 = .ok (.iadd, 1) := by decide +kernel
theorem d_RM_readCounts_88 : decode b_RM_readCounts 88 = .ok (.istore 5, 2) := by decide +kernel
theorem d_RM_readCounts_90 : decode b_RM_readCounts 90 = .ok (.aload_n 0, 1) := by decide +kernel
theorem d_RM_readCounts_91 : decode b_RM_readCounts 91 = .ok (.getfield 20, 3) := by decide +kernel
theorem d_RM_readCounts_94 : decode b_RM_readCounts 94 = .ok (.iload 5, 2) := by decide +kernel
theorem d_RM_readCounts_96 : decode b_RM_readCounts 96 = .ok (.bipush 10, 2) := by decide +kernel
theorem d_RM_readCounts_98 : decode b_RM_readCounts 98 = .ok (.aload_n 0, 1) := by decide +kernel
theorem d_RM_readCounts_99 : decode b_RM_readCounts 99 = .ok (.getfield 20, 3) := by decide +kernel
theorem d_RM_readCounts_102 : decode b_RM_readCounts 102 = .ok (.iload 5, 2) := by decide +kernel
theorem d_RM_readCounts_104 : decode b_RM_readCounts 104 = .ok (.iaload, 1) := by decide +kernel
theorem d_RM_readCounts_105 : decode b_RM_readCounts 105 = .ok (.imul, 1) := by decide +kernel
theorem d_RM_readCounts_106 : decode b_RM_readCounts 106 = .ok (.iload_n 3, 1) := by decide +kernel
theorem d_RM_readCounts_107 : decode b_RM_readCounts 107 = .ok (.iadd, 1) := by decide +kernel
theorem d_RM_readCounts_108 : decode b_RM_readCounts 108 = .ok (.iastore, 1) := by decide +kernel
theorem d_RM_readCounts_109 : decode b_RM_readCounts 109 = .ok (.iload_n 1, 1) := by decide +kernel
theorem d_RM_readCounts_110 : decode b_RM_readCounts 110 = .ok (.iload_n 3, 1) := by decide +kernel
theorem d_RM_readCounts_111 : decode b_RM_readCounts 111 = .ok (.iadd, 1) := by decide +kernel
theorem d_RM_readCounts_112 : decode b_RM_readCounts 112 = .ok (.istore_n 1, 1) := by decide +kernel
theorem d_RM_readCounts_113 : decode b_RM_readCounts 113 = .ok (.iinc 2 1, 3) := by decide +kernel
theorem d_RM_readCounts_116 : decode b_RM_readCounts 116 = .ok (.goto (-112), 3) := by decide +kernel
theorem d_RM_readCounts_119 : decode b_RM_readCounts 119 = .ok (.aload_n 0, 1) := by decide +kernel
theorem d_RM_readCounts_120 : decode b_RM_readCounts 120 = .ok (.dup, 1) := by decide +kernel
theorem d_RM_readCounts_121 : decode b_RM_readCounts 121 = .ok (.getfield 134, 3) := by decide +kernel
theorem d_RM_readCounts_124 : decode b_RM_readCounts 124 = .ok (.iconst 1, 1) := by decide +kernel
theorem d_RM_readCounts_125 : decode b_RM_readCounts 125 = .ok (.iadd, 1) := by decide +kernel
theorem d_RM_readCounts_126 : decode b_RM_readCounts 126 = .ok (.putfield 134, 3) := by decide +kernel
theorem d_RM_readCounts_129 : decode b_RM_readCounts 129 = .ok (.iconst 1, 1) := by decide +kernel
theorem d_RM_readCounts_130 : decode b_RM_readCounts 130 = .ok (.ireturn, 1) := by decide +kernel
def rm_RM_readCounts : Room := { frames := 1, cells := 0, slots := 0, locals := 25 }
theorem mf_RM_readCounts : zMV y_RM_readCounts b_RM_readCounts 6 (some .boolean) 0 := ⟨q1158, qs70, q13, q1159, by decide +kernel⟩
def B_RM_readCounts_69 (K : Int → zH → Prop) (L4 : Int × Int × zH → Prop) (p0 : Nat) (x1 : Int) (x2 : Int) (x3 : Int) (w0 : Nat) (u1 : Int) (h : zH) : Prop :=
  M_RM_accepts w0 u1 h (fun r_2 h_1 => (r_2 ≠ 0 → (zr (8 * (h_1 p0 7)) ∧ (0 ≤ x2 ∧ (zr ((8 * (h_1 p0 7)) + (x2 / 2)) ∧ ((∀ x5_6 : Int, x5_6 = (8 * (h_1 p0 7)) + (x2 / 2) → ((0 ≤ x5_6 ∧ x5_6 < 193) ∧ (zr (10 * (h_1 (p0 + 2) x5_6.toNat)) ∧ (zr ((10 * (h_1 (p0 + 2) x5_6.toNat)) + x3) ∧ ((0 ≤ x5_6 ∧ x5_6 < 193) ∧ (∀ h_11 : zH, h_11 = zs h_1 (p0 + 2) x5_6.toNat ((10 * (h_1 (p0 + 2) x5_6.toNat)) + x3) → (zr (x1 + x3) ∧ ((∀ x1_13 : Int, x1_13 = x1 + x3 → (zr (x2 + 1) ∧ (L4 (x1_13, x2 + 1, h_11))))))))))))))))) ∧ (r_2 = 0 → (K 0 h_1)))
set_option maxRecDepth 100000 in
theorem s_RM_readCounts_69 {Wf : Heap → List Loc → JFrame → Prop} {m : MethodId} {g : zG} {n : Nat} {H0 : Heap} (X : zX Wf m rm_RM_readCounts b_RM_readCounts "AliasStreamsModel" 6 g n H0) {K : Int → zH → Prop} (E : zEx Wf m b_RM_readCounts (some .boolean) 6 g n H0 (zPi K)) {L4 : Int × Int × zH → Prop} {p0 : Nat} {x1 : Int} {x2 : Int} {x3 : Int} (hL4 : ∀ q : Int × Int × zH, L4 q → zr q.1 → zr q.2.1 → zh (q.2.2) → zW Wf m 6 g n H0 4 [(0, .ref (g.2.2 p0)), (1, zi q.1), (2, zi q.2.1)] [] (q.2.2)) (op0 : zO n p0 11) (rx1 : zr x1) (rx2 : zr x2) (rx3 : zr x3) {w0 : Nat} {u1 : Int} (ow0 : zO n w0 11) (ru1 : zr u1) {h : zH} (hh : zh h) (hv : B_RM_readCounts_69 K L4 p0 x1 x2 x3 w0 u1 h) : zW Wf m 6 g n H0 69 [(0, .ref (g.2.2 p0)), (1, zi x1), (2, zi x2), (3, zi x3)] [zi u1, .ref (g.2.2 w0)] h := by
  unfold B_RM_readCounts_69 at hv
  refine z_callVi (pc := 69) (As := [zi u1]) (rest := []) X (fun l hl => c_RM_accepts hl ow0 ru1 hh hv) cf_RM ow0 rfl mf_RM_accepts q1150 ⟨⟨by decide, by decide⟩, rfl, rfl⟩ rfl d_RM_readCounts_69 rfl (Nat.le_of_ble_eq_true rfl) (fun r_2 h_1 rr_2 zh_1 hv => ?_)
  refine z_if_ne (pc := 72) (tgt := 77) X rr_2 d_RM_readCounts_72 (by decide) (fun hc => ?_) (fun hc => ?_)
  · replace hv := hv.1 hc
    refine z_bipush (pc := 77) X d_RM_readCounts_77 (by decide) ?_
    refine z_aload_n (pc := 79) (q := 0) X d_RM_readCounts_79 rfl ?_
    refine z_geti (pc := 80) (j := 7) X cf_RM op0 (by decide) q1028 rfl rfl d_RM_readCounts_80 ?_
    obtain ⟨v_3, hv⟩ := hv
    refine z_imul (pc := 83) X d_RM_readCounts_83 ?_
    refine z_iload_n (pc := 84) (q := 2) X d_RM_readCounts_84 rfl ?_
    refine z_iconst (pc := 85) X d_RM_readCounts_85 ?_
    obtain ⟨v_4, hv⟩ := hv
    refine z_idiv (pc := 86) X rx2 (show zr 2 from by decide) v_4 (by decide) d_RM_readCounts_86 ?_
    obtain ⟨v_5, hv⟩ := hv
    refine z_iadd (pc := 87) X d_RM_readCounts_87 ?_
    refine z_topi (fun x5_6 ex5_6 => ?_)
    have rx5_6 : zr x5_6 := by rw [ex5_6]; exact v_5
    replace hv := hv x5_6 ex5_6
    refine z_istore (pc := 88) (lv' := [(5, zi x5_6), (0, .ref (g.2.2 p0)), (1, zi x1), (2, zi x2), (3, zi x3)]) X d_RM_readCounts_88 (by decide) rfl ?_
    refine z_aload_n (pc := 90) (q := 1) X d_RM_readCounts_90 rfl ?_
    refine z_getr (pc := 91) (j := 8) (dd := 2) X cf_RM op0 (by decide) q1029 rfl rfl d_RM_readCounts_91 ?_
    refine z_iload (pc := 94) (q := 0) X d_RM_readCounts_94 rfl ?_
    refine z_bipush (pc := 96) X d_RM_readCounts_96 (by decide) ?_
    refine z_aload_n (pc := 98) (q := 1) X d_RM_readCounts_98 rfl ?_
    refine z_getr (pc := 99) (j := 8) (dd := 2) X cf_RM op0 (by decide) q1029 rfl rfl d_RM_readCounts_99 ?_
    refine z_iload (pc := 102) (q := 0) X d_RM_readCounts_102 rfl ?_
    obtain ⟨v_7, hv⟩ := hv
    refine z_ialdj (pc := 104) (j := x5_6.toNat) X (gf_RM_8 op0) (gl_RM_8 op0) rx5_6 v_7 rfl d_RM_readCounts_104 ?_
    obtain ⟨v_8, hv⟩ := hv
    refine z_imul (pc := 105) X d_RM_readCounts_105 ?_
    refine z_iload_n (pc := 106) (q := 4) X d_RM_readCounts_106 rfl ?_
    obtain ⟨v_9, hv⟩ := hv
    refine z_iadd (pc := 107) X d_RM_readCounts_107 ?_
    obtain ⟨v_10, hv⟩ := hv
    refine z_iastj (pc := 108) (j := x5_6.toNat) X (gf_RM_8 op0) (gl_RM_8 op0) rx5_6 v_10 rfl d_RM_readCounts_108 ?_
    refine z_toph (fun h_11 eh_11 => ?_)
    have zh_11 : zh h_11 := by rw [eh_11]; exact zh_set zh_1 (zO.ne (gf_RM_8 op0) (by decide)) v_9
    replace hv := hv h_11 eh_11
    refine z_iload_n (pc := 109) (q := 2) X d_RM_readCounts_109 rfl ?_
    refine z_iload_n (pc := 110) (q := 4) X d_RM_readCounts_110 rfl ?_
    obtain ⟨v_12, hv⟩ := hv
    refine z_iadd (pc := 111) X d_RM_readCounts_111 ?_
    refine z_topi (fun x1_13 ex1_13 => ?_)
    have rx1_13 : zr x1_13 := by rw [ex1_13]; exact v_12
    replace hv := hv x1_13 ex1_13
    refine z_istore_n (pc := 112) (lv' := [(1, zi x1_13), (5, zi x5_6), (0, .ref (g.2.2 p0)), (2, zi x2), (3, zi x3)]) X d_RM_readCounts_112 (by decide) rfl ?_
    obtain ⟨v_14, hv⟩ := hv
    refine z_iinc (pc := 113) (q := 3) (lv' := [(2, zi (x2 + 1)), (1, zi x1_13), (5, zi x5_6), (0, .ref (g.2.2 p0)), (3, zi x3)]) X d_RM_readCounts_113 rfl (by decide) rfl ?_
    refine z_goto (pc := 116) (tgt := 4) X d_RM_readCounts_116 (by decide) ?_
    refine z_perm [3, 1, 0] rfl ?_
    exact hL4 _ hv rx1_13 v_14 zh_11
  · replace hv := hv.2 hc
    refine z_iconst (pc := 75) X d_RM_readCounts_75 ?_
    exact E.2.2.1 rfl _ _ _ _ (by decide) d_RM_readCounts_76 ⟨_, rfl, (show zr 0 from by decide), zh_1, hv⟩
def B_RM_readCounts_68 (K : Int → zH → Prop) (L4 : Int × Int × zH → Prop) (p0 : Nat) (x1 : Int) (x2 : Int) (x3 : Int) (w0 : Nat) (h : zH) : Prop :=
  B_RM_readCounts_69 K L4 p0 x1 x2 x3 w0 0 h
set_option maxRecDepth 100000 in
theorem s_RM_readCounts_68 {Wf : Heap → List Loc → JFrame → Prop} {m : MethodId} {g : zG} {n : Nat} {H0 : Heap} (X : zX Wf m rm_RM_readCounts b_RM_readCounts "AliasStreamsModel" 6 g n H0) {K : Int → zH → Prop} (E : zEx Wf m b_RM_readCounts (some .boolean) 6 g n H0 (zPi K)) {L4 : Int × Int × zH → Prop} {p0 : Nat} {x1 : Int} {x2 : Int} {x3 : Int} (hL4 : ∀ q : Int × Int × zH, L4 q → zr q.1 → zr q.2.1 → zh (q.2.2) → zW Wf m 6 g n H0 4 [(0, .ref (g.2.2 p0)), (1, zi q.1), (2, zi q.2.1)] [] (q.2.2)) (op0 : zO n p0 11) (rx1 : zr x1) (rx2 : zr x2) (rx3 : zr x3) {w0 : Nat} (ow0 : zO n w0 11) {h : zH} (hh : zh h) (hv : B_RM_readCounts_68 K L4 p0 x1 x2 x3 w0 h) : zW Wf m 6 g n H0 68 [(0, .ref (g.2.2 p0)), (1, zi x1), (2, zi x2), (3, zi x3)] [.ref (g.2.2 w0)] h := by
  unfold B_RM_readCounts_68 at hv
  refine z_iconst (pc := 68) X d_RM_readCounts_68 ?_
  exact s_RM_readCounts_69 X E hL4 op0 rx1 rx2 rx3 ow0 (show zr 0 from by decide) hh hv
def B_RM_readCounts_64 (K : Int → zH → Prop) (L4 : Int × Int × zH → Prop) (p0 : Nat) (x1 : Int) (x2 : Int) (x3 : Int) (w0 : Nat) (h : zH) : Prop :=
  B_RM_readCounts_69 K L4 p0 x1 x2 x3 w0 1 h
set_option maxRecDepth 100000 in
theorem s_RM_readCounts_64 {Wf : Heap → List Loc → JFrame → Prop} {m : MethodId} {g : zG} {n : Nat} {H0 : Heap} (X : zX Wf m rm_RM_readCounts b_RM_readCounts "AliasStreamsModel" 6 g n H0) {K : Int → zH → Prop} (E : zEx Wf m b_RM_readCounts (some .boolean) 6 g n H0 (zPi K)) {L4 : Int × Int × zH → Prop} {p0 : Nat} {x1 : Int} {x2 : Int} {x3 : Int} (hL4 : ∀ q : Int × Int × zH, L4 q → zr q.1 → zr q.2.1 → zh (q.2.2) → zW Wf m 6 g n H0 4 [(0, .ref (g.2.2 p0)), (1, zi q.1), (2, zi q.2.1)] [] (q.2.2)) (op0 : zO n p0 11) (rx1 : zr x1) (rx2 : zr x2) (rx3 : zr x3) {w0 : Nat} (ow0 : zO n w0 11) {h : zH} (hh : zh h) (hv : B_RM_readCounts_64 K L4 p0 x1 x2 x3 w0 h) : zW Wf m 6 g n H0 64 [(0, .ref (g.2.2 p0)), (1, zi x1), (2, zi x2), (3, zi x3)] [.ref (g.2.2 w0)] h := by
  unfold B_RM_readCounts_64 at hv
  refine z_iconst (pc := 64) X d_RM_readCounts_64 ?_
  refine z_goto (pc := 65) (tgt := 69) X d_RM_readCounts_65 (by decide) ?_
  exact s_RM_readCounts_69 X E hL4 op0 rx1 rx2 rx3 ow0 (show zr 1 from by decide) hh hv
def B_RM_readCounts_38 (K : Int → zH → Prop) (L4 : Int × Int × zH → Prop) (p0 : Nat) (x1 : Int) (x2 : Int) (x3 : Int) (u0 : Int) (h : zH) : Prop :=
  M_RM_in x3 0 9 h (fun r_2 h_1 => (r_2 = 0 → (B_RM_readCounts_68 K L4 p0 x1 x2 x3 p0 h_1)) ∧ (r_2 ≠ 0 → ((u0 = 0 → (B_RM_readCounts_64 K L4 p0 x1 x2 x3 p0 h_1)) ∧ (u0 ≠ 0 → (zr (x1 + x3) ∧ ((x1 + x3 ≤ 0 → (B_RM_readCounts_68 K L4 p0 x1 x2 x3 p0 h_1)) ∧ (0 < x1 + x3 → (B_RM_readCounts_64 K L4 p0 x1 x2 x3 p0 h_1))))))))
set_option maxRecDepth 100000 in
theorem s_RM_readCounts_38 {Wf : Heap → List Loc → JFrame → Prop} {m : MethodId} {g : zG} {n : Nat} {H0 : Heap} (X : zX Wf m rm_RM_readCounts b_RM_readCounts "AliasStreamsModel" 6 g n H0) {K : Int → zH → Prop} (E : zEx Wf m b_RM_readCounts (some .boolean) 6 g n H0 (zPi K)) {L4 : Int × Int × zH → Prop} {p0 : Nat} {x1 : Int} {x2 : Int} {x3 : Int} (hL4 : ∀ q : Int × Int × zH, L4 q → zr q.1 → zr q.2.1 → zh (q.2.2) → zW Wf m 6 g n H0 4 [(0, .ref (g.2.2 p0)), (1, zi q.1), (2, zi q.2.1)] [] (q.2.2)) (op0 : zO n p0 11) (rx1 : zr x1) (rx2 : zr x2) (rx3 : zr x3) {u0 : Int} (ru0 : zr u0) {h : zH} (hh : zh h) (hv : B_RM_readCounts_38 K L4 p0 x1 x2 x3 u0 h) : zW Wf m 6 g n H0 38 [(0, .ref (g.2.2 p0)), (1, zi x1), (2, zi x2), (3, zi x3)] [zi u0] h := by
  unfold B_RM_readCounts_38 at hv
  refine z_istore (pc := 38) (lv' := [(4, zi u0), (0, .ref (g.2.2 p0)), (1, zi x1), (2, zi x2), (3, zi x3)]) X d_RM_readCounts_38 (by decide) rfl ?_
  refine z_aload_n (pc := 40) (q := 1) X d_RM_readCounts_40 rfl ?_
  refine z_iload_n (pc := 41) (q := 4) X d_RM_readCounts_41 rfl ?_
  refine z_i2l (pc := 42) X rx3 d_RM_readCounts_42 ?_
  refine z_lconst (pc := 43) (x := 0) X d_RM_readCounts_43 (by decide) ?_
  refine z_ldc2 (pc := 44) (x := 9) X d_RM_readCounts_44 q1160 (by decide) ?_
  refine z_callSi (pc := 47) (As := [zj x3, zj 0, zj 9]) (rest := [.ref (g.2.2 p0)]) X (fun l hl => c_RM_in hl (zr_l rx3) (show zrl 0 from by decide) (show zrl 9 from by decide) hh hv) mf_RM_in q1127 ⟨⟨by decide, by decide⟩, rfl, rfl⟩ rfl d_RM_readCounts_47 rfl (Nat.le_of_ble_eq_true rfl) (fun r_2 h_1 rr_2 zh_1 hv => ?_)
  refine z_if_eq (pc := 50) (tgt := 68) X rr_2 d_RM_readCounts_50 (by decide) (fun hc => ?_) (fun hc => ?_)
  · replace hv := hv.1 hc
    refine z_perm [1, 2, 3, 4] rfl ?_
    exact s_RM_readCounts_68 X E hL4 op0 rx1 rx2 rx3 op0 zh_1 hv
  · replace hv := hv.2 hc
    refine z_iload (pc := 53) (q := 0) X d_RM_readCounts_53 rfl ?_
    refine z_if_eq (pc := 55) (tgt := 64) X ru0 d_RM_readCounts_55 (by decide) (fun hc => ?_) (fun hc => ?_)
    · replace hv := hv.1 hc
      refine z_perm [1, 2, 3, 4] rfl ?_
      exact s_RM_readCounts_64 X E hL4 op0 rx1 rx2 rx3 op0 zh_1 hv
    · replace hv := hv.2 hc
      refine z_iload_n (pc := 58) (q := 2) X d_RM_readCounts_58 rfl ?_
      refine z_iload_n (pc := 59) (q := 4) X d_RM_readCounts_59 rfl ?_
      obtain ⟨v_3, hv⟩ := hv
      refine z_iadd (pc := 60) X d_RM_readCounts_60 ?_
      refine z_if_le (pc := 61) (tgt := 68) X v_3 d_RM_readCounts_61 (by decide) (fun hc => ?_) (fun hc => ?_)
      · replace hv := hv.1 hc
        refine z_perm [1, 2, 3, 4] rfl ?_
        exact s_RM_readCounts_68 X E hL4 op0 rx1 rx2 rx3 op0 zh_1 hv
      · replace hv := hv.2 hc
        refine z_perm [1, 2, 3, 4] rfl ?_
        exact s_RM_readCounts_64 X E hL4 op0 rx1 rx2 rx3 op0 zh_1 hv
def F_RM_readCounts_4 (K : Int → zH → Prop)  (L4 : Int × Int × zH → Prop) (p0 : Nat) (x1 : Int) (x2 : Int) (h : zH) : Prop :=
  zr (2 * (h p0 6)) ∧ ((2 * (h p0 6) ≤ x2 → (zr ((h p0 7) + 1) ∧ ((∀ h_3 : zH, h_3 = zs h p0 7 ((h p0 7) + 1) → (K 1 h_3))))) ∧ (x2 < 2 * (h p0 6) → (M_RM_next p0 48 h (fun r_5 h_4 => zr (x2 + 1) ∧ (zr (2 * (h_4 p0 6)) ∧ ((x2 + 1 ≠ 2 * (h_4 p0 6) → (B_RM_readCounts_38 K L4 p0 x1 x2 r_5 0 h_4)) ∧ (x2 + 1 = 2 * (h_4 p0 6) → (B_RM_readCounts_38 K L4 p0 x1 x2 r_5 1 h_4))))))))
set_option maxRecDepth 100000 in
theorem s_RM_readCounts_4 {Wf : Heap → List Loc → JFrame → Prop} {m : MethodId} {g : zG} {n : Nat} {H0 : Heap} (X : zX Wf m rm_RM_readCounts b_RM_readCounts "AliasStreamsModel" 6 g n H0) {K : Int → zH → Prop} (E : zEx Wf m b_RM_readCounts (some .boolean) 6 g n H0 (zPi K))  {p0 : Nat}  (op0 : zO n p0 11) {q0 : Int × Int × zH} (hv0 : zLoop (fun L q => F_RM_readCounts_4 K  L p0 q.1 q.2.1 q.2.2) q0) : zr q0.1 → zr q0.2.1 → zh (q0.2.2) → zW Wf m 6 g n H0 4 [(0, .ref (g.2.2 p0)), (1, zi q0.1), (2, zi q0.2.1)] [] (q0.2.2) := by
  refine zLoop_use (G := fun q => zr q.1 → zr q.2.1 → zh (q.2.2) → zW Wf m 6 g n H0 4 [(0, .ref (g.2.2 p0)), (1, zi q.1), (2, zi q.2.1)] [] (q.2.2)) ?_ hv0
  rintro L4 ⟨x1, x2, h⟩ hL4 hv rx1 rx2 hh
  have hv : F_RM_readCounts_4 K  L4 p0 x1 x2 h := hv
  unfold F_RM_readCounts_4 at hv
  show zW Wf m 6 g n H0 4 [(0, .ref (g.2.2 p0)), (1, zi x1), (2, zi x2)] [] h
  refine z_iload_n (pc := 4) (q := 2) X d_RM_readCounts_4 rfl ?_
  refine z_iconst (pc := 5) X d_RM_readCounts_5 ?_
  refine z_aload_n (pc := 6) (q := 0) X d_RM_readCounts_6 rfl ?_
  refine z_geti (pc := 7) (j := 6) X cf_RM op0 (by decide) q1027 rfl rfl d_RM_readCounts_7 ?_
  obtain ⟨v_1, hv⟩ := hv
  refine z_imul (pc := 10) X d_RM_readCounts_10 ?_
  refine z_icmp_ge (pc := 11) (tgt := 119) X rx2 v_1 d_RM_readCounts_11 (by decide) (fun hc => ?_) (fun hc => ?_)
  · replace hv := hv.1 hc
    refine z_aload_n (pc := 119) (q := 0) X d_RM_readCounts_119 rfl ?_
    refine z_dup (pc := 120) X d_RM_readCounts_120 rfl ?_
    refine z_geti (pc := 121) (j := 7) X cf_RM op0 (by decide) q1028 rfl rfl d_RM_readCounts_121 ?_
    refine z_iconst (pc := 124) X d_RM_readCounts_124 ?_
    obtain ⟨v_2, hv⟩ := hv
    refine z_iadd (pc := 125) X d_RM_readCounts_125 ?_
    refine z_put (pc := 126) (j := 7) X cf_RM op0 (by decide) q1028 rfl rfl rfl rfl d_RM_readCounts_126 ?_
    refine z_toph (fun h_3 eh_3 => ?_)
    have zh_3 : zh h_3 := by rw [eh_3]; exact zh_set hh (zO.ne op0 (by decide)) v_2
    replace hv := hv h_3 eh_3
    refine z_iconst (pc := 129) X d_RM_readCounts_129 ?_
    exact E.2.2.1 rfl _ _ _ _ (by decide) d_RM_readCounts_130 ⟨_, rfl, (show zr 1 from by decide), zh_3, hv⟩
  · replace hv := hv.2 hc
    refine z_aload_n (pc := 14) (q := 0) X d_RM_readCounts_14 rfl ?_
    refine z_bipush (pc := 15) X d_RM_readCounts_15 (by decide) ?_
    refine z_callVi (pc := 17) (As := [zi 48]) (rest := []) X (fun l hl => c_RM_next hl op0 (show zr 48 from by decide) hh hv) cf_RM op0 rfl mf_RM_next q1146 ⟨⟨by decide, by decide⟩, rfl, rfl⟩ rfl d_RM_readCounts_17 rfl (Nat.le_of_ble_eq_true rfl) (fun r_5 h_4 rr_5 zh_4 hv => ?_)
    refine z_istore_n (pc := 20) (lv' := [(3, zi r_5), (0, .ref (g.2.2 p0)), (1, zi x1), (2, zi x2)]) X d_RM_readCounts_20 (by decide) rfl ?_
    refine z_iload_n (pc := 21) (q := 3) X d_RM_readCounts_21 rfl ?_
    refine z_iconst (pc := 22) X d_RM_readCounts_22 ?_
    obtain ⟨v_6, hv⟩ := hv
    refine z_iadd (pc := 23) X d_RM_readCounts_23 ?_
    refine z_iconst (pc := 24) X d_RM_readCounts_24 ?_
    refine z_aload_n (pc := 25) (q := 1) X d_RM_readCounts_25 rfl ?_
    refine z_geti (pc := 26) (j := 6) X cf_RM op0 (by decide) q1027 rfl rfl d_RM_readCounts_26 ?_
    obtain ⟨v_7, hv⟩ := hv
    refine z_imul (pc := 29) X d_RM_readCounts_29 ?_
    refine z_icmp_ne (pc := 30) (tgt := 37) X v_6 v_7 d_RM_readCounts_30 (by decide) (fun hc => ?_) (fun hc => ?_)
    · replace hv := hv.1 hc
      refine z_iconst (pc := 37) X d_RM_readCounts_37 ?_
      refine z_perm [1, 2, 3, 0] rfl ?_
      exact s_RM_readCounts_38 X E hL4 op0 rx1 rx2 rr_5 (show zr 0 from by decide) zh_4 hv
    · replace hv := hv.2 hc
      refine z_iconst (pc := 33) X d_RM_readCounts_33 ?_
      refine z_goto (pc := 34) (tgt := 38) X d_RM_readCounts_34 (by decide) ?_
      refine z_perm [1, 2, 3, 0] rfl ?_
      exact s_RM_readCounts_38 X E hL4 op0 rx1 rx2 rr_5 (show zr 1 from by decide) zh_4 hv
def M_RM_readCounts (p0 : Nat) (h : zH) (K : Int → zH → Prop) : Prop :=
  zLoop (fun L q => F_RM_readCounts_4 K  L p0 q.1 q.2.1 q.2.2) (0, 0, h)
set_option maxRecDepth 100000 in
theorem c_RM_readCounts {l : Launch} (hfl : l.flags = flags0) {g : zG} {n : Nat} {p0 : Nat} (op0 : zO n p0 11) {h : zH} (hh : zh h) {K : Int → zH → Prop} (hv : M_RM_readCounts p0 h K) : zMet l y_RM_readCounts b_RM_readCounts 6 (some .boolean) rm_RM_readCounts g n [.ref (g.2.2 p0)] h (zPi K) := by
  refine zMet_of (own := "AliasStreamsModel") hfl (by decide) rfl (Nat.le_of_ble_eq_true rfl) (fun Wf m H0 X E => ?_)
  unfold M_RM_readCounts at hv
  show zW Wf m 6 g n H0 0 [(0, .ref (g.2.2 p0))] [] h
  refine z_iconst (pc := 0) X d_RM_readCounts_0 ?_
  refine z_istore_n (pc := 1) (lv' := [(1, zi 0), (0, .ref (g.2.2 p0))]) X d_RM_readCounts_1 (by decide) rfl ?_
  refine z_iconst (pc := 2) X d_RM_readCounts_2 ?_
  refine z_istore_n (pc := 3) (lv' := [(2, zi 0), (1, zi 0), (0, .ref (g.2.2 p0))]) X d_RM_readCounts_3 (by decide) rfl ?_
  refine z_perm [2, 1, 0] rfl ?_
  exact s_RM_readCounts_4 X E  op0 hv (show zr 0 from by decide) (show zr 0 from by decide) hh
theorem d_RM_readItems_0 : decode b_RM_readItems 0 = .ok (.aload_n 0, 1) := by decide +kernel
theorem d_RM_readItems_1 : decode b_RM_readItems 1 = .ok (.getfield 118, 3) := by decide +kernel
theorem d_RM_readItems_4 : decode b_RM_readItems 4 = .ok (.aload_n 0, 1) := by decide +kernel
theorem d_RM_readItems_5 : decode b_RM_readItems 5 = .ok (.getfield 111, 3) := by decide +kernel
theorem d_RM_readItems_8 : decode b_RM_readItems 8 = .ok (.if_icmp .lt 14, 3) := by decide +kernel
theorem d_RM_readItems_11 : decode b_RM_readItems 11 = .ok (.aload_n 0, 1) := by decide +kernel
theorem d_RM_readItems_12 : decode b_RM_readItems 12 = .ok (.getfield 20, 3) := by decide +kernel
theorem d_RM_readItems_15 : decode b_RM_readItems 15 = .ok (.sipush 188, 3) := by decide +kernel
theorem d_RM_readItems_18 : decode b_RM_readItems 18 = .ok (.iaload, 1) := by decide +kernel
theorem d_RM_readItems_19 : decode b_RM_readItems 19 = .ok (.ifCond .ne 121, 3) := by decide +kernel
theorem d_RM_readItems_22 : decode b_RM_readItems 22 = .ok (.aload_n 0, 1) := by decide +kernel
theorem d_RM_readItems_23 : decode b_RM_readItems 23 = .ok (.bipush 97, 2) := by decide +kernel
theorem d_RM_readItems_25 : decode b_RM_readItems 25 = .ok (.invokevirtual 124, 3) := by decide +kernel
theorem d_RM_readItems_28 : decode b_RM_readItems 28 = .ok (.istore_n 1, 1) := by decide +kernel
theorem d_RM_readItems_29 : decode b_RM_readItems 29 = .ok (.aload_n 0, 1) := by decide +kernel
theorem d_RM_readItems_30 : decode b_RM_readItems 30 = .ok (.bipush 48, 2) := by decide +kernel
theorem d_RM_readItems_32 : decode b_RM_readItems 32 = .ok (.invokevirtual 124, 3) := by decide +kernel
theorem d_RM_readItems_35 : decode b_RM_readItems 35 = .ok (.istore_n 2, 1) := by decide +kernel
theorem d_RM_readItems_36 : decode b_RM_readItems 36 = .ok (.iload_n 1, 1) := by decide +kernel
theorem d_RM_readItems_37 : decode b_RM_readItems 37 = .ok (.i2l, 1) := by decide +kernel
theorem d_RM_readItems_38 : decode b_RM_readItems 38 = .ok (.lconst 0, 1) := by decide +kernel
theorem d_RM_readItems_39 : decode b_RM_readItems 39 = .ok (.aload_n 0, 1) := by decide +kernel
theorem d_RM_readItems_40 : decode b_RM_readItems 40 = .ok (.getfield 121, 3) := by decide +kernel
theorem d_RM_readItems_43 : decode b_RM_readItems 43 = .ok (.iconst 1, 1) := by decide +kernel
theorem d_RM_readItems_44 : decode b_RM_readItems 44 = .ok (.isub, 1) := by decide +kernel
theorem d_RM_readItems_45 : decode b_RM_readItems 45 = .ok (.i2l, 1) := by decide +kernel
theorem d_RM_readItems_46 : decode b_RM_readItems 46 = .ok (.invokestatic 87, 3) := by decide +kernel
theorem d_RM_readItems_49 : decode b_RM_readItems 49 = .ok (.istore_n 3, 1) := by decide +kernel
theorem d_RM_readItems_50 : decode b_RM_readItems 50 = .ok (.aload_n 0, 1) := by decide +kernel
theorem d_RM_readItems_51 : decode b_RM_readItems 51 = .ok (.aload_n 0, 1) := by decide +kernel
theorem d_RM_readItems_52 : decode b_RM_readItems 52 = .ok (.getfield 20, 3) := by decide +kernel
theorem d_RM_readItems_55 : decode b_RM_readItems 55 = .ok (.sipush 188, 3) := by decide +kernel
theorem d_RM_readItems_58 : decode b_RM_readItems 58 = .ok (.iaload, 1) := by decide +kernel
theorem d_RM_readItems_59 : decode b_RM_readItems 59 = .ok (.bipush 40, 2) := by decide +kernel
theorem d_RM_readItems_61 : decode b_RM_readItems 61 = .ok (.if_icmp .ge 27, 3) := by decide +kernel
theorem d_RM_readItems_64 : decode b_RM_readItems 64 = .ok (.iload_n 3, 1) := by decide +kernel
theorem d_RM_readItems_65 : decode b_RM_readItems 65 = .ok (.ifCond .ne 19, 3) := by decide +kernel
theorem d_RM_readItems_68 : decode b_RM_readItems 68 = .ok (.iload_n 2, 1) := by decide +kernel
theorem d_RM_readItems_69 : decode b_RM_readItems 69 = .ok (.i2l, 1) := by decide +kernel
theorem d_RM_readItems_70 : decode b_RM_readItems 70 = .ok (.lconst 0, 1) := by decide +kernel
theorem d_RM_readItems_71 : decode b_RM_readItems 71 = .ok (.aload_n 0, 1) := by decide +kernel
theorem d_RM_readItems_72 : decode b_RM_readItems 72 = .ok (.getfield 134, 3) := by decide +kernel
theorem d_RM_readItems_75 : decode b_RM_readItems 75 = .ok (.iconst 1, 1) := by decide +kernel
theorem d_RM_readItems_76 : decode b_RM_readItems 76 = .ok (.isub, 1) := by decide +kernel
theorem d_RM_readItems_77 : decode b_RM_readItems 77 = .ok (.i2l, 1) := by decide +kernel
theorem d_RM_readItems_78 : decode b_RM_readItems 78 = .ok (.invokestatic 87, 3) := by decide +kernel
theorem d_RM_readItems_81 : decode b_RM_readItems 81 = .ok (.ifCond .eq 7, 3) := by decide +kernel
theorem d_RM_readItems_84 : decode b_RM_readItems 84 = .ok (.iconst 1, 1) := by decide +kernel
theorem d_RM_readItems_85 : decode b_RM_readItems 85 = .ok (.goto 4, 3) := by decide +kernel
theorem d_RM_readItems_88 : decode b_RM_readItems 88 = .ok (.iconst 0, 1) := by decide +kernel
theorem d_RM_readItems_89 : decode b_RM_readItems 89 = .ok (.invokevirtual 130, 3) := by decide +kernel
theorem d_RM_readItems_92 : decode b_RM_readItems 92 = .ok (.ifCond .ne 5, 3) := by decide +kernel
theorem d_RM_readItems_95 : decode b_RM_readItems 95 = .ok (.iconst 0, 1) := by decide +kernel
theorem d_RM_readItems_96 : decode b_RM_readItems 96 = .ok (.ireturn, 1) := by decide +kernel
theorem d_RM_readItems_97 : decode b_RM_readItems 97 = .ok (.aload_n 0, 1) := by decide +kernel
theorem d_RM_readItems_98 : decode b_RM_readItems 98 = .ok (.getfield 20, 3) := by decide +kernel
theorem d_RM_readItems_101 : decode b_RM_readItems 101 = .ok (.bipush 24, 2) := by decide +kernel
theorem d_RM_readItems_103 : decode b_RM_readItems 103 = .ok (.aload_n 0, 1) := by decide +kernel
theorem d_RM_readItems_104 : decode b_RM_readItems 104 = .ok (.getfield 20, 3) := by decide +kernel
theorem d_RM_readItems_107 : decode b_RM_readItems 107 = .ok (.sipush 188, 3) := by decide +kernel
theorem d_RM_readItems_110 : decode b_RM_readItems 110 = .ok (.iaload, 1) := by decide +kernel
theorem d_RM_readItems_111 : decode b_RM_readItems 111 = .ok (.iadd, 1) := by decide +kernel
theorem d_RM_readItems_112 : decode b_RM_readItems 112 = .ok (.iload_n 3, 1) := by decide +kernel
theorem d_RM_readItems_113 : decode b_RM_readItems 113 = .ok (.ifCond .eq 7, 3) := by decide +kernel
theorem d_RM_readItems_116 : decode b_RM_readItems 116 = .ok (.iload_n 1, 1) := by decide +kernel
theorem d_RM_readItems_117 : decode b_RM_readItems 117 = .ok (.goto 7, 3) := by decide +kernel
theorem d_RM_readItems_120 : decode b_RM_readItems 120 = .ok (.bipush 10, 2) := by decide +kernel
theorem d_RM_readItems_122 : decode b_RM_readItems 122 = .ok (.iload_n 2, 1) := by decide +kernel
theorem d_RM_readItems_123 : decode b_RM_readItems 123 = .ok (.iadd, 1) := by decide +kernel
theorem d_RM_readItems_124 : decode b_RM_readItems 124 = .ok (.iastore, 1) := by decide +kernel
theorem d_RM_readItems_125 : decode b_RM_readItems 125 = .ok (.aload_n 0, 1) := by decide +kernel
theorem d_RM_readItems_126 : decode b_RM_readItems 126 = .ok (.getfield 20, 3) := by decide +kernel
theorem d_RM_readItems_129 : decode b_RM_readItems 129 = .ok (.sipush 188, 3) := by decide +kernel
theorem d_RM_readItems_132 : decode b_RM_readItems 132 = .ok (.dup2, 1) := by decide +kernel
theorem d_RM_readItems_133 : decode b_RM_readItems 133 = .ok (.iaload, 1) := by decide +kernel
theorem d_RM_readItems_134 : decode b_RM_readItems 134 = .ok (.iconst 1, 1) := by decide +kernel
theorem d_RM_readItems_135 : decode b_RM_readItems 135 = .ok (.iadd, 1) := by decide +kernel
theorem d_RM_readItems_136 : decode b_RM_readItems 136 = .ok (.iastore, 1) := by decide +kernel
theorem d_RM_readItems_137 : decode b_RM_readItems 137 = .ok (.goto (-137), 3) := by decide +kernel
theorem d_RM_readItems_140 : decode b_RM_readItems 140 = .ok (.iconst 1, 1) := by decide +kernel
theorem d_RM_readItems_141 : decode b_RM_readItems 141 = .ok (.ireturn, 1) := by decide +kernel
def rm_RM_readItems : Room := { frames := 1, cells := 0, slots := 0, locals := 25 }
theorem mf_RM_readItems : zMV y_RM_readItems b_RM_readItems 4 (some .boolean) 0 := ⟨q1163, qs71, q13, q1164, by decide +kernel⟩
def B_RM_readItems_124 (K : Int → zH → Prop) (L0 : zH → Prop) (p0 : Nat) (w0 : Nat) (u1 : Int) (u2 : Int) (h : zH) : Prop :=
  (0 ≤ u1 ∧ u1 < ((zln w0 : Nat) : Int)) ∧ (∀ h_2 : zH, h_2 = zs h w0 u1.toNat u2 → (zr ((h_2 (p0 + 2) 188) + 1) ∧ ((∀ h_4 : zH, h_4 = zs h_2 (p0 + 2) 188 ((h_2 (p0 + 2) 188) + 1) → (L0 h_4)))))
set_option maxRecDepth 100000 in
theorem s_RM_readItems_124 {Wf : Heap → List Loc → JFrame → Prop} {m : MethodId} {g : zG} {n : Nat} {H0 : Heap} (X : zX Wf m rm_RM_readItems b_RM_readItems "AliasStreamsModel" 4 g n H0) {K : Int → zH → Prop} (E : zEx Wf m b_RM_readItems (some .boolean) 4 g n H0 (zPi K)) {L0 : zH → Prop} {p0 : Nat} (hL0 : ∀ q : zH, L0 q → zh (q) → zW Wf m 4 g n H0 0 [(0, .ref (g.2.2 p0))] [] (q)) (op0 : zO n p0 11) {w0 : Nat} {u1 : Int} {u2 : Int} (ow0 : zO n w0 12) (ru1 : zr u1) (ru2 : zr u2) {h : zH} (hh : zh h) (hv : B_RM_readItems_124 K L0 p0 w0 u1 u2 h) : zW Wf m 4 g n H0 124 [(0, .ref (g.2.2 p0))] [zi u2, zi u1, .ref (g.2.2 w0)] h := by
  unfold B_RM_readItems_124 at hv
  obtain ⟨v_1, hv⟩ := hv
  refine z_iastj (pc := 124) (j := u1.toNat) X ow0 rfl ru1 v_1 rfl d_RM_readItems_124 ?_
  refine z_toph (fun h_2 eh_2 => ?_)
  have zh_2 : zh h_2 := by rw [eh_2]; exact zh_set hh (zO.ne ow0 (by decide)) ru2
  replace hv := hv h_2 eh_2
  refine z_aload_n (pc := 125) (q := 0) X d_RM_readItems_125 rfl ?_
  refine z_getr (pc := 126) (j := 8) (dd := 2) X cf_RM op0 (by decide) q1029 rfl rfl d_RM_readItems_126 ?_
  refine z_sipush (pc := 129) X d_RM_readItems_129 (by decide) ?_
  refine z_dup2 (pc := 132) X d_RM_readItems_132 rfl rfl ?_
  refine z_ialdj (pc := 133) (j := 188) X (gf_RM_8 op0) (gl_RM_8 op0) (show zr 188 from by decide) ⟨by decide, by decide⟩ rfl d_RM_readItems_133 ?_
  refine z_iconst (pc := 134) X d_RM_readItems_134 ?_
  obtain ⟨v_3, hv⟩ := hv
  refine z_iadd (pc := 135) X d_RM_readItems_135 ?_
  refine z_iastj (pc := 136) (j := 188) X (gf_RM_8 op0) (gl_RM_8 op0) (show zr 188 from by decide) ⟨by decide, by decide⟩ rfl d_RM_readItems_136 ?_
  refine z_toph (fun h_4 eh_4 => ?_)
  have zh_4 : zh h_4 := by rw [eh_4]; exact zh_set zh_2 (zO.ne (gf_RM_8 op0) (by decide)) v_3
  replace hv := hv h_4 eh_4
  refine z_goto (pc := 137) (tgt := 0) X d_RM_readItems_137 (by decide) ?_
  exact hL0 _ hv  zh_4
def B_RM_readItems_89 (K : Int → zH → Prop) (L0 : zH → Prop) (p0 : Nat) (x1 : Int) (x2 : Int) (x3 : Int) (w0 : Nat) (u1 : Int) (h : zH) : Prop :=
  M_RM_accepts w0 u1 h (fun r_2 h_1 => (r_2 ≠ 0 → (zr (24 + (h_1 (p0 + 2) 188)) ∧ ((x3 = 0 → (zr (10 + x2) ∧ (B_RM_readItems_124 K L0 p0 (p0 + 2) (24 + (h_1 (p0 + 2) 188)) (10 + x2) h_1))) ∧ (x3 ≠ 0 → (B_RM_readItems_124 K L0 p0 (p0 + 2) (24 + (h_1 (p0 + 2) 188)) x1 h_1))))) ∧ (r_2 = 0 → (K 0 h_1)))
set_option maxRecDepth 100000 in
theorem s_RM_readItems_89 {Wf : Heap → List Loc → JFrame → Prop} {m : MethodId} {g : zG} {n : Nat} {H0 : Heap} (X : zX Wf m rm_RM_readItems b_RM_readItems "AliasStreamsModel" 4 g n H0) {K : Int → zH → Prop} (E : zEx Wf m b_RM_readItems (some .boolean) 4 g n H0 (zPi K)) {L0 : zH → Prop} {p0 : Nat} {x1 : Int} {x2 : Int} {x3 : Int} (hL0 : ∀ q : zH, L0 q → zh (q) → zW Wf m 4 g n H0 0 [(0, .ref (g.2.2 p0))] [] (q)) (op0 : zO n p0 11) (rx1 : zr x1) (rx2 : zr x2) (rx3 : zr x3) {w0 : Nat} {u1 : Int} (ow0 : zO n w0 11) (ru1 : zr u1) {h : zH} (hh : zh h) (hv : B_RM_readItems_89 K L0 p0 x1 x2 x3 w0 u1 h) : zW Wf m 4 g n H0 89 [(0, .ref (g.2.2 p0)), (1, zi x1), (2, zi x2), (3, zi x3)] [zi u1, .ref (g.2.2 w0)] h := by
  unfold B_RM_readItems_89 at hv
  refine z_callVi (pc := 89) (As := [zi u1]) (rest := []) X (fun l hl => c_RM_accepts hl ow0 ru1 hh hv) cf_RM ow0 rfl mf_RM_accepts q1150 ⟨⟨by decide, by decide⟩, rfl, rfl⟩ rfl d_RM_readItems_89 rfl (Nat.le_of_ble_eq_true rfl) (fun r_2 h_1 rr_2 zh_1 hv => ?_)
  refine z_if_ne (pc := 92) (tgt := 97) X rr_2 d_RM_readItems_92 (by decide) (fun hc => ?_) (fun hc => ?_)
  · replace hv := hv.1 hc
    refine z_aload_n (pc := 97) (q := 0) X d_RM_readItems_97 rfl ?_
    refine z_getr (pc := 98) (j := 8) (dd := 2) X cf_RM op0 (by decide) q1029 rfl rfl d_RM_readItems_98 ?_
    refine z_bipush (pc := 101) X d_RM_readItems_101 (by decide) ?_
    refine z_aload_n (pc := 103) (q := 0) X d_RM_readItems_103 rfl ?_
    refine z_getr (pc := 104) (j := 8) (dd := 2) X cf_RM op0 (by decide) q1029 rfl rfl d_RM_readItems_104 ?_
    refine z_sipush (pc := 107) X d_RM_readItems_107 (by decide) ?_
    refine z_ialdj (pc := 110) (j := 188) X (gf_RM_8 op0) (gl_RM_8 op0) (show zr 188 from by decide) ⟨by decide, by decide⟩ rfl d_RM_readItems_110 ?_
    obtain ⟨v_3, hv⟩ := hv
    refine z_iadd (pc := 111) X d_RM_readItems_111 ?_
    refine z_iload_n (pc := 112) (q := 3) X d_RM_readItems_112 rfl ?_
    refine z_if_eq (pc := 113) (tgt := 120) X rx3 d_RM_readItems_113 (by decide) (fun hc => ?_) (fun hc => ?_)
    · replace hv := hv.1 hc
      refine z_bipush (pc := 120) X d_RM_readItems_120 (by decide) ?_
      refine z_iload_n (pc := 122) (q := 2) X d_RM_readItems_122 rfl ?_
      obtain ⟨v_4, hv⟩ := hv
      refine z_iadd (pc := 123) X d_RM_readItems_123 ?_
      refine z_perm [0] rfl ?_
      exact s_RM_readItems_124 X E hL0 op0 (gf_RM_8 op0) v_3 v_4 zh_1 hv
    · replace hv := hv.2 hc
      refine z_iload_n (pc := 116) (q := 1) X d_RM_readItems_116 rfl ?_
      refine z_goto (pc := 117) (tgt := 124) X d_RM_readItems_117 (by decide) ?_
      refine z_perm [0] rfl ?_
      exact s_RM_readItems_124 X E hL0 op0 (gf_RM_8 op0) v_3 rx1 zh_1 hv
  · replace hv := hv.2 hc
    refine z_iconst (pc := 95) X d_RM_readItems_95 ?_
    exact E.2.2.1 rfl _ _ _ _ (by decide) d_RM_readItems_96 ⟨_, rfl, (show zr 0 from by decide), zh_1, hv⟩
def B_RM_readItems_88 (K : Int → zH → Prop) (L0 : zH → Prop) (p0 : Nat) (x1 : Int) (x2 : Int) (x3 : Int) (w0 : Nat) (h : zH) : Prop :=
  B_RM_readItems_89 K L0 p0 x1 x2 x3 w0 0 h
set_option maxRecDepth 100000 in
theorem s_RM_readItems_88 {Wf : Heap → List Loc → JFrame → Prop} {m : MethodId} {g : zG} {n : Nat} {H0 : Heap} (X : zX Wf m rm_RM_readItems b_RM_readItems "AliasStreamsModel" 4 g n H0) {K : Int → zH → Prop} (E : zEx Wf m b_RM_readItems (some .boolean) 4 g n H0 (zPi K)) {L0 : zH → Prop} {p0 : Nat} {x1 : Int} {x2 : Int} {x3 : Int} (hL0 : ∀ q : zH, L0 q → zh (q) → zW Wf m 4 g n H0 0 [(0, .ref (g.2.2 p0))] [] (q)) (op0 : zO n p0 11) (rx1 : zr x1) (rx2 : zr x2) (rx3 : zr x3) {w0 : Nat} (ow0 : zO n w0 11) {h : zH} (hh : zh h) (hv : B_RM_readItems_88 K L0 p0 x1 x2 x3 w0 h) : zW Wf m 4 g n H0 88 [(0, .ref (g.2.2 p0)), (1, zi x1), (2, zi x2), (3, zi x3)] [.ref (g.2.2 w0)] h := by
  unfold B_RM_readItems_88 at hv
  refine z_iconst (pc := 88) X d_RM_readItems_88 ?_
  exact s_RM_readItems_89 X E hL0 op0 rx1 rx2 rx3 ow0 (show zr 0 from by decide) hh hv
def B_RM_readItems_84 (K : Int → zH → Prop) (L0 : zH → Prop) (p0 : Nat) (x1 : Int) (x2 : Int) (x3 : Int) (w0 : Nat) (h : zH) : Prop :=
  B_RM_readItems_89 K L0 p0 x1 x2 x3 w0 1 h
set_option maxRecDepth 100000 in
theorem s_RM_readItems_84 {Wf : Heap → List Loc → JFrame → Prop} {m : MethodId} {g : zG} {n : Nat} {H0 : Heap} (X : zX Wf m rm_RM_readItems b_RM_readItems "AliasStreamsModel" 4 g n H0) {K : Int → zH → Prop} (E : zEx Wf m b_RM_readItems (some .boolean) 4 g n H0 (zPi K)) {L0 : zH → Prop} {p0 : Nat} {x1 : Int} {x2 : Int} {x3 : Int} (hL0 : ∀ q : zH, L0 q → zh (q) → zW Wf m 4 g n H0 0 [(0, .ref (g.2.2 p0))] [] (q)) (op0 : zO n p0 11) (rx1 : zr x1) (rx2 : zr x2) (rx3 : zr x3) {w0 : Nat} (ow0 : zO n w0 11) {h : zH} (hh : zh h) (hv : B_RM_readItems_84 K L0 p0 x1 x2 x3 w0 h) : zW Wf m 4 g n H0 84 [(0, .ref (g.2.2 p0)), (1, zi x1), (2, zi x2), (3, zi x3)] [.ref (g.2.2 w0)] h := by
  unfold B_RM_readItems_84 at hv
  refine z_iconst (pc := 84) X d_RM_readItems_84 ?_
  refine z_goto (pc := 85) (tgt := 89) X d_RM_readItems_85 (by decide) ?_
  exact s_RM_readItems_89 X E hL0 op0 rx1 rx2 rx3 ow0 (show zr 1 from by decide) hh hv
def B_RM_readItems_22 (K : Int → zH → Prop) (L0 : zH → Prop) (p0 : Nat)  (h : zH) : Prop :=
  M_RM_next p0 97 h (fun r_2 h_1 => M_RM_next p0 48 h_1 (fun r_4 h_3 => zr ((h_3 p0 6) - 1) ∧ (M_RM_in r_2 0 ((h_3 p0 6) - 1) h_3 (fun r_7 h_6 => (40 ≤ h_6 (p0 + 2) 188 → (B_RM_readItems_88 K L0 p0 r_2 r_4 r_7 p0 h_6)) ∧ (h_6 (p0 + 2) 188 < 40 → ((r_7 ≠ 0 → (B_RM_readItems_84 K L0 p0 r_2 r_4 r_7 p0 h_6)) ∧ (r_7 = 0 → (zr ((h_6 p0 7) - 1) ∧ (M_RM_in r_4 0 ((h_6 p0 7) - 1) h_6 (fun r_10 h_9 => (r_10 = 0 → (B_RM_readItems_88 K L0 p0 r_2 r_4 r_7 p0 h_9)) ∧ (r_10 ≠ 0 → (B_RM_readItems_84 K L0 p0 r_2 r_4 r_7 p0 h_9))))))))))))
set_option maxRecDepth 100000 in
theorem s_RM_readItems_22 {Wf : Heap → List Loc → JFrame → Prop} {m : MethodId} {g : zG} {n : Nat} {H0 : Heap} (X : zX Wf m rm_RM_readItems b_RM_readItems "AliasStreamsModel" 4 g n H0) {K : Int → zH → Prop} (E : zEx Wf m b_RM_readItems (some .boolean) 4 g n H0 (zPi K)) {L0 : zH → Prop} {p0 : Nat} (hL0 : ∀ q : zH, L0 q → zh (q) → zW Wf m 4 g n H0 0 [(0, .ref (g.2.2 p0))] [] (q)) (op0 : zO n p0 11)   {h : zH} (hh : zh h) (hv : B_RM_readItems_22 K L0 p0  h) : zW Wf m 4 g n H0 22 [(0, .ref (g.2.2 p0))] [] h := by
  unfold B_RM_readItems_22 at hv
  refine z_aload_n (pc := 22) (q := 0) X d_RM_readItems_22 rfl ?_
  refine z_bipush (pc := 23) X d_RM_readItems_23 (by decide) ?_
  refine z_callVi (pc := 25) (As := [zi 97]) (rest := []) X (fun l hl => c_RM_next hl op0 (show zr 97 from by decide) hh hv) cf_RM op0 rfl mf_RM_next q1146 ⟨⟨by decide, by decide⟩, rfl, rfl⟩ rfl d_RM_readItems_25 rfl (Nat.le_of_ble_eq_true rfl) (fun r_2 h_1 rr_2 zh_1 hv => ?_)
  refine z_istore_n (pc := 28) (lv' := [(1, zi r_2), (0, .ref (g.2.2 p0))]) X d_RM_readItems_28 (by decide) rfl ?_
  refine z_aload_n (pc := 29) (q := 1) X d_RM_readItems_29 rfl ?_
  refine z_bipush (pc := 30) X d_RM_readItems_30 (by decide) ?_
  refine z_callVi (pc := 32) (As := [zi 48]) (rest := []) X (fun l hl => c_RM_next hl op0 (show zr 48 from by decide) zh_1 hv) cf_RM op0 rfl mf_RM_next q1146 ⟨⟨by decide, by decide⟩, rfl, rfl⟩ rfl d_RM_readItems_32 rfl (Nat.le_of_ble_eq_true rfl) (fun r_4 h_3 rr_4 zh_3 hv => ?_)
  refine z_istore_n (pc := 35) (lv' := [(2, zi r_4), (1, zi r_2), (0, .ref (g.2.2 p0))]) X d_RM_readItems_35 (by decide) rfl ?_
  refine z_iload_n (pc := 36) (q := 1) X d_RM_readItems_36 rfl ?_
  refine z_i2l (pc := 37) X rr_2 d_RM_readItems_37 ?_
  refine z_lconst (pc := 38) (x := 0) X d_RM_readItems_38 (by decide) ?_
  refine z_aload_n (pc := 39) (q := 2) X d_RM_readItems_39 rfl ?_
  refine z_geti (pc := 40) (j := 6) X cf_RM op0 (by decide) q1027 rfl rfl d_RM_readItems_40 ?_
  refine z_iconst (pc := 43) X d_RM_readItems_43 ?_
  obtain ⟨v_5, hv⟩ := hv
  refine z_isub (pc := 44) X d_RM_readItems_44 ?_
  refine z_i2l (pc := 45) X v_5 d_RM_readItems_45 ?_
  refine z_callSi (pc := 46) (As := [zj r_2, zj 0, zj ((h_3 p0 6) - 1)]) (rest := []) X (fun l hl => c_RM_in hl (zr_l rr_2) (show zrl 0 from by decide) (zr_l v_5) zh_3 hv) mf_RM_in q1127 ⟨⟨by decide, by decide⟩, rfl, rfl⟩ rfl d_RM_readItems_46 rfl (Nat.le_of_ble_eq_true rfl) (fun r_7 h_6 rr_7 zh_6 hv => ?_)
  refine z_istore_n (pc := 49) (lv' := [(3, zi r_7), (2, zi r_4), (1, zi r_2), (0, .ref (g.2.2 p0))]) X d_RM_readItems_49 (by decide) rfl ?_
  refine z_aload_n (pc := 50) (q := 3) X d_RM_readItems_50 rfl ?_
  refine z_aload_n (pc := 51) (q := 3) X d_RM_readItems_51 rfl ?_
  refine z_getr (pc := 52) (j := 8) (dd := 2) X cf_RM op0 (by decide) q1029 rfl rfl d_RM_readItems_52 ?_
  refine z_sipush (pc := 55) X d_RM_readItems_55 (by decide) ?_
  refine z_ialdj (pc := 58) (j := 188) X (gf_RM_8 op0) (gl_RM_8 op0) (show zr 188 from by decide) ⟨by decide, by decide⟩ rfl d_RM_readItems_58 ?_
  refine z_bipush (pc := 59) X d_RM_readItems_59 (by decide) ?_
  refine z_icmp_ge (pc := 61) (tgt := 88) X (zh_6.1 _ _ (zO.ne (gf_RM_8 op0) (by decide))) (show zr 40 from by decide) d_RM_readItems_61 (by decide) (fun hc => ?_) (fun hc => ?_)
  · replace hv := hv.1 hc
    refine z_perm [3, 2, 1, 0] rfl ?_
    exact s_RM_readItems_88 X E hL0 op0 rr_2 rr_4 rr_7 op0 zh_6 hv
  · replace hv := hv.2 hc
    refine z_iload_n (pc := 64) (q := 0) X d_RM_readItems_64 rfl ?_
    refine z_if_ne (pc := 65) (tgt := 84) X rr_7 d_RM_readItems_65 (by decide) (fun hc => ?_) (fun hc => ?_)
    · replace hv := hv.1 hc
      refine z_perm [3, 2, 1, 0] rfl ?_
      exact s_RM_readItems_84 X E hL0 op0 rr_2 rr_4 rr_7 op0 zh_6 hv
    · replace hv := hv.2 hc
      refine z_iload_n (pc := 68) (q := 1) X d_RM_readItems_68 rfl ?_
      refine z_i2l (pc := 69) X rr_4 d_RM_readItems_69 ?_
      refine z_lconst (pc := 70) (x := 0) X d_RM_readItems_70 (by decide) ?_
      refine z_aload_n (pc := 71) (q := 3) X d_RM_readItems_71 rfl ?_
      refine z_geti (pc := 72) (j := 7) X cf_RM op0 (by decide) q1028 rfl rfl d_RM_readItems_72 ?_
      refine z_iconst (pc := 75) X d_RM_readItems_75 ?_
      obtain ⟨v_8, hv⟩ := hv
      refine z_isub (pc := 76) X d_RM_readItems_76 ?_
      refine z_i2l (pc := 77) X v_8 d_RM_readItems_77 ?_
      refine z_callSi (pc := 78) (As := [zj r_4, zj 0, zj ((h_6 p0 7) - 1)]) (rest := [.ref (g.2.2 p0)]) X (fun l hl => c_RM_in hl (zr_l rr_4) (show zrl 0 from by decide) (zr_l v_8) zh_6 hv) mf_RM_in q1127 ⟨⟨by decide, by decide⟩, rfl, rfl⟩ rfl d_RM_readItems_78 rfl (Nat.le_of_ble_eq_true rfl) (fun r_10 h_9 rr_10 zh_9 hv => ?_)
      refine z_if_eq (pc := 81) (tgt := 88) X rr_10 d_RM_readItems_81 (by decide) (fun hc => ?_) (fun hc => ?_)
      · replace hv := hv.1 hc
        refine z_perm [3, 2, 1, 0] rfl ?_
        exact s_RM_readItems_88 X E hL0 op0 rr_2 rr_4 rr_7 op0 zh_9 hv
      · replace hv := hv.2 hc
        refine z_perm [3, 2, 1, 0] rfl ?_
        exact s_RM_readItems_84 X E hL0 op0 rr_2 rr_4 rr_7 op0 zh_9 hv
def F_RM_readItems_0 (K : Int → zH → Prop)  (L0 : zH → Prop) (p0 : Nat)  (h : zH) : Prop :=
  (h p0 3 < h p0 2 → (B_RM_readItems_22 K L0 p0  h)) ∧ (h p0 2 ≤ h p0 3 → ((h (p0 + 2) 188 ≠ 0 → (K 1 h)) ∧ (h (p0 + 2) 188 = 0 → (B_RM_readItems_22 K L0 p0  h))))
set_option maxRecDepth 100000 in
theorem s_RM_readItems_0 {Wf : Heap → List Loc → JFrame → Prop} {m : MethodId} {g : zG} {n : Nat} {H0 : Heap} (X : zX Wf m rm_RM_readItems b_RM_readItems "AliasStreamsModel" 4 g n H0) {K : Int → zH → Prop} (E : zEx Wf m b_RM_readItems (some .boolean) 4 g n H0 (zPi K))  {p0 : Nat}  (op0 : zO n p0 11) {q0 : zH} (hv0 : zLoop (fun L q => F_RM_readItems_0 K  L p0 q) q0) : zh (q0) → zW Wf m 4 g n H0 0 [(0, .ref (g.2.2 p0))] [] (q0) := by
  refine zLoop_use (G := fun q => zh (q) → zW Wf m 4 g n H0 0 [(0, .ref (g.2.2 p0))] [] (q)) ?_ hv0
  rintro L0 h hL0 hv  hh
  have hv : F_RM_readItems_0 K  L0 p0 h := hv
  unfold F_RM_readItems_0 at hv
  show zW Wf m 4 g n H0 0 [(0, .ref (g.2.2 p0))] [] h
  refine z_aload_n (pc := 0) (q := 0) X d_RM_readItems_0 rfl ?_
  refine z_geti (pc := 1) (j := 3) X cf_RM op0 (by decide) q1024 rfl rfl d_RM_readItems_1 ?_
  refine z_aload_n (pc := 4) (q := 0) X d_RM_readItems_4 rfl ?_
  refine z_geti (pc := 5) (j := 2) X cf_RM op0 (by decide) q1023 rfl rfl d_RM_readItems_5 ?_
  refine z_icmp_lt (pc := 8) (tgt := 22) X (hh.1 _ _ (zO.ne op0 (by decide))) (hh.1 _ _ (zO.ne op0 (by decide))) d_RM_readItems_8 (by decide) (fun hc => ?_) (fun hc => ?_)
  · replace hv := hv.1 hc
    exact s_RM_readItems_22 X E hL0 op0  hh hv
  · replace hv := hv.2 hc
    refine z_aload_n (pc := 11) (q := 0) X d_RM_readItems_11 rfl ?_
    refine z_getr (pc := 12) (j := 8) (dd := 2) X cf_RM op0 (by decide) q1029 rfl rfl d_RM_readItems_12 ?_
    refine z_sipush (pc := 15) X d_RM_readItems_15 (by decide) ?_
    refine z_ialdj (pc := 18) (j := 188) X (gf_RM_8 op0) (gl_RM_8 op0) (show zr 188 from by decide) ⟨by decide, by decide⟩ rfl d_RM_readItems_18 ?_
    refine z_if_ne (pc := 19) (tgt := 140) X (hh.1 _ _ (zO.ne (gf_RM_8 op0) (by decide))) d_RM_readItems_19 (by decide) (fun hc => ?_) (fun hc => ?_)
    · replace hv := hv.1 hc
      refine z_iconst (pc := 140) X d_RM_readItems_140 ?_
      exact E.2.2.1 rfl _ _ _ _ (by decide) d_RM_readItems_141 ⟨_, rfl, (show zr 1 from by decide), hh, hv⟩
    · replace hv := hv.2 hc
      exact s_RM_readItems_22 X E hL0 op0  hh hv
def M_RM_readItems (p0 : Nat) (h : zH) (K : Int → zH → Prop) : Prop :=
  zLoop (fun L q => F_RM_readItems_0 K  L p0 q) h
set_option maxRecDepth 100000 in
theorem c_RM_readItems {l : Launch} (hfl : l.flags = flags0) {g : zG} {n : Nat} {p0 : Nat} (op0 : zO n p0 11) {h : zH} (hh : zh h) {K : Int → zH → Prop} (hv : M_RM_readItems p0 h K) : zMet l y_RM_readItems b_RM_readItems 4 (some .boolean) rm_RM_readItems g n [.ref (g.2.2 p0)] h (zPi K) := by
  refine zMet_of (own := "AliasStreamsModel") hfl (by decide) rfl (Nat.le_of_ble_eq_true rfl) (fun Wf m H0 X E => ?_)
  unfold M_RM_readItems at hv
  show zW Wf m 4 g n H0 0 [(0, .ref (g.2.2 p0))] [] h
  exact s_RM_readItems_0 X E  op0 hv  hh
theorem d_RM_readAll_0 : decode b_RM_readAll 0 = .ok (.aload_n 0, 1) := by decide +kernel
theorem d_RM_readAll_1 : decode b_RM_readAll 1 = .ok (.iconst 0, 1) := by decide +kernel
theorem d_RM_readAll_2 : decode b_RM_readAll 2 = .ok (.putfield 118, 3) := by decide +kernel
theorem d_RM_readAll_5 : decode b_RM_readAll 5 = .ok (.aload_n 0, 1) := by decide +kernel
theorem d_RM_readAll_6 : decode b_RM_readAll 6 = .ok (.iconst 0, 1) := by decide +kernel
theorem d_RM_readAll_7 : decode b_RM_readAll 7 = .ok (.putfield 134, 3) := by decide +kernel
theorem d_RM_readAll_10 : decode b_RM_readAll 10 = .ok (.iconst 0, 1) := by decide +kernel
theorem d_RM_readAll_11 : decode b_RM_readAll 11 = .ok (.istore_n 1, 1) := by decide +kernel
theorem d_RM_readAll_12 : decode b_RM_readAll 12 = .ok (.iload_n 1, 1) := by decide +kernel
theorem d_RM_readAll_13 : decode b_RM_readAll 13 = .ok (.sipush 193, 3) := by decide +kernel
theorem d_RM_readAll_16 : decode b_RM_readAll 16 = .ok (.if_icmp .ge 16, 3) := by decide +kernel
theorem d_RM_readAll_19 : decode b_RM_readAll 19 = .ok (.aload_n 0, 1) := by decide +kernel
theorem d_RM_readAll_20 : decode b_RM_readAll 20 = .ok (.getfield 20, 3) := by decide +kernel
theorem d_RM_readAll_23 : decode b_RM_readAll 23 = .ok (.iload_n 1, 1) := by decide +kernel
theorem d_RM_readAll_24 : decode b_RM_readAll 24 = .ok (.iconst 0, 1) := by decide +kernel
theorem d_RM_readAll_25 : decode b_RM_readAll 25 = .ok (.iastore, 1) := by decide +kernel
theorem d_RM_readAll_26 : decode b_RM_readAll 26 = .ok (.iinc 1 1, 3) := by decide +kernel
theorem d_RM_readAll_29 : decode b_RM_readAll 29 = .ok (.goto (-17), 3) := by decide +kernel
theorem d_RM_readAll_32 : decode b_RM_readAll 32 = .ok (.aload_n 0, 1) := by decide +kernel
theorem d_RM_readAll_33 : decode b_RM_readAll 33 = .ok (.aload_n 0, 1) := by decide +kernel
theorem d_RM_readAll_34 : decode b_RM_readAll 34 = .ok (.bipush 65, 2) := by decide +kernel
theorem d_RM_readAll_36 : decode b_RM_readAll 36 = .ok (.invokevirtual 124, 3) := by decide +kernel
theorem d_RM_readAll_39 : decode b_RM_readAll 39 = .ok (.ifCond .ne 7, 3) := by decide +kernel
theorem d_RM_readAll_42 : decode b_RM_readAll 42 = .ok (.iconst 1, 1) := by decide +kernel
theorem d_RM_readAll_43 : decode b_RM_readAll 43 = .ok (.goto 4, 3) := by decide +kernel
theorem d_RM_readAll_46 : decode b_RM_readAll 46 = .ok (.iconst 0, 1) := by decide +kernel
theorem d_RM_readAll_47 : decode b_RM_readAll 47 = .ok (.invokevirtual 130, 3) := by decide +kernel
theorem d_RM_readAll_50 : decode b_RM_readAll 50 = .ok (.ifCond .ne 5, 3) := by decide +kernel
theorem d_RM_readAll_53 : decode b_RM_readAll 53 = .ok (.iconst 0, 1) := by decide +kernel
theorem d_RM_readAll_54 : decode b_RM_readAll 54 = .ok (.ireturn, 1) := by decide +kernel
theorem d_RM_readAll_55 : decode b_RM_readAll 55 = .ok (.aload_n 0, 1) := by decide +kernel
theorem d_RM_readAll_56 : decode b_RM_readAll 56 = .ok (.aload_n 0, 1) := by decide +kernel
theorem d_RM_readAll_57 : decode b_RM_readAll 57 = .ok (.bipush 48, 2) := by decide +kernel
theorem d_RM_readAll_59 : decode b_RM_readAll 59 = .ok (.invokevirtual 124, 3) := by decide +kernel
theorem d_RM_readAll_62 : decode b_RM_readAll 62 = .ok (.putfield 121, 3) := by decide +kernel
theorem d_RM_readAll_65 : decode b_RM_readAll 65 = .ok (.aload_n 0, 1) := by decide +kernel
theorem d_RM_readAll_66 : decode b_RM_readAll 66 = .ok (.aload_n 0, 1) := by decide +kernel
theorem d_RM_readAll_67 : decode b_RM_readAll 67 = .ok (.getfield 121, 3) := by decide +kernel
theorem d_RM_readAll_70 : decode b_RM_readAll 70 = .ok (.i2l, 1) := by decide +kernel
theorem d_RM_readAll_71 : decode b_RM_readAll 71 = .ok (.ldc2_w 137, 3) := by decide +kernel
theorem d_RM_readAll_74 : decode b_RM_readAll 74 = .ok (.ldc2_w 139, 3) := by decide +kernel
theorem d_RM_readAll_77 : decode b_RM_readAll 77 = .ok (.invokestatic 87, 3) := by decide +kernel
theorem d_RM_readAll_80 : decode b_RM_readAll 80 = .ok (.invokevirtual 130, 3) := by decide +kernel
theorem d_RM_readAll_83 : decode b_RM_readAll 83 = .ok (.ifCond .ne 5, 3) := by decide +kernel
theorem d_RM_readAll_86 : decode b_RM_readAll 86 = .ok (.iconst 0, 1) := by decide +kernel
theorem d_RM_readAll_87 : decode b_RM_readAll 87 = .ok (.ireturn, 1) := by decide +kernel
theorem d_RM_readAll_88 : decode b_RM_readAll 88 = .ok (.aload_n 0, 1) := by decide +kernel
theorem d_RM_readAll_89 : decode b_RM_readAll 89 = .ok (.getfield 134, 3) := by decide +kernel
theorem d_RM_readAll_92 : decode b_RM_readAll 92 = .ok (.ifCond .eq 28, 3) := by decide +kernel
theorem d_RM_readAll_95 : decode b_RM_readAll 95 = .ok (.aload_n 0, 1) := by decide +kernel
theorem d_RM_readAll_96 : decode b_RM_readAll 96 = .ok (.getfield 118, 3) := by decide +kernel
theorem d_RM_readAll_99 : decode b_RM_readAll 99 = .ok (.aload_n 0, 1) := by decide +kernel
theorem d_RM_readAll_100 : decode b_RM_readAll 100 = .ok (.getfield 111, 3) := by decide +kernel
theorem d_RM_readAll_103 : decode b_RM_readAll 103 = .ok (.if_icmp .ge 55, 3) := by decide +kernel
theorem d_RM_readAll_106 : decode b_RM_readAll 106 = .ok (.aload_n 0, 1) := by decide +kernel
theorem d_RM_readAll_107 : decode b_RM_readAll 107 = .ok (.getfield 7, 3) := by decide +kernel
theorem d_RM_readAll_110 : decode b_RM_readAll 110 = .ok (.aload_n 0, 1) := by decide +kernel
theorem d_RM_readAll_111 : decode b_RM_readAll 111 = .ok (.getfield 118, 3) := by decide +kernel
theorem d_RM_readAll_114 : decode b_RM_readAll 114 = .ok (.iaload, 1) := by decide +kernel
theorem d_RM_readAll_115 : decode b_RM_readAll 115 = .ok (.bipush 58, 2) := by decide +kernel
theorem d_RM_readAll_117 : decode b_RM_readAll 117 = .ok (.if_icmp .eq 41, 3) := by decide +kernel
theorem d_RM_readAll_120 : decode b_RM_readAll 120 = .ok (.aload_n 0, 1) := by decide +kernel
theorem d_RM_readAll_121 : decode b_RM_readAll 121 = .ok (.aload_n 0, 1) := by decide +kernel
theorem d_RM_readAll_122 : decode b_RM_readAll 122 = .ok (.bipush 109, 2) := by decide +kernel
theorem d_RM_readAll_124 : decode b_RM_readAll 124 = .ok (.invokevirtual 124, 3) := by decide +kernel
theorem d_RM_readAll_127 : decode b_RM_readAll 127 = .ok (.ifCond .ne 15, 3) := by decide +kernel
theorem d_RM_readAll_130 : decode b_RM_readAll 130 = .ok (.aload_n 0, 1) := by decide +kernel
theorem d_RM_readAll_131 : decode b_RM_readAll 131 = .ok (.getfield 134, 3) := by decide +kernel
theorem d_RM_readAll_134 : decode b_RM_readAll 134 = .ok (.iconst 3, 1) := by decide +kernel
theorem d_RM_readAll_135 : decode b_RM_readAll 135 = .ok (.if_icmp .ge 7, 3) := by decide +kernel
theorem d_RM_readAll_138 : decode b_RM_readAll 138 = .ok (.iconst 1, 1) := by decide +kernel
theorem d_RM_readAll_139 : decode b_RM_readAll 139 = .ok (.goto 4, 3) := by decide +kernel
theorem d_RM_readAll_142 : decode b_RM_readAll 142 = .ok (.iconst 0, 1) := by decide +kernel
theorem d_RM_readAll_143 : decode b_RM_readAll 143 = .ok (.invokevirtual 130, 3) := by decide +kernel
theorem d_RM_readAll_146 : decode b_RM_readAll 146 = .ok (.ifCond .eq 10, 3) := by decide +kernel
theorem d_RM_readAll_149 : decode b_RM_readAll 149 = .ok (.aload_n 0, 1) := by decide +kernel
theorem d_RM_readAll_150 : decode b_RM_readAll 150 = .ok (.invokevirtual 141, 3) := by decide +kernel
theorem d_RM_readAll_153 : decode b_RM_readAll 153 = .ok (.ifCond .ne (-65), 3) := by decide +kernel
theorem d_RM_readAll_156 : decode b_RM_readAll 156 = .ok (.iconst 0, 1) := by decide +kernel
theorem d_RM_readAll_157 : decode b_RM_readAll 157 = .ok (.ireturn, 1) := by decide +kernel
theorem d_RM_readAll_158 : decode b_RM_readAll 158 = .ok (.aload_n 0, 1) := by decide +kernel
theorem d_RM_readAll_159 : decode b_RM_readAll 159 = .ok (.getfield 118, 3) := by decide +kernel
theorem d_RM_readAll_162 : decode b_RM_readAll 162 = .ok (.aload_n 0, 1) := by decide +kernel
theorem d_RM_readAll_163 : decode b_RM_readAll 163 = .ok (.getfield 111, 3) := by decide +kernel
theorem d_RM_readAll_166 : decode b_RM_readAll 166 = .ok (.if_icmp .eq 31, 3) := by decide +kernel
theorem d_RM_readAll_169 : decode b_RM_readAll 169 = .ok (.aload_n 0, 1) := by decide +kernel
theorem d_RM_readAll_170 : decode b_RM_readAll 170 = .ok (.aload_n 0, 1) := by decide +kernel
theorem d_RM_readAll_171 : decode b_RM_readAll 171 = .ok (.bipush 58, 2) := by decide +kernel
theorem d_RM_readAll_173 : decode b_RM_readAll 173 = .ok (.invokevirtual 124, 3) := by decide +kernel
theorem d_RM_readAll_176 : decode b_RM_readAll 176 = .ok (.ifCond .ne 7, 3) := by decide +kernel
theorem d_RM_readAll_179 : decode b_RM_readAll 179 = .ok (.iconst 1, 1) := by decide +kernel
theorem d_RM_readAll_180 : decode b_RM_readAll 180 = .ok (.goto 4, 3) := by decide +kernel
theorem d_RM_readAll_183 : decode b_RM_readAll 183 = .ok (.iconst 0, 1) := by decide +kernel
theorem d_RM_readAll_184 : decode b_RM_readAll 184 = .ok (.invokevirtual 130, 3) := by decide +kernel
theorem d_RM_readAll_187 : decode b_RM_readAll 187 = .ok (.ifCond .eq 14, 3) := by decide +kernel
theorem d_RM_readAll_190 : decode b_RM_readAll 190 = .ok (.aload_n 0, 1) := by decide +kernel
theorem d_RM_readAll_191 : decode b_RM_readAll 191 = .ok (.invokevirtual 145, 3) := by decide +kernel
theorem d_RM_readAll_194 : decode b_RM_readAll 194 = .ok (.ifCond .eq 7, 3) := by decide +kernel
theorem d_RM_readAll_197 : decode b_RM_readAll 197 = .ok (.iconst 1, 1) := by decide +kernel
theorem d_RM_readAll_198 : decode b_RM_readAll 198 = .ok (.goto 4, 3) := by decide +kernel
theorem d_RM_readAll_201 : decode b_RM_readAll 201 = .ok (.iconst 0, 1) := by decide +kernel
theorem d_RM_readAll_202 : decode b_RM_readAll 202 = .ok (.ireturn, 1) := by decide +kernel
def rm_RM_readAll : Room := { frames := 2, cells := 0, slots := 0, locals := 50 }
theorem mf_RM_readAll : zMV y_RM_readAll b_RM_readAll 2 (some .boolean) 0 := ⟨q1144, qs67, q13, q1145, by decide +kernel⟩
def B_RM_readAll_143 (K : Int → zH → Prop) (L88 : zH → Prop) (p0 : Nat) (w0 : Nat) (u1 : Int) (h : zH) : Prop :=
  M_RM_accepts w0 u1 h (fun r_2 h_1 => (r_2 = 0 → (K 0 h_1)) ∧ (r_2 ≠ 0 → (M_RM_readCounts p0 h_1 (fun r_4 h_3 => (r_4 ≠ 0 → (L88 h_3)) ∧ (r_4 = 0 → (K 0 h_3))))))
set_option maxRecDepth 100000 in
theorem s_RM_readAll_143 {Wf : Heap → List Loc → JFrame → Prop} {m : MethodId} {g : zG} {n : Nat} {H0 : Heap} (X : zX Wf m rm_RM_readAll b_RM_readAll "AliasStreamsModel" 2 g n H0) {K : Int → zH → Prop} (E : zEx Wf m b_RM_readAll (some .boolean) 2 g n H0 (zPi K)) {L88 : zH → Prop} {p0 : Nat} (hL88 : ∀ q : zH, L88 q → zh (q) → zW Wf m 2 g n H0 88 [(0, .ref (g.2.2 p0))] [] (q)) (op0 : zO n p0 11) {w0 : Nat} {u1 : Int} (ow0 : zO n w0 11) (ru1 : zr u1) {h : zH} (hh : zh h) (hv : B_RM_readAll_143 K L88 p0 w0 u1 h) : zW Wf m 2 g n H0 143 [(0, .ref (g.2.2 p0))] [zi u1, .ref (g.2.2 w0)] h := by
  unfold B_RM_readAll_143 at hv
  refine z_callVi (pc := 143) (As := [zi u1]) (rest := []) X (fun l hl => c_RM_accepts hl ow0 ru1 hh hv) cf_RM ow0 rfl mf_RM_accepts q1150 ⟨⟨by decide, by decide⟩, rfl, rfl⟩ rfl d_RM_readAll_143 rfl (Nat.le_of_ble_eq_true rfl) (fun r_2 h_1 rr_2 zh_1 hv => ?_)
  refine z_if_eq (pc := 146) (tgt := 156) X rr_2 d_RM_readAll_146 (by decide) (fun hc => ?_) (fun hc => ?_)
  · replace hv := hv.1 hc
    refine z_iconst (pc := 156) X d_RM_readAll_156 ?_
    exact E.2.2.1 rfl _ _ _ _ (by decide) d_RM_readAll_157 ⟨_, rfl, (show zr 0 from by decide), zh_1, hv⟩
  · replace hv := hv.2 hc
    refine z_aload_n (pc := 149) (q := 0) X d_RM_readAll_149 rfl ?_
    refine z_callVi (pc := 150) (As := []) (rest := []) X (fun l hl => c_RM_readCounts hl op0 zh_1 hv) cf_RM op0 rfl mf_RM_readCounts q1156 ⟨⟨by decide, by decide⟩, rfl, rfl⟩ rfl d_RM_readAll_150 rfl (Nat.le_of_ble_eq_true rfl) (fun r_4 h_3 rr_4 zh_3 hv => ?_)
    refine z_if_ne (pc := 153) (tgt := 88) X rr_4 d_RM_readAll_153 (by decide) (fun hc => ?_) (fun hc => ?_)
    · replace hv := hv.1 hc
      exact hL88 _ hv  zh_3
    · replace hv := hv.2 hc
      refine z_iconst (pc := 156) X d_RM_readAll_156 ?_
      exact E.2.2.1 rfl _ _ _ _ (by decide) d_RM_readAll_157 ⟨_, rfl, (show zr 0 from by decide), zh_3, hv⟩
def B_RM_readAll_142 (K : Int → zH → Prop) (L88 : zH → Prop) (p0 : Nat) (w0 : Nat) (h : zH) : Prop :=
  B_RM_readAll_143 K L88 p0 w0 0 h
set_option maxRecDepth 100000 in
theorem s_RM_readAll_142 {Wf : Heap → List Loc → JFrame → Prop} {m : MethodId} {g : zG} {n : Nat} {H0 : Heap} (X : zX Wf m rm_RM_readAll b_RM_readAll "AliasStreamsModel" 2 g n H0) {K : Int → zH → Prop} (E : zEx Wf m b_RM_readAll (some .boolean) 2 g n H0 (zPi K)) {L88 : zH → Prop} {p0 : Nat} (hL88 : ∀ q : zH, L88 q → zh (q) → zW Wf m 2 g n H0 88 [(0, .ref (g.2.2 p0))] [] (q)) (op0 : zO n p0 11) {w0 : Nat} (ow0 : zO n w0 11) {h : zH} (hh : zh h) (hv : B_RM_readAll_142 K L88 p0 w0 h) : zW Wf m 2 g n H0 142 [(0, .ref (g.2.2 p0))] [.ref (g.2.2 w0)] h := by
  unfold B_RM_readAll_142 at hv
  refine z_iconst (pc := 142) X d_RM_readAll_142 ?_
  exact s_RM_readAll_143 X E hL88 op0 ow0 (show zr 0 from by decide) hh hv
def B_RM_readAll_120 (K : Int → zH → Prop) (L88 : zH → Prop) (p0 : Nat)  (h : zH) : Prop :=
  M_RM_next p0 109 h (fun r_2 h_1 => (r_2 ≠ 0 → (B_RM_readAll_142 K L88 p0 p0 h_1)) ∧ (r_2 = 0 → ((3 ≤ h_1 p0 7 → (B_RM_readAll_142 K L88 p0 p0 h_1)) ∧ (h_1 p0 7 < 3 → (B_RM_readAll_143 K L88 p0 p0 1 h_1)))))
set_option maxRecDepth 100000 in
theorem s_RM_readAll_120 {Wf : Heap → List Loc → JFrame → Prop} {m : MethodId} {g : zG} {n : Nat} {H0 : Heap} (X : zX Wf m rm_RM_readAll b_RM_readAll "AliasStreamsModel" 2 g n H0) {K : Int → zH → Prop} (E : zEx Wf m b_RM_readAll (some .boolean) 2 g n H0 (zPi K)) {L88 : zH → Prop} {p0 : Nat} (hL88 : ∀ q : zH, L88 q → zh (q) → zW Wf m 2 g n H0 88 [(0, .ref (g.2.2 p0))] [] (q)) (op0 : zO n p0 11)   {h : zH} (hh : zh h) (hv : B_RM_readAll_120 K L88 p0  h) : zW Wf m 2 g n H0 120 [(0, .ref (g.2.2 p0))] [] h := by
  unfold B_RM_readAll_120 at hv
  refine z_aload_n (pc := 120) (q := 0) X d_RM_readAll_120 rfl ?_
  refine z_aload_n (pc := 121) (q := 0) X d_RM_readAll_121 rfl ?_
  refine z_bipush (pc := 122) X d_RM_readAll_122 (by decide) ?_
  refine z_callVi (pc := 124) (As := [zi 109]) (rest := [.ref (g.2.2 p0)]) X (fun l hl => c_RM_next hl op0 (show zr 109 from by decide) hh hv) cf_RM op0 rfl mf_RM_next q1146 ⟨⟨by decide, by decide⟩, rfl, rfl⟩ rfl d_RM_readAll_124 rfl (Nat.le_of_ble_eq_true rfl) (fun r_2 h_1 rr_2 zh_1 hv => ?_)
  refine z_if_ne (pc := 127) (tgt := 142) X rr_2 d_RM_readAll_127 (by decide) (fun hc => ?_) (fun hc => ?_)
  · replace hv := hv.1 hc
    exact s_RM_readAll_142 X E hL88 op0 op0 zh_1 hv
  · replace hv := hv.2 hc
    refine z_aload_n (pc := 130) (q := 0) X d_RM_readAll_130 rfl ?_
    refine z_geti (pc := 131) (j := 7) X cf_RM op0 (by decide) q1028 rfl rfl d_RM_readAll_131 ?_
    refine z_iconst (pc := 134) X d_RM_readAll_134 ?_
    refine z_icmp_ge (pc := 135) (tgt := 142) X (zh_1.1 _ _ (zO.ne op0 (by decide))) (show zr 3 from by decide) d_RM_readAll_135 (by decide) (fun hc => ?_) (fun hc => ?_)
    · replace hv := hv.1 hc
      exact s_RM_readAll_142 X E hL88 op0 op0 zh_1 hv
    · replace hv := hv.2 hc
      refine z_iconst (pc := 138) X d_RM_readAll_138 ?_
      refine z_goto (pc := 139) (tgt := 143) X d_RM_readAll_139 (by decide) ?_
      exact s_RM_readAll_143 X E hL88 op0 op0 (show zr 1 from by decide) zh_1 hv
def B_RM_readAll_184 (K : Int → zH → Prop)  (p0 : Nat) (w0 : Nat) (u1 : Int) (h : zH) : Prop :=
  M_RM_accepts w0 u1 h (fun r_2 h_1 => (r_2 = 0 → (K 0 h_1)) ∧ (r_2 ≠ 0 → (M_RM_readItems p0 h_1 (fun r_4 h_3 => (r_4 = 0 → (K 0 h_3)) ∧ (r_4 ≠ 0 → (K 1 h_3))))))
set_option maxRecDepth 100000 in
theorem s_RM_readAll_184 {Wf : Heap → List Loc → JFrame → Prop} {m : MethodId} {g : zG} {n : Nat} {H0 : Heap} (X : zX Wf m rm_RM_readAll b_RM_readAll "AliasStreamsModel" 2 g n H0) {K : Int → zH → Prop} (E : zEx Wf m b_RM_readAll (some .boolean) 2 g n H0 (zPi K))  {p0 : Nat}  (op0 : zO n p0 11) {w0 : Nat} {u1 : Int} (ow0 : zO n w0 11) (ru1 : zr u1) {h : zH} (hh : zh h) (hv : B_RM_readAll_184 K  p0 w0 u1 h) : zW Wf m 2 g n H0 184 [(0, .ref (g.2.2 p0))] [zi u1, .ref (g.2.2 w0)] h := by
  unfold B_RM_readAll_184 at hv
  refine z_callVi (pc := 184) (As := [zi u1]) (rest := []) X (fun l hl => c_RM_accepts hl ow0 ru1 hh hv) cf_RM ow0 rfl mf_RM_accepts q1150 ⟨⟨by decide, by decide⟩, rfl, rfl⟩ rfl d_RM_readAll_184 rfl (Nat.le_of_ble_eq_true rfl) (fun r_2 h_1 rr_2 zh_1 hv => ?_)
  refine z_if_eq (pc := 187) (tgt := 201) X rr_2 d_RM_readAll_187 (by decide) (fun hc => ?_) (fun hc => ?_)
  · replace hv := hv.1 hc
    refine z_iconst (pc := 201) X d_RM_readAll_201 ?_
    exact E.2.2.1 rfl _ _ _ _ (by decide) d_RM_readAll_202 ⟨_, rfl, (show zr 0 from by decide), zh_1, hv⟩
  · replace hv := hv.2 hc
    refine z_aload_n (pc := 190) (q := 0) X d_RM_readAll_190 rfl ?_
    refine z_callVi (pc := 191) (As := []) (rest := []) X (fun l hl => c_RM_readItems hl op0 zh_1 hv) cf_RM op0 rfl mf_RM_readItems q1161 ⟨⟨by decide, by decide⟩, rfl, rfl⟩ rfl d_RM_readAll_191 rfl (Nat.le_of_ble_eq_true rfl) (fun r_4 h_3 rr_4 zh_3 hv => ?_)
    refine z_if_eq (pc := 194) (tgt := 201) X rr_4 d_RM_readAll_194 (by decide) (fun hc => ?_) (fun hc => ?_)
    · replace hv := hv.1 hc
      refine z_iconst (pc := 201) X d_RM_readAll_201 ?_
      exact E.2.2.1 rfl _ _ _ _ (by decide) d_RM_readAll_202 ⟨_, rfl, (show zr 0 from by decide), zh_3, hv⟩
    · replace hv := hv.2 hc
      refine z_iconst (pc := 197) X d_RM_readAll_197 ?_
      refine z_goto (pc := 198) (tgt := 202) X d_RM_readAll_198 (by decide) ?_
      exact E.2.2.1 rfl _ _ _ _ (by decide) d_RM_readAll_202 ⟨_, rfl, (show zr 1 from by decide), zh_3, hv⟩
def B_RM_readAll_158 (K : Int → zH → Prop)  (p0 : Nat)  (h : zH) : Prop :=
  (h p0 3 = h p0 2 → (K 1 h)) ∧ (h p0 3 ≠ h p0 2 → (M_RM_next p0 58 h (fun r_2 h_1 => (r_2 ≠ 0 → (B_RM_readAll_184 K  p0 p0 0 h_1)) ∧ (r_2 = 0 → (B_RM_readAll_184 K  p0 p0 1 h_1)))))
set_option maxRecDepth 100000 in
theorem s_RM_readAll_158 {Wf : Heap → List Loc → JFrame → Prop} {m : MethodId} {g : zG} {n : Nat} {H0 : Heap} (X : zX Wf m rm_RM_readAll b_RM_readAll "AliasStreamsModel" 2 g n H0) {K : Int → zH → Prop} (E : zEx Wf m b_RM_readAll (some .boolean) 2 g n H0 (zPi K))  {p0 : Nat}  (op0 : zO n p0 11)   {h : zH} (hh : zh h) (hv : B_RM_readAll_158 K  p0  h) : zW Wf m 2 g n H0 158 [(0, .ref (g.2.2 p0))] [] h := by
  unfold B_RM_readAll_158 at hv
  refine z_aload_n (pc := 158) (q := 0) X d_RM_readAll_158 rfl ?_
  refine z_geti (pc := 159) (j := 3) X cf_RM op0 (by decide) q1024 rfl rfl d_RM_readAll_159 ?_
  refine z_aload_n (pc := 162) (q := 0) X d_RM_readAll_162 rfl ?_
  refine z_geti (pc := 163) (j := 2) X cf_RM op0 (by decide) q1023 rfl rfl d_RM_readAll_163 ?_
  refine z_icmp_eq (pc := 166) (tgt := 197) X (hh.1 _ _ (zO.ne op0 (by decide))) (hh.1 _ _ (zO.ne op0 (by decide))) d_RM_readAll_166 (by decide) (fun hc => ?_) (fun hc => ?_)
  · replace hv := hv.1 hc
    refine z_iconst (pc := 197) X d_RM_readAll_197 ?_
    refine z_goto (pc := 198) (tgt := 202) X d_RM_readAll_198 (by decide) ?_
    exact E.2.2.1 rfl _ _ _ _ (by decide) d_RM_readAll_202 ⟨_, rfl, (show zr 1 from by decide), hh, hv⟩
  · replace hv := hv.2 hc
    refine z_aload_n (pc := 169) (q := 0) X d_RM_readAll_169 rfl ?_
    refine z_aload_n (pc := 170) (q := 0) X d_RM_readAll_170 rfl ?_
    refine z_bipush (pc := 171) X d_RM_readAll_171 (by decide) ?_
    refine z_callVi (pc := 173) (As := [zi 58]) (rest := [.ref (g.2.2 p0)]) X (fun l hl => c_RM_next hl op0 (show zr 58 from by decide) hh hv) cf_RM op0 rfl mf_RM_next q1146 ⟨⟨by decide, by decide⟩, rfl, rfl⟩ rfl d_RM_readAll_173 rfl (Nat.le_of_ble_eq_true rfl) (fun r_2 h_1 rr_2 zh_1 hv => ?_)
    refine z_if_ne (pc := 176) (tgt := 183) X rr_2 d_RM_readAll_176 (by decide) (fun hc => ?_) (fun hc => ?_)
    · replace hv := hv.1 hc
      refine z_iconst (pc := 183) X d_RM_readAll_183 ?_
      exact s_RM_readAll_184 X E  op0 op0 (show zr 0 from by decide) zh_1 hv
    · replace hv := hv.2 hc
      refine z_iconst (pc := 179) X d_RM_readAll_179 ?_
      refine z_goto (pc := 180) (tgt := 184) X d_RM_readAll_180 (by decide) ?_
      exact s_RM_readAll_184 X E  op0 op0 (show zr 1 from by decide) zh_1 hv
def F_RM_readAll_88 (K : Int → zH → Prop)  (L88 : zH → Prop) (p0 : Nat)  (h : zH) : Prop :=
  (h p0 7 = 0 → (B_RM_readAll_120 K L88 p0  h)) ∧ (h p0 7 ≠ 0 → ((h p0 2 ≤ h p0 3 → (B_RM_readAll_158 K  p0  h)) ∧ (h p0 3 < h p0 2 → ((0 ≤ h p0 3 ∧ h p0 3 < 100) ∧ ((h (p0 + 1) ((h p0 3).toNat) = 58 → (B_RM_readAll_158 K  p0  h)) ∧ (h (p0 + 1) ((h p0 3).toNat) ≠ 58 → (B_RM_readAll_120 K L88 p0  h)))))))
set_option maxRecDepth 100000 in
theorem s_RM_readAll_88 {Wf : Heap → List Loc → JFrame → Prop} {m : MethodId} {g : zG} {n : Nat} {H0 : Heap} (X : zX Wf m rm_RM_readAll b_RM_readAll "AliasStreamsModel" 2 g n H0) {K : Int → zH → Prop} (E : zEx Wf m b_RM_readAll (some .boolean) 2 g n H0 (zPi K))  {p0 : Nat}  (op0 : zO n p0 11) {q0 : zH} (hv0 : zLoop (fun L q => F_RM_readAll_88 K  L p0 q) q0) : zh (q0) → zW Wf m 2 g n H0 88 [(0, .ref (g.2.2 p0))] [] (q0) := by
  refine zLoop_use (G := fun q => zh (q) → zW Wf m 2 g n H0 88 [(0, .ref (g.2.2 p0))] [] (q)) ?_ hv0
  rintro L88 h hL88 hv  hh
  have hv : F_RM_readAll_88 K  L88 p0 h := hv
  unfold F_RM_readAll_88 at hv
  show zW Wf m 2 g n H0 88 [(0, .ref (g.2.2 p0))] [] h
  refine z_aload_n (pc := 88) (q := 0) X d_RM_readAll_88 rfl ?_
  refine z_geti (pc := 89) (j := 7) X cf_RM op0 (by decide) q1028 rfl rfl d_RM_readAll_89 ?_
  refine z_if_eq (pc := 92) (tgt := 120) X (hh.1 _ _ (zO.ne op0 (by decide))) d_RM_readAll_92 (by decide) (fun hc => ?_) (fun hc => ?_)
  · replace hv := hv.1 hc
    exact s_RM_readAll_120 X E hL88 op0  hh hv
  · replace hv := hv.2 hc
    refine z_aload_n (pc := 95) (q := 0) X d_RM_readAll_95 rfl ?_
    refine z_geti (pc := 96) (j := 3) X cf_RM op0 (by decide) q1024 rfl rfl d_RM_readAll_96 ?_
    refine z_aload_n (pc := 99) (q := 0) X d_RM_readAll_99 rfl ?_
    refine z_geti (pc := 100) (j := 2) X cf_RM op0 (by decide) q1023 rfl rfl d_RM_readAll_100 ?_
    refine z_icmp_ge (pc := 103) (tgt := 158) X (hh.1 _ _ (zO.ne op0 (by decide))) (hh.1 _ _ (zO.ne op0 (by decide))) d_RM_readAll_103 (by decide) (fun hc => ?_) (fun hc => ?_)
    · replace hv := hv.1 hc
      exact s_RM_readAll_158 X E  op0  hh hv
    · replace hv := hv.2 hc
      refine z_aload_n (pc := 106) (q := 0) X d_RM_readAll_106 rfl ?_
      refine z_getr (pc := 107) (j := 1) (dd := 1) X cf_RM op0 (by decide) q1022 rfl rfl d_RM_readAll_107 ?_
      refine z_aload_n (pc := 110) (q := 0) X d_RM_readAll_110 rfl ?_
      refine z_geti (pc := 111) (j := 3) X cf_RM op0 (by decide) q1024 rfl rfl d_RM_readAll_111 ?_
      obtain ⟨v_1, hv⟩ := hv
      refine z_ialdj (pc := 114) (j := (h p0 3).toNat) X (gf_RM_1 op0) (gl_RM_1 op0) (hh.1 _ _ (zO.ne op0 (by decide))) v_1 rfl d_RM_readAll_114 ?_
      refine z_bipush (pc := 115) X d_RM_readAll_115 (by decide) ?_
      refine z_icmp_eq (pc := 117) (tgt := 158) X (hh.1 _ _ (zO.ne (gf_RM_1 op0) (by decide))) (show zr 58 from by decide) d_RM_readAll_117 (by decide) (fun hc => ?_) (fun hc => ?_)
      · replace hv := hv.1 hc
        exact s_RM_readAll_158 X E  op0  hh hv
      · replace hv := hv.2 hc
        exact s_RM_readAll_120 X E hL88 op0  hh hv
def B_RM_readAll_47 (K : Int → zH → Prop)  (p0 : Nat) (w0 : Nat) (u1 : Int) (h : zH) : Prop :=
  M_RM_accepts w0 u1 h (fun r_2 h_1 => (r_2 ≠ 0 → (M_RM_next p0 48 h_1 (fun r_4 h_3 => (∀ h_5 : zH, h_5 = zs h_3 p0 6 r_4 → (M_RM_in (h_5 p0 6) 2 8 h_5 (fun r_7 h_6 => M_RM_accepts p0 r_7 h_6 (fun r_9 h_8 => (r_9 ≠ 0 → (zLoop (fun L q => F_RM_readAll_88 K  L p0 q) h_8)) ∧ (r_9 = 0 → (K 0 h_8))))))))) ∧ (r_2 = 0 → (K 0 h_1)))
set_option maxRecDepth 100000 in
theorem s_RM_readAll_47 {Wf : Heap → List Loc → JFrame → Prop} {m : MethodId} {g : zG} {n : Nat} {H0 : Heap} (X : zX Wf m rm_RM_readAll b_RM_readAll "AliasStreamsModel" 2 g n H0) {K : Int → zH → Prop} (E : zEx Wf m b_RM_readAll (some .boolean) 2 g n H0 (zPi K))  {p0 : Nat}  (op0 : zO n p0 11) {w0 : Nat} {u1 : Int} (ow0 : zO n w0 11) (ru1 : zr u1) {h : zH} (hh : zh h) (hv : B_RM_readAll_47 K  p0 w0 u1 h) : zW Wf m 2 g n H0 47 [(0, .ref (g.2.2 p0))] [zi u1, .ref (g.2.2 w0)] h := by
  unfold B_RM_readAll_47 at hv
  refine z_callVi (pc := 47) (As := [zi u1]) (rest := []) X (fun l hl => c_RM_accepts hl ow0 ru1 hh hv) cf_RM ow0 rfl mf_RM_accepts q1150 ⟨⟨by decide, by decide⟩, rfl, rfl⟩ rfl d_RM_readAll_47 rfl (Nat.le_of_ble_eq_true rfl) (fun r_2 h_1 rr_2 zh_1 hv => ?_)
  refine z_if_ne (pc := 50) (tgt := 55) X rr_2 d_RM_readAll_50 (by decide) (fun hc => ?_) (fun hc => ?_)
  · replace hv := hv.1 hc
    refine z_aload_n (pc := 55) (q := 0) X d_RM_readAll_55 rfl ?_
    refine z_aload_n (pc := 56) (q := 0) X d_RM_readAll_56 rfl ?_
    refine z_bipush (pc := 57) X d_RM_readAll_57 (by decide) ?_
    refine z_callVi (pc := 59) (As := [zi 48]) (rest := [.ref (g.2.2 p0)]) X (fun l hl => c_RM_next hl op0 (show zr 48 from by decide) zh_1 hv) cf_RM op0 rfl mf_RM_next q1146 ⟨⟨by decide, by decide⟩, rfl, rfl⟩ rfl d_RM_readAll_59 rfl (Nat.le_of_ble_eq_true rfl) (fun r_4 h_3 rr_4 zh_3 hv => ?_)
    refine z_put (pc := 62) (j := 6) X cf_RM op0 (by decide) q1027 rfl rfl rfl rfl d_RM_readAll_62 ?_
    refine z_toph (fun h_5 eh_5 => ?_)
    have zh_5 : zh h_5 := by rw [eh_5]; exact zh_set zh_3 (zO.ne op0 (by decide)) rr_4
    replace hv := hv h_5 eh_5
    refine z_aload_n (pc := 65) (q := 0) X d_RM_readAll_65 rfl ?_
    refine z_aload_n (pc := 66) (q := 0) X d_RM_readAll_66 rfl ?_
    refine z_geti (pc := 67) (j := 6) X cf_RM op0 (by decide) q1027 rfl rfl d_RM_readAll_67 ?_
    refine z_i2l (pc := 70) X (zh_5.1 _ _ (zO.ne op0 (by decide))) d_RM_readAll_70 ?_
    refine z_ldc2 (pc := 71) (x := 2) X d_RM_readAll_71 q1154 (by decide) ?_
    refine z_ldc2 (pc := 74) (x := 8) X d_RM_readAll_74 q1155 (by decide) ?_
    refine z_callSi (pc := 77) (As := [zj (h_5 p0 6), zj 2, zj 8]) (rest := [.ref (g.2.2 p0)]) X (fun l hl => c_RM_in hl (zr_l (zh_5.1 _ _ (zO.ne op0 (by decide)))) (show zrl 2 from by decide) (show zrl 8 from by decide) zh_5 hv) mf_RM_in q1127 ⟨⟨by decide, by decide⟩, rfl, rfl⟩ rfl d_RM_readAll_77 rfl (Nat.le_of_ble_eq_true rfl) (fun r_7 h_6 rr_7 zh_6 hv => ?_)
    refine z_callVi (pc := 80) (As := [zi r_7]) (rest := []) X (fun l hl => c_RM_accepts hl op0 rr_7 zh_6 hv) cf_RM op0 rfl mf_RM_accepts q1150 ⟨⟨by decide, by decide⟩, rfl, rfl⟩ rfl d_RM_readAll_80 rfl (Nat.le_of_ble_eq_true rfl) (fun r_9 h_8 rr_9 zh_8 hv => ?_)
    refine z_if_ne (pc := 83) (tgt := 88) X rr_9 d_RM_readAll_83 (by decide) (fun hc => ?_) (fun hc => ?_)
    · replace hv := hv.1 hc
      exact s_RM_readAll_88 X E  op0 hv  zh_8
    · replace hv := hv.2 hc
      refine z_iconst (pc := 86) X d_RM_readAll_86 ?_
      exact E.2.2.1 rfl _ _ _ _ (by decide) d_RM_readAll_87 ⟨_, rfl, (show zr 0 from by decide), zh_8, hv⟩
  · replace hv := hv.2 hc
    refine z_iconst (pc := 53) X d_RM_readAll_53 ?_
    exact E.2.2.1 rfl _ _ _ _ (by decide) d_RM_readAll_54 ⟨_, rfl, (show zr 0 from by decide), zh_1, hv⟩
def F_RM_readAll_12 (K : Int → zH → Prop)  (L12 : Int × zH → Prop) (p0 : Nat) (x1 : Int) (h : zH) : Prop :=
  (193 ≤ x1 → (M_RM_next p0 65 h (fun r_2 h_1 => (r_2 ≠ 0 → (B_RM_readAll_47 K  p0 p0 0 h_1)) ∧ (r_2 = 0 → (B_RM_readAll_47 K  p0 p0 1 h_1))))) ∧ (x1 < 193 → ((0 ≤ x1 ∧ x1 < 193) ∧ (∀ h_4 : zH, h_4 = zs h (p0 + 2) x1.toNat 0 → (zr (x1 + 1) ∧ (L12 (x1 + 1, h_4))))))
set_option maxRecDepth 100000 in
theorem s_RM_readAll_12 {Wf : Heap → List Loc → JFrame → Prop} {m : MethodId} {g : zG} {n : Nat} {H0 : Heap} (X : zX Wf m rm_RM_readAll b_RM_readAll "AliasStreamsModel" 2 g n H0) {K : Int → zH → Prop} (E : zEx Wf m b_RM_readAll (some .boolean) 2 g n H0 (zPi K))  {p0 : Nat}  (op0 : zO n p0 11) {q0 : Int × zH} (hv0 : zLoop (fun L q => F_RM_readAll_12 K  L p0 q.1 q.2) q0) : zr q0.1 → zh (q0.2) → zW Wf m 2 g n H0 12 [(0, .ref (g.2.2 p0)), (1, zi q0.1)] [] (q0.2) := by
  refine zLoop_use (G := fun q => zr q.1 → zh (q.2) → zW Wf m 2 g n H0 12 [(0, .ref (g.2.2 p0)), (1, zi q.1)] [] (q.2)) ?_ hv0
  rintro L12 ⟨x1, h⟩ hL12 hv rx1 hh
  have hv : F_RM_readAll_12 K  L12 p0 x1 h := hv
  unfold F_RM_readAll_12 at hv
  show zW Wf m 2 g n H0 12 [(0, .ref (g.2.2 p0)), (1, zi x1)] [] h
  refine z_iload_n (pc := 12) (q := 1) X d_RM_readAll_12 rfl ?_
  refine z_sipush (pc := 13) X d_RM_readAll_13 (by decide) ?_
  refine z_icmp_ge (pc := 16) (tgt := 32) X rx1 (show zr 193 from by decide) d_RM_readAll_16 (by decide) (fun hc => ?_) (fun hc => ?_)
  · replace hv := hv.1 hc
    refine z_aload_n (pc := 32) (q := 0) X d_RM_readAll_32 rfl ?_
    refine z_aload_n (pc := 33) (q := 0) X d_RM_readAll_33 rfl ?_
    refine z_bipush (pc := 34) X d_RM_readAll_34 (by decide) ?_
    refine z_callVi (pc := 36) (As := [zi 65]) (rest := [.ref (g.2.2 p0)]) X (fun l hl => c_RM_next hl op0 (show zr 65 from by decide) hh hv) cf_RM op0 rfl mf_RM_next q1146 ⟨⟨by decide, by decide⟩, rfl, rfl⟩ rfl d_RM_readAll_36 rfl (Nat.le_of_ble_eq_true rfl) (fun r_2 h_1 rr_2 zh_1 hv => ?_)
    refine z_if_ne (pc := 39) (tgt := 46) X rr_2 d_RM_readAll_39 (by decide) (fun hc => ?_) (fun hc => ?_)
    · replace hv := hv.1 hc
      refine z_iconst (pc := 46) X d_RM_readAll_46 ?_
      refine z_perm [0] rfl ?_
      exact s_RM_readAll_47 X E  op0 op0 (show zr 0 from by decide) zh_1 hv
    · replace hv := hv.2 hc
      refine z_iconst (pc := 42) X d_RM_readAll_42 ?_
      refine z_goto (pc := 43) (tgt := 47) X d_RM_readAll_43 (by decide) ?_
      refine z_perm [0] rfl ?_
      exact s_RM_readAll_47 X E  op0 op0 (show zr 1 from by decide) zh_1 hv
  · replace hv := hv.2 hc
    refine z_aload_n (pc := 19) (q := 0) X d_RM_readAll_19 rfl ?_
    refine z_getr (pc := 20) (j := 8) (dd := 2) X cf_RM op0 (by decide) q1029 rfl rfl d_RM_readAll_20 ?_
    refine z_iload_n (pc := 23) (q := 1) X d_RM_readAll_23 rfl ?_
    refine z_iconst (pc := 24) X d_RM_readAll_24 ?_
    obtain ⟨v_3, hv⟩ := hv
    refine z_iastj (pc := 25) (j := x1.toNat) X (gf_RM_8 op0) (gl_RM_8 op0) rx1 v_3 rfl d_RM_readAll_25 ?_
    refine z_toph (fun h_4 eh_4 => ?_)
    have zh_4 : zh h_4 := by rw [eh_4]; exact zh_set hh (zO.ne (gf_RM_8 op0) (by decide)) (show zr 0 from by decide)
    replace hv := hv h_4 eh_4
    obtain ⟨v_5, hv⟩ := hv
    refine z_iinc (pc := 26) (q := 1) (lv' := [(1, zi (x1 + 1)), (0, .ref (g.2.2 p0))]) X d_RM_readAll_26 rfl (by decide) rfl ?_
    refine z_goto (pc := 29) (tgt := 12) X d_RM_readAll_29 (by decide) ?_
    refine z_perm [1, 0] rfl ?_
    exact hL12 _ hv v_5 zh_4
def M_RM_readAll (p0 : Nat) (h : zH) (K : Int → zH → Prop) : Prop :=
  (∀ h_1 : zH, h_1 = zs h p0 3 0 → ((∀ h_2 : zH, h_2 = zs h_1 p0 7 0 → (zLoop (fun L q => F_RM_readAll_12 K  L p0 q.1 q.2) (0, h_2)))))
set_option maxRecDepth 100000 in
theorem c_RM_readAll {l : Launch} (hfl : l.flags = flags0) {g : zG} {n : Nat} {p0 : Nat} (op0 : zO n p0 11) {h : zH} (hh : zh h) {K : Int → zH → Prop} (hv : M_RM_readAll p0 h K) : zMet l y_RM_readAll b_RM_readAll 2 (some .boolean) rm_RM_readAll g n [.ref (g.2.2 p0)] h (zPi K) := by
  refine zMet_of (own := "AliasStreamsModel") hfl (by decide) rfl (Nat.le_of_ble_eq_true rfl) (fun Wf m H0 X E => ?_)
  unfold M_RM_readAll at hv
  show zW Wf m 2 g n H0 0 [(0, .ref (g.2.2 p0))] [] h
  refine z_aload_n (pc := 0) (q := 0) X d_RM_readAll_0 rfl ?_
  refine z_iconst (pc := 1) X d_RM_readAll_1 ?_
  refine z_put (pc := 2) (j := 3) X cf_RM op0 (by decide) q1024 rfl rfl rfl rfl d_RM_readAll_2 ?_
  refine z_toph (fun h_1 eh_1 => ?_)
  have zh_1 : zh h_1 := by rw [eh_1]; exact zh_set hh (zO.ne op0 (by decide)) (show zr 0 from by decide)
  replace hv := hv h_1 eh_1
  refine z_aload_n (pc := 5) (q := 0) X d_RM_readAll_5 rfl ?_
  refine z_iconst (pc := 6) X d_RM_readAll_6 ?_
  refine z_put (pc := 7) (j := 7) X cf_RM op0 (by decide) q1028 rfl rfl rfl rfl d_RM_readAll_7 ?_
  refine z_toph (fun h_2 eh_2 => ?_)
  have zh_2 : zh h_2 := by rw [eh_2]; exact zh_set zh_1 (zO.ne op0 (by decide)) (show zr 0 from by decide)
  replace hv := hv h_2 eh_2
  refine z_iconst (pc := 10) X d_RM_readAll_10 ?_
  refine z_istore_n (pc := 11) (lv' := [(1, zi 0), (0, .ref (g.2.2 p0))]) X d_RM_readAll_11 (by decide) rfl ?_
  refine z_perm [1, 0] rfl ?_
  exact s_RM_readAll_12 X E  op0 hv (show zr 0 from by decide) zh_2
theorem d_RM_errorPosition_0 : decode b_RM_errorPosition 0 = .ok (.aload_n 0, 1) := by decide +kernel
theorem d_RM_errorPosition_1 : decode b_RM_errorPosition 1 = .ok (.iconst 0, 1) := by decide +kernel
theorem d_RM_errorPosition_2 : decode b_RM_errorPosition 2 = .ok (.putfield 84, 3) := by decide +kernel
theorem d_RM_errorPosition_5 : decode b_RM_errorPosition 5 = .ok (.aload_n 0, 1) := by decide +kernel
theorem d_RM_errorPosition_6 : decode b_RM_errorPosition 6 = .ok (.invokevirtual 148, 3) := by decide +kernel
theorem d_RM_errorPosition_9 : decode b_RM_errorPosition 9 = .ok (.ifCond .eq 8, 3) := by decide +kernel
theorem d_RM_errorPosition_12 : decode b_RM_errorPosition 12 = .ok (.bipush (-9), 2) := by decide +kernel
theorem d_RM_errorPosition_14 : decode b_RM_errorPosition 14 = .ok (.goto 7, 3) := by decide +kernel
theorem d_RM_errorPosition_17 : decode b_RM_errorPosition 17 = .ok (.aload_n 0, 1) := by decide +kernel
theorem d_RM_errorPosition_18 : decode b_RM_errorPosition 18 = .ok (.getfield 118, 3) := by decide +kernel
theorem d_RM_errorPosition_21 : decode b_RM_errorPosition 21 = .ok (.ireturn, 1) := by decide +kernel
def rm_RM_errorPosition : Room := { frames := 3, cells := 0, slots := 0, locals := 71 }
theorem mf_RM_errorPosition : zMV y_RM_errorPosition b_RM_errorPosition 1 (some .int) 0 := ⟨q1139, q1140, q13, q1141, by decide +kernel⟩
def M_RM_errorPosition (p0 : Nat) (h : zH) (K : Int → zH → Prop) : Prop :=
  (∀ h_1 : zH, h_1 = zs h p0 0 0 → (M_RM_readAll p0 h_1 (fun r_3 h_2 => (r_3 = 0 → (K (h_2 p0 3) h_2)) ∧ (r_3 ≠ 0 → (K (-9) h_2)))))
set_option maxRecDepth 100000 in
theorem c_RM_errorPosition {l : Launch} (hfl : l.flags = flags0) {g : zG} {n : Nat} {p0 : Nat} (op0 : zO n p0 11) {h : zH} (hh : zh h) {K : Int → zH → Prop} (hv : M_RM_errorPosition p0 h K) : zMet l y_RM_errorPosition b_RM_errorPosition 1 (some .int) rm_RM_errorPosition g n [.ref (g.2.2 p0)] h (zPi K) := by
  refine zMet_of (own := "AliasStreamsModel") hfl (by decide) rfl (Nat.le_of_ble_eq_true rfl) (fun Wf m H0 X E => ?_)
  unfold M_RM_errorPosition at hv
  show zW Wf m 1 g n H0 0 [(0, .ref (g.2.2 p0))] [] h
  refine z_aload_n (pc := 0) (q := 0) X d_RM_errorPosition_0 rfl ?_
  refine z_iconst (pc := 1) X d_RM_errorPosition_1 ?_
  refine z_put (pc := 2) (j := 0) X cf_RM op0 (by decide) q1021 rfl rfl rfl rfl d_RM_errorPosition_2 ?_
  refine z_toph (fun h_1 eh_1 => ?_)
  have zh_1 : zh h_1 := by rw [eh_1]; exact zh_set hh (zO.ne op0 (by decide)) (show zr 0 from by decide)
  replace hv := hv h_1 eh_1
  refine z_aload_n (pc := 5) (q := 0) X d_RM_errorPosition_5 rfl ?_
  refine z_callVi (pc := 6) (As := []) (rest := []) X (fun l hl => c_RM_readAll hl op0 zh_1 hv) cf_RM op0 rfl mf_RM_readAll q1142 ⟨⟨by decide, by decide⟩, rfl, rfl⟩ rfl d_RM_errorPosition_6 rfl (Nat.le_of_ble_eq_true rfl) (fun r_3 h_2 rr_3 zh_2 hv => ?_)
  refine z_if_eq (pc := 9) (tgt := 17) X rr_3 d_RM_errorPosition_9 (by decide) (fun hc => ?_) (fun hc => ?_)
  · replace hv := hv.1 hc
    refine z_aload_n (pc := 17) (q := 0) X d_RM_errorPosition_17 rfl ?_
    refine z_geti (pc := 18) (j := 3) X cf_RM op0 (by decide) q1024 rfl rfl d_RM_errorPosition_18 ?_
    exact E.2.1 rfl _ _ _ _ d_RM_errorPosition_21 ⟨_, rfl, (zh_2.1 _ _ (zO.ne op0 (by decide))), zh_2, hv⟩
  · replace hv := hv.2 hc
    refine z_bipush (pc := 12) X d_RM_errorPosition_12 (by decide) ?_
    refine z_goto (pc := 14) (tgt := 21) X d_RM_errorPosition_14 (by decide) ?_
    exact E.2.1 rfl _ _ _ _ d_RM_errorPosition_21 ⟨_, rfl, (show zr (-9) from by decide), zh_2, hv⟩
theorem d_RM_load_0 : decode b_RM_load 0 = .ok (.aload_n 0, 1) := by decide +kernel
theorem d_RM_load_1 : decode b_RM_load 1 = .ok (.aload_n 0, 1) := by decide +kernel
theorem d_RM_load_2 : decode b_RM_load 2 = .ok (.invokevirtual 148, 3) := by decide +kernel
theorem d_RM_load_5 : decode b_RM_load 5 = .ok (.ifCond .eq 7, 3) := by decide +kernel
theorem d_RM_load_8 : decode b_RM_load 8 = .ok (.iconst 0, 1) := by decide +kernel
theorem d_RM_load_9 : decode b_RM_load 9 = .ok (.goto 4, 3) := by decide +kernel
theorem d_RM_load_12 : decode b_RM_load 12 = .ok (.iconst 1, 1) := by decide +kernel
theorem d_RM_load_13 : decode b_RM_load 13 = .ok (.invokevirtual 114, 3) := by decide +kernel
theorem d_RM_load_16 : decode b_RM_load 16 = .ok (.ifCond .eq 5, 3) := by decide +kernel
theorem d_RM_load_19 : decode b_RM_load 19 = .ok (.iconst 0, 1) := by decide +kernel
theorem d_RM_load_20 : decode b_RM_load 20 = .ok (.ireturn, 1) := by decide +kernel
theorem d_RM_load_21 : decode b_RM_load 21 = .ok (.aload_n 0, 1) := by decide +kernel
theorem d_RM_load_22 : decode b_RM_load 22 = .ok (.aload_n 0, 1) := by decide +kernel
theorem d_RM_load_23 : decode b_RM_load 23 = .ok (.getfield 121, 3) := by decide +kernel
theorem d_RM_load_26 : decode b_RM_load 26 = .ok (.putfield 13, 3) := by decide +kernel
theorem d_RM_load_29 : decode b_RM_load 29 = .ok (.aload_n 0, 1) := by decide +kernel
theorem d_RM_load_30 : decode b_RM_load 30 = .ok (.aload_n 0, 1) := by decide +kernel
theorem d_RM_load_31 : decode b_RM_load 31 = .ok (.getfield 134, 3) := by decide +kernel
theorem d_RM_load_34 : decode b_RM_load 34 = .ok (.putfield 17, 3) := by decide +kernel
theorem d_RM_load_37 : decode b_RM_load 37 = .ok (.aload_n 0, 1) := by decide +kernel
theorem d_RM_load_38 : decode b_RM_load 38 = .ok (.getfield 20, 3) := by decide +kernel
theorem d_RM_load_41 : decode b_RM_load 41 = .ok (.iconst 0, 1) := by decide +kernel
theorem d_RM_load_42 : decode b_RM_load 42 = .ok (.aload_n 0, 1) := by decide +kernel
theorem d_RM_load_43 : decode b_RM_load 43 = .ok (.getfield 23, 3) := by decide +kernel
theorem d_RM_load_46 : decode b_RM_load 46 = .ok (.iconst 0, 1) := by decide +kernel
theorem d_RM_load_47 : decode b_RM_load 47 = .ok (.invokestatic 151, 3) := by decide +kernel
theorem d_RM_load_50 : decode b_RM_load 50 = .ok (.aload_n 0, 1) := by decide +kernel
theorem d_RM_load_51 : decode b_RM_load 51 = .ok (.getfield 23, 3) := by decide +kernel
theorem d_RM_load_54 : decode b_RM_load 54 = .ok (.sipush 191, 3) := by decide +kernel
theorem d_RM_load_57 : decode b_RM_load 57 = .ok (.sipush 512, 3) := by decide +kernel
theorem d_RM_load_60 : decode b_RM_load 60 = .ok (.iastore, 1) := by decide +kernel
theorem d_RM_load_61 : decode b_RM_load 61 = .ok (.aload_n 0, 1) := by decide +kernel
theorem d_RM_load_62 : decode b_RM_load 62 = .ok (.getfield 23, 3) := by decide +kernel
theorem d_RM_load_65 : decode b_RM_load 65 = .ok (.sipush 192, 3) := by decide +kernel
theorem d_RM_load_68 : decode b_RM_load 68 = .ok (.sipush 512, 3) := by decide +kernel
theorem d_RM_load_71 : decode b_RM_load 71 = .ok (.iastore, 1) := by decide +kernel
theorem d_RM_load_72 : decode b_RM_load 72 = .ok (.aload_n 0, 1) := by decide +kernel
theorem d_RM_load_73 : decode b_RM_load 73 = .ok (.iconst 0, 1) := by decide +kernel
theorem d_RM_load_74 : decode b_RM_load 74 = .ok (.putfield 155, 3) := by decide +kernel
theorem d_RM_load_77 : decode b_RM_load 77 = .ok (.aload_n 0, 1) := by decide +kernel
theorem d_RM_load_78 : decode b_RM_load 78 = .ok (.getfield 38, 3) := by decide +kernel
theorem d_RM_load_81 : decode b_RM_load 81 = .ok (.iconst 0, 1) := by decide +kernel
theorem d_RM_load_82 : decode b_RM_load 82 = .ok (.iconst 0, 1) := by decide +kernel
theorem d_RM_load_83 : decode b_RM_load 83 = .ok (.bastore, 1) := by decide +kernel
theorem d_RM_load_84 : decode b_RM_load 84 = .ok (.aload_n 0, 1) := by decide +kernel
theorem d_RM_load_85 : decode b_RM_load 85 = .ok (.getfield 38, 3) := by decide +kernel
theorem d_RM_load_88 : decode b_RM_load 88 = .ok (.iconst 1, 1) := by decide +kernel
theorem d_RM_load_89 : decode b_RM_load 89 = .ok (.iconst 0, 1) := by decide +kernel
theorem d_RM_load_90 : decode b_RM_load 90 = .ok (.bastore, 1) := by decide +kernel
theorem d_RM_load_91 : decode b_RM_load 91 = .ok (.aload_n 0, 1) := by decide +kernel
theorem d_RM_load_92 : decode b_RM_load 92 = .ok (.getfield 23, 3) := by decide +kernel
theorem d_RM_load_95 : decode b_RM_load 95 = .ok (.sipush 188, 3) := by decide +kernel
theorem d_RM_load_98 : decode b_RM_load 98 = .ok (.iaload, 1) := by decide +kernel
theorem d_RM_load_99 : decode b_RM_load 99 = .ok (.ireturn, 1) := by decide +kernel
def rm_RM_load : Room := { frames := 3, cells := 0, slots := 0, locals := 71 }
theorem mf_RM_load : zMV y_RM_load b_RM_load 1 (some .int) 0 := ⟨q1166, q1167, q13, q1168, by decide +kernel⟩
def B_RM_load_13 (K : Int → zH → Prop)  (p0 : Nat) (w0 : Nat) (u1 : Int) (h : zH) : Prop :=
  M_RM_refused w0 u1 h (fun r_2 h_1 => (r_2 = 0 → ((∀ h_3 : zH, h_3 = zs h_1 p0 4 (h_1 p0 6) → ((∀ h_4 : zH, h_4 = zs h_3 p0 5 (h_3 p0 7) → (M_RM_copyPage (p0 + 2) 0 (p0 + 3) 0 h_4 (fun h_5 => (∀ h_7 : zH, h_7 = zs h_5 (p0 + 3) 191 512 → ((∀ h_8 : zH, h_8 = zs h_7 (p0 + 3) 192 512 → ((∀ h_9 : zH, h_9 = zs h_8 p0 13 0 → ((∀ h_10 : zH, h_10 = zs h_9 (p0 + 8) 0 0 → ((∀ h_11 : zH, h_11 = zs h_10 (p0 + 8) 1 0 → (K (h_11 (p0 + 3) 188) h_11))))))))))))))))) ∧ (r_2 ≠ 0 → (K 0 h_1)))
set_option maxRecDepth 100000 in
theorem s_RM_load_13 {Wf : Heap → List Loc → JFrame → Prop} {m : MethodId} {g : zG} {n : Nat} {H0 : Heap} (X : zX Wf m rm_RM_load b_RM_load "AliasStreamsModel" 1 g n H0) {K : Int → zH → Prop} (E : zEx Wf m b_RM_load (some .int) 1 g n H0 (zPi K))  {p0 : Nat}  (op0 : zO n p0 11) {w0 : Nat} {u1 : Int} (ow0 : zO n w0 11) (ru1 : zr u1) {h : zH} (hh : zh h) (hv : B_RM_load_13 K  p0 w0 u1 h) : zW Wf m 1 g n H0 13 [(0, .ref (g.2.2 p0))] [zi u1, .ref (g.2.2 w0)] h := by
  unfold B_RM_load_13 at hv
  refine z_callVi (pc := 13) (As := [zi u1]) (rest := []) X (fun l hl => c_RM_refused hl ow0 ru1 hh hv) cf_RM ow0 rfl mf_RM_refused q1130 ⟨⟨by decide, by decide⟩, rfl, rfl⟩ rfl d_RM_load_13 rfl (Nat.le_of_ble_eq_true rfl) (fun r_2 h_1 rr_2 zh_1 hv => ?_)
  refine z_if_eq (pc := 16) (tgt := 21) X rr_2 d_RM_load_16 (by decide) (fun hc => ?_) (fun hc => ?_)
  · replace hv := hv.1 hc
    refine z_aload_n (pc := 21) (q := 0) X d_RM_load_21 rfl ?_
    refine z_aload_n (pc := 22) (q := 0) X d_RM_load_22 rfl ?_
    refine z_geti (pc := 23) (j := 6) X cf_RM op0 (by decide) q1027 rfl rfl d_RM_load_23 ?_
    refine z_put (pc := 26) (j := 4) X cf_RM op0 (by decide) q1025 rfl rfl rfl rfl d_RM_load_26 ?_
    refine z_toph (fun h_3 eh_3 => ?_)
    have zh_3 : zh h_3 := by rw [eh_3]; exact zh_set zh_1 (zO.ne op0 (by decide)) (zh_1.1 _ _ (zO.ne op0 (by decide)))
    replace hv := hv h_3 eh_3
    refine z_aload_n (pc := 29) (q := 0) X d_RM_load_29 rfl ?_
    refine z_aload_n (pc := 30) (q := 0) X d_RM_load_30 rfl ?_
    refine z_geti (pc := 31) (j := 7) X cf_RM op0 (by decide) q1028 rfl rfl d_RM_load_31 ?_
    refine z_put (pc := 34) (j := 5) X cf_RM op0 (by decide) q1026 rfl rfl rfl rfl d_RM_load_34 ?_
    refine z_toph (fun h_4 eh_4 => ?_)
    have zh_4 : zh h_4 := by rw [eh_4]; exact zh_set zh_3 (zO.ne op0 (by decide)) (zh_3.1 _ _ (zO.ne op0 (by decide)))
    replace hv := hv h_4 eh_4
    refine z_aload_n (pc := 37) (q := 0) X d_RM_load_37 rfl ?_
    refine z_getr (pc := 38) (j := 8) (dd := 2) X cf_RM op0 (by decide) q1029 rfl rfl d_RM_load_38 ?_
    refine z_iconst (pc := 41) X d_RM_load_41 ?_
    refine z_aload_n (pc := 42) (q := 0) X d_RM_load_42 rfl ?_
    refine z_getr (pc := 43) (j := 9) (dd := 3) X cf_RM op0 (by decide) q1030 rfl rfl d_RM_load_43 ?_
    refine z_iconst (pc := 46) X d_RM_load_46 ?_
    refine z_callSv (pc := 47) (As := [.ref (g.2.2 (p0 + 2)), zi 0, .ref (g.2.2 (p0 + 3)), zi 0]) (rest := []) X (fun l hl => c_RM_copyPage hl (gf_RM_8 op0) (show zr 0 from by decide) (gf_RM_9 op0) (show zr 0 from by decide) zh_4 hv) mf_RM_copyPage q1169 ⟨⟨by decide, by decide⟩, rfl, rfl⟩ rfl d_RM_load_47 rfl (Nat.le_of_ble_eq_true rfl) (fun h_5 zh_5 hv => ?_)
    refine z_aload_n (pc := 50) (q := 0) X d_RM_load_50 rfl ?_
    refine z_getr (pc := 51) (j := 9) (dd := 3) X cf_RM op0 (by decide) q1030 rfl rfl d_RM_load_51 ?_
    refine z_sipush (pc := 54) X d_RM_load_54 (by decide) ?_
    refine z_sipush (pc := 57) X d_RM_load_57 (by decide) ?_
    refine z_iastj (pc := 60) (j := 191) X (gf_RM_9 op0) (gl_RM_9 op0) (show zr 191 from by decide) ⟨by decide, by decide⟩ rfl d_RM_load_60 ?_
    refine z_toph (fun h_7 eh_7 => ?_)
    have zh_7 : zh h_7 := by rw [eh_7]; exact zh_set zh_5 (zO.ne (gf_RM_9 op0) (by decide)) (show zr 512 from by decide)
    replace hv := hv h_7 eh_7
    refine z_aload_n (pc := 61) (q := 0) X d_RM_load_61 rfl ?_
    refine z_getr (pc := 62) (j := 9) (dd := 3) X cf_RM op0 (by decide) q1030 rfl rfl d_RM_load_62 ?_
    refine z_sipush (pc := 65) X d_RM_load_65 (by decide) ?_
    refine z_sipush (pc := 68) X d_RM_load_68 (by decide) ?_
    refine z_iastj (pc := 71) (j := 192) X (gf_RM_9 op0) (gl_RM_9 op0) (show zr 192 from by decide) ⟨by decide, by decide⟩ rfl d_RM_load_71 ?_
    refine z_toph (fun h_8 eh_8 => ?_)
    have zh_8 : zh h_8 := by rw [eh_8]; exact zh_set zh_7 (zO.ne (gf_RM_9 op0) (by decide)) (show zr 512 from by decide)
    replace hv := hv h_8 eh_8
    refine z_aload_n (pc := 72) (q := 0) X d_RM_load_72 rfl ?_
    refine z_iconst (pc := 73) X d_RM_load_73 ?_
    refine z_put (pc := 74) (j := 13) X cf_RM op0 (by decide) q1034 rfl rfl rfl rfl d_RM_load_74 ?_
    refine z_toph (fun h_9 eh_9 => ?_)
    have zh_9 : zh h_9 := by rw [eh_9]; exact zh_set zh_8 (zO.ne op0 (by decide)) (show zr 0 from by decide)
    replace hv := hv h_9 eh_9
    refine z_aload_n (pc := 77) (q := 0) X d_RM_load_77 rfl ?_
    refine z_getr (pc := 78) (j := 15) (dd := 8) X cf_RM op0 (by decide) q1036 rfl rfl d_RM_load_78 ?_
    refine z_iconst (pc := 81) X d_RM_load_81 ?_
    refine z_iconst (pc := 82) X d_RM_load_82 ?_
    refine z_zastj (pc := 83) (j := 0) X (gf_RM_15 op0) (gl_RM_15 op0) (show zr 0 from by decide) ⟨by decide, by decide⟩ rfl (by decide) d_RM_load_83 ?_
    refine z_toph (fun h_10 eh_10 => ?_)
    have zh_10 : zh h_10 := by rw [eh_10]; exact zh_set zh_9 (zO.ne (gf_RM_15 op0) (by decide)) (show zr 0 from by decide)
    replace hv := hv h_10 eh_10
    refine z_aload_n (pc := 84) (q := 0) X d_RM_load_84 rfl ?_
    refine z_getr (pc := 85) (j := 15) (dd := 8) X cf_RM op0 (by decide) q1036 rfl rfl d_RM_load_85 ?_
    refine z_iconst (pc := 88) X d_RM_load_88 ?_
    refine z_iconst (pc := 89) X d_RM_load_89 ?_
    refine z_zastj (pc := 90) (j := 1) X (gf_RM_15 op0) (gl_RM_15 op0) (show zr 1 from by decide) ⟨by decide, by decide⟩ rfl (by decide) d_RM_load_90 ?_
    refine z_toph (fun h_11 eh_11 => ?_)
    have zh_11 : zh h_11 := by rw [eh_11]; exact zh_set zh_10 (zO.ne (gf_RM_15 op0) (by decide)) (show zr 0 from by decide)
    replace hv := hv h_11 eh_11
    refine z_aload_n (pc := 91) (q := 0) X d_RM_load_91 rfl ?_
    refine z_getr (pc := 92) (j := 9) (dd := 3) X cf_RM op0 (by decide) q1030 rfl rfl d_RM_load_92 ?_
    refine z_sipush (pc := 95) X d_RM_load_95 (by decide) ?_
    refine z_ialdj (pc := 98) (j := 188) X (gf_RM_9 op0) (gl_RM_9 op0) (show zr 188 from by decide) ⟨by decide, by decide⟩ rfl d_RM_load_98 ?_
    exact E.2.1 rfl _ _ _ _ d_RM_load_99 ⟨_, rfl, (zh_11.1 _ _ (zO.ne (gf_RM_9 op0) (by decide))), zh_11, hv⟩
  · replace hv := hv.2 hc
    refine z_iconst (pc := 19) X d_RM_load_19 ?_
    exact E.2.1 rfl _ _ _ _ d_RM_load_20 ⟨_, rfl, (show zr 0 from by decide), zh_1, hv⟩
def M_RM_load (p0 : Nat) (h : zH) (K : Int → zH → Prop) : Prop :=
  M_RM_readAll p0 h (fun r_2 h_1 => (r_2 = 0 → (B_RM_load_13 K  p0 p0 1 h_1)) ∧ (r_2 ≠ 0 → (B_RM_load_13 K  p0 p0 0 h_1)))
set_option maxRecDepth 100000 in
theorem c_RM_load {l : Launch} (hfl : l.flags = flags0) {g : zG} {n : Nat} {p0 : Nat} (op0 : zO n p0 11) {h : zH} (hh : zh h) {K : Int → zH → Prop} (hv : M_RM_load p0 h K) : zMet l y_RM_load b_RM_load 1 (some .int) rm_RM_load g n [.ref (g.2.2 p0)] h (zPi K) := by
  refine zMet_of (own := "AliasStreamsModel") hfl (by decide) rfl (Nat.le_of_ble_eq_true rfl) (fun Wf m H0 X E => ?_)
  unfold M_RM_load at hv
  show zW Wf m 1 g n H0 0 [(0, .ref (g.2.2 p0))] [] h
  refine z_aload_n (pc := 0) (q := 0) X d_RM_load_0 rfl ?_
  refine z_aload_n (pc := 1) (q := 0) X d_RM_load_1 rfl ?_
  refine z_callVi (pc := 2) (As := []) (rest := [.ref (g.2.2 p0)]) X (fun l hl => c_RM_readAll hl op0 hh hv) cf_RM op0 rfl mf_RM_readAll q1142 ⟨⟨by decide, by decide⟩, rfl, rfl⟩ rfl d_RM_load_2 rfl (Nat.le_of_ble_eq_true rfl) (fun r_2 h_1 rr_2 zh_1 hv => ?_)
  refine z_if_eq (pc := 5) (tgt := 12) X rr_2 d_RM_load_5 (by decide) (fun hc => ?_) (fun hc => ?_)
  · replace hv := hv.1 hc
    refine z_iconst (pc := 12) X d_RM_load_12 ?_
    exact s_RM_load_13 X E  op0 op0 (show zr 1 from by decide) zh_1 hv
  · replace hv := hv.2 hc
    refine z_iconst (pc := 8) X d_RM_load_8 ?_
    refine z_goto (pc := 9) (tgt := 13) X d_RM_load_9 (by decide) ?_
    exact s_RM_load_13 X E  op0 op0 (show zr 0 from by decide) zh_1 hv

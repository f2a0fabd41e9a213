/-! the reference: slots -/
def RR7 (h : zH) (p m : Nat) (f : Nat → Int) : Prop := (∀ b, b < 8 → h (p + 10) (8 * m + b) = (cBn f 8).1 b ∧ h (p + 11) (8 * m + b) = (cBn f 8).2.2 b) ∧ (∀ k, k < 32 → h (p + 12) (32 * m + k) = fS f k ∧ h (p + 13) (32 * m + k) = fI f k ∧ h (p + 14) (256 * (m : Int) + 32 * fS f k + fI f k).toNat = (k : Int))
/-- a closed bucket keeps its rest and its alias -/
theorem cBn_stay {f : Nat → Int} (hf : ∀ j, j < 8 → 0 ≤ f j) (hs : sm f 8 = 32) {b n : Nat} (hb : b < 8) (ho : (cBn f n).2.1 b = 0) : ∀ {d : Nat}, n + d ≤ 8 → (cBn f (n + d)).1 b = (cBn f n).1 b ∧ (cBn f (n + d)).2.2 b = (cBn f n).2.2 b ∧ (cBn f (n + d)).2.1 b = 0 := by
  intro d
  induction d with
  | zero => intro _; exact ⟨rfl, rfl, ho⟩
  | succ d ih =>
    intro hd
    obtain ⟨i1, i2, i3⟩ := ih (by omega)
    obtain ⟨b', g, hc⟩ := cB_some (show n + d < 8 by omega) (IB_n hf hs (show n + d ≤ 8 by omega))
    have hq := cB_eq hc
    obtain ⟨c1, c2, c3, c4, c5, c6⟩ := hc
    have nb : b ≠ b' := fun e => by rw [e] at i3; exact c3 i3
    show (cB (cBn f (n + d))).1 b = _ ∧ (cB (cBn f (n + d))).2.2 b = _ ∧ (cB (cBn f (n + d))).2.1 b = 0
    rw [hq]
    by_cases hlt : (cBn f (n + d)).1 b' < 4
    · rw [if_pos hlt]
      obtain ⟨g0, g1, rfl, g3, g4⟩ := c6 hlt
      have ng : b ≠ g0 := fun e => by
        rw [← e, zup_ne nb] at g3
        exact g3 i3
      refine ⟨?_, ?_, ?_⟩
      · show zup _ _ _ b = _
        rw [Int.toNat_natCast, zup_ne ng, i1]
      · show zup _ _ _ b = _
        rw [zup_ne nb, i2]
      · show zup _ _ _ b = _
        rw [zup_ne nb, i3]
    · rw [if_neg hlt]
      refine ⟨i1, i2, ?_⟩
      show zup _ _ _ b = _
      rw [zup_ne nb, i3]
theorem s_laySlots {p : Nat} {h : zH} {K : zH → Prop} {m : Nat} (hm : m < 3) {f : Nat → Int} (hf0 : ∀ j, j < 8 → 0 ≤ f j) (hf : sm f 8 = 32) (hr : ∀ s, s < 8 → h (p + 9) (8 * m + s) = f s)
    (hk : ∀ h', RR7 h' p m f → (∀ k j, k < p + 10 ∨ p + 16 < k → h' k j = h k j) → (∀ k j, (k = p + 10 ∨ k = p + 11) → (j < 8 * m ∨ 8 * m + 8 ≤ j) → h' k j = h k j) → (∀ k j, (k = p + 12 ∨ k = p + 13) → (j < 32 * m ∨ 32 * m + 32 ≤ j) → h' k j = h k j) → (∀ j, (j < 256 * m ∨ 256 * m + 256 ≤ j) → h' (p + 14) j = h (p + 14) j) → K h') : M_RM_laySlots p (m : Int) h K := by
  unfold M_RM_laySlots
  refine ⟨by omega, ?_⟩
  rintro x2 rfl
  have at8 : ∀ j : Nat, (8 * (m : Int) + (j : Int)).toNat = 8 * m + j := fun j => by omega
  have at32 : ∀ j : Nat, (32 * (m : Int) + (j : Int)).toNat = 32 * m + j := fun j => by omega
  refine yp1 8 (fun i h' => (∀ j, j < i → h' (p + 15) j = f j ∧ h' (p + 16) j = 1) ∧ ∀ k j, k < p + 15 ∨ p + 16 < k → h' k j = h k j) ⟨fun j hj => by omega, fun k j _ => rfl⟩ ?_
  rintro i h1 L hi ⟨hA1, hB1⟩ hL
  show F_RM_laySlots_7 K L p (m : Int) (8 * (m : Int)) (i : Int) h1
  unfold F_RM_laySlots_7
  rw [at8]
  simp only [Int.toNat_natCast]
  constructor
  · intro ci
    have ei : i = 8 := by omega
    subst ei
    clear hL
    refine yp1 8 (fun n h' => (∀ j, j < 8 → h' (p + 15) j = (cBn f n).1 j ∧ h' (p + 16) j = (cBn f n).2.1 j) ∧ (∀ b, b < 8 → (cBn f n).2.1 b = 0 → h' (p + 10) (8 * m + b) = (cBn f n).1 b ∧ h' (p + 11) (8 * m + b) = (cBn f n).2.2 b ∧ ∀ k : Nat, k < 4 → h' (p + 12) (32 * m + (4 * b + k)) = if (k : Int) < (cBn f n).1 b then (b : Int) else (cBn f n).2.2 b) ∧ (∀ k j, k < p + 10 ∨ p + 16 < k → h' k j = h k j) ∧ (∀ k j, (k = p + 10 ∨ k = p + 11) → (j < 8 * m ∨ 8 * m + 8 ≤ j) → h' k j = h k j) ∧ (∀ j, (j < 32 * m ∨ 32 * m + 32 ≤ j) → h' (p + 12) j = h (p + 12) j) ∧ (∀ j, h' (p + 13) j = h (p + 13) j) ∧ (∀ j, h' (p + 14) j = h (p + 14) j)) ⟨fun j hj => hA1 j hj, fun b hb e => absurd e (show ¬ (1 : Int) = 0 by decide), fun k j hkj => hB1 k j (by omega), fun k j a b => hB1 k j (by omega), fun j a => hB1 _ j (by omega), fun j => hB1 _ j (by omega), fun j => hB1 _ j (by omega)⟩ ?_
    rintro n h2 L hn ⟨hR2, hC2, hF2, hF2a, hF2b, hF2c, hF2d⟩ hL
    show F_RM_laySlots_42 K L p (m : Int) (8 * (m : Int)) (n : Int) h2
    unfold F_RM_laySlots_42
    constructor
    · intro cn
      have en : n = 8 := by omega
      subst en
      clear hL
      have hend := IB_n hf0 hf (Nat.le_refl 8)
      have hop : ∀ b, b < 8 → (cBn f 8).2.1 b = 0 := fun b hb => by
        have := sm_one (f := (cBn f 8).2.1) (n := 8) (fun i hi => by have := hend.2.1 i hi; omega) hb
        have := hend.2.1 b hb
        have := hend.2.2.1
        omega
      have hsym : ∀ k, k < 32 → h2 (p + 12) (32 * m + k) = fS f k := fun k hk => by
        have := (hC2 (k / 4) (by omega) (hop _ (by omega))).2.2 (k % 4) (by omega)
        rw [show 4 * (k / 4) + k % 4 = k by omega] at this
        exact this
      -- the numbers of the slots, symbol by symbol
      refine yp1 8 (fun s h' => (∀ k, k < 32 → fS f k < (s : Int) → h' (p + 13) (32 * m + k) = fI f k ∧ h' (p + 14) (256 * (m : Int) + 32 * fS f k + fI f k).toNat = (k : Int)) ∧ (∀ k j, k ≠ p + 13 → k ≠ p + 14 → h' k j = h2 k j) ∧ (∀ j, (j < 32 * m ∨ 32 * m + 32 ≤ j) → h' (p + 13) j = h2 (p + 13) j) ∧ (∀ j, (j < 256 * m ∨ 256 * m + 256 ≤ j) → h' (p + 14) j = h2 (p + 14) j)) ⟨fun k hk q => by have := fS_range hf0 hf hk; omega, fun k j _ _ => rfl, fun j _ => rfl, fun j _ => rfl⟩ ?_
      rintro s h3 L hs ⟨hD3, hF3, hF3a, hF3b⟩ hL
      show F_RM_laySlots_281 K L p (m : Int) (s : Int) h3
      unfold F_RM_laySlots_281
      constructor
      · intro cs
        have es : s = 8 := by omega
        subst es
        refine hk _ ⟨fun b hb => ?_, fun k hk => ?_⟩ (fun k j hkj => ?_) (fun k j a b => ?_) (fun k j a b => ?_) (fun j a => ?_)
        · rw [hF3 _ _ (by omega) (by omega), hF3 _ _ (by omega) (by omega)]
          exact ⟨(hC2 b hb (hop b hb)).1, (hC2 b hb (hop b hb)).2.1⟩
        · rw [hF3 _ _ (by omega) (by omega)]
          exact ⟨hsym k hk, hD3 k hk (fS_range hf0 hf hk).2⟩
        · rw [hF3 _ _ (by omega) (by omega)]; exact hF2 k j hkj
        · rw [hF3 _ _ (by omega) (by omega)]; exact hF2a k j a b
        · rcases a with rfl | rfl
          · rw [hF3 _ _ (by omega) (by omega)]; exact hF2b j b
          · rw [hF3a j b]; exact hF2c j
        · rw [hF3b j a]; exact hF2d j
      · intro cs
        refine yp2 32 (fun k x h' => x = ct (fS f) (s : Int) k ∧ (∀ k', k' < 32 → (fS f k' < (s : Int) ∨ (fS f k' = (s : Int) ∧ k' < k)) → h' (p + 13) (32 * m + k') = fI f k' ∧ h' (p + 14) (256 * (m : Int) + 32 * fS f k' + fI f k').toNat = (k' : Int)) ∧ (∀ k j, k ≠ p + 13 → k ≠ p + 14 → h' k j = h2 k j) ∧ (∀ j, (j < 32 * m ∨ 32 * m + 32 ≤ j) → h' (p + 13) j = h2 (p + 13) j) ∧ (∀ j, (j < 256 * m ∨ 256 * m + 256 ≤ j) → h' (p + 14) j = h2 (p + 14) j)) ⟨rfl, fun k hk q => hD3 k hk (by omega), hF3, hF3a, hF3b⟩ ?_
        rintro k x h4 L' hk' ⟨rfl, hD4, hF4, hF4a, hF4b⟩ hL'
        show F_RM_laySlots_293 K L L' p (m : Int) (s : Int) (ct (fS f) (s : Int) k) (k : Int) h4
        unfold F_RM_laySlots_293
        rw [at32]
        constructor
        · intro ck
          refine ⟨by omega, hL _ (by omega) ⟨fun k' hk' q => hD4 k' hk' (by omega), hF4, hF4a, hF4b⟩⟩
        · intro ck
          have c0 := ct_nonneg (y := fS f) (s := (s : Int)) (n := k)
          have c1 := ct_le (y := fS f) (s := (s : Int)) (n := k)
          rw [hF4 (p + 12) _ (by omega) (by omega), hsym k (by omega)]
          refine ⟨by omega, by omega, by omega, fun c5 => ⟨by omega, hL' _ _ (by omega) ⟨?_, fun k' hk' q => ?_, hF4, hF4a, hF4b⟩⟩, fun c5 => ⟨by omega, by omega, by omega, ?_⟩⟩
          · rw [ct_step, if_neg c5]; omega
          · refine hD4 k' hk' ?_
            rcases q with q | ⟨q1, q2⟩
            · exact Or.inl q
            · have : k' ≠ k := fun e => by subst e; exact c5 q1
              exact Or.inr ⟨q1, by omega⟩
          · rintro h5 rfl
            refine ⟨by omega, by omega, by omega, by omega, by omega, ?_⟩
            rintro h6 rfl
            refine ⟨by omega, by omega, hL' _ _ (by omega) ⟨?_, fun k' hk' q => ?_, fun a b ha hb => ?_, fun j a => ?_, fun j a => ?_⟩⟩
            · rw [ct_step, if_pos c5]
            · by_cases e : k' = k
              · subst e
                have ei : fI f k' = ct (fS f) (s : Int) k' := by unfold fI; rw [c5]
                rw [zs_k (by omega), zs_eq, ei, c5, zs_eq]
                exact ⟨rfl, rfl⟩
              · obtain ⟨d1, d2⟩ := hD4 k' hk' (by omega)
                have rs := fS_range hf0 hf hk'
                have ri := fI_range hf0 hf hk'
                have ne : (256 * (m : Int) + 32 * fS f k' + fI f k').toNat ≠ (256 * (m : Int) + 32 * (s : Int) + ct (fS f) (s : Int) k).toNat := by
                  intro e6
                  have e7 : fS f k' = (s : Int) := by omega
                  have e8 := fI_lt (f := f) (show k' < k by omega) (by rw [c5, e7])
                  have e9 : fI f k = ct (fS f) (s : Int) k := by unfold fI; rw [c5]
                  omega
                rw [zs_k (by omega), zs_j (by omega), zs_j ne, zs_k (by omega)]
                exact ⟨d1, d2⟩
            · rw [zs_k hb, zs_k ha]; exact hF4 a b ha hb
            · rw [zs_k (by omega), zs_j (by omega)]; exact hF4a j a
            · rw [zs_j (by omega), zs_k (by omega)]; exact hF4b j a
    · intro cn
      obtain ⟨b, g, hc⟩ := cB_some (show n < 8 by omega) (IB_n hf0 hf hn)
      have hcq := cB_eq hc
      have hIn := IB_n hf0 hf hn
      obtain ⟨hb, e1, e2, e3, e4, e5⟩ := hc
      have hpos := hIn.1
      -- the first to close
      refine yp1 8 (fun i h' => h' = h2 ∧ fC (cBn f n).1 (cBn f n).2.1 i = -9) ⟨rfl, rfl⟩ ?_
      rintro i h3 L' hi' ⟨rfl, ef⟩ hL'
      show F_RM_laySlots_51 K L L' p (m : Int) (8 * (m : Int)) (n : Int) (i : Int) h3
      have hi8 : i < 8 := by
        by_cases q : i = 8
        · rw [q] at ef; omega
        · omega
      unfold F_RM_laySlots_51
      rw [at8]
      simp only [Int.toNat_natCast]
      obtain ⟨a15, a16⟩ := hR2 i hi8
      rw [a15, a16]
      refine ⟨by omega, fun c5 => ⟨by omega, hL' _ (by omega) ⟨rfl, fC_none ef (by omega)⟩⟩, fun c5 => ⟨by omega, fun c6 => ⟨by omega, ?_⟩, fun c6 => ⟨by omega, hL' _ (by omega) ⟨rfl, fC_none ef (by omega)⟩⟩⟩⟩
      have eib : i = b := by
        have := fC_found (d := 7 - i) ef ⟨c5, c6⟩
        rw [show i + 1 + (7 - i) = 8 by omega, e1] at this
        omega
      subst eib
      clear hL'
      rintro h4 rfl
      rw [zs_k (by omega), a15]
      refine ⟨by omega, by omega, by omega, ?_⟩
      rintro h5 rfl
      -- the fullest open one
      have r5 : ∀ j, j < 8 → zs (zs h3 (p + 16) i 0) (p + 10) (8 * m + i) ((cBn f n).1 i) (p + 15) j = (cBn f n).1 j := fun j hj => by
        rw [zs_k (by omega), zs_k (by omega)]; exact (hR2 j hj).1
      have o5 : ∀ j, j < 8 → zs (zs h3 (p + 16) i 0) (p + 10) (8 * m + i) ((cBn f n).1 i) (p + 16) j = zup (cBn f n).2.1 i 0 j := fun j hj => by
        rw [zs_k (by omega), zs_row]
        by_cases e : j = i
        · rw [e, zup_self, zup_self]
        · rw [zup_ne e, zup_ne e]; exact (hR2 j hj).2
      refine yp2 8 (fun j x h' => h' = zs (zs h3 (p + 16) i 0) (p + 10) (8 * m + i) ((cBn f n).1 i) ∧ x = (aG (rO (cBn f n).1 (zup (cBn f n).2.1 i 0)) j).1) ⟨rfl, rfl⟩ ?_
      rintro j x h6 L' hj ⟨rfl, rfl⟩ hL'
      show F_RM_laySlots_109 K L L' p (m : Int) (8 * (m : Int)) (n : Int) (i : Int) ((aG (rO (cBn f n).1 (zup (cBn f n).2.1 i 0)) j).1) (j : Int) (zs (zs h3 (p + 16) i 0) (p + 10) (8 * m + i) ((cBn f n).1 i))
      unfold F_RM_laySlots_109
      rw [at8]
      simp only [Int.toNat_natCast]
      constructor
      · intro cj
        have ej : j = 8 := by omega
        subst ej
        clear hL'
        rw [r5 i hb, e4]
        -- what is common: the four slots, then the giver
        have key : ∀ al : Int, (al = if (cBn f n).1 i < 4 then g else -9) → zLoop (fun L_1 q => F_RM_laySlots_195 K L L_1 p (m : Int) (8 * (m : Int)) (n : Int) (i : Int) g q.1 q.2) (0, zs (zs (zs h3 (p + 16) i 0) (p + 10) (8 * m + i) ((cBn f n).1 i)) (p + 11) (8 * m + i) al) := by
          intro al eal
          refine yp1 4 (fun k h' => (∀ k' : Nat, k' < k → h' (p + 12) (32 * m + (4 * i + k')) = if (k' : Int) < (cBn f n).1 i then (i : Int) else g) ∧ (∀ a b, ¬ (a = p + 12 ∧ 32 * m + 4 * i ≤ b ∧ b < 32 * m + 4 * i + 4) → h' a b = zs (zs (zs h3 (p + 16) i 0) (p + 10) (8 * m + i) ((cBn f n).1 i)) (p + 11) (8 * m + i) al a b)) ⟨fun k' hk' => by omega, fun a b _ => rfl⟩ ?_
          rintro k h7 L' hk7 ⟨hA7, hB7⟩ hL'
          show F_RM_laySlots_195 K L L' p (m : Int) (8 * (m : Int)) (n : Int) (i : Int) g (k : Int) h7
          unfold F_RM_laySlots_195
          rw [show (32 * (m : Int) + 4 * (i : Int) + (k : Int)).toNat = 32 * m + (4 * i + k) by omega]
          simp only [Int.toNat_natCast]
          have r7 : ∀ j, j < 8 → h7 (p + 15) j = (cBn f n).1 j := fun j hj => by
            rw [hB7 _ _ (by omega), zs_k (by omega)]; exact r5 j hj
          rw [r7 i hb]
          have qi := hpos i hb
          constructor
          · intro ck
            have ek : k = 4 := by omega
            subst ek
            clear hL'
            -- the end of the round, whatever became of the rests
            have fin : ∀ h8 : zH, (∀ a b, a ≠ p + 15 → h8 a b = h7 a b) → (∀ j, j < 8 → h8 (p + 15) j = (cBn f (n + 1)).1 j) → L ((n : Int) + 1, h8) := by
              intro h8 y1 y2
              have cbn : cBn f (n + 1) = cB (cBn f n) := rfl
              have opn : ∀ j, (cBn f (n + 1)).2.1 j = zup (cBn f n).2.1 i 0 j := fun j => by rw [cbn, hcq]; split <;> rfl
              refine hL _ (by omega) ⟨fun j hj => ⟨y2 j hj, ?_⟩, fun b' hb' ho => ?_, fun a b hab => ?_, fun a b ha hb => ?_, fun j a => ?_, fun j => ?_, fun j => ?_⟩
              · rw [y1 _ _ (by omega), hB7 _ _ (by omega), zs_k (by omega), o5 j hj, opn]
              · by_cases e : b' = i
                · subst e
                  have fst1 : (cBn f (n + 1)).1 b' = (cBn f n).1 b' := by
                    rw [cbn, hcq]
                    by_cases hlt : (cBn f n).1 b' < 4
                    · rw [if_pos hlt]
                      obtain ⟨g0, q1, rfl, q3, q4⟩ := e5 hlt
                      show zup _ _ _ b' = _
                      rw [Int.toNat_natCast]
                      exact zup_ne (fun e => by rw [← e, zup_self] at q3; exact q3 rfl)
                    · rw [if_neg hlt]
                  have snd1 : (cBn f (n + 1)).2.2 b' = al := by
                    rw [cbn, hcq, eal]
                    by_cases hlt : (cBn f n).1 b' < 4
                    · rw [if_pos hlt, if_pos hlt]
                      exact zup_self
                    · rw [if_neg hlt, if_neg hlt]
                      exact hIn.2.2.2.2.2.1 b' hb e2
                  rw [fst1, snd1]
                  refine ⟨?_, ?_, fun k hk => ?_⟩
                  · rw [y1 _ _ (by omega), hB7 _ _ (by omega), zs_k (by omega), zs_eq]
                  · rw [y1 _ _ (by omega), hB7 _ _ (by omega), zs_eq]
                  · rw [y1 _ _ (by omega), hA7 k hk]
                    by_cases hlt : (cBn f n).1 b' < 4
                    · rw [eal, if_pos hlt]
                    · rw [if_pos (by omega), if_pos (by omega)]
                · have ho' : (cBn f n).2.1 b' = 0 := by rw [opn, zup_ne e] at ho; exact ho
                  obtain ⟨s1, s2, s3⟩ := cBn_stay hf0 hf hb' ho' (d := 1) (by omega)
                  obtain ⟨d1, d2, d3⟩ := hC2 b' hb' ho'
                  rw [s1, s2]
                  refine ⟨?_, ?_, fun k hk => ?_⟩
                  · rw [y1 _ _ (by omega), hB7 _ _ (by omega), zs_k (by omega), zs_j (by omega), zs_k (by omega)]; exact d1
                  · rw [y1 _ _ (by omega), hB7 _ _ (by omega), zs_j (by omega), zs_k (by omega), zs_k (by omega)]; exact d2
                  · rw [y1 _ _ (by omega), hB7 _ _ (by omega), zs_k (by omega), zs_k (by omega), zs_k (by omega)]; exact d3 k hk
              · rw [y1 _ _ (by omega), hB7 _ _ (by omega), zs_k (by omega), zs_k (by omega), zs_k (by omega)]; exact hF2 a b hab
              · rw [y1 _ _ (by omega), hB7 _ _ (by omega)]
                rcases ha with rfl | rfl
                · rw [zs_k (by omega), zs_j (by omega), zs_k (by omega)]; exact hF2a _ b (Or.inl rfl) hb
                · rw [zs_j (by omega), zs_k (by omega), zs_k (by omega)]; exact hF2a _ b (Or.inr rfl) hb
              · rw [y1 _ _ (by omega), hB7 _ _ (by omega), zs_k (by omega), zs_k (by omega), zs_k (by omega)]; exact hF2b j a
              · rw [y1 _ _ (by omega), hB7 _ _ (by omega), zs_k (by omega), zs_k (by omega), zs_k (by omega)]; exact hF2c j
              · rw [y1 _ _ (by omega), hB7 _ _ (by omega), zs_k (by omega), zs_k (by omega), zs_k (by omega)]; exact hF2d j
            refine ⟨by omega, fun c8 => ⟨by omega, fin _ (fun a b _ => rfl) (fun j hj => ?_)⟩, fun c8 => ?_⟩
            · rw [r7 j hj]
              show _ = (cB (cBn f n)).1 j
              rw [hcq, if_neg (by omega)]
            · rw [if_pos c8] at hcq
              obtain ⟨g0, q1, rfl, q3, q4⟩ := e5 c8
              have gle : (cBn f n).1 g0 ≤ 32 := by
                have ngi : g0 ≠ i := fun e => by rw [e, zup_self] at q3; exact q3 rfl
                have e0 := hIn.2.2.2.1
                have := sm_one (f := r0O (cBn f n).1 (cBn f n).2.1) (n := 8) (j := g0) (fun i hi => by unfold r0O; split; exact hpos i hi; omega) q1
                have e9 : r0O (cBn f n).1 (cBn f n).2.1 g0 = (cBn f n).1 g0 := if_pos (by rw [zup_ne ngi] at q3; exact q3)
                omega
              simp only [Int.toNat_natCast]
              rw [Int.toNat_natCast] at hcq
              rw [r7 g0 q1]
              refine ⟨by omega, by omega, by omega, by omega, by omega, ?_⟩
              rintro h8 rfl
              refine ⟨by omega, fin _ (fun a b ha => zs_k ha) (fun j hj => ?_)⟩
              show _ = (cB (cBn f n)).1 j
              rw [hcq, zs_row]
              show zup _ _ _ j = zup _ _ _ j
              by_cases e : j = g0
              · rw [e, zup_self, zup_self]
              · rw [zup_ne e, zup_ne e, r7 j hj]
          · intro ck
            refine ⟨by omega, by omega, by omega, by omega, by omega, fun c8 => ⟨by omega, ?_⟩, fun c8 => ⟨by omega, ?_⟩⟩
            · rintro h8 rfl
              refine ⟨by omega, hL' _ (by omega) ⟨fun k' hk' => ?_, fun a b q => ?_⟩⟩
              · by_cases e : k' = k
                · subst e; rw [zs_eq, if_neg (by omega)]
                · rw [zs_j (by omega)]; exact hA7 k' (by omega)
              · rw [← hB7 a b q]
                by_cases e : a = p + 12
                · exact zs_j (by omega)
                · exact zs_k e
            · rintro h8 rfl
              refine ⟨by omega, hL' _ (by omega) ⟨fun k' hk' => ?_, fun a b q => ?_⟩⟩
              · by_cases e : k' = k
                · subst e; rw [zs_eq, if_pos (by omega)]
                · rw [zs_j (by omega)]; exact hA7 k' (by omega)
              · rw [← hB7 a b q]
                by_cases e : a = p + 12
                · exact zs_j (by omega)
                · exact zs_k e
        refine ⟨by omega, by omega, fun c7 => ⟨by omega, ?_⟩, fun c7 => ⟨by omega, ?_⟩⟩
        · rintro h7 rfl
          exact key _ (by rw [if_neg (by omega)])
        · rintro h7 rfl
          exact key _ (by rw [if_pos c7])
      · intro cj
        have hstp := aG_step (r := rO (cBn f n).1 (zup (cBn f n).2.1 i 0)) (n := j)
        have hge := aG_ge (r := rO (cBn f n).1 (zup (cBn f n).2.1 i 0)) (n := j)
        have qj := hpos j (by omega)
        rw [r5 j (by omega), o5 j (by omega)]
        refine ⟨by omega, fun c7 => ⟨by omega, hL' _ _ (by omega) ⟨rfl, ?_⟩⟩, fun c7 => ?_⟩
        · have z : rO (cBn f n).1 (zup (cBn f n).2.1 i 0) j = -9 := if_neg (by omega)
          rw [hstp, if_neg (by omega)]
        · have z : rO (cBn f n).1 (zup (cBn f n).2.1 i 0) j = (cBn f n).1 j := if_pos c7
          rcases aG_spec (r := rO (cBn f n).1 (zup (cBn f n).2.1 i 0)) (n := j) (fun j hj => by unfold rO; split; have := hpos j (by omega); omega; omega) with ⟨z1, z2, -⟩ | ⟨b', hb', z1, z2, z3, -⟩
          · rw [z1]
            refine ⟨fun _ => ⟨by omega, hL' _ _ (by omega) ⟨rfl, ?_⟩⟩, fun c8 => absurd rfl c8⟩
            rw [hstp, if_pos (by omega)]
          · have z4 : rO (cBn f n).1 (zup (cBn f n).2.1 i 0) b' = (cBn f n).1 b' := by
              unfold rO at z3 ⊢
              split at z3
              · rename_i zz; rw [if_pos zz]
              · omega
            rw [z1]
            simp only [Int.toNat_natCast]
            rw [r5 b' (by omega)]
            refine ⟨fun c8 => by omega, fun _ => ⟨by omega, by omega, fun c9 => ⟨by omega, hL' _ _ (by omega) ⟨rfl, ?_⟩⟩, fun c9 => ⟨by omega, hL' _ _ (by omega) ⟨rfl, ?_⟩⟩⟩⟩
            · rw [hstp, if_neg (by omega), z1]
            · rw [hstp, if_pos (by omega)]
  · intro ci
    rw [hB1 _ _ (by omega), hr i (by omega)]
    repeat' (first | with_reducible apply And.intro | (with_reducible intro hh ee; subst ee) | with_reducible intro cc)
    all_goals (try omega)
    refine hL _ (by omega) ⟨fun j hj => ?_, fun k j hkj => ?_⟩
    · rw [zs_k (by omega)]
      by_cases e : j = i
      · subst e; rw [zs_eq, zs_eq]; exact ⟨rfl, rfl⟩
      · rw [zs_j e, zs_j e, zs_k (by omega)]; exact hA1 j (by omega)
    · rw [zs_k (by omega), zs_k (by omega)]; exact hB1 k j hkj
/-- the reference's tables stand for the counts c, of mc models -/
def TR (h : zH) (p : Nat) (c : Nat → Int) (mc : Nat) : Prop := ∀ m, m < mc → (∀ s, s < 8 → h (p + 9) (8 * m + s) = fF (cm c m) s) ∧ RR7 h p m (fF (cm c m))
theorem s_layTables {p p1 : Nat} (hz9 : zln (p + 9) = 24) (hl : 24 ≤ zln p1) (hp : p1 < p + 6 ∧ p < p1) {h : zH} {K : zH → Prop} {c : Nat → Int} {sc mc : Nat} (hsc : 1 ≤ sc ∧ sc ≤ 8) (hmc : mc ≤ 3) (es : h p 4 = (sc : Int)) (em : h p 5 = (mc : Int)) (hc : ∀ j, j < 24 → h p1 j = c j) (hcz : ∀ m s, m < mc → sc ≤ s → s < 8 → c (8 * m + s) = 0) (hc9 : ∀ j, j < 24 → 0 ≤ c j ∧ c j ≤ 99) (ht : ∀ m, m < mc → 0 < sm (cm c m) 8)
    (hk : ∀ h', TR h' p c mc → (∀ k j, k < p + 9 ∨ p + 16 < k → h' k j = h k j) → K h') : M_RM_layTables p p1 h K := by
  unfold M_RM_layTables
  refine yp1 mc (fun i h' => TR h' p c i ∧ ∀ k j, k < p + 9 ∨ p + 16 < k → h' k j = h k j) ⟨fun m hm => by omega, fun k j _ => rfl⟩ ?_
  rintro i h' L hi ⟨hT, hB⟩ hL
  show F_RM_layTables_2 K L p p1 (i : Int) h'
  unfold F_RM_layTables_2
  rw [hB _ _ (by omega), em]
  constructor
  · intro ci
    have ei : i = mc := by omega
    subst ei
    exact hk _ hT hB
  · intro ci
    have cat : ∀ s, s < 8 → cm c i s = c (8 * i + s) := fun s hs => tr_at hs
    obtain ⟨f1, f2⟩ := fF_spec (c := cm c i) (fun j hj => by rw [cat j hj]; exact (hc9 _ (by omega)).1) (ht i (by omega))
    refine s_layFreq hz9 hl hp (by omega) hsc ((hB _ _ (by omega)).trans es) (c := cm c i) (fun s hs => ?_) (fun s a b => ?_) (fun s hs => ?_) (ht i (by omega)) (fun h1 hF1 hB1 => ?_)
    · rw [hB _ _ (by omega), hc _ (by omega), cat s (by omega)]
    · rw [cat s b]; exact hcz i s (by omega) a b
    · rw [cat s hs]; exact hc9 _ (by omega)
    refine s_laySlots (by omega) f1 f2 hF1 (fun h2 hR2 hB2 hB2a hB2b hB2c => ⟨by omega, hL _ (by omega) ⟨fun m hm => ?_, fun k j hkj => ?_⟩⟩)
    · by_cases e : m = i
      · subst e
        exact ⟨fun s hs => by rw [hB2 _ _ (by omega)]; exact hF1 s hs, hR2⟩
      · obtain ⟨t1, t2, t3⟩ := hT m (by omega)
        have catm : ∀ s, s < 8 → cm c m s = c (8 * m + s) := fun s hs => tr_at hs
        obtain ⟨fm1, fm2⟩ := fF_spec (c := cm c m) (fun j hj => by rw [catm j hj]; exact (hc9 _ (by omega)).1) (ht m (by omega))
        refine ⟨fun s hs => ?_, fun b hb => ?_, fun k hk => ?_⟩
        · rw [hB2 _ _ (by omega), hB1 _ _ (by omega) (by omega)]; exact t1 s hs
        · rw [hB2a _ _ (by omega) (by omega), hB2a _ _ (by omega) (by omega), hB1 _ _ (by omega) (by omega), hB1 _ _ (by omega) (by omega)]; exact t2 b hb
        · have r1 := fS_range fm1 fm2 hk
          have r2 := fI_range fm1 fm2 hk
          rw [hB2b _ _ (by omega) (by omega), hB2b _ _ (by omega) (by omega), hB2c _ (by omega), hB1 _ _ (by omega) (by omega), hB1 _ _ (by omega) (by omega), hB1 _ _ (by omega) (by omega)]; exact t3 k hk
    · rw [hB2 _ _ (by omega), hB1 _ _ (by omega) (by omega)]; exact hB k j hkj

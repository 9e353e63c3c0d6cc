/-! THE REFERENCE: it goes through all assignments -/
/-- the sum from u on -/
def tS (g : Nat → Nat) (u : Nat) : Nat := sN (fun w => if u ≤ w then g w else 0) 5
theorem tS_5 (g : Nat → Nat) : tS g 5 = 0 := by simp [tS, sN]
theorem tS_0 (g : Nat → Nat) : tS g 0 = sN g 5 := by unfold tS; exact sN_5 (fun u _ => if_pos (Nat.zero_le _))
theorem tS_none {g : Nat → Nat} {u : Nat} (h : ∀ w, u ≤ w → w < 5 → g w = 0) : tS g u = 0 := by
  have : tS g u = sN (fun _ => 0) 5 := by
    unfold tS
    apply sN_5
    intro w hw
    by_cases q : u ≤ w
    · rw [if_pos q]; exact h w q hw
    · rw [if_neg q]
  rw [this]; rfl
theorem tS_step {g : Nat → Nat} {u w : Nat} (hw : w < 5) (huw : u ≤ w) (h : ∀ j, u ≤ j → j < w → g j = 0) : tS g u = g w + tS g (w + 1) := by
  have hu : u < 5 := by omega
  have e : ∀ j, (if u ≤ j then g j else 0) = (if j = w then g w else 0) + (if w + 1 ≤ j then g j else 0) := fun j => by
    by_cases q1 : j = w
    · subst q1
      rw [if_pos huw, if_pos rfl, if_neg (by omega)]; rfl
    · rw [if_neg q1]
      by_cases q2 : w + 1 ≤ j
      · rw [if_pos (by omega), if_pos q2]; omega
      · rw [if_neg q2]
        by_cases q3 : u ≤ j
        · rw [if_pos q3, h j q3 (by omega)]
        · rw [if_neg q3]
  unfold tS
  simp only [sN, e]
  rcases lt5 hw with rfl | rfl | rfl | rfl | rfl <;> simp <;> omega
theorem gv_fr {A : List Nat} {S S' : PS} {m a : Nat → Nat} {n : Nat} (h : fr A S S') (hA : 101 ∉ A) (hg : rG S m a n) : rG S' m a n := fun k hk => by rw [h.I hA]; exact hg k hk
def tC : Nat → Nat
  | 0 => 0
  | r + 1 => 6 * (2 + tC r)
theorem tC_s (r : Nat) : tC (r + 1) = 6 * (2 + tC r) := rfl
theorem q_tup {S0 : PS} {P d : Nat → Nat} {c : Nat} {Q : Int32 → PS → Prop} (hM0 : MShape S0) (hp0 : rP S0 P) (hw : Pwf P) (hc : c < P 1) (hd0 : rD S0 90 d) :
    ∀ (r k u : Nat) (a : Nat → Nat) (cnt : Nat) (g : Int32) (S : PS) (f0 f : Nat), k + (r + 1) = (cK P c).1 → u ≤ 5 → g + nI 1 = nI u → (∀ j, j < (cK P c).1 → a ((cK P c).2.1 j) < 5) → fr [101] S0 S → rG S (cK P c).2.1 a k → pI S 101 ((cK P c).2.1 k) = g → f0 + (6 - u) * (2 + tC r) ≤ f →
      (∀ S' f', f0 ≤ f' → fr [101] S0 S' → rG S' (cK P c).2.1 a k → wpX12_tuplesOf_b24 Q f' S' 87 (nI c) (nI (cK P c).1) (nI (cnt + tS (fun w => if (d ((cK P c).2.1 k)).testBit w = true then cF (cK P c) d r (k + 1) (ud a ((cK P c).2.1 k) w) else 0) u)) (nI k + -1)) →
      wpX12_tuplesOf_b24 Q f S 87 (nI c) (nI (cK P c).1) (nI cnt) (nI k) := by
  have hκ := cK_wf (hw.2.2.2.2.2 c hc) hw.1
  have hc8 : c < 8 := Nat.lt_of_lt_of_le hc hw.2.1
  have hn7 := hκ.1
  intro r
  induction r with
  | zero =>
    intro k u
    -- the last member: the values from u on
    have inner : ∀ (v u : Nat) (a : Nat → Nat) (cnt : Nat) (g : Int32) (S : PS) (f0 f : Nat), 5 - u = v → k + 1 = (cK P c).1 → u ≤ 5 → g + nI 1 = nI u → (∀ j, j < (cK P c).1 → a ((cK P c).2.1 j) < 5) → fr [101] S0 S → rG S (cK P c).2.1 a k → pI S 101 ((cK P c).2.1 k) = g → f0 + (6 - u) * 2 ≤ f →
      (∀ S' f', f0 ≤ f' → fr [101] S0 S' → rG S' (cK P c).2.1 a k → wpX12_tuplesOf_b24 Q f' S' 87 (nI c) (nI (cK P c).1) (nI (cnt + tS (fun w => if (d ((cK P c).2.1 k)).testBit w = true then cF (cK P c) d 0 (k + 1) (ud a ((cK P c).2.1 k) w) else 0) u)) (nI k + -1)) →
      wpX12_tuplesOf_b24 Q f S 87 (nI c) (nI (cK P c).1) (nI cnt) (nI k) := by
      intro v
      induction v using Nat.strongRecOn with
      | _ v ihv =>
        intro u a cnt g S f0 f hv hk hu hg ha hf hG hcur hfu hH
        have hx := hκ.2.1 k (by omega)
        have hM := hf.M hM0
        have hp := hf.P (by decide) hp0
        have hd := hf.D (by decide) hd0
        have hkn : (cK P c).1 = k + 1 := by omega
        obtain ⟨f, rfl⟩ : ∃ j, f = j + 1 := ⟨f - 1, by omega⟩
        have hwk : ∀ Q2 : Int32 → PS → Prop, Q2 (nI ((cK P c).2.1 k)) S → wpX12_of S 87 (nI c) (nI 2 + nI k) Q2 := fun Q2 hq => by
          rw [o_add, w_of hM hp (by omega)]; exact hq
        unfold wpX12_tuplesOf_b24
        simp (disch := omega) only [c_0, c_1, c_2, c_3, c_4, c_5, c_6, c_7, c_8, c_9, c_10, c_11, c_12, c_14, c_16, c_19, c_20, c_24, c_31, c_32, c_35, c_48, c_57, c_59, c_63, c_97, c_100, c_122, c_127, c_169, c_255, c_600, c_1000, c_32767, Nat.le_refl, Nat.zero_le, Nat.add_zero, Nat.lt_irrefl, eq_self, o_sub, Nat.sub_zero, Nat.not_lt_zero, ↓ng_d, o_le, o_lt, o_eq, o_add, o_mul, o_cl, o_inT, o_and, n_31, o_shr, o_shl1, o_or, m_lt, m_ge, m_le, m_gt, m_ne, m_ne2, Option.some.injEq, exists_eq_left', true_and, and_true, true_implies, false_implies, implies_true, not_true_eq_false, not_false_eq_true, bI_0, bI_1, bI_01, b01, true_or, or_true, Nat.reduceEqDiff, Bool.not_eq_false, Bool.not_eq_true, Bool.true_eq_false, Bool.false_eq_true, msk hM]
        rw [show nI (2 + k) = nI 2 + nI k from (o_add 2 k).symm]
        apply hwk
        simp (disch := omega) only [c_0, c_1, c_2, c_3, c_4, c_5, c_6, c_7, c_8, c_9, c_10, c_11, c_12, c_14, c_16, c_19, c_20, c_24, c_31, c_32, c_35, c_48, c_57, c_59, c_63, c_97, c_100, c_122, c_127, c_169, c_255, c_600, c_1000, c_32767, Nat.le_refl, Nat.zero_le, Nat.add_zero, Nat.lt_irrefl, eq_self, o_sub, Nat.sub_zero, Nat.not_lt_zero, ↓ng_d, o_le, o_lt, o_eq, o_add, o_mul, o_cl, o_inT, o_and, n_31, o_shr, o_shl1, o_or, m_lt, m_ge, m_le, m_gt, m_ne, m_ne2, Option.some.injEq, exists_eq_left', true_and, and_true, true_implies, false_implies, implies_true, not_true_eq_false, not_false_eq_true, bI_0, bI_1, bI_01, b01, true_or, or_true, Nat.reduceEqDiff, Bool.not_eq_false, Bool.not_eq_true, Bool.true_eq_false, Bool.false_eq_true, msk hM, msr_given hM, msk_given hM, msl_given hM, hcur]
        refine q_nextValue hM hd hx hg hu (fun hno => ?_) (fun w h1 h2 h3 h4 => ?_)
        · have hs : tS (fun w => if (d ((cK P c).2.1 k)).testBit w = true then cF (cK P c) d 0 (k + 1) (ud a ((cK P c).2.1 k) w) else 0) u = 0 := tS_none (fun w h1 h2 => by rw [hno w h1 h2]; rfl)
          rw [hs, Nat.add_zero] at hH
          have hsI : pI (sI S 101 ((cK P c).2.1 k) ngI) 101 ((cK P c).2.1 k) = ngI := by rw [pI_sI, if_pos ⟨rfl, rfl⟩]
          have h5 := hH (sI S 101 ((cK P c).2.1 k) ngI) f (by omega) (fr_t hf (fr_sI _ _ _ (by decide))) (fun j hj => by
            rw [pI_sI, if_neg (fun q => by have := hκ.2.2.1 j k (by omega) (by omega) q.2; omega)]; exact hG j hj)
          rw [ng_d] at h5
          simp (disch := omega) only [c_0, c_1, c_2, c_3, c_4, c_5, c_6, c_7, c_8, c_9, c_10, c_11, c_12, c_14, c_16, c_19, c_20, c_24, c_31, c_32, c_35, c_48, c_57, c_59, c_63, c_97, c_100, c_122, c_127, c_169, c_255, c_600, c_1000, c_32767, Nat.le_refl, Nat.zero_le, Nat.add_zero, Nat.lt_irrefl, eq_self, o_sub, Nat.sub_zero, Nat.not_lt_zero, ↓ng_d, o_le, o_lt, o_eq, o_add, o_mul, o_cl, o_inT, o_and, n_31, o_shr, o_shl1, o_or, m_lt, m_ge, m_le, m_gt, m_ne, m_ne2, Option.some.injEq, exists_eq_left', true_and, and_true, true_implies, false_implies, implies_true, not_true_eq_false, not_false_eq_true, bI_0, bI_1, bI_01, b01, true_or, or_true, Nat.reduceEqDiff, Bool.not_eq_false, Bool.not_eq_true, Bool.true_eq_false, Bool.false_eq_true, msk hM, msr_given hM, msk_given hM, msl_given hM, hsI]
          exact h5
        · have hs := tS_step (g := fun w => if (d ((cK P c).2.1 k)).testBit w = true then cF (cK P c) d 0 (k + 1) (ud a ((cK P c).2.1 k) w) else 0) h2 h1 (fun j q1 q2 => by
            show (if (d ((cK P c).2.1 k)).testBit j = true then _ else 0) = 0
            rw [h4 j q1 q2]; rfl)
          have hsv : (if (d ((cK P c).2.1 k)).testBit w = true then cF (cK P c) d 0 (k + 1) (ud a ((cK P c).2.1 k) w) else 0) = if (cK P c).2.2 (ud a ((cK P c).2.1 k) w) = true then 1 else 0 := by rw [if_pos h3]; rfl
          have hsI : pI (sI S 101 ((cK P c).2.1 k) (nI w)) 101 ((cK P c).2.1 k) = nI w := by rw [pI_sI, if_pos ⟨rfl, rfl⟩]
          have hf2 : fr [101] S0 (sI S 101 ((cK P c).2.1 k) (nI w)) := fr_t hf (fr_sI _ _ _ (by decide))
          have hG2 : rG (sI S 101 ((cK P c).2.1 k) (nI w)) (cK P c).2.1 a k := fun j hj => by
            rw [pI_sI, if_neg (fun q => by have := hκ.2.2.1 j k (by omega) (by omega) q.2; omega)]; exact hG j hj
          have hG3 : rG (sI S 101 ((cK P c).2.1 k) (nI w)) (cK P c).2.1 (ud a ((cK P c).2.1 k) w) (cK P c).1 := fun j hj => by
            by_cases q : j = k
            · subst q; rw [ud_s]; exact hsI
            · rw [ud_n _ _ (fun z => q (hκ.2.2.1 j k hj (by omega) z))]; exact hG2 j (by omega)
          have ha2 : ∀ j, j < (cK P c).1 → ud a ((cK P c).2.1 k) w ((cK P c).2.1 j) < 5 := fun j hj => by
            by_cases q : (cK P c).2.1 j = (cK P c).2.1 k
            · rw [q, ud_s]; exact h2
            · rw [ud_n _ _ q]; exact ha j hj
          have hle : (cK P c).1 ≤ k + 1 := by omega
          simp (disch := omega) only [c_0, c_1, c_2, c_3, c_4, c_5, c_6, c_7, c_8, c_9, c_10, c_11, c_12, c_14, c_16, c_19, c_20, c_24, c_31, c_32, c_35, c_48, c_57, c_59, c_63, c_97, c_100, c_122, c_127, c_169, c_255, c_600, c_1000, c_32767, Nat.le_refl, Nat.zero_le, Nat.add_zero, Nat.lt_irrefl, eq_self, o_sub, Nat.sub_zero, Nat.not_lt_zero, ↓ng_d, o_le, o_lt, o_eq, o_add, o_mul, o_cl, o_inT, o_and, n_31, o_shr, o_shl1, o_or, m_lt, m_ge, m_le, m_gt, m_ne, m_ne2, Option.some.injEq, exists_eq_left', true_and, and_true, true_implies, false_implies, implies_true, not_true_eq_false, not_false_eq_true, bI_0, bI_1, bI_01, b01, true_or, or_true, Nat.reduceEqDiff, Bool.not_eq_false, Bool.not_eq_true, Bool.true_eq_false, Bool.false_eq_true, msk hM, msr_given hM, msk_given hM, msl_given hM, hsI, hle]
          refine q_fulfils (hf2.M hM0) (hf2.P (by decide) hp0) hw hc ha2 hG3 ?_
          rw [hs, hsv] at hH
          cases hb : (cK P c).2.2 (ud a ((cK P c).2.1 k) w)
          · rw [hb] at hH
            simp only [Bool.false_eq_true, if_false, Nat.zero_add] at hH
            have h5 := ihv (5 - (w + 1)) (by omega) (w + 1) a cnt (nI w) _ f0 f rfl hk (by omega) (o_add w 1) ha hf2 hG2 hsI (by omega) hH
            simp only [c_0, c_1, c_2, c_3, c_4, c_5, c_6, c_7, c_8, c_9, c_10, c_11, c_12, c_14, c_16, c_19, c_20, c_24, c_31, c_32, c_35, c_48, c_57, c_59, c_63, c_97, c_100, c_122, c_127, c_169, c_255, c_600, c_1000, c_32767, Nat.le_refl, Nat.zero_le, Nat.add_zero, Nat.lt_irrefl, eq_self, o_sub, Nat.sub_zero, Nat.not_lt_zero, ↓ng_d, o_le, o_lt, o_eq, o_add, o_mul, o_cl, o_inT, o_and, n_31, o_shr, o_shl1, o_or, m_lt, m_ge, m_le, m_gt, m_ne, m_ne2, Option.some.injEq, exists_eq_left', true_and, and_true, true_implies, false_implies, implies_true, not_true_eq_false, not_false_eq_true, bI_0, bI_1, bI_01, b01, true_or, or_true, Nat.reduceEqDiff, Bool.not_eq_false, Bool.not_eq_true, Bool.true_eq_false, Bool.false_eq_true]
            exact h5
          · rw [hb] at hH
            simp only [eq_self, if_true, ← Nat.add_assoc] at hH
            have h5 := ihv (5 - (w + 1)) (by omega) (w + 1) a (cnt + 1) (nI w) _ f0 f rfl hk (by omega) (o_add w 1) ha hf2 hG2 hsI (by omega) hH
            have n10 : ¬ (1 : Nat) = 0 := by decide
            simp only [c_0, c_1, c_2, c_3, c_4, c_5, c_6, c_7, c_8, c_9, c_10, c_11, c_12, c_14, c_16, c_19, c_20, c_24, c_31, c_32, c_35, c_48, c_57, c_59, c_63, c_97, c_100, c_122, c_127, c_169, c_255, c_600, c_1000, c_32767, Nat.le_refl, Nat.zero_le, Nat.add_zero, Nat.lt_irrefl, eq_self, o_sub, Nat.sub_zero, Nat.not_lt_zero, ↓ng_d, o_le, o_lt, o_eq, o_add, o_mul, o_cl, o_inT, o_and, n_31, o_shr, o_shl1, o_or, m_lt, m_ge, m_le, m_gt, m_ne, m_ne2, Option.some.injEq, exists_eq_left', true_and, and_true, true_implies, false_implies, implies_true, not_true_eq_false, not_false_eq_true, bI_0, bI_1, bI_01, b01, true_or, or_true, Nat.reduceEqDiff, Bool.not_eq_false, Bool.not_eq_true, Bool.true_eq_false, Bool.false_eq_true]
            exact h5
    intro a cnt g S f0 f h1 h2 h3 h4 h5 h6 h7 h8 h9
    exact inner _ u a cnt g S f0 f rfl (by omega) h2 h3 h4 h5 h6 h7 h8 h9
  | succ r ih =>
    intro k u
    have inner : ∀ (v u : Nat) (a : Nat → Nat) (cnt : Nat) (g : Int32) (S : PS) (f0 f : Nat), 5 - u = v → k + (r + 2) = (cK P c).1 → u ≤ 5 → g + nI 1 = nI u → (∀ j, j < (cK P c).1 → a ((cK P c).2.1 j) < 5) → fr [101] S0 S → rG S (cK P c).2.1 a k → pI S 101 ((cK P c).2.1 k) = g → f0 + (6 - u) * (2 + tC (r + 1)) ≤ f →
      (∀ S' f', f0 ≤ f' → fr [101] S0 S' → rG S' (cK P c).2.1 a k → wpX12_tuplesOf_b24 Q f' S' 87 (nI c) (nI (cK P c).1) (nI (cnt + tS (fun w => if (d ((cK P c).2.1 k)).testBit w = true then cF (cK P c) d (r + 1) (k + 1) (ud a ((cK P c).2.1 k) w) else 0) u)) (nI k + -1)) →
      wpX12_tuplesOf_b24 Q f S 87 (nI c) (nI (cK P c).1) (nI cnt) (nI k) := by
      intro v
      induction v using Nat.strongRecOn with
      | _ v ihv =>
        intro u a cnt g S f0 f hv hk hu hg ha hf hG hcur hfu hH
        have hx := hκ.2.1 k (by omega)
        have hx2 := hκ.2.1 (k + 1) (by omega)
        have hM := hf.M hM0
        have hp := hf.P (by decide) hp0
        have hd := hf.D (by decide) hd0
        have hpos : 2 + tC (r + 1) ≤ (6 - u) * (2 + tC (r + 1)) := Nat.le_mul_of_pos_left _ (by omega)
        obtain ⟨f, rfl⟩ : ∃ j, f = j + 1 := ⟨f - 1, by omega⟩
        have hwk : ∀ Q2 : Int32 → PS → Prop, Q2 (nI ((cK P c).2.1 k)) S → wpX12_of S 87 (nI c) (nI 2 + nI k) Q2 := fun Q2 hq => by
          rw [o_add, w_of hM hp (by omega)]; exact hq
        unfold wpX12_tuplesOf_b24
        simp (disch := omega) only [c_0, c_1, c_2, c_3, c_4, c_5, c_6, c_7, c_8, c_9, c_10, c_11, c_12, c_14, c_16, c_19, c_20, c_24, c_31, c_32, c_35, c_48, c_57, c_59, c_63, c_97, c_100, c_122, c_127, c_169, c_255, c_600, c_1000, c_32767, Nat.le_refl, Nat.zero_le, Nat.add_zero, Nat.lt_irrefl, eq_self, o_sub, Nat.sub_zero, Nat.not_lt_zero, ↓ng_d, o_le, o_lt, o_eq, o_add, o_mul, o_cl, o_inT, o_and, n_31, o_shr, o_shl1, o_or, m_lt, m_ge, m_le, m_gt, m_ne, m_ne2, Option.some.injEq, exists_eq_left', true_and, and_true, true_implies, false_implies, implies_true, not_true_eq_false, not_false_eq_true, bI_0, bI_1, bI_01, b01, true_or, or_true, Nat.reduceEqDiff, Bool.not_eq_false, Bool.not_eq_true, Bool.true_eq_false, Bool.false_eq_true, msk hM]
        rw [show nI (2 + k) = nI 2 + nI k from (o_add 2 k).symm]
        apply hwk
        simp (disch := omega) only [c_0, c_1, c_2, c_3, c_4, c_5, c_6, c_7, c_8, c_9, c_10, c_11, c_12, c_14, c_16, c_19, c_20, c_24, c_31, c_32, c_35, c_48, c_57, c_59, c_63, c_97, c_100, c_122, c_127, c_169, c_255, c_600, c_1000, c_32767, Nat.le_refl, Nat.zero_le, Nat.add_zero, Nat.lt_irrefl, eq_self, o_sub, Nat.sub_zero, Nat.not_lt_zero, ↓ng_d, o_le, o_lt, o_eq, o_add, o_mul, o_cl, o_inT, o_and, n_31, o_shr, o_shl1, o_or, m_lt, m_ge, m_le, m_gt, m_ne, m_ne2, Option.some.injEq, exists_eq_left', true_and, and_true, true_implies, false_implies, implies_true, not_true_eq_false, not_false_eq_true, bI_0, bI_1, bI_01, b01, true_or, or_true, Nat.reduceEqDiff, Bool.not_eq_false, Bool.not_eq_true, Bool.true_eq_false, Bool.false_eq_true, msk hM, msr_given hM, msk_given hM, msl_given hM, hcur]
        refine q_nextValue hM hd hx hg hu (fun hno => ?_) (fun w h1 h2 h3 h4 => ?_)
        · have hs : tS (fun w => if (d ((cK P c).2.1 k)).testBit w = true then cF (cK P c) d (r + 1) (k + 1) (ud a ((cK P c).2.1 k) w) else 0) u = 0 := tS_none (fun w h1 h2 => by rw [hno w h1 h2]; rfl)
          rw [hs, Nat.add_zero] at hH
          have hsI : pI (sI S 101 ((cK P c).2.1 k) ngI) 101 ((cK P c).2.1 k) = ngI := by rw [pI_sI, if_pos ⟨rfl, rfl⟩]
          have h5 := hH (sI S 101 ((cK P c).2.1 k) ngI) f (by omega) (fr_t hf (fr_sI _ _ _ (by decide))) (fun j hj => by
            rw [pI_sI, if_neg (fun q => by have := hκ.2.2.1 j k (by omega) (by omega) q.2; omega)]; exact hG j hj)
          rw [ng_d] at h5
          simp (disch := omega) only [c_0, c_1, c_2, c_3, c_4, c_5, c_6, c_7, c_8, c_9, c_10, c_11, c_12, c_14, c_16, c_19, c_20, c_24, c_31, c_32, c_35, c_48, c_57, c_59, c_63, c_97, c_100, c_122, c_127, c_169, c_255, c_600, c_1000, c_32767, Nat.le_refl, Nat.zero_le, Nat.add_zero, Nat.lt_irrefl, eq_self, o_sub, Nat.sub_zero, Nat.not_lt_zero, ↓ng_d, o_le, o_lt, o_eq, o_add, o_mul, o_cl, o_inT, o_and, n_31, o_shr, o_shl1, o_or, m_lt, m_ge, m_le, m_gt, m_ne, m_ne2, Option.some.injEq, exists_eq_left', true_and, and_true, true_implies, false_implies, implies_true, not_true_eq_false, not_false_eq_true, bI_0, bI_1, bI_01, b01, true_or, or_true, Nat.reduceEqDiff, Bool.not_eq_false, Bool.not_eq_true, Bool.true_eq_false, Bool.false_eq_true, msk hM, msr_given hM, msk_given hM, msl_given hM, hsI]
          exact h5
        · have hs := tS_step (g := fun w => if (d ((cK P c).2.1 k)).testBit w = true then cF (cK P c) d (r + 1) (k + 1) (ud a ((cK P c).2.1 k) w) else 0) h2 h1 (fun j q1 q2 => by
            show (if (d ((cK P c).2.1 k)).testBit j = true then _ else 0) = 0
            rw [h4 j q1 q2]; rfl)
          have hsv : (if (d ((cK P c).2.1 k)).testBit w = true then cF (cK P c) d (r + 1) (k + 1) (ud a ((cK P c).2.1 k) w) else 0) = cF (cK P c) d (r + 1) (k + 1) (ud a ((cK P c).2.1 k) w) := if_pos h3
          have hsI : pI (sI S 101 ((cK P c).2.1 k) (nI w)) 101 ((cK P c).2.1 k) = nI w := by rw [pI_sI, if_pos ⟨rfl, rfl⟩]
          have hf2 : fr [101] S0 (sI S 101 ((cK P c).2.1 k) (nI w)) := fr_t hf (fr_sI _ _ _ (by decide))
          have hG2 : rG (sI S 101 ((cK P c).2.1 k) (nI w)) (cK P c).2.1 (ud a ((cK P c).2.1 k) w) (k + 1) := fun j hj => by
            by_cases q : j = k
            · subst q; rw [ud_s]; exact hsI
            · have hne : (cK P c).2.1 j ≠ (cK P c).2.1 k := fun z => q (hκ.2.2.1 j k (by omega) (by omega) z)
              rw [ud_n _ _ hne, pI_sI, if_neg (fun z => hne z.2)]; exact hG j (by omega)
          have ha2 : ∀ j, j < (cK P c).1 → ud a ((cK P c).2.1 k) w ((cK P c).2.1 j) < 5 := fun j hj => by
            by_cases q : (cK P c).2.1 j = (cK P c).2.1 k
            · rw [q, ud_s]; exact h2
            · rw [ud_n _ _ q]; exact ha j hj
          have hle : ¬ (cK P c).1 ≤ k + 1 := by omega
          have hwk2 : ∀ Q2 : Int32 → PS → Prop, Q2 (nI ((cK P c).2.1 (k + 1))) (sI S 101 ((cK P c).2.1 k) (nI w)) → wpX12_of (sI S 101 ((cK P c).2.1 k) (nI w)) 87 (nI c) (nI (2 + (k + 1))) Q2 := fun Q2 hq => by
            rw [w_of (hf2.M hM0) (hf2.P (by decide) hp0) (by omega)]; exact hq
          simp (disch := omega) only [c_0, c_1, c_2, c_3, c_4, c_5, c_6, c_7, c_8, c_9, c_10, c_11, c_12, c_14, c_16, c_19, c_20, c_24, c_31, c_32, c_35, c_48, c_57, c_59, c_63, c_97, c_100, c_122, c_127, c_169, c_255, c_600, c_1000, c_32767, Nat.le_refl, Nat.zero_le, Nat.add_zero, Nat.lt_irrefl, eq_self, o_sub, Nat.sub_zero, Nat.not_lt_zero, ↓ng_d, o_le, o_lt, o_eq, o_add, o_mul, o_cl, o_inT, o_and, n_31, o_shr, o_shl1, o_or, m_lt, m_ge, m_le, m_gt, m_ne, m_ne2, Option.some.injEq, exists_eq_left', true_and, and_true, true_implies, false_implies, implies_true, not_true_eq_false, not_false_eq_true, bI_0, bI_1, bI_01, b01, true_or, or_true, Nat.reduceEqDiff, Bool.not_eq_false, Bool.not_eq_true, Bool.true_eq_false, Bool.false_eq_true, msk hM, msr_given hM, msk_given hM, msl_given hM, hsI, hle]
          apply hwk2
          have hx2i : vp_in (nI ((cK P c).2.1 (k + 1))) 7 = True := o_inT (by omega) hx2
          simp (disch := omega) only [c_0, c_1, c_2, c_3, c_4, c_5, c_6, c_7, c_8, c_9, c_10, c_11, c_12, c_14, c_16, c_19, c_20, c_24, c_31, c_32, c_35, c_48, c_57, c_59, c_63, c_97, c_100, c_122, c_127, c_169, c_255, c_600, c_1000, c_32767, Nat.le_refl, Nat.zero_le, Nat.add_zero, Nat.lt_irrefl, eq_self, o_sub, Nat.sub_zero, Nat.not_lt_zero, ↓ng_d, o_le, o_lt, o_eq, o_add, o_mul, o_cl, o_inT, o_and, n_31, o_shr, o_shl1, o_or, m_lt, m_ge, m_le, m_gt, m_ne, m_ne2, Option.some.injEq, exists_eq_left', true_and, and_true, true_implies, false_implies, implies_true, not_true_eq_false, not_false_eq_true, bI_0, bI_1, bI_01, b01, true_or, or_true, Nat.reduceEqDiff, Bool.not_eq_false, Bool.not_eq_true, Bool.true_eq_false, Bool.false_eq_true, pK_sI, pL_sI, msk_given hM, msl_given hM]
          rw [hs, hsv] at hH
          have hf3 : fr [101] S0 (sI (sI S 101 ((cK P c).2.1 k) (nI w)) 101 ((cK P c).2.1 (k + 1)) ngI) := fr_t hf2 (fr_sI _ _ _ (by decide))
          have hG4 : rG (sI (sI S 101 ((cK P c).2.1 k) (nI w)) 101 ((cK P c).2.1 (k + 1)) ngI) (cK P c).2.1 (ud a ((cK P c).2.1 k) w) (k + 1) := fun j hj => by
            rw [pI_sI, if_neg (fun q => by have := hκ.2.2.1 j (k + 1) (by omega) (by omega) q.2; omega)]; exact hG2 j hj
          have hmul : (6 - u) * (2 + tC (r + 1)) = (6 - (u + 1)) * (2 + tC (r + 1)) + (2 + tC (r + 1)) := by
            rw [show 6 - u = (6 - (u + 1)) + 1 by omega, Nat.add_mul, Nat.one_mul]
          have hmul2 : (6 - (w + 1)) * (2 + tC (r + 1)) ≤ (6 - (u + 1)) * (2 + tC (r + 1)) := Nat.mul_le_mul_right _ (by omega)
          have htc := tC_s r
          have h5 := ih (k + 1) 0 (ud a ((cK P c).2.1 k) w) cnt ngI _ (f0 + (6 - (w + 1)) * (2 + tC (r + 1))) f (by omega) (by omega) (by decide) ha2 hf3 hG4 (by rw [pI_sI, if_pos ⟨rfl, rfl⟩]) (by omega) (fun S' f' q1 q2 q3 => by
            have hG5 : rG S' (cK P c).2.1 a k := fun j hj => by
              have := q3 j (by omega)
              rw [ud_n _ _ (fun z => by have := hκ.2.2.1 j k (by omega) (by omega) z; omega)] at this
              exact this
            have hcur2 : pI S' 101 ((cK P c).2.1 k) = nI w := by
              have := q3 k (by omega)
              rw [ud_s] at this
              exact this
            have h6 := ihv (5 - (w + 1)) (by omega) (w + 1) a (cnt + cF (cK P c) d (r + 1) (k + 1) (ud a ((cK P c).2.1 k) w)) (nI w) S' f0 f' rfl hk (by omega) (o_add w 1) ha q2 hG5 hcur2 q1 (by
              rw [← Nat.add_assoc] at hH
              exact hH)
            rw [tS_0, ← cF_s, pk_m1]
            exact h6)
          exact h5
    intro a cnt g S f0 f h1 h2 h3 h4 h5 h6 h7 h8 h9
    exact inner _ u a cnt g S f0 f rfl (by omega) h2 h3 h4 h5 h6 h7 h8 h9
theorem q_tuplesOf {S : PS} {P d : Nat → Nat} {c : Nat} {Q : Int32 → PS → Prop} (hM : MShape S) (hp : rP S P) (hw : Pwf P) (hc : c < P 1) (hd : rD S 90 d) (hQ : ∀ S', fr [101] S S' → Q (nI (nF (cK P c) d)) S') : wpX12_tuplesOf S 87 (nI c) Q := by
  have hκ := cK_wf (hw.2.2.2.2.2 c hc) hw.1
  have hc8 : c < 8 := Nat.lt_of_lt_of_le hc hw.2.1
  have hn7 := hκ.1
  have hn0 : 0 < (cK P c).1 := (hw.2.2.2.2.2 c hc).2.1
  have hx0 := hκ.2.1 0 hn0
  have hf2 : fr [101] S (sI S 101 ((cK P c).2.1 0) ngI) := fr_sI _ _ _ (by decide)
  have hne : ((cK P c).1 - 1) + 1 = (cK P c).1 := by omega
  have h1 := q_tup (Q := Q) hM hp hw hc hd ((cK P c).1 - 1) 0 0 (fun _ => 0) 0 ngI (sI S 101 ((cK P c).2.1 0) ngI) 1 (1 + 6 * (2 + tC ((cK P c).1 - 1))) (by omega) (by omega) (by decide) (fun _ _ => by decide) hf2 (fun j hj => by omega) (by rw [pI_sI, if_pos ⟨rfl, rfl⟩]) (by omega) (fun S' f' q1 q2 q3 => by
    obtain ⟨f', rfl⟩ : ∃ j, f' = j + 1 := ⟨f' - 1, by omega⟩
    have h2 := hQ S' q2
    have e : (nI 0 + -1 : Int32) = ngI := by decide
    rw [e, tS_0, ← cF_s, hne, Nat.zero_add]
    have e2 : (ngI < nI 0) = True := m_lt 0 (by decide)
    simp (disch := omega) only [wpX12_tuplesOf_b24, c_0, c_1, c_2, c_3, c_4, c_5, c_6, c_7, c_8, c_9, c_10, c_11, c_12, c_14, c_16, c_19, c_20, c_24, c_31, c_32, c_35, c_48, c_57, c_59, c_63, c_97, c_100, c_122, c_127, c_169, c_255, c_600, c_1000, c_32767, Nat.le_refl, Nat.zero_le, Nat.add_zero, Nat.lt_irrefl, eq_self, o_sub, Nat.sub_zero, Nat.not_lt_zero, ↓ng_d, o_le, o_lt, o_eq, o_add, o_mul, o_cl, o_inT, o_and, n_31, o_shr, o_shl1, o_or, m_lt, m_ge, m_le, m_gt, m_ne, m_ne2, Option.some.injEq, exists_eq_left', true_and, and_true, true_implies, false_implies, implies_true, not_true_eq_false, not_false_eq_true, bI_0, bI_1, bI_01, b01, true_or, or_true, Nat.reduceEqDiff, Bool.not_eq_false, Bool.not_eq_true, Bool.true_eq_false, Bool.false_eq_true]
    exact h2)
  have hw1 : ∀ Q2 : Int32 → PS → Prop, Q2 (nI (cK P c).1) S → wpX12_of S 87 (nI c) (nI 1) Q2 := fun Q2 hq => by rw [w_of hM hp (by omega)]; exact hq
  have hw2 : ∀ Q2 : Int32 → PS → Prop, Q2 (nI ((cK P c).2.1 0)) S → wpX12_of S 87 (nI c) (nI 2) Q2 := fun Q2 hq => by rw [w_of hM hp (by omega)]; exact hq
  simp (disch := omega) only [wpX12_tuplesOf, c_0, c_1, c_2, c_3, c_4, c_5, c_6, c_7, c_8, c_9, c_10, c_11, c_12, c_14, c_16, c_19, c_20, c_24, c_31, c_32, c_35, c_48, c_57, c_59, c_63, c_97, c_100, c_122, c_127, c_169, c_255, c_600, c_1000, c_32767, Nat.le_refl, Nat.zero_le, Nat.add_zero, Nat.lt_irrefl, eq_self, o_sub, Nat.sub_zero, Nat.not_lt_zero, ↓ng_d, o_le, o_lt, o_eq, o_add, o_mul, o_cl, o_inT, o_and, n_31, o_shr, o_shl1, o_or, m_lt, m_ge, m_le, m_gt, m_ne, m_ne2, Option.some.injEq, exists_eq_left', true_and, and_true, true_implies, false_implies, implies_true, not_true_eq_false, not_false_eq_true, bI_0, bI_1, bI_01, b01, true_or, or_true, Nat.reduceEqDiff, Bool.not_eq_false, Bool.not_eq_true, Bool.true_eq_false, Bool.false_eq_true, msk hM]
  apply hw1
  simp (disch := omega) only [c_0, c_1, c_2, c_3, c_4, c_5, c_6, c_7, c_8, c_9, c_10, c_11, c_12, c_14, c_16, c_19, c_20, c_24, c_31, c_32, c_35, c_48, c_57, c_59, c_63, c_97, c_100, c_122, c_127, c_169, c_255, c_600, c_1000, c_32767, Nat.le_refl, Nat.zero_le, Nat.add_zero, Nat.lt_irrefl, eq_self, o_sub, Nat.sub_zero, Nat.not_lt_zero, ↓ng_d, o_le, o_lt, o_eq, o_add, o_mul, o_cl, o_inT, o_and, n_31, o_shr, o_shl1, o_or, m_lt, m_ge, m_le, m_gt, m_ne, m_ne2, Option.some.injEq, exists_eq_left', true_and, and_true, true_implies, false_implies, implies_true, not_true_eq_false, not_false_eq_true, bI_0, bI_1, bI_01, b01, true_or, or_true, Nat.reduceEqDiff, Bool.not_eq_false, Bool.not_eq_true, Bool.true_eq_false, Bool.false_eq_true, msk hM, msr_given hM]
  apply hw2
  simp (disch := omega) only [c_0, c_1, c_2, c_3, c_4, c_5, c_6, c_7, c_8, c_9, c_10, c_11, c_12, c_14, c_16, c_19, c_20, c_24, c_31, c_32, c_35, c_48, c_57, c_59, c_63, c_97, c_100, c_122, c_127, c_169, c_255, c_600, c_1000, c_32767, Nat.le_refl, Nat.zero_le, Nat.add_zero, Nat.lt_irrefl, eq_self, o_sub, Nat.sub_zero, Nat.not_lt_zero, ↓ng_d, o_le, o_lt, o_eq, o_add, o_mul, o_cl, o_inT, o_and, n_31, o_shr, o_shl1, o_or, m_lt, m_ge, m_le, m_gt, m_ne, m_ne2, Option.some.injEq, exists_eq_left', true_and, and_true, true_implies, false_implies, implies_true, not_true_eq_false, not_false_eq_true, bI_0, bI_1, bI_01, b01, true_or, or_true, Nat.reduceEqDiff, Bool.not_eq_false, Bool.not_eq_true, Bool.true_eq_false, Bool.false_eq_true, msk hM, msk_given hM, msl_given hM]
  exact ⟨_, h1⟩

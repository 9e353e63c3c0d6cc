/-! THE REFERENCE: how many fulfil; least supports -/
theorem bI_p (q : Prop) [Decidable q] : (bI (decide q) = nI 0) = ¬ q := by rw [bI_0]; simp
/-- values that are given, for some members -/
def rG (S : PS) (m a : Nat → Nat) (n : Nat) : Prop := ∀ k, k < n → pI S 101 (m k) = nI (a (m k))
theorem q_givenIn {S : PS} {P a : Nat → Nat} {c s i0 j0 : Nat} {Q : Int32 → PS → Prop} (hM : MShape S) (hp : rP S P) (hc : c < 8) (hm : ∀ k, k < P (9 + 20 * c + 1) → P (9 + 20 * c + (2 + k)) < 7) (hm7 : P (9 + 20 * c + 1) ≤ 7) (hs : s < 32) (hij : i0 ≤ j0) (hj : j0 ≤ P (9 + 20 * c + 1)) (ha : ∀ k, k < P (9 + 20 * c + 1) → a (P (9 + 20 * c + (2 + k))) < 5) (hg : rG S (fun k => P (9 + 20 * c + (2 + k))) a (P (9 + 20 * c + 1)))
    (hQ : Q (nI (cN (fun j => s.testBit (a (P (9 + 20 * c + (2 + (i0 + j)))))) (j0 - i0))) S) : wpX12_givenIn S 87 (nI c) (nI i0) (nI j0) (nI s) Q := by
  have main : ∀ r j, j + r = j0 - i0 → wpX12_givenIn_b6 Q (r + 1) S 87 (nI c) (nI i0) (nI j0) (nI s) (nI (cN (fun j => s.testBit (a (P (9 + 20 * c + (2 + (i0 + j)))))) j)) (nI (i0 + j)) := by
    intro r
    induction r with
    | zero =>
      intro j hjr
      have e : j = j0 - i0 := by omega
      subst e
      have e1 : j0 ≤ i0 + (j0 - i0) := by omega
      simp (disch := omega) only [wpX12_givenIn_b6, c_0, c_1, c_2, c_3, c_4, c_5, c_6, c_7, c_8, c_9, c_10, c_11, c_12, c_14, c_16, c_19, c_20, c_24, c_31, c_32, c_35, c_48, c_57, c_59, c_63, c_97, c_100, c_122, c_127, c_169, c_255, c_600, c_1000, c_32767, Nat.le_refl, Nat.zero_le, Nat.add_zero, Nat.lt_irrefl, eq_self, o_sub, Nat.sub_zero, Nat.not_lt_zero, ↓ng_d, o_le, o_lt, o_eq, o_add, o_mul, o_cl, o_inT, o_and, n_31, o_shr, o_shl1, o_or, m_lt, m_ge, m_le, m_gt, m_ne, m_ne2, Option.some.injEq, exists_eq_left', true_and, and_true, true_implies, false_implies, implies_true, not_true_eq_false, not_false_eq_true, bI_0, bI_1, bI_01, b01, true_or, or_true, Nat.reduceEqDiff, Bool.not_eq_false, Bool.not_eq_true, Bool.true_eq_false, Bool.false_eq_true, e1]
      exact hQ
    | succ r ih =>
      intro j hjr
      have e1 : ¬ j0 ≤ i0 + j := by omega
      have hk : i0 + j < P (9 + 20 * c + 1) := by omega
      have hx := hm _ hk
      have hgk : pI S 101 (P (9 + 20 * c + (2 + (i0 + j)))) = nI (a (P (9 + 20 * c + (2 + (i0 + j))))) := hg _ hk
      have ha5 := ha _ hk
      have hn := ih (j + 1) (by omega)
      generalize r + 1 = fu at hn ⊢
      rw [cN_s, show i0 + (j + 1) = i0 + j + 1 by omega] at hn
      cases hb : s.testBit (a (P (9 + 20 * c + (2 + (i0 + j)))))
      · rw [hb] at hn
        simp only [Bool.false_eq_true, if_false, Nat.add_zero] at hn
        simp (disch := omega) only [wpX12_givenIn_b6, c_0, c_1, c_2, c_3, c_4, c_5, c_6, c_7, c_8, c_9, c_10, c_11, c_12, c_14, c_16, c_19, c_20, c_24, c_31, c_32, c_35, c_48, c_57, c_59, c_63, c_97, c_100, c_122, c_127, c_169, c_255, c_600, c_1000, c_32767, Nat.le_refl, Nat.zero_le, Nat.add_zero, Nat.lt_irrefl, eq_self, o_sub, Nat.sub_zero, Nat.not_lt_zero, ↓ng_d, o_le, o_lt, o_eq, o_add, o_mul, o_cl, o_inT, o_and, n_31, o_shr, o_shl1, o_or, m_lt, m_ge, m_le, m_gt, m_ne, m_ne2, Option.some.injEq, exists_eq_left', true_and, and_true, true_implies, false_implies, implies_true, not_true_eq_false, not_false_eq_true, bI_0, bI_1, bI_01, b01, true_or, or_true, Nat.reduceEqDiff, Bool.not_eq_false, Bool.not_eq_true, Bool.true_eq_false, Bool.false_eq_true, e1, msk hM, msr_given hM, msk_given hM, msl_given hM, w_of hM hp, hgk, w_has, hb]
        exact hn
      · rw [hb] at hn
        simp only [eq_self, if_true] at hn
        simp (disch := omega) only [wpX12_givenIn_b6, c_0, c_1, c_2, c_3, c_4, c_5, c_6, c_7, c_8, c_9, c_10, c_11, c_12, c_14, c_16, c_19, c_20, c_24, c_31, c_32, c_35, c_48, c_57, c_59, c_63, c_97, c_100, c_122, c_127, c_169, c_255, c_600, c_1000, c_32767, Nat.le_refl, Nat.zero_le, Nat.add_zero, Nat.lt_irrefl, eq_self, o_sub, Nat.sub_zero, Nat.not_lt_zero, ↓ng_d, o_le, o_lt, o_eq, o_add, o_mul, o_cl, o_inT, o_and, n_31, o_shr, o_shl1, o_or, m_lt, m_ge, m_le, m_gt, m_ne, m_ne2, Option.some.injEq, exists_eq_left', true_and, and_true, true_implies, false_implies, implies_true, not_true_eq_false, not_false_eq_true, bI_0, bI_1, bI_01, b01, true_or, or_true, Nat.reduceEqDiff, Bool.not_eq_false, Bool.not_eq_true, Bool.true_eq_false, Bool.false_eq_true, e1, msk hM, msr_given hM, msk_given hM, msl_given hM, w_of hM hp, hgk, w_has, hb]
        exact hn
  have h1 := main (j0 - i0) 0 (Nat.zero_add _)
  unfold wpX12_givenIn
  exact ⟨_, h1⟩
theorem q_fulfils {S : PS} {P a : Nat → Nat} {c : Nat} {Q : Int32 → PS → Prop} (hM : MShape S) (hp : rP S P) (hw : Pwf P) (hc : c < P 1) (ha : ∀ k, k < (cK P c).1 → a ((cK P c).2.1 k) < 5) (hg : rG S (cK P c).2.1 a (cK P c).1) (hQ : Q (bI ((cK P c).2.2 a)) S) : wpX12_fulfils S 87 (nI c) Q := by
  have hw2 := hw.2.2.2.2.2 c hc
  have hc8 : c < 8 := Nat.lt_of_lt_of_le hc hw.2.1
  obtain ⟨g0, g1, g2, g3, g4, g5, g6, g7, -, g9, g10⟩ := hw2
  have hm7 : ∀ k, k < P (9 + 20 * c + 1) → P (9 + 20 * c + (2 + k)) < 7 := fun k hk => Nat.lt_of_lt_of_le (g3 k hk) hw.1
  have m0 : P (9 + 20 * c + 2) < 7 := g10 0 (by decide)
  have m1 : P (9 + 20 * c + 3) < 7 := g10 1 (by decide)
  have ha' : ∀ k, k < P (9 + 20 * c + 1) → a (P (9 + 20 * c + (2 + k))) < 5 := ha
  have hg' : rG S (fun k => P (9 + 20 * c + (2 + k))) a (P (9 + 20 * c + 1)) := hg
  have hQ2 : ∀ b : Bool, b = (cK P c).2.2 a → ((bI b = nI 0 ∨ bI b = nI 1) ∧ Q (bI b) S) := fun b q => ⟨by rw [bI_01]; trivial, by rw [q]; exact hQ⟩
  have hk : P (9 + 20 * c) = 0 ∨ P (9 + 20 * c) = 1 ∨ P (9 + 20 * c) = 2 ∨ P (9 + 20 * c) = 3 := by omega
  rcases hk with hk | hk | hk | hk
  · have hok : (cK P c).2.2 a = okCounts (P (9 + 20 * c + 1)) (fun k => P (9 + 20 * c + (2 + k))) (fun v => P (9 + 20 * c + (9 + v))) (fun v => P (9 + 20 * c + (14 + v))) a := by
      show cOk P c a = _
      unfold cOk
      rw [if_pos hk]
    have main : ∀ r v, v + r = 5 → (∀ u, u < v → P (9 + 20 * c + (9 + u)) ≤ cnt (fun k => P (9 + 20 * c + (2 + k))) a u (P (9 + 20 * c + 1)) ∧ cnt (fun k => P (9 + 20 * c + (2 + k))) a u (P (9 + 20 * c + 1)) ≤ P (9 + 20 * c + (14 + u))) → wpX12_isCounted_b2 (fun r S => ((r = nI 0 ∨ r = nI 1) ∧ Q r S)) (r + 1) S 87 (nI c) (nI v) := by
      intro r
      induction r with
      | zero =>
        intro v hv hall
        have : v = 5 := by omega
        subst this
        have h1 := hQ2 true (by rw [hok]; exact (dB_t.mpr hall).symm)
        simp (disch := omega) only [wpX12_isCounted_b2, c_0, c_1, c_2, c_3, c_4, c_5, c_6, c_7, c_8, c_9, c_10, c_11, c_12, c_14, c_16, c_19, c_20, c_24, c_31, c_32, c_35, c_48, c_57, c_59, c_63, c_97, c_100, c_122, c_127, c_169, c_255, c_600, c_1000, c_32767, Nat.le_refl, Nat.zero_le, Nat.add_zero, Nat.lt_irrefl, eq_self, o_sub, Nat.sub_zero, Nat.not_lt_zero, ↓ng_d, o_le, o_lt, o_eq, o_add, o_mul, o_cl, o_inT, o_and, n_31, o_shr, o_shl1, o_or, m_lt, m_ge, m_le, m_gt, m_ne, m_ne2, Option.some.injEq, exists_eq_left', true_and, and_true, true_implies, false_implies, implies_true, not_true_eq_false, not_false_eq_true, bI_0, bI_1, bI_01, b01, true_or, or_true, Nat.reduceEqDiff, Bool.not_eq_false, Bool.not_eq_true, Bool.true_eq_false, Bool.false_eq_true]
        exact h1.2
      | succ r ih =>
        intro v hv hall
        have e5 : ¬ 5 ≤ v := by omega
        have hv5 : v < 5 := by omega
        have p1 := g9 (9 + v) (by omega)
        have p2 := g9 (14 + v) (by omega)
        have hn := ih (v + 1) (by omega)
        generalize r + 1 = fu at hn ⊢
        simp (disch := omega) only [wpX12_isCounted_b2, c_0, c_1, c_2, c_3, c_4, c_5, c_6, c_7, c_8, c_9, c_10, c_11, c_12, c_14, c_16, c_19, c_20, c_24, c_31, c_32, c_35, c_48, c_57, c_59, c_63, c_97, c_100, c_122, c_127, c_169, c_255, c_600, c_1000, c_32767, Nat.le_refl, Nat.zero_le, Nat.add_zero, Nat.lt_irrefl, eq_self, o_sub, Nat.sub_zero, Nat.not_lt_zero, ↓ng_d, o_le, o_lt, o_eq, o_add, o_mul, o_cl, o_inT, o_and, n_31, o_shr, o_shl1, o_or, m_lt, m_ge, m_le, m_gt, m_ne, m_ne2, Option.some.injEq, exists_eq_left', true_and, and_true, true_implies, false_implies, implies_true, not_true_eq_false, not_false_eq_true, bI_0, bI_1, bI_01, b01, true_or, or_true, Nat.reduceEqDiff, Bool.not_eq_false, Bool.not_eq_true, Bool.true_eq_false, Bool.false_eq_true, e5, msk hM, w_of hM hp]
        refine q_givenIn hM hp hc8 hm7 g2 (dm_pow_lt v hv5) (Nat.zero_le _) (Nat.le_refl _) ha' hg' ?_
        have hcnt : cN (fun j => (2 ^ v).testBit (a (P (9 + 20 * c + (2 + (0 + j)))))) (P (9 + 20 * c + 1) - 0) = cnt (fun k => P (9 + 20 * c + (2 + k))) a v (P (9 + 20 * c + 1)) := cN_cong (fun j hj => by
          rw [Nat.zero_add, dm_pow_tb v hv5 _ (ha' j hj)])
        rw [hcnt]
        have hc7 : cnt (fun k => P (9 + 20 * c + (2 + k))) a v (P (9 + 20 * c + 1)) ≤ P (9 + 20 * c + 1) := cN_le _ _
        simp (disch := omega) only [c_0, c_1, c_2, c_3, c_4, c_5, c_6, c_7, c_8, c_9, c_10, c_11, c_12, c_14, c_16, c_19, c_20, c_24, c_31, c_32, c_35, c_48, c_57, c_59, c_63, c_97, c_100, c_122, c_127, c_169, c_255, c_600, c_1000, c_32767, Nat.le_refl, Nat.zero_le, Nat.add_zero, Nat.lt_irrefl, eq_self, o_sub, Nat.sub_zero, Nat.not_lt_zero, ↓ng_d, o_le, o_lt, o_eq, o_add, o_mul, o_cl, o_inT, o_and, n_31, o_shr, o_shl1, o_or, m_lt, m_ge, m_le, m_gt, m_ne, m_ne2, Option.some.injEq, exists_eq_left', true_and, and_true, true_implies, false_implies, implies_true, not_true_eq_false, not_false_eq_true, bI_0, bI_1, bI_01, b01, true_or, or_true, Nat.reduceEqDiff, Bool.not_eq_false, Bool.not_eq_true, Bool.true_eq_false, Bool.false_eq_true, msk hM, w_of hM hp, w_isIn]
        by_cases q : P (9 + 20 * c + (9 + v)) ≤ cnt (fun k => P (9 + 20 * c + (2 + k))) a v (P (9 + 20 * c + 1)) ∧ cnt (fun k => P (9 + 20 * c + (2 + k))) a v (P (9 + 20 * c + 1)) ≤ P (9 + 20 * c + (14 + v))
        · have h1 := hn (fun u hu => by
            by_cases z : u = v
            · subst z; exact q
            · exact hall u (by omega))
          simp only [decide_eq_true q, c_0, c_1, c_2, c_3, c_4, c_5, c_6, c_7, c_8, c_9, c_10, c_11, c_12, c_14, c_16, c_19, c_20, c_24, c_31, c_32, c_35, c_48, c_57, c_59, c_63, c_97, c_100, c_122, c_127, c_169, c_255, c_600, c_1000, c_32767, Nat.le_refl, Nat.zero_le, Nat.add_zero, Nat.lt_irrefl, eq_self, o_sub, Nat.sub_zero, Nat.not_lt_zero, ↓ng_d, o_le, o_lt, o_eq, o_add, o_mul, o_cl, o_inT, o_and, n_31, o_shr, o_shl1, o_or, m_lt, m_ge, m_le, m_gt, m_ne, m_ne2, Option.some.injEq, exists_eq_left', true_and, and_true, true_implies, false_implies, implies_true, not_true_eq_false, not_false_eq_true, bI_0, bI_1, bI_01, b01, true_or, or_true, Nat.reduceEqDiff, Bool.not_eq_false, Bool.not_eq_true, Bool.true_eq_false, Bool.false_eq_true]
          exact h1
        · have h1 := hQ2 false (by rw [hok]; exact (dB_f.mpr (fun z => q (z v hv5))).symm)
          simp only [decide_eq_false q, c_0, c_1, c_2, c_3, c_4, c_5, c_6, c_7, c_8, c_9, c_10, c_11, c_12, c_14, c_16, c_19, c_20, c_24, c_31, c_32, c_35, c_48, c_57, c_59, c_63, c_97, c_100, c_122, c_127, c_169, c_255, c_600, c_1000, c_32767, Nat.le_refl, Nat.zero_le, Nat.add_zero, Nat.lt_irrefl, eq_self, o_sub, Nat.sub_zero, Nat.not_lt_zero, ↓ng_d, o_le, o_lt, o_eq, o_add, o_mul, o_cl, o_inT, o_and, n_31, o_shr, o_shl1, o_or, m_lt, m_ge, m_le, m_gt, m_ne, m_ne2, Option.some.injEq, exists_eq_left', true_and, and_true, true_implies, false_implies, implies_true, not_true_eq_false, not_false_eq_true, bI_0, bI_1, bI_01, b01, true_or, or_true, Nat.reduceEqDiff, Bool.not_eq_false, Bool.not_eq_true, Bool.true_eq_false, Bool.false_eq_true]
          exact h1.2
    have h2 := main 5 0 rfl (fun u hu => by omega)
    have n1 : ¬ (0 : Nat) = 1 := by decide
    have n2 : ¬ (0 : Nat) = 2 := by decide
    simp (disch := omega) only [wpX12_fulfils, w_of hM hp, msk hM, msr_given hM, msk_given hM, msl_given hM, c_0, c_1, c_2, c_3, c_4, c_5, c_6, c_7, c_8, c_9, c_10, c_11, c_12, c_14, c_16, c_19, c_20, c_24, c_31, c_32, c_35, c_48, c_57, c_59, c_63, c_97, c_100, c_122, c_127, c_169, c_255, c_600, c_1000, c_32767, Nat.le_refl, Nat.zero_le, Nat.add_zero, Nat.lt_irrefl, eq_self, o_sub, Nat.sub_zero, Nat.not_lt_zero, ↓ng_d, o_le, o_lt, o_eq, o_add, o_mul, o_cl, o_inT, o_and, n_31, o_shr, o_shl1, o_or, m_lt, m_ge, m_le, m_gt, m_ne, m_ne2, Option.some.injEq, exists_eq_left', true_and, and_true, true_implies, false_implies, implies_true, not_true_eq_false, not_false_eq_true, bI_0, bI_1, bI_01, b01, true_or, or_true, Nat.reduceEqDiff, Bool.not_eq_false, Bool.not_eq_true, Bool.true_eq_false, Bool.false_eq_true, hk, n1, n2, and_false, false_and]
    unfold wpX12_isCounted
    exact ⟨_, h2⟩
  · obtain ⟨w0, w4, s0, s5, lh, hw'⟩ := g6 hk
    have hl := g9 11 (by decide)
    have hh := g9 12 (by decide)
    have hok : (cK P c).2.2 a = okWindow (P (9 + 20 * c + 1)) (fun k => P (9 + 20 * c + (2 + k))) (P (9 + 20 * c + 9)) (P (9 + 20 * c + 10)) (P (9 + 20 * c + 11)) (P (9 + 20 * c + 12)) a := by
      show cOk P c a = _
      unfold cOk
      rw [if_neg (by omega), if_pos hk]
    have main : ∀ r k, P (9 + 20 * c + 1) < k + r → k + r ≤ P (9 + 20 * c + 1) + 5 → P (9 + 20 * c + 9) ≤ k → (∀ i, i + P (9 + 20 * c + 9) < k → i + P (9 + 20 * c + 9) ≤ P (9 + 20 * c + 1) → P (9 + 20 * c + 11) ≤ wct (P (9 + 20 * c + 9)) (P (9 + 20 * c + 10)) (fun k => P (9 + 20 * c + (2 + k))) a i ∧ wct (P (9 + 20 * c + 9)) (P (9 + 20 * c + 10)) (fun k => P (9 + 20 * c + (2 + k))) a i ≤ P (9 + 20 * c + 12)) → wpX12_isSlid_b8 (fun r S => ((r = nI 0 ∨ r = nI 1) ∧ Q r S)) (r + 1) S 87 (nI c) (nI k) := by
      intro r
      induction r with
      | zero =>
        intro k h1 h2 h3 hall
        have e : P (9 + 20 * c + 1) < k := by omega
        have h4 := hQ2 true (by rw [hok]; exact (dB_t.mpr (fun i hi => hall i (by omega) hi)).symm)
        simp (disch := omega) only [wpX12_isSlid_b8, c_0, c_1, c_2, c_3, c_4, c_5, c_6, c_7, c_8, c_9, c_10, c_11, c_12, c_14, c_16, c_19, c_20, c_24, c_31, c_32, c_35, c_48, c_57, c_59, c_63, c_97, c_100, c_122, c_127, c_169, c_255, c_600, c_1000, c_32767, Nat.le_refl, Nat.zero_le, Nat.add_zero, Nat.lt_irrefl, eq_self, o_sub, Nat.sub_zero, Nat.not_lt_zero, ↓ng_d, o_le, o_lt, o_eq, o_add, o_mul, o_cl, o_inT, o_and, n_31, o_shr, o_shl1, o_or, m_lt, m_ge, m_le, m_gt, m_ne, m_ne2, Option.some.injEq, exists_eq_left', true_and, and_true, true_implies, false_implies, implies_true, not_true_eq_false, not_false_eq_true, bI_0, bI_1, bI_01, b01, true_or, or_true, Nat.reduceEqDiff, Bool.not_eq_false, Bool.not_eq_true, Bool.true_eq_false, Bool.false_eq_true, msk hM, w_of hM hp, e]
        exact h4.2
      | succ r ih =>
        intro k h1 h2 h3 hall
        by_cases e : P (9 + 20 * c + 1) < k
        · have h4 := hQ2 true (by rw [hok]; exact (dB_t.mpr (fun i hi => hall i (by omega) hi)).symm)
          simp (disch := omega) only [wpX12_isSlid_b8, c_0, c_1, c_2, c_3, c_4, c_5, c_6, c_7, c_8, c_9, c_10, c_11, c_12, c_14, c_16, c_19, c_20, c_24, c_31, c_32, c_35, c_48, c_57, c_59, c_63, c_97, c_100, c_122, c_127, c_169, c_255, c_600, c_1000, c_32767, Nat.le_refl, Nat.zero_le, Nat.add_zero, Nat.lt_irrefl, eq_self, o_sub, Nat.sub_zero, Nat.not_lt_zero, ↓ng_d, o_le, o_lt, o_eq, o_add, o_mul, o_cl, o_inT, o_and, n_31, o_shr, o_shl1, o_or, m_lt, m_ge, m_le, m_gt, m_ne, m_ne2, Option.some.injEq, exists_eq_left', true_and, and_true, true_implies, false_implies, implies_true, not_true_eq_false, not_false_eq_true, bI_0, bI_1, bI_01, b01, true_or, or_true, Nat.reduceEqDiff, Bool.not_eq_false, Bool.not_eq_true, Bool.true_eq_false, Bool.false_eq_true, msk hM, w_of hM hp, e]
          exact h4.2
        · have hn := ih (k + 1) (by omega) (by omega) (by omega)
          generalize r + 1 = fu at hn ⊢
          simp (disch := omega) only [wpX12_isSlid_b8, c_0, c_1, c_2, c_3, c_4, c_5, c_6, c_7, c_8, c_9, c_10, c_11, c_12, c_14, c_16, c_19, c_20, c_24, c_31, c_32, c_35, c_48, c_57, c_59, c_63, c_97, c_100, c_122, c_127, c_169, c_255, c_600, c_1000, c_32767, Nat.le_refl, Nat.zero_le, Nat.add_zero, Nat.lt_irrefl, eq_self, o_sub, Nat.sub_zero, Nat.not_lt_zero, ↓ng_d, o_le, o_lt, o_eq, o_add, o_mul, o_cl, o_inT, o_and, n_31, o_shr, o_shl1, o_or, m_lt, m_ge, m_le, m_gt, m_ne, m_ne2, Option.some.injEq, exists_eq_left', true_and, and_true, true_implies, false_implies, implies_true, not_true_eq_false, not_false_eq_true, bI_0, bI_1, bI_01, b01, true_or, or_true, Nat.reduceEqDiff, Bool.not_eq_false, Bool.not_eq_true, Bool.true_eq_false, Bool.false_eq_true, msk hM, w_of hM hp, e]
          refine q_givenIn hM hp hc8 hm7 g2 s5 (by omega) (by omega) ha' hg' ?_
          have hcnt : cN (fun j => (P (9 + 20 * c + 10)).testBit (a (P (9 + 20 * c + (2 + (k - P (9 + 20 * c + 9) + j)))))) (k - (k - P (9 + 20 * c + 9))) = wct (P (9 + 20 * c + 9)) (P (9 + 20 * c + 10)) (fun k => P (9 + 20 * c + (2 + k))) a (k - P (9 + 20 * c + 9)) := by
            rw [show k - (k - P (9 + 20 * c + 9)) = P (9 + 20 * c + 9) by omega]
            rfl
          rw [hcnt]
          have hc7 : wct (P (9 + 20 * c + 9)) (P (9 + 20 * c + 10)) (fun k => P (9 + 20 * c + (2 + k))) a (k - P (9 + 20 * c + 9)) ≤ P (9 + 20 * c + 9) := cN_le _ _
          simp (disch := omega) only [c_0, c_1, c_2, c_3, c_4, c_5, c_6, c_7, c_8, c_9, c_10, c_11, c_12, c_14, c_16, c_19, c_20, c_24, c_31, c_32, c_35, c_48, c_57, c_59, c_63, c_97, c_100, c_122, c_127, c_169, c_255, c_600, c_1000, c_32767, Nat.le_refl, Nat.zero_le, Nat.add_zero, Nat.lt_irrefl, eq_self, o_sub, Nat.sub_zero, Nat.not_lt_zero, ↓ng_d, o_le, o_lt, o_eq, o_add, o_mul, o_cl, o_inT, o_and, n_31, o_shr, o_shl1, o_or, m_lt, m_ge, m_le, m_gt, m_ne, m_ne2, Option.some.injEq, exists_eq_left', true_and, and_true, true_implies, false_implies, implies_true, not_true_eq_false, not_false_eq_true, bI_0, bI_1, bI_01, b01, true_or, or_true, Nat.reduceEqDiff, Bool.not_eq_false, Bool.not_eq_true, Bool.true_eq_false, Bool.false_eq_true, msk hM, w_of hM hp, w_isIn]
          by_cases q : P (9 + 20 * c + 11) ≤ wct (P (9 + 20 * c + 9)) (P (9 + 20 * c + 10)) (fun k => P (9 + 20 * c + (2 + k))) a (k - P (9 + 20 * c + 9)) ∧ wct (P (9 + 20 * c + 9)) (P (9 + 20 * c + 10)) (fun k => P (9 + 20 * c + (2 + k))) a (k - P (9 + 20 * c + 9)) ≤ P (9 + 20 * c + 12)
          · have h4 := hn (fun i hi hin => by
              by_cases z : i + P (9 + 20 * c + 9) = k
              · have : i = k - P (9 + 20 * c + 9) := by omega
                subst this; exact q
              · exact hall i (by omega) hin)
            simp only [decide_eq_true q, c_0, c_1, c_2, c_3, c_4, c_5, c_6, c_7, c_8, c_9, c_10, c_11, c_12, c_14, c_16, c_19, c_20, c_24, c_31, c_32, c_35, c_48, c_57, c_59, c_63, c_97, c_100, c_122, c_127, c_169, c_255, c_600, c_1000, c_32767, Nat.le_refl, Nat.zero_le, Nat.add_zero, Nat.lt_irrefl, eq_self, o_sub, Nat.sub_zero, Nat.not_lt_zero, ↓ng_d, o_le, o_lt, o_eq, o_add, o_mul, o_cl, o_inT, o_and, n_31, o_shr, o_shl1, o_or, m_lt, m_ge, m_le, m_gt, m_ne, m_ne2, Option.some.injEq, exists_eq_left', true_and, and_true, true_implies, false_implies, implies_true, not_true_eq_false, not_false_eq_true, bI_0, bI_1, bI_01, b01, true_or, or_true, Nat.reduceEqDiff, Bool.not_eq_false, Bool.not_eq_true, Bool.true_eq_false, Bool.false_eq_true]
            exact h4
          · have h4 := hQ2 false (by rw [hok]; exact (dB_f.mpr (fun z => q (z _ (by omega)))).symm)
            simp only [decide_eq_false q, c_0, c_1, c_2, c_3, c_4, c_5, c_6, c_7, c_8, c_9, c_10, c_11, c_12, c_14, c_16, c_19, c_20, c_24, c_31, c_32, c_35, c_48, c_57, c_59, c_63, c_97, c_100, c_122, c_127, c_169, c_255, c_600, c_1000, c_32767, Nat.le_refl, Nat.zero_le, Nat.add_zero, Nat.lt_irrefl, eq_self, o_sub, Nat.sub_zero, Nat.not_lt_zero, ↓ng_d, o_le, o_lt, o_eq, o_add, o_mul, o_cl, o_inT, o_and, n_31, o_shr, o_shl1, o_or, m_lt, m_ge, m_le, m_gt, m_ne, m_ne2, Option.some.injEq, exists_eq_left', true_and, and_true, true_implies, false_implies, implies_true, not_true_eq_false, not_false_eq_true, bI_0, bI_1, bI_01, b01, true_or, or_true, Nat.reduceEqDiff, Bool.not_eq_false, Bool.not_eq_true, Bool.true_eq_false, Bool.false_eq_true]
            exact h4.2
    have h2 := main (P (9 + 20 * c + 1) + 1) (P (9 + 20 * c + 9)) (by omega) (by omega) (Nat.le_refl _) (fun i h1 h2 => by omega)
    have n1 : ¬ (1 : Nat) = 0 := by decide
    have n2 : ¬ (1 : Nat) = 2 := by decide
    simp (disch := omega) only [wpX12_fulfils, w_of hM hp, msk hM, msr_given hM, msk_given hM, msl_given hM, c_0, c_1, c_2, c_3, c_4, c_5, c_6, c_7, c_8, c_9, c_10, c_11, c_12, c_14, c_16, c_19, c_20, c_24, c_31, c_32, c_35, c_48, c_57, c_59, c_63, c_97, c_100, c_122, c_127, c_169, c_255, c_600, c_1000, c_32767, Nat.le_refl, Nat.zero_le, Nat.add_zero, Nat.lt_irrefl, eq_self, o_sub, Nat.sub_zero, Nat.not_lt_zero, ↓ng_d, o_le, o_lt, o_eq, o_add, o_mul, o_cl, o_inT, o_and, n_31, o_shr, o_shl1, o_or, m_lt, m_ge, m_le, m_gt, m_ne, m_ne2, Option.some.injEq, exists_eq_left', true_and, and_true, true_implies, false_implies, implies_true, not_true_eq_false, not_false_eq_true, bI_0, bI_1, bI_01, b01, true_or, or_true, Nat.reduceEqDiff, Bool.not_eq_false, Bool.not_eq_true, Bool.true_eq_false, Bool.false_eq_true, hk, n1, n2, and_false, false_and]
    unfold wpX12_isSlid
    simp (disch := omega) only [w_of hM hp, msk hM, c_0, c_1, c_2, c_3, c_4, c_5, c_6, c_7, c_8, c_9, c_10, c_11, c_12, c_14, c_16, c_19, c_20, c_24, c_31, c_32, c_35, c_48, c_57, c_59, c_63, c_97, c_100, c_122, c_127, c_169, c_255, c_600, c_1000, c_32767, Nat.le_refl, Nat.zero_le, Nat.add_zero, Nat.lt_irrefl, eq_self, o_sub, Nat.sub_zero, Nat.not_lt_zero, ↓ng_d, o_le, o_lt, o_eq, o_add, o_mul, o_cl, o_inT, o_and, n_31, o_shr, o_shl1, o_or, m_lt, m_ge, m_le, m_gt, m_ne, m_ne2, Option.some.injEq, exists_eq_left', true_and, and_true, true_implies, false_implies, implies_true, not_true_eq_false, not_false_eq_true, bI_0, bI_1, bI_01, b01, true_or, or_true, Nat.reduceEqDiff, Bool.not_eq_false, Bool.not_eq_true, Bool.true_eq_false, Bool.false_eq_true]
    exact ⟨_, h2⟩
  · have e2 := g7 (by omega)
    have g0' : pI S 101 (P (9 + 20 * c + 2)) = nI (a (P (9 + 20 * c + 2))) := hg' 0 (by omega)
    have g1' : pI S 101 (P (9 + 20 * c + 3)) = nI (a (P (9 + 20 * c + 3))) := hg' 1 (by omega)
    have a0' : a (P (9 + 20 * c + 2)) < 5 := ha' 0 (by omega)
    have a1' : a (P (9 + 20 * c + 3)) < 5 := ha' 1 (by omega)
    have hok : (cK P c).2.2 a = decide (a (P (9 + 20 * c + 2)) < a (P (9 + 20 * c + 3))) := by rw [cK_less e2 hk]; rfl
    have n1 : ¬ (2 : Nat) = 0 := by decide
    have n2 : ¬ (2 : Nat) = 1 := by decide
    rw [hok] at hQ
    simp (disch := omega) only [wpX12_fulfils, w_of hM hp, msk hM, msr_given hM, msk_given hM, msl_given hM, c_0, c_1, c_2, c_3, c_4, c_5, c_6, c_7, c_8, c_9, c_10, c_11, c_12, c_14, c_16, c_19, c_20, c_24, c_31, c_32, c_35, c_48, c_57, c_59, c_63, c_97, c_100, c_122, c_127, c_169, c_255, c_600, c_1000, c_32767, Nat.le_refl, Nat.zero_le, Nat.add_zero, Nat.lt_irrefl, eq_self, o_sub, Nat.sub_zero, Nat.not_lt_zero, ↓ng_d, o_le, o_lt, o_eq, o_add, o_mul, o_cl, o_inT, o_and, n_31, o_shr, o_shl1, o_or, m_lt, m_ge, m_le, m_gt, m_ne, m_ne2, Option.some.injEq, exists_eq_left', true_and, and_true, true_implies, false_implies, implies_true, not_true_eq_false, not_false_eq_true, bI_0, bI_1, bI_01, b01, true_or, or_true, Nat.reduceEqDiff, Bool.not_eq_false, Bool.not_eq_true, Bool.true_eq_false, Bool.false_eq_true, hk, n1, n2, and_false, false_and, g0', g1']
    refine ⟨fun q => ?_, fun q => ?_⟩
    · rw [decide_eq_false (by omega)] at hQ; exact hQ
    · rw [decide_eq_true (by omega)] at hQ; exact hQ
  · have e2 := g7 (by omega)
    have g0' : pI S 101 (P (9 + 20 * c + 2)) = nI (a (P (9 + 20 * c + 2))) := hg' 0 (by omega)
    have g1' : pI S 101 (P (9 + 20 * c + 3)) = nI (a (P (9 + 20 * c + 3))) := hg' 1 (by omega)
    have a0' : a (P (9 + 20 * c + 2)) < 5 := ha' 0 (by omega)
    have a1' : a (P (9 + 20 * c + 3)) < 5 := ha' 1 (by omega)
    have hok : (cK P c).2.2 a = decide (a (P (9 + 20 * c + 2)) ≠ a (P (9 + 20 * c + 3))) := by rw [cK_differ e2 hk]; rfl
    have n1 : ¬ (3 : Nat) = 0 := by decide
    have n2 : ¬ (3 : Nat) = 1 := by decide
    have n3 : ¬ (3 : Nat) = 2 := by decide
    rw [hok] at hQ
    simp (disch := omega) only [wpX12_fulfils, w_of hM hp, msk hM, msr_given hM, msk_given hM, msl_given hM, c_0, c_1, c_2, c_3, c_4, c_5, c_6, c_7, c_8, c_9, c_10, c_11, c_12, c_14, c_16, c_19, c_20, c_24, c_31, c_32, c_35, c_48, c_57, c_59, c_63, c_97, c_100, c_122, c_127, c_169, c_255, c_600, c_1000, c_32767, Nat.le_refl, Nat.zero_le, Nat.add_zero, Nat.lt_irrefl, eq_self, o_sub, Nat.sub_zero, Nat.not_lt_zero, ↓ng_d, o_le, o_lt, o_eq, o_add, o_mul, o_cl, o_inT, o_and, n_31, o_shr, o_shl1, o_or, m_lt, m_ge, m_le, m_gt, m_ne, m_ne2, Option.some.injEq, exists_eq_left', true_and, and_true, true_implies, false_implies, implies_true, not_true_eq_false, not_false_eq_true, bI_0, bI_1, bI_01, b01, true_or, or_true, Nat.reduceEqDiff, Bool.not_eq_false, Bool.not_eq_true, Bool.true_eq_false, Bool.false_eq_true, hk, n1, n2, n3, and_false, false_and, g0', g1']
    refine ⟨fun q => ?_, fun q => ?_⟩
    · rw [decide_eq_false (fun z => z q)] at hQ; exact hQ
    · rw [decide_eq_true q] at hQ; exact hQ
/-- the least value from u on, or none -/
theorem q_nextValue {S : PS} {d : Nat → Nat} {x u : Nat} {g : Int32} {Q : Int32 → PS → Prop} (hM : MShape S) (hd : rD S 90 d) (hx : x < 7) (hg : g + nI 1 = nI u) (hu : u ≤ 5)
    (hN : (∀ w, u ≤ w → w < 5 → (d x).testBit w = false) → Q ngI S) (hS : ∀ w, u ≤ w → w < 5 → (d x).testBit w = true → (∀ j, u ≤ j → j < w → (d x).testBit j = false) → Q (nI w) S) : wpX12_nextValue S 87 (nI x) g Q := by
  have hdx := hd.2.2.2 x hx
  have main : ∀ r v, v + r = 5 → u ≤ v → (∀ j, u ≤ j → j < v → (d x).testBit j = false) → wpX12_nextValue_b4 Q (r + 1) S 87 (nI x) g (nI v) := by
    intro r
    induction r with
    | zero =>
      intro v hv huv hno
      have : v = 5 := by omega
      subst this
      have h1 := hN (fun w h1 h2 => hno w h1 h2)
      simp (disch := omega) only [wpX12_nextValue_b4, wpX12_nextValue_b28, c_0, c_1, c_2, c_3, c_4, c_5, c_6, c_7, c_8, c_9, c_10, c_11, c_12, c_14, c_16, c_19, c_20, c_24, c_31, c_32, c_35, c_48, c_57, c_59, c_63, c_97, c_100, c_122, c_127, c_169, c_255, c_600, c_1000, c_32767, Nat.le_refl, Nat.zero_le, Nat.add_zero, Nat.lt_irrefl, eq_self, o_sub, Nat.sub_zero, Nat.not_lt_zero, ↓ng_d, o_le, o_lt, o_eq, o_add, o_mul, o_cl, o_inT, o_and, n_31, o_shr, o_shl1, o_or, m_lt, m_ge, m_le, m_gt, m_ne, m_ne2, Option.some.injEq, exists_eq_left', true_and, and_true, true_implies, false_implies, implies_true, not_true_eq_false, not_false_eq_true, bI_0, bI_1, bI_01, b01, true_or, or_true, Nat.reduceEqDiff, Bool.not_eq_false, Bool.not_eq_true, Bool.true_eq_false, Bool.false_eq_true]
      exact h1
    | succ r ih =>
      intro v hv huv hno
      have e5 : ¬ 5 ≤ v := by omega
      have hn := ih (v + 1) (by omega) (by omega)
      generalize r + 1 = fu at hn ⊢
      cases hb : (d x).testBit v
      · have h1 := hn (fun j h1 h2 => by
          by_cases q : j = v
          · rw [q]; exact hb
          · exact hno j h1 (by omega))
        simp (disch := omega) only [wpX12_nextValue_b4, wpX12_nextValue_b28, c_0, c_1, c_2, c_3, c_4, c_5, c_6, c_7, c_8, c_9, c_10, c_11, c_12, c_14, c_16, c_19, c_20, c_24, c_31, c_32, c_35, c_48, c_57, c_59, c_63, c_97, c_100, c_122, c_127, c_169, c_255, c_600, c_1000, c_32767, Nat.le_refl, Nat.zero_le, Nat.add_zero, Nat.lt_irrefl, eq_self, o_sub, Nat.sub_zero, Nat.not_lt_zero, ↓ng_d, o_le, o_lt, o_eq, o_add, o_mul, o_cl, o_inT, o_and, n_31, o_shr, o_shl1, o_or, m_lt, m_ge, m_le, m_gt, m_ne, m_ne2, Option.some.injEq, exists_eq_left', true_and, and_true, true_implies, false_implies, implies_true, not_true_eq_false, not_false_eq_true, bI_0, bI_1, bI_01, b01, true_or, or_true, Nat.reduceEqDiff, Bool.not_eq_false, Bool.not_eq_true, Bool.true_eq_false, Bool.false_eq_true, e5, msk hM, msr_domain hM, hd.1, hd.2.1, hd.2.2.1 x hx, w_has, hb]
        exact h1
      · have h1 := hS v huv (by omega) hb hno
        simp (disch := omega) only [wpX12_nextValue_b4, wpX12_nextValue_b28, c_0, c_1, c_2, c_3, c_4, c_5, c_6, c_7, c_8, c_9, c_10, c_11, c_12, c_14, c_16, c_19, c_20, c_24, c_31, c_32, c_35, c_48, c_57, c_59, c_63, c_97, c_100, c_122, c_127, c_169, c_255, c_600, c_1000, c_32767, Nat.le_refl, Nat.zero_le, Nat.add_zero, Nat.lt_irrefl, eq_self, o_sub, Nat.sub_zero, Nat.not_lt_zero, ↓ng_d, o_le, o_lt, o_eq, o_add, o_mul, o_cl, o_inT, o_and, n_31, o_shr, o_shl1, o_or, m_lt, m_ge, m_le, m_gt, m_ne, m_ne2, Option.some.injEq, exists_eq_left', true_and, and_true, true_implies, false_implies, implies_true, not_true_eq_false, not_false_eq_true, bI_0, bI_1, bI_01, b01, true_or, or_true, Nat.reduceEqDiff, Bool.not_eq_false, Bool.not_eq_true, Bool.true_eq_false, Bool.false_eq_true, e5, msk hM, msr_domain hM, hd.1, hd.2.1, hd.2.2.1 x hx, w_has, hb]
        exact h1
  unfold wpX12_nextValue
  rw [c_1, hg]
  exact ⟨_, main (5 - u) u (by omega) (Nat.le_refl _) (fun j h1 h2 => by omega)⟩

/-! THE REFERENCE: what domains can fulfil -/
theorem n_31 {v : Nat} (h : v < 32) : v &&& 31 = v := by
  rw [show (31 : Nat) = 2 ^ 5 - 1 from rfl, Nat.and_two_pow_sub_one_eq_mod, Nat.mod_eq_of_lt h]
/-- rows of the reference -/
def rP (S : PS) (P : Nat → Nat) : Prop := ∀ k, k < 169 → pI S 88 k = nI (P k)
def rD (S : PS) (a : Nat) (d : Nat → Nat) : Prop := pK S a = 13 ∧ pL S a = 7 ∧ (∀ x, x < 7 → pI S a x = nI (d x)) ∧ Dwf d
theorem w_of {S : PS} {P : Nat → Nat} {c j : Nat} {Q : Int32 → PS → Prop} (hM : MShape S) (hp : rP S P) (hi : 9 + 20 * c + j < 169) : wpX12_of S 87 (nI c) (nI j) Q = Q (nI (P (9 + 20 * c + j))) S := by
  simp (disch := omega) only [wpX12_of, c_0, c_1, c_2, c_3, c_4, c_5, c_6, c_7, c_8, c_9, c_10, c_11, c_12, c_14, c_16, c_19, c_20, c_24, c_31, c_32, c_35, c_48, c_57, c_59, c_63, c_97, c_100, c_122, c_127, c_169, c_255, c_600, c_1000, c_32767, Nat.le_refl, Nat.zero_le, Nat.add_zero, Nat.lt_irrefl, eq_self, o_sub, Nat.sub_zero, Nat.not_lt_zero, ↓ng_d, o_le, o_lt, o_eq, o_add, o_mul, o_cl, o_inT, o_and, n_31, o_shr, o_shl1, o_or, m_lt, m_ge, m_le, m_gt, m_ne, m_ne2, Option.some.injEq, exists_eq_left', true_and, and_true, true_implies, false_implies, implies_true, not_true_eq_false, not_false_eq_true, bI_0, bI_1, bI_01, b01, true_or, or_true, Nat.reduceEqDiff, Bool.not_eq_false, Bool.not_eq_true, Bool.true_eq_false, Bool.false_eq_true, msk hM, msr_p hM, msk_p hM, msl_p hM]
  rw [hp _ hi]
theorem w_has {S : PS} {d v : Nat} {Q : Int32 → PS → Prop} (hd : d < 2147483648) (hv : v < 32) : wpX12_has S (nI d) (nI v) Q = Q (bI (d.testBit v)) S := by
  simp (disch := omega) only [wpX12_has, c_0, c_1, c_2, c_3, c_4, c_5, c_6, c_7, c_8, c_9, c_10, c_11, c_12, c_14, c_16, c_19, c_20, c_24, c_31, c_32, c_35, c_48, c_57, c_59, c_63, c_97, c_100, c_122, c_127, c_169, c_255, c_600, c_1000, c_32767, Nat.le_refl, Nat.zero_le, Nat.add_zero, Nat.lt_irrefl, eq_self, o_sub, Nat.sub_zero, Nat.not_lt_zero, ↓ng_d, o_le, o_lt, o_eq, o_add, o_mul, o_cl, o_inT, o_and, n_31, o_shr, o_shl1, o_or, m_lt, m_ge, m_le, m_gt, m_ne, m_ne2, Option.some.injEq, exists_eq_left', true_and, and_true, true_implies, false_implies, implies_true, not_true_eq_false, not_false_eq_true, bI_0, bI_1, bI_01, b01, true_or, or_true, Nat.reduceEqDiff, Bool.not_eq_false, Bool.not_eq_true, Bool.true_eq_false, Bool.false_eq_true, o_has]
  cases d.testBit v <;> simp [bI]
theorem w_valueIn {S : PS} {s x : Nat} {Q : Int32 → PS → Prop} (hs : s < 2147483648) (hx : x < 7) : wpX12_valueIn S (nI s) (nI x) Q = Q (nI (dg s x) - nI 1) S := by
  simp (disch := omega) only [wpX12_valueIn, c_0, c_1, c_2, c_3, c_4, c_5, c_6, c_7, c_8, c_9, c_10, c_11, c_12, c_14, c_16, c_19, c_20, c_24, c_31, c_32, c_35, c_48, c_57, c_59, c_63, c_97, c_100, c_122, c_127, c_169, c_255, c_600, c_1000, c_32767, Nat.le_refl, Nat.zero_le, Nat.add_zero, Nat.lt_irrefl, eq_self, o_sub, Nat.sub_zero, Nat.not_lt_zero, ↓ng_d, o_le, o_lt, o_eq, o_add, o_mul, o_cl, o_inT, o_and, n_31, o_shr, o_shl1, o_or, m_lt, m_ge, m_le, m_gt, m_ne, m_ne2, Option.some.injEq, exists_eq_left', true_and, and_true, true_implies, false_implies, implies_true, not_true_eq_false, not_false_eq_true, bI_0, bI_1, bI_01, b01, true_or, or_true, Nat.reduceEqDiff, Bool.not_eq_false, Bool.not_eq_true, Bool.true_eq_false, Bool.false_eq_true]
  rfl
theorem w_isIn {S : PS} {v a b : Nat} {Q : Int32 → PS → Prop} (hv : v < 2147483648) (ha : a < 2147483648) (hb : b < 2147483648) : wpX12_isIn S (nI v) (nI a) (nI b) Q = Q (bI (decide (a ≤ v ∧ v ≤ b))) S := by
  simp (disch := omega) only [wpX12_isIn, c_0, c_1, c_2, c_3, c_4, c_5, c_6, c_7, c_8, c_9, c_10, c_11, c_12, c_14, c_16, c_19, c_20, c_24, c_31, c_32, c_35, c_48, c_57, c_59, c_63, c_97, c_100, c_122, c_127, c_169, c_255, c_600, c_1000, c_32767, Nat.le_refl, Nat.zero_le, Nat.add_zero, Nat.lt_irrefl, eq_self, o_sub, Nat.sub_zero, Nat.not_lt_zero, ↓ng_d, o_le, o_lt, o_eq, o_add, o_mul, o_cl, o_inT, o_and, n_31, o_shr, o_shl1, o_or, m_lt, m_ge, m_le, m_gt, m_ne, m_ne2, Option.some.injEq, exists_eq_left', true_and, and_true, true_implies, false_implies, implies_true, not_true_eq_false, not_false_eq_true, bI_0, bI_1, bI_01, b01, true_or, or_true, Nat.reduceEqDiff, Bool.not_eq_false, Bool.not_eq_true, Bool.true_eq_false, Bool.false_eq_true]
  by_cases h1 : v < a
  · have : ¬ (a ≤ v ∧ v ≤ b) := by omega
    simp [h1, this, bI]
  · by_cases h2 : b < v
    · have : ¬ (a ≤ v ∧ v ≤ b) := by omega
      simp [h1, h2, this, bI]
    · have : a ≤ v ∧ v ≤ b := by omega
      simp [h1, h2, this, bI]
theorem q_sizeOf {S : PS} {Q : Int32 → PS → Prop} {k d : Nat} (hk : k ≤ 16) (hd : d < 2 ^ k) (h : Q (nI (pcn k d)) S) : wpX12_sizeOf S (nI d) Q := by
  have main : ∀ (k d acc : Nat) (x0 : Int32), k ≤ 16 → d < 2 ^ k → acc + k ≤ 100 → Q (nI (acc + pcn k d)) S → wpX12_sizeOf_b4 Q (k + 1) S x0 (nI acc) (nI d) := by
    intro k
    induction k with
    | zero =>
      intro d acc x0 _ hd _ h
      have : d = 0 := by simpa using hd
      subst this
      simp (disch := omega) only [wpX12_sizeOf_b4, c_0, c_1, c_2, c_3, c_4, c_5, c_6, c_7, c_8, c_9, c_10, c_11, c_12, c_14, c_16, c_19, c_20, c_24, c_31, c_32, c_35, c_48, c_57, c_59, c_63, c_97, c_100, c_122, c_127, c_169, c_255, c_600, c_1000, c_32767, Nat.le_refl, Nat.zero_le, Nat.add_zero, Nat.lt_irrefl, eq_self, o_sub, Nat.sub_zero, Nat.not_lt_zero, ↓ng_d, o_le, o_lt, o_eq, o_add, o_mul, o_cl, o_inT, o_and, n_31, o_shr, o_shl1, o_or, m_lt, m_ge, m_le, m_gt, m_ne, m_ne2, Option.some.injEq, exists_eq_left', true_and, and_true, true_implies, false_implies, implies_true, not_true_eq_false, not_false_eq_true, bI_0, bI_1, bI_01, b01, true_or, or_true, Nat.reduceEqDiff, Bool.not_eq_false, Bool.not_eq_true, Bool.true_eq_false, Bool.false_eq_true]
      exact h
    | succ k ih =>
      intro d acc x0 hk hd ha h
      have hp : 2 ^ (k + 1) ≤ 2 ^ 16 := Nat.pow_le_pow_right (by decide) hk
      have hp2 : 2 ^ (k + 1) = 2 * 2 ^ k := by rw [Nat.pow_succ, Nat.mul_comm]
      by_cases e : d = 0
      · subst e
        simp (disch := omega) only [wpX12_sizeOf_b4, c_0, c_1, c_2, c_3, c_4, c_5, c_6, c_7, c_8, c_9, c_10, c_11, c_12, c_14, c_16, c_19, c_20, c_24, c_31, c_32, c_35, c_48, c_57, c_59, c_63, c_97, c_100, c_122, c_127, c_169, c_255, c_600, c_1000, c_32767, Nat.le_refl, Nat.zero_le, Nat.add_zero, Nat.lt_irrefl, eq_self, o_sub, Nat.sub_zero, Nat.not_lt_zero, ↓ng_d, o_le, o_lt, o_eq, o_add, o_mul, o_cl, o_inT, o_and, n_31, o_shr, o_shl1, o_or, m_lt, m_ge, m_le, m_gt, m_ne, m_ne2, Option.some.injEq, exists_eq_left', true_and, and_true, true_implies, false_implies, implies_true, not_true_eq_false, not_false_eq_true, bI_0, bI_1, bI_01, b01, true_or, or_true, Nat.reduceEqDiff, Bool.not_eq_false, Bool.not_eq_true, Bool.true_eq_false, Bool.false_eq_true]
        rw [pcn_0] at h
        exact h
      · have hm : d &&& 1 = d % 2 := Nat.and_one_is_mod d
        have hs : d >>> 1 = d / 2 := by rw [Nat.shiftRight_eq_div_pow]
        have e2 : ¬ d ≤ 0 := by omega
        have hn := ih (d / 2) (acc + d % 2) x0 (by omega) (by omega) (by omega) (by simp only [pcn] at h; rw [Nat.add_assoc]; exact h)
        generalize k + 1 = f at hn ⊢
        simp (disch := omega) only [wpX12_sizeOf_b4, c_0, c_1, c_2, c_3, c_4, c_5, c_6, c_7, c_8, c_9, c_10, c_11, c_12, c_14, c_16, c_19, c_20, c_24, c_31, c_32, c_35, c_48, c_57, c_59, c_63, c_97, c_100, c_122, c_127, c_169, c_255, c_600, c_1000, c_32767, Nat.le_refl, Nat.zero_le, Nat.add_zero, Nat.lt_irrefl, eq_self, o_sub, Nat.sub_zero, Nat.not_lt_zero, ↓ng_d, o_le, o_lt, o_eq, o_add, o_mul, o_cl, o_inT, o_and, n_31, o_shr, o_shl1, o_or, m_lt, m_ge, m_le, m_gt, m_ne, m_ne2, Option.some.injEq, exists_eq_left', true_and, and_true, true_implies, false_implies, implies_true, not_true_eq_false, not_false_eq_true, bI_0, bI_1, bI_01, b01, true_or, or_true, Nat.reduceEqDiff, Bool.not_eq_false, Bool.not_eq_true, Bool.true_eq_false, Bool.false_eq_true, hm, hs, e2]
        exact hn
  simp only [wpX12_sizeOf, c_0, c_1, c_2, c_3, c_4, c_5, c_6, c_7, c_8, c_9, c_10, c_11, c_12, c_14, c_16, c_19, c_20, c_24, c_31, c_32, c_35, c_48, c_57, c_59, c_63, c_97, c_100, c_122, c_127, c_169, c_255, c_600, c_1000, c_32767, Nat.le_refl, Nat.zero_le, Nat.add_zero, Nat.lt_irrefl, eq_self, o_sub, Nat.sub_zero, Nat.not_lt_zero, ↓ng_d, o_le, o_lt, o_eq, o_add, o_mul, o_cl, o_inT, o_and, n_31, o_shr, o_shl1, o_or, m_lt, m_ge, m_le, m_gt, m_ne, m_ne2, Option.some.injEq, exists_eq_left', true_and, and_true, true_implies, false_implies, implies_true, not_true_eq_false, not_false_eq_true, bI_0, bI_1, bI_01, b01, true_or, or_true, Nat.reduceEqDiff, Bool.not_eq_false, Bool.not_eq_true, Bool.true_eq_false, Bool.false_eq_true]
  have := main k d 0 (nI d) hk hd (by omega) (by rw [Nat.zero_add]; exact h)
  exact ⟨_, this⟩

/-! ===== counts ===== -/
def loS (P : Nat → Nat) (c b s : Nat) : Nat → Nat := sN (fun v => if s.testBit v then P (9 + 20 * c + (b + v)) else 0)
theorem loS_le {P : Nat → Nat} {c b s k : Nat} (h : ∀ v, v < 5 → P (9 + 20 * c + (b + v)) < 64) (hk : k ≤ 5) : loS P c b s k ≤ k * 63 := by
  refine sN_le (fun i hi => ?_)
  have := h i (by omega)
  show (if s.testBit i then P (9 + 20 * c + (b + i)) else 0) ≤ 63
  split <;> omega
theorem loS_s {P : Nat → Nat} {c b s k : Nat} : loS P c b s (k + 1) = loS P c b s k + (if s.testBit k then P (9 + 20 * c + (b + k)) else 0) := rfl
theorem q_cc92 {S : PS} {P : Nat → Nat} {c a s wi ab : Nat} {K2 : PS → Nat → Int32 → Nat → Int32 → Prop} {Q : Int32 → PS → Prop} (hM : MShape S) (hp : rP S P) (hc : c < 8) (hs : s < 32) (h9 : ∀ v, v < 5 → P (9 + 20 * c + (9 + v)) < 64) (h14 : ∀ v, v < 5 → P (9 + 20 * c + (14 + v)) < 64) (hwi : wi ≤ 7) (hab : ab ≤ 7)
    (h0 : ¬ (wi ≤ loS P c 14 s 5 ∧ loS P c 9 s 5 ≤ ab) → Q (nI 0) S) (h1 : wi ≤ loS P c 14 s 5 ∧ loS P c 9 s 5 ≤ ab → K2 S 87 (nI c) a (nI (s + 1))) :
    ∀ r k, k + r = 5 → wpX12_canCount_b92 K2 Q (r + 1) S 87 (nI c) a (nI s) (nI wi) (nI ab) (nI (loS P c 9 s k)) (nI (loS P c 14 s k)) (nI k) := by
  intro r
  induction r with
  | zero =>
    intro k hk
    have : k = 5 := by omega
    subst this
    have b1 := loS_le (b := 9) (s := s) h9 (Nat.le_refl 5)
    have b2 := loS_le (b := 14) (s := s) h14 (Nat.le_refl 5)
    simp (disch := omega) only [wpX12_canCount_b92, c_0, c_1, c_2, c_3, c_4, c_5, c_6, c_7, c_8, c_9, c_10, c_11, c_12, c_14, c_16, c_19, c_20, c_24, c_31, c_32, c_35, c_48, c_57, c_59, c_63, c_97, c_100, c_122, c_127, c_169, c_255, c_600, c_1000, c_32767, Nat.le_refl, Nat.zero_le, Nat.add_zero, Nat.lt_irrefl, eq_self, o_sub, Nat.sub_zero, Nat.not_lt_zero, ↓ng_d, o_le, o_lt, o_eq, o_add, o_mul, o_cl, o_inT, o_and, n_31, o_shr, o_shl1, o_or, m_lt, m_ge, m_le, m_gt, m_ne, m_ne2, Option.some.injEq, exists_eq_left', true_and, and_true, true_implies, false_implies, implies_true, not_true_eq_false, not_false_eq_true, bI_0, bI_1, bI_01, b01, true_or, or_true, Nat.reduceEqDiff, Bool.not_eq_false, Bool.not_eq_true, Bool.true_eq_false, Bool.false_eq_true]
    refine ⟨fun q => h0 (by omega), fun q => ⟨fun q2 => h1 (by omega), fun q2 => h0 (by omega)⟩⟩
  | succ r ih =>
    intro k hk
    have b1 := loS_le (b := 9) (s := s) h9 (show k ≤ 5 by omega)
    have b2 := loS_le (b := 14) (s := s) h14 (show k ≤ 5 by omega)
    have e5 : ¬ 5 ≤ k := by omega
    have p1 := h9 k (by omega)
    have p2 := h14 k (by omega)
    have hn := ih (k + 1) (by omega)
    rw [loS_s, loS_s] at hn
    generalize r + 1 = f at hn ⊢
    cases hb : s.testBit k
    · simp only [hb, Bool.false_eq_true, if_false] at hn
      simp (disch := omega) only [wpX12_canCount_b92, wpX12_canCount_b123, w_has, w_of hM hp, msk hM, c_0, c_1, c_2, c_3, c_4, c_5, c_6, c_7, c_8, c_9, c_10, c_11, c_12, c_14, c_16, c_19, c_20, c_24, c_31, c_32, c_35, c_48, c_57, c_59, c_63, c_97, c_100, c_122, c_127, c_169, c_255, c_600, c_1000, c_32767, Nat.le_refl, Nat.zero_le, Nat.add_zero, Nat.lt_irrefl, eq_self, o_sub, Nat.sub_zero, Nat.not_lt_zero, ↓ng_d, o_le, o_lt, o_eq, o_add, o_mul, o_cl, o_inT, o_and, n_31, o_shr, o_shl1, o_or, m_lt, m_ge, m_le, m_gt, m_ne, m_ne2, Option.some.injEq, exists_eq_left', true_and, and_true, true_implies, false_implies, implies_true, not_true_eq_false, not_false_eq_true, bI_0, bI_1, bI_01, b01, true_or, or_true, Nat.reduceEqDiff, Bool.not_eq_false, Bool.not_eq_true, Bool.true_eq_false, Bool.false_eq_true, e5, hb]
      exact hn
    · simp only [hb, if_true] at hn
      simp (disch := omega) only [wpX12_canCount_b92, wpX12_canCount_b123, w_has, w_of hM hp, msk hM, c_0, c_1, c_2, c_3, c_4, c_5, c_6, c_7, c_8, c_9, c_10, c_11, c_12, c_14, c_16, c_19, c_20, c_24, c_31, c_32, c_35, c_48, c_57, c_59, c_63, c_97, c_100, c_122, c_127, c_169, c_255, c_600, c_1000, c_32767, Nat.le_refl, Nat.zero_le, Nat.add_zero, Nat.lt_irrefl, eq_self, o_sub, Nat.sub_zero, Nat.not_lt_zero, ↓ng_d, o_le, o_lt, o_eq, o_add, o_mul, o_cl, o_inT, o_and, n_31, o_shr, o_shl1, o_or, m_lt, m_ge, m_le, m_gt, m_ne, m_ne2, Option.some.injEq, exists_eq_left', true_and, and_true, true_implies, false_implies, implies_true, not_true_eq_false, not_false_eq_true, bI_0, bI_1, bI_01, b01, true_or, or_true, Nat.reduceEqDiff, Bool.not_eq_false, Bool.not_eq_true, Bool.true_eq_false, Bool.false_eq_true, e5, hb]
      exact hn
theorem q_cc23 {S : PS} {P d : Nat → Nat} {c a s : Nat} {K2 : PS → Nat → Int32 → Nat → Int32 → Prop} {Q : Int32 → PS → Prop} (hM : MShape S) (hp : rP S P) (hd : rD S a d) (hc : c < 8) (hs : s < 32) (h1 : P (9 + 20 * c + 1) ≤ 7) (h2 : ∀ k, k < P (9 + 20 * c + 1) → P (9 + 20 * c + (2 + k)) < 7) (h9 : ∀ v, v < 5 → P (9 + 20 * c + (9 + v)) < 64) (h14 : ∀ v, v < 5 → P (9 + 20 * c + (14 + v)) < 64)
    (hF : ¬ hallT (P (9 + 20 * c + 1)) (fun k => P (9 + 20 * c + (2 + k))) (fun v => P (9 + 20 * c + (9 + v))) (fun v => P (9 + 20 * c + (14 + v))) d s → Q (nI 0) S)
    (hT : hallT (P (9 + 20 * c + 1)) (fun k => P (9 + 20 * c + (2 + k))) (fun v => P (9 + 20 * c + (9 + v))) (fun v => P (9 + 20 * c + (14 + v))) d s → K2 S 87 (nI c) a (nI (s + 1))) :
    ∀ r k, k + r = P (9 + 20 * c + 1) → wpX12_canCount_b23 K2 Q (r + 1) S 87 (nI c) a (nI s) (nI (cN (fun k => decide (andn (d (P (9 + 20 * c + (2 + k)))) s = 0)) k)) (nI (cN (fun k => decide (d (P (9 + 20 * c + (2 + k))) &&& s ≠ 0)) k)) (nI 0) (nI 0) (nI k) := by
  intro r
  induction r with
  | zero =>
    intro k hk
    have hk' : P (9 + 20 * c + 1) = k := by omega
    have b1 := cN_le (fun k => decide (andn (d (P (9 + 20 * c + (2 + k)))) s = 0)) k
    have b2 := cN_le (fun k => decide (d (P (9 + 20 * c + (2 + k))) &&& s ≠ 0)) k
    have h3 := q_cc92 (K2 := K2) (Q := Q) (a := a) (wi := cN (fun k => decide (andn (d (P (9 + 20 * c + (2 + k)))) s = 0)) k) (ab := cN (fun k => decide (d (P (9 + 20 * c + (2 + k))) &&& s ≠ 0)) k) hM hp hc hs h9 h14 (by omega) (by omega) (fun q => hF (fun w => q (by rw [hk'] at w; exact w))) (fun q => hT (by rw [hk']; exact q)) 5 0 rfl
    simp (disch := omega) only [wpX12_canCount_b23, w_of hM hp, msk hM, c_0, c_1, c_2, c_3, c_4, c_5, c_6, c_7, c_8, c_9, c_10, c_11, c_12, c_14, c_16, c_19, c_20, c_24, c_31, c_32, c_35, c_48, c_57, c_59, c_63, c_97, c_100, c_122, c_127, c_169, c_255, c_600, c_1000, c_32767, Nat.le_refl, Nat.zero_le, Nat.add_zero, Nat.lt_irrefl, eq_self, o_sub, Nat.sub_zero, Nat.not_lt_zero, ↓ng_d, o_le, o_lt, o_eq, o_add, o_mul, o_cl, o_inT, o_and, n_31, o_shr, o_shl1, o_or, m_lt, m_ge, m_le, m_gt, m_ne, m_ne2, Option.some.injEq, exists_eq_left', true_and, and_true, true_implies, false_implies, implies_true, not_true_eq_false, not_false_eq_true, bI_0, bI_1, bI_01, b01, true_or, or_true, Nat.reduceEqDiff, Bool.not_eq_false, Bool.not_eq_true, Bool.true_eq_false, Bool.false_eq_true, hk']
    exact ⟨_, h3⟩
  | succ r ih =>
    intro k hk
    have b1 := cN_le (fun k => decide (andn (d (P (9 + 20 * c + (2 + k)))) s = 0)) k
    have b2 := cN_le (fun k => decide (d (P (9 + 20 * c + (2 + k))) &&& s ≠ 0)) k
    have hx := h2 k (by omega)
    have e5 : ¬ P (9 + 20 * c + 1) ≤ k := by omega
    have hdx := hd.2.2.2 _ hx
    have hn := ih (k + 1) (by omega)
    rw [cN_s, cN_s] at hn
    generalize r + 1 = f at hn ⊢
    have e1 := dm_andn _ hdx s hs
    have e2 : d (P (9 + 20 * c + (2 + k))) &&& s < 32 := dm_and_lt _ hdx s hs
    have e3 := dm_andn_lt _ hdx s hs
    by_cases q1 : andn (d (P (9 + 20 * c + (2 + k)))) s = 0 <;> by_cases q2 : d (P (9 + 20 * c + (2 + k))) &&& s = 0
    · rw [decide_eq_true q1, decide_eq_false (fun z => z q2)] at hn
      simp only [eq_self, if_true, if_false, Bool.false_eq_true, Nat.add_zero] at hn
      simp (disch := omega) only [wpX12_canCount_b23, wpX12_canCount_b63, w_of hM hp, msk hM, c_0, c_1, c_2, c_3, c_4, c_5, c_6, c_7, c_8, c_9, c_10, c_11, c_12, c_14, c_16, c_19, c_20, c_24, c_31, c_32, c_35, c_48, c_57, c_59, c_63, c_97, c_100, c_122, c_127, c_169, c_255, c_600, c_1000, c_32767, Nat.le_refl, Nat.zero_le, Nat.add_zero, Nat.lt_irrefl, eq_self, o_sub, Nat.sub_zero, Nat.not_lt_zero, ↓ng_d, o_le, o_lt, o_eq, o_add, o_mul, o_cl, o_inT, o_and, n_31, o_shr, o_shl1, o_or, m_lt, m_ge, m_le, m_gt, m_ne, m_ne2, Option.some.injEq, exists_eq_left', true_and, and_true, true_implies, false_implies, implies_true, not_true_eq_false, not_false_eq_true, bI_0, bI_1, bI_01, b01, true_or, or_true, Nat.reduceEqDiff, Bool.not_eq_false, Bool.not_eq_true, Bool.true_eq_false, Bool.false_eq_true, e5, hd.1, hd.2.1, hd.2.2.1 _ hx, e1, q1, q2]
      exact hn
    · rw [decide_eq_true q1, decide_eq_true (show d (P (9 + 20 * c + (2 + k))) &&& s ≠ 0 from q2)] at hn
      simp only [eq_self, if_true, if_false, Bool.false_eq_true, Nat.add_zero] at hn
      simp (disch := omega) only [wpX12_canCount_b23, wpX12_canCount_b63, w_of hM hp, msk hM, c_0, c_1, c_2, c_3, c_4, c_5, c_6, c_7, c_8, c_9, c_10, c_11, c_12, c_14, c_16, c_19, c_20, c_24, c_31, c_32, c_35, c_48, c_57, c_59, c_63, c_97, c_100, c_122, c_127, c_169, c_255, c_600, c_1000, c_32767, Nat.le_refl, Nat.zero_le, Nat.add_zero, Nat.lt_irrefl, eq_self, o_sub, Nat.sub_zero, Nat.not_lt_zero, ↓ng_d, o_le, o_lt, o_eq, o_add, o_mul, o_cl, o_inT, o_and, n_31, o_shr, o_shl1, o_or, m_lt, m_ge, m_le, m_gt, m_ne, m_ne2, Option.some.injEq, exists_eq_left', true_and, and_true, true_implies, false_implies, implies_true, not_true_eq_false, not_false_eq_true, bI_0, bI_1, bI_01, b01, true_or, or_true, Nat.reduceEqDiff, Bool.not_eq_false, Bool.not_eq_true, Bool.true_eq_false, Bool.false_eq_true, e5, hd.1, hd.2.1, hd.2.2.1 _ hx, e1, q1, q2]
      exact hn
    · rw [decide_eq_false q1, decide_eq_false (fun z => z q2)] at hn
      simp only [eq_self, if_true, if_false, Bool.false_eq_true, Nat.add_zero] at hn
      simp (disch := omega) only [wpX12_canCount_b23, wpX12_canCount_b63, w_of hM hp, msk hM, c_0, c_1, c_2, c_3, c_4, c_5, c_6, c_7, c_8, c_9, c_10, c_11, c_12, c_14, c_16, c_19, c_20, c_24, c_31, c_32, c_35, c_48, c_57, c_59, c_63, c_97, c_100, c_122, c_127, c_169, c_255, c_600, c_1000, c_32767, Nat.le_refl, Nat.zero_le, Nat.add_zero, Nat.lt_irrefl, eq_self, o_sub, Nat.sub_zero, Nat.not_lt_zero, ↓ng_d, o_le, o_lt, o_eq, o_add, o_mul, o_cl, o_inT, o_and, n_31, o_shr, o_shl1, o_or, m_lt, m_ge, m_le, m_gt, m_ne, m_ne2, Option.some.injEq, exists_eq_left', true_and, and_true, true_implies, false_implies, implies_true, not_true_eq_false, not_false_eq_true, bI_0, bI_1, bI_01, b01, true_or, or_true, Nat.reduceEqDiff, Bool.not_eq_false, Bool.not_eq_true, Bool.true_eq_false, Bool.false_eq_true, e5, hd.1, hd.2.1, hd.2.2.1 _ hx, e1, q1, q2]
      exact hn
    · rw [decide_eq_false q1, decide_eq_true (show d (P (9 + 20 * c + (2 + k))) &&& s ≠ 0 from q2)] at hn
      simp only [eq_self, if_true, if_false, Bool.false_eq_true, Nat.add_zero] at hn
      simp (disch := omega) only [wpX12_canCount_b23, wpX12_canCount_b63, w_of hM hp, msk hM, c_0, c_1, c_2, c_3, c_4, c_5, c_6, c_7, c_8, c_9, c_10, c_11, c_12, c_14, c_16, c_19, c_20, c_24, c_31, c_32, c_35, c_48, c_57, c_59, c_63, c_97, c_100, c_122, c_127, c_169, c_255, c_600, c_1000, c_32767, Nat.le_refl, Nat.zero_le, Nat.add_zero, Nat.lt_irrefl, eq_self, o_sub, Nat.sub_zero, Nat.not_lt_zero, ↓ng_d, o_le, o_lt, o_eq, o_add, o_mul, o_cl, o_inT, o_and, n_31, o_shr, o_shl1, o_or, m_lt, m_ge, m_le, m_gt, m_ne, m_ne2, Option.some.injEq, exists_eq_left', true_and, and_true, true_implies, false_implies, implies_true, not_true_eq_false, not_false_eq_true, bI_0, bI_1, bI_01, b01, true_or, or_true, Nat.reduceEqDiff, Bool.not_eq_false, Bool.not_eq_true, Bool.true_eq_false, Bool.false_eq_true, e5, hd.1, hd.2.1, hd.2.2.1 _ hx, e1, q1, q2]
      exact hn
theorem q_canCount {S : PS} {P d : Nat → Nat} {c a : Nat} {Q : Int32 → PS → Prop} (hM : MShape S) (hp : rP S P) (hd : rD S a d) (hc : c < 8) (hw : Cwf P c) (h0 : P 0 ≤ 7) (hk : P (9 + 20 * c) = 0) (hQ : Q (bI (dB (Can (cK P c) d))) S) : wpX12_canCount S 87 (nI c) a Q := by
  obtain ⟨-, g1, g2, g3, g4, g5, -, -, -, g9, -⟩ := hw
  have h9 : ∀ v, v < 5 → P (9 + 20 * c + (9 + v)) < 64 := fun v hv => g9 _ (by omega)
  have h14 : ∀ v, v < 5 → P (9 + 20 * c + (14 + v)) < 64 := fun v hv => g9 _ (by omega)
  have hm7 : ∀ k, k < P (9 + 20 * c + 1) → P (9 + 20 * c + (2 + k)) < 7 := fun k hk => Nat.lt_of_lt_of_le (g3 k hk) h0
  have hcan := can_counts (n := P (9 + 20 * c + 1)) (m := fun k => P (9 + 20 * c + (2 + k))) (lo := fun v => P (9 + 20 * c + (9 + v))) (hi := fun v => P (9 + 20 * c + (14 + v))) (d := d) g4 (fun k hk => hd.2.2.2 _ (hm7 k hk)) (fun v hv => (g5 hk v hv).1)
  have hcK : Can (cK P c) d ↔ Can (P (9 + 20 * c + 1), (fun k => P (9 + 20 * c + (2 + k))), okCounts (P (9 + 20 * c + 1)) (fun k => P (9 + 20 * c + (2 + k))) (fun v => P (9 + 20 * c + (9 + v))) (fun v => P (9 + 20 * c + (14 + v)))) d := by
    have e : cOk P c = okCounts (P (9 + 20 * c + 1)) (fun k => P (9 + 20 * c + (2 + k))) (fun v => P (9 + 20 * c + (9 + v))) (fun v => P (9 + 20 * c + (14 + v))) := funext fun a => by unfold cOk; rw [if_pos hk]
    unfold cK
    rw [e]
  have main : ∀ r s, s + r = 32 → (∀ t, t < s → hallT (P (9 + 20 * c + 1)) (fun k => P (9 + 20 * c + (2 + k))) (fun v => P (9 + 20 * c + (9 + v))) (fun v => P (9 + 20 * c + (14 + v))) d t) → wpX12_canCount_b2 Q (r + 1) S 87 (nI c) a (nI s) := by
    intro r
    induction r with
    | zero =>
      intro s hs ht
      have : s = 32 := by omega
      subst this
      rw [dB_t.mpr (hcK.mpr (hcan.mp ht))] at hQ
      simp (disch := omega) only [wpX12_canCount_b2, c_0, c_1, c_2, c_3, c_4, c_5, c_6, c_7, c_8, c_9, c_10, c_11, c_12, c_14, c_16, c_19, c_20, c_24, c_31, c_32, c_35, c_48, c_57, c_59, c_63, c_97, c_100, c_122, c_127, c_169, c_255, c_600, c_1000, c_32767, Nat.le_refl, Nat.zero_le, Nat.add_zero, Nat.lt_irrefl, eq_self, o_sub, Nat.sub_zero, Nat.not_lt_zero, ↓ng_d, o_le, o_lt, o_eq, o_add, o_mul, o_cl, o_inT, o_and, n_31, o_shr, o_shl1, o_or, m_lt, m_ge, m_le, m_gt, m_ne, m_ne2, Option.some.injEq, exists_eq_left', true_and, and_true, true_implies, false_implies, implies_true, not_true_eq_false, not_false_eq_true, bI_0, bI_1, bI_01, b01, true_or, or_true, Nat.reduceEqDiff, Bool.not_eq_false, Bool.not_eq_true, Bool.true_eq_false, Bool.false_eq_true]
      exact hQ
    | succ r ih =>
      intro s hs ht
      have e : ¬ 32 ≤ s := by omega
      by_cases q : hallT (P (9 + 20 * c + 1)) (fun k => P (9 + 20 * c + (2 + k))) (fun v => P (9 + 20 * c + (9 + v))) (fun v => P (9 + 20 * c + (14 + v))) d s
      · have hn := ih (s + 1) (by omega) (fun t hts => by
          by_cases e : t = s
          · rw [e]; exact q
          · exact ht t (by omega))
        have h3 := q_cc23 (K2 := wpX12_canCount_b2 Q (r + 1)) (Q := Q) (s := s) hM hp hd hc (by omega) g2 hm7 h9 h14 (fun w => absurd q w) (fun _ => hn) _ 0 (Nat.zero_add _)
        generalize r + 1 = f at h3 ⊢
        simp (disch := omega) only [wpX12_canCount_b2, c_0, c_1, c_2, c_3, c_4, c_5, c_6, c_7, c_8, c_9, c_10, c_11, c_12, c_14, c_16, c_19, c_20, c_24, c_31, c_32, c_35, c_48, c_57, c_59, c_63, c_97, c_100, c_122, c_127, c_169, c_255, c_600, c_1000, c_32767, Nat.le_refl, Nat.zero_le, Nat.add_zero, Nat.lt_irrefl, eq_self, o_sub, Nat.sub_zero, Nat.not_lt_zero, ↓ng_d, o_le, o_lt, o_eq, o_add, o_mul, o_cl, o_inT, o_and, n_31, o_shr, o_shl1, o_or, m_lt, m_ge, m_le, m_gt, m_ne, m_ne2, Option.some.injEq, exists_eq_left', true_and, and_true, true_implies, false_implies, implies_true, not_true_eq_false, not_false_eq_true, bI_0, bI_1, bI_01, b01, true_or, or_true, Nat.reduceEqDiff, Bool.not_eq_false, Bool.not_eq_true, Bool.true_eq_false, Bool.false_eq_true, e]
        exact ⟨_, h3⟩
      · rw [dB_f.mpr (fun w => q (hcan.mpr (hcK.mp w) s (by omega)))] at hQ
        have h3 := q_cc23 (K2 := wpX12_canCount_b2 Q (r + 1)) (Q := Q) (s := s) hM hp hd hc (by omega) g2 hm7 h9 h14 (fun _ => hQ) (fun w => absurd w q) _ 0 (Nat.zero_add _)
        generalize r + 1 = f at h3 ⊢
        simp (disch := omega) only [wpX12_canCount_b2, c_0, c_1, c_2, c_3, c_4, c_5, c_6, c_7, c_8, c_9, c_10, c_11, c_12, c_14, c_16, c_19, c_20, c_24, c_31, c_32, c_35, c_48, c_57, c_59, c_63, c_97, c_100, c_122, c_127, c_169, c_255, c_600, c_1000, c_32767, Nat.le_refl, Nat.zero_le, Nat.add_zero, Nat.lt_irrefl, eq_self, o_sub, Nat.sub_zero, Nat.not_lt_zero, ↓ng_d, o_le, o_lt, o_eq, o_add, o_mul, o_cl, o_inT, o_and, n_31, o_shr, o_shl1, o_or, m_lt, m_ge, m_le, m_gt, m_ne, m_ne2, Option.some.injEq, exists_eq_left', true_and, and_true, true_implies, false_implies, implies_true, not_true_eq_false, not_false_eq_true, bI_0, bI_1, bI_01, b01, true_or, or_true, Nat.reduceEqDiff, Bool.not_eq_false, Bool.not_eq_true, Bool.true_eq_false, Bool.false_eq_true, e]
        exact ⟨_, h3⟩
  simp only [wpX12_canCount, c_0, c_1, c_2, c_3, c_4, c_5, c_6, c_7, c_8, c_9, c_10, c_11, c_12, c_14, c_16, c_19, c_20, c_24, c_31, c_32, c_35, c_48, c_57, c_59, c_63, c_97, c_100, c_122, c_127, c_169, c_255, c_600, c_1000, c_32767, Nat.le_refl, Nat.zero_le, Nat.add_zero, Nat.lt_irrefl, eq_self, o_sub, Nat.sub_zero, Nat.not_lt_zero, ↓ng_d, o_le, o_lt, o_eq, o_add, o_mul, o_cl, o_inT, o_and, n_31, o_shr, o_shl1, o_or, m_lt, m_ge, m_le, m_gt, m_ne, m_ne2, Option.some.injEq, exists_eq_left', true_and, and_true, true_implies, false_implies, implies_true, not_true_eq_false, not_false_eq_true, bI_0, bI_1, bI_01, b01, true_or, or_true, Nat.reduceEqDiff, Bool.not_eq_false, Bool.not_eq_true, Bool.true_eq_false, Bool.false_eq_true]
  exact ⟨_, main 32 0 rfl (fun t ht => by omega)⟩
/-! ===== comparisons, learnt sets ===== -/
theorem q_canBeLess {S : PS} {x y : Nat} {Q : Int32 → PS → Prop} (hx : x < 32) (hy : y < 32) (hQ : ∀ b : Bool, (b = true ↔ ∃ v, v < 5 ∧ x.testBit v = true ∧ y >>> (v + 1) ≠ 0) → Q (bI b) S) : wpX12_canBeLess S 87 (nI x) (nI y) Q := by
  have main : ∀ r k, k + r = 5 → (∀ v, v < k → ¬ (x.testBit v = true ∧ y >>> (v + 1) ≠ 0)) → wpX12_canBeLess_b2 Q (r + 1) S 87 (nI x) (nI y) (nI k) := by
    intro r
    induction r with
    | zero =>
      intro k hk h
      have : k = 5 := by omega
      subst this
      simp (disch := omega) only [wpX12_canBeLess_b2, c_0, c_1, c_2, c_3, c_4, c_5, c_6, c_7, c_8, c_9, c_10, c_11, c_12, c_14, c_16, c_19, c_20, c_24, c_31, c_32, c_35, c_48, c_57, c_59, c_63, c_97, c_100, c_122, c_127, c_169, c_255, c_600, c_1000, c_32767, Nat.le_refl, Nat.zero_le, Nat.add_zero, Nat.lt_irrefl, eq_self, o_sub, Nat.sub_zero, Nat.not_lt_zero, ↓ng_d, o_le, o_lt, o_eq, o_add, o_mul, o_cl, o_inT, o_and, n_31, o_shr, o_shl1, o_or, m_lt, m_ge, m_le, m_gt, m_ne, m_ne2, Option.some.injEq, exists_eq_left', true_and, and_true, true_implies, false_implies, implies_true, not_true_eq_false, not_false_eq_true, bI_0, bI_1, bI_01, b01, true_or, or_true, Nat.reduceEqDiff, Bool.not_eq_false, Bool.not_eq_true, Bool.true_eq_false, Bool.false_eq_true]
      exact hQ false ⟨fun q => by simp at q, fun ⟨v, hv, q⟩ => absurd q (h v hv)⟩
    | succ r ih =>
      intro k hk h
      have e : ¬ 5 ≤ k := by omega
      have hs : y >>> (k + 1) ≤ y := Nat.shiftRight_le _ _
      by_cases q : x.testBit k = true ∧ y >>> (k + 1) ≠ 0
      · have q2 : ¬ y >>> (k + 1) = 0 := q.2
        generalize r + 1 = f
        simp (disch := omega) only [wpX12_canBeLess_b2, w_has, c_0, c_1, c_2, c_3, c_4, c_5, c_6, c_7, c_8, c_9, c_10, c_11, c_12, c_14, c_16, c_19, c_20, c_24, c_31, c_32, c_35, c_48, c_57, c_59, c_63, c_97, c_100, c_122, c_127, c_169, c_255, c_600, c_1000, c_32767, Nat.le_refl, Nat.zero_le, Nat.add_zero, Nat.lt_irrefl, eq_self, o_sub, Nat.sub_zero, Nat.not_lt_zero, ↓ng_d, o_le, o_lt, o_eq, o_add, o_mul, o_cl, o_inT, o_and, n_31, o_shr, o_shl1, o_or, m_lt, m_ge, m_le, m_gt, m_ne, m_ne2, Option.some.injEq, exists_eq_left', true_and, and_true, true_implies, false_implies, implies_true, not_true_eq_false, not_false_eq_true, bI_0, bI_1, bI_01, b01, true_or, or_true, Nat.reduceEqDiff, Bool.not_eq_false, Bool.not_eq_true, Bool.true_eq_false, Bool.false_eq_true, e, q.1, q2]
        exact hQ true ⟨fun _ => ⟨k, by omega, q⟩, fun _ => rfl⟩
      · have hn := ih (k + 1) (by omega) (fun v hv => by
          by_cases ev : v = k
          · rw [ev]; exact q
          · exact h v (by omega))
        generalize r + 1 = f at hn ⊢
        cases hb : x.testBit k
        · simp (disch := omega) only [wpX12_canBeLess_b2, w_has, c_0, c_1, c_2, c_3, c_4, c_5, c_6, c_7, c_8, c_9, c_10, c_11, c_12, c_14, c_16, c_19, c_20, c_24, c_31, c_32, c_35, c_48, c_57, c_59, c_63, c_97, c_100, c_122, c_127, c_169, c_255, c_600, c_1000, c_32767, Nat.le_refl, Nat.zero_le, Nat.add_zero, Nat.lt_irrefl, eq_self, o_sub, Nat.sub_zero, Nat.not_lt_zero, ↓ng_d, o_le, o_lt, o_eq, o_add, o_mul, o_cl, o_inT, o_and, n_31, o_shr, o_shl1, o_or, m_lt, m_ge, m_le, m_gt, m_ne, m_ne2, Option.some.injEq, exists_eq_left', true_and, and_true, true_implies, false_implies, implies_true, not_true_eq_false, not_false_eq_true, bI_0, bI_1, bI_01, b01, true_or, or_true, Nat.reduceEqDiff, Bool.not_eq_false, Bool.not_eq_true, Bool.true_eq_false, Bool.false_eq_true, e, hb]
          exact hn
        · have q2 : y >>> (k + 1) = 0 := Classical.byContradiction fun w => q ⟨hb, w⟩
          simp (disch := omega) only [wpX12_canBeLess_b2, w_has, c_0, c_1, c_2, c_3, c_4, c_5, c_6, c_7, c_8, c_9, c_10, c_11, c_12, c_14, c_16, c_19, c_20, c_24, c_31, c_32, c_35, c_48, c_57, c_59, c_63, c_97, c_100, c_122, c_127, c_169, c_255, c_600, c_1000, c_32767, Nat.le_refl, Nat.zero_le, Nat.add_zero, Nat.lt_irrefl, eq_self, o_sub, Nat.sub_zero, Nat.not_lt_zero, ↓ng_d, o_le, o_lt, o_eq, o_add, o_mul, o_cl, o_inT, o_and, n_31, o_shr, o_shl1, o_or, m_lt, m_ge, m_le, m_gt, m_ne, m_ne2, Option.some.injEq, exists_eq_left', true_and, and_true, true_implies, false_implies, implies_true, not_true_eq_false, not_false_eq_true, bI_0, bI_1, bI_01, b01, true_or, or_true, Nat.reduceEqDiff, Bool.not_eq_false, Bool.not_eq_true, Bool.true_eq_false, Bool.false_eq_true, e, hb, q2]
          exact hn
  simp only [wpX12_canBeLess, c_0, c_1, c_2, c_3, c_4, c_5, c_6, c_7, c_8, c_9, c_10, c_11, c_12, c_14, c_16, c_19, c_20, c_24, c_31, c_32, c_35, c_48, c_57, c_59, c_63, c_97, c_100, c_122, c_127, c_169, c_255, c_600, c_1000, c_32767, Nat.le_refl, Nat.zero_le, Nat.add_zero, Nat.lt_irrefl, eq_self, o_sub, Nat.sub_zero, Nat.not_lt_zero, ↓ng_d, o_le, o_lt, o_eq, o_add, o_mul, o_cl, o_inT, o_and, n_31, o_shr, o_shl1, o_or, m_lt, m_ge, m_le, m_gt, m_ne, m_ne2, Option.some.injEq, exists_eq_left', true_and, and_true, true_implies, false_implies, implies_true, not_true_eq_false, not_false_eq_true, bI_0, bI_1, bI_01, b01, true_or, or_true, Nat.reduceEqDiff, Bool.not_eq_false, Bool.not_eq_true, Bool.true_eq_false, Bool.false_eq_true]
  exact ⟨_, main 5 0 rfl (fun v hv => by omega)⟩
theorem q_canDiffer {S : PS} {x y : Nat} {Q : Int32 → PS → Prop} (hx : x < 32) (hy : y < 32) (hQ : ∀ b : Bool, (b = true ↔ (x ≠ 0 ∧ y ≠ 0 ∧ (x = y → 1 < pcn 5 x))) → Q (bI b) S) : wpX12_canDiffer S 87 (nI x) (nI y) Q := by
  have hp := pcn_le 5 x
  simp (disch := omega) only [wpX12_canDiffer, c_0, c_1, c_2, c_3, c_4, c_5, c_6, c_7, c_8, c_9, c_10, c_11, c_12, c_14, c_16, c_19, c_20, c_24, c_31, c_32, c_35, c_48, c_57, c_59, c_63, c_97, c_100, c_122, c_127, c_169, c_255, c_600, c_1000, c_32767, Nat.le_refl, Nat.zero_le, Nat.add_zero, Nat.lt_irrefl, eq_self, o_sub, Nat.sub_zero, Nat.not_lt_zero, ↓ng_d, o_le, o_lt, o_eq, o_add, o_mul, o_cl, o_inT, o_and, n_31, o_shr, o_shl1, o_or, m_lt, m_ge, m_le, m_gt, m_ne, m_ne2, Option.some.injEq, exists_eq_left', true_and, and_true, true_implies, false_implies, implies_true, not_true_eq_false, not_false_eq_true, bI_0, bI_1, bI_01, b01, true_or, or_true, Nat.reduceEqDiff, Bool.not_eq_false, Bool.not_eq_true, Bool.true_eq_false, Bool.false_eq_true]
  refine ⟨fun q => hQ false (by simp [q]), fun q => ⟨fun q2 => hQ false (by simp [q2]), fun q2 => ⟨fun q3 => hQ true (by simp [q, q2, q3]), fun q3 => ?_⟩⟩⟩
  refine q_sizeOf (k := 5) (by decide) hx ?_
  simp (disch := omega) only [c_0, c_1, c_2, c_3, c_4, c_5, c_6, c_7, c_8, c_9, c_10, c_11, c_12, c_14, c_16, c_19, c_20, c_24, c_31, c_32, c_35, c_48, c_57, c_59, c_63, c_97, c_100, c_122, c_127, c_169, c_255, c_600, c_1000, c_32767, Nat.le_refl, Nat.zero_le, Nat.add_zero, Nat.lt_irrefl, eq_self, o_sub, Nat.sub_zero, Nat.not_lt_zero, ↓ng_d, o_le, o_lt, o_eq, o_add, o_mul, o_cl, o_inT, o_and, n_31, o_shr, o_shl1, o_or, m_lt, m_ge, m_le, m_gt, m_ne, m_ne2, Option.some.injEq, exists_eq_left', true_and, and_true, true_implies, false_implies, implies_true, not_true_eq_false, not_false_eq_true, bI_0, bI_1, bI_01, b01, true_or, or_true, Nat.reduceEqDiff, Bool.not_eq_false, Bool.not_eq_true, Bool.true_eq_false, Bool.false_eq_true]
  refine ⟨fun q4 => hQ false ⟨fun z => (by cases z), fun z => ?_⟩, fun q4 => hQ true ⟨fun _ => ⟨q, q2, fun _ => by omega⟩, fun _ => rfl⟩⟩
  have := z.2.2 q3
  omega
theorem v_lt (g : Nat) (h : g < 8) : (nI g - nI 1 < nI 0) = (g = 0) := by
  have : ∀ g, g < 8 → (nI g - nI 1 < nI 0 ↔ g = 0) := by decide +kernel
  exact propext (this g h)
theorem v_ge (g : Nat) (h : g < 8) : (nI 0 ≤ nI g - nI 1) = (¬ g = 0) := by
  have : ∀ g, g < 8 → (nI 0 ≤ nI g - nI 1 ↔ ¬ g = 0) := by decide +kernel
  exact propext (this g h)
theorem q_canLeave {S : PS} {s a : Nat} {d : Nat → Nat} {Q : Int32 → PS → Prop} (hs : Swf s) (hd : rD S a d) (hQ : Q (bI (dB (Can (lK s) d))) S) : wpX12_canLeave S 87 (nI s) a Q := by
  have hs1 := hs.1
  have hQ' : ∀ b : Bool, (b = true ↔ ((∀ x, x < 7 → dg s x ≠ 0 → d x ≠ 0) ∧ ∃ x, x < 7 ∧ dg s x ≠ 0 ∧ clr (d x) (dg s x - 1) ≠ 0)) → Q (bI b) S := fun b hb => by rw [dB_eq (hb.trans (can_leave hs hd.2.2.2))]; exact hQ
  have main : ∀ r k (o : Bool), k + r = 7 → (∀ x, x < k → dg s x ≠ 0 → d x ≠ 0) → (o = true ↔ ∃ x, x < k ∧ dg s x ≠ 0 ∧ clr (d x) (dg s x - 1) ≠ 0) → wpX12_canLeave_b5 Q (r + 1) S 87 (nI s) a (bI o) (nI k) := by
    intro r
    induction r with
    | zero =>
      intro k o hk h1 h2
      have : k = 7 := by omega
      subst this
      simp (disch := omega) only [wpX12_canLeave_b5, c_0, c_1, c_2, c_3, c_4, c_5, c_6, c_7, c_8, c_9, c_10, c_11, c_12, c_14, c_16, c_19, c_20, c_24, c_31, c_32, c_35, c_48, c_57, c_59, c_63, c_97, c_100, c_122, c_127, c_169, c_255, c_600, c_1000, c_32767, Nat.le_refl, Nat.zero_le, Nat.add_zero, Nat.lt_irrefl, eq_self, o_sub, Nat.sub_zero, Nat.not_lt_zero, ↓ng_d, o_le, o_lt, o_eq, o_add, o_mul, o_cl, o_inT, o_and, n_31, o_shr, o_shl1, o_or, m_lt, m_ge, m_le, m_gt, m_ne, m_ne2, Option.some.injEq, exists_eq_left', true_and, and_true, true_implies, false_implies, implies_true, not_true_eq_false, not_false_eq_true, bI_0, bI_1, bI_01, b01, true_or, or_true, Nat.reduceEqDiff, Bool.not_eq_false, Bool.not_eq_true, Bool.true_eq_false, Bool.false_eq_true]
      exact hQ' o (by rw [h2]; exact ⟨fun q => ⟨h1, q⟩, fun q => q.2⟩)
    | succ r ih =>
      intro k o hk h1 h2
      have e7 : ¬ 7 ≤ k := by omega
      have hdk := hd.2.2.2 k (by omega)
      have hg8 := dg_lt s k
      have hg5 := hs.2 k (by omega)
      by_cases e : dg s k = 0
      · have hn := ih (k + 1) o (by omega) (fun x hx h0 => by
          by_cases ex : x = k
          · rw [ex] at h0; exact absurd e h0
          · exact h1 x (by omega) h0) (by
          rw [h2]
          constructor
          · rintro ⟨x, hx, q⟩; exact ⟨x, by omega, q⟩
          · rintro ⟨x, hx, q⟩
            have : x ≠ k := fun w => q.1 (by rw [w]; exact e)
            exact ⟨x, by omega, q⟩)
        generalize r + 1 = f at hn ⊢
        simp (disch := omega) only [wpX12_canLeave_b5, w_valueIn, v_ge, c_0, c_1, c_2, c_3, c_4, c_5, c_6, c_7, c_8, c_9, c_10, c_11, c_12, c_14, c_16, c_19, c_20, c_24, c_31, c_32, c_35, c_48, c_57, c_59, c_63, c_97, c_100, c_122, c_127, c_169, c_255, c_600, c_1000, c_32767, Nat.le_refl, Nat.zero_le, Nat.add_zero, Nat.lt_irrefl, eq_self, o_sub, Nat.sub_zero, Nat.not_lt_zero, ↓ng_d, o_le, o_lt, o_eq, o_add, o_mul, o_cl, o_inT, o_and, n_31, o_shr, o_shl1, o_or, m_lt, m_ge, m_le, m_gt, m_ne, m_ne2, Option.some.injEq, exists_eq_left', true_and, and_true, true_implies, false_implies, implies_true, not_true_eq_false, not_false_eq_true, bI_0, bI_1, bI_01, b01, true_or, or_true, Nat.reduceEqDiff, Bool.not_eq_false, Bool.not_eq_true, Bool.true_eq_false, Bool.false_eq_true, e7, e]
        exact hn
      · have e1 : nI (dg s k) - nI 1 = nI (dg s k - 1) := o_sub (by omega)
        by_cases e0 : d k = 0
        · generalize r + 1 = f
          simp (disch := omega) only [wpX12_canLeave_b5, w_valueIn, v_ge, c_0, c_1, c_2, c_3, c_4, c_5, c_6, c_7, c_8, c_9, c_10, c_11, c_12, c_14, c_16, c_19, c_20, c_24, c_31, c_32, c_35, c_48, c_57, c_59, c_63, c_97, c_100, c_122, c_127, c_169, c_255, c_600, c_1000, c_32767, Nat.le_refl, Nat.zero_le, Nat.add_zero, Nat.lt_irrefl, eq_self, o_sub, Nat.sub_zero, Nat.not_lt_zero, ↓ng_d, o_le, o_lt, o_eq, o_add, o_mul, o_cl, o_inT, o_and, n_31, o_shr, o_shl1, o_or, m_lt, m_ge, m_le, m_gt, m_ne, m_ne2, Option.some.injEq, exists_eq_left', true_and, and_true, true_implies, false_implies, implies_true, not_true_eq_false, not_false_eq_true, bI_0, bI_1, bI_01, b01, true_or, or_true, Nat.reduceEqDiff, Bool.not_eq_false, Bool.not_eq_true, Bool.true_eq_false, Bool.false_eq_true, e7, e, hd.1, hd.2.1, hd.2.2.1 k (by omega), e0]
          exact hQ' false ⟨fun q => by simp at q, fun q => absurd e0 (q.1 k (by omega) e)⟩
        · have e2 := dm_clr _ hdk (dg s k - 1) (by omega)
          have e3 := dm_clr_lt _ hdk (dg s k - 1) (by omega)
          have hup : ∀ x, x < k + 1 → dg s x ≠ 0 → d x ≠ 0 := fun x hx h0 => by
            by_cases ex : x = k
            · rw [ex]; exact e0
            · exact h1 x (by omega) h0
          cases ho : o
          · by_cases ec : clr (d k) (dg s k - 1) = 0
            · have hn := ih (k + 1) false (by omega) hup (by
                rw [ho] at h2
                rw [h2]
                constructor
                · rintro ⟨x, hx, q⟩; exact ⟨x, by omega, q⟩
                · rintro ⟨x, hx, q⟩
                  have : x ≠ k := fun w => q.2 (by rw [w]; exact ec)
                  exact ⟨x, by omega, q⟩)
              generalize r + 1 = f at hn ⊢
              simp (disch := omega) only [wpX12_canLeave_b5, w_valueIn, v_ge, c_0, c_1, c_2, c_3, c_4, c_5, c_6, c_7, c_8, c_9, c_10, c_11, c_12, c_14, c_16, c_19, c_20, c_24, c_31, c_32, c_35, c_48, c_57, c_59, c_63, c_97, c_100, c_122, c_127, c_169, c_255, c_600, c_1000, c_32767, Nat.le_refl, Nat.zero_le, Nat.add_zero, Nat.lt_irrefl, eq_self, o_sub, Nat.sub_zero, Nat.not_lt_zero, ↓ng_d, o_le, o_lt, o_eq, o_add, o_mul, o_cl, o_inT, o_and, n_31, o_shr, o_shl1, o_or, m_lt, m_ge, m_le, m_gt, m_ne, m_ne2, Option.some.injEq, exists_eq_left', true_and, and_true, true_implies, false_implies, implies_true, not_true_eq_false, not_false_eq_true, bI_0, bI_1, bI_01, b01, true_or, or_true, Nat.reduceEqDiff, Bool.not_eq_false, Bool.not_eq_true, Bool.true_eq_false, Bool.false_eq_true, e7, e, hd.1, hd.2.1, hd.2.2.1 k (by omega), e0, e1, e2, ec]
              exact hn
            · have hn := ih (k + 1) true (by omega) hup ⟨fun _ => ⟨k, by omega, e, ec⟩, fun _ => rfl⟩
              generalize r + 1 = f at hn ⊢
              simp (disch := omega) only [wpX12_canLeave_b5, wpX12_canLeave_b55, w_valueIn, v_ge, c_0, c_1, c_2, c_3, c_4, c_5, c_6, c_7, c_8, c_9, c_10, c_11, c_12, c_14, c_16, c_19, c_20, c_24, c_31, c_32, c_35, c_48, c_57, c_59, c_63, c_97, c_100, c_122, c_127, c_169, c_255, c_600, c_1000, c_32767, Nat.le_refl, Nat.zero_le, Nat.add_zero, Nat.lt_irrefl, eq_self, o_sub, Nat.sub_zero, Nat.not_lt_zero, ↓ng_d, o_le, o_lt, o_eq, o_add, o_mul, o_cl, o_inT, o_and, n_31, o_shr, o_shl1, o_or, m_lt, m_ge, m_le, m_gt, m_ne, m_ne2, Option.some.injEq, exists_eq_left', true_and, and_true, true_implies, false_implies, implies_true, not_true_eq_false, not_false_eq_true, bI_0, bI_1, bI_01, b01, true_or, or_true, Nat.reduceEqDiff, Bool.not_eq_false, Bool.not_eq_true, Bool.true_eq_false, Bool.false_eq_true, e7, e, hd.1, hd.2.1, hd.2.2.1 k (by omega), e0, e1, e2, ec]
              exact hn
          · have hn := ih (k + 1) true (by omega) hup ⟨fun _ => by
              obtain ⟨x, hx, q⟩ := h2.mp ho
              exact ⟨x, by omega, q⟩, fun _ => rfl⟩
            generalize r + 1 = f at hn ⊢
            simp (disch := omega) only [wpX12_canLeave_b5, wpX12_canLeave_b55, w_valueIn, v_ge, c_0, c_1, c_2, c_3, c_4, c_5, c_6, c_7, c_8, c_9, c_10, c_11, c_12, c_14, c_16, c_19, c_20, c_24, c_31, c_32, c_35, c_48, c_57, c_59, c_63, c_97, c_100, c_122, c_127, c_169, c_255, c_600, c_1000, c_32767, Nat.le_refl, Nat.zero_le, Nat.add_zero, Nat.lt_irrefl, eq_self, o_sub, Nat.sub_zero, Nat.not_lt_zero, ↓ng_d, o_le, o_lt, o_eq, o_add, o_mul, o_cl, o_inT, o_and, n_31, o_shr, o_shl1, o_or, m_lt, m_ge, m_le, m_gt, m_ne, m_ne2, Option.some.injEq, exists_eq_left', true_and, and_true, true_implies, false_implies, implies_true, not_true_eq_false, not_false_eq_true, bI_0, bI_1, bI_01, b01, true_or, or_true, Nat.reduceEqDiff, Bool.not_eq_false, Bool.not_eq_true, Bool.true_eq_false, Bool.false_eq_true, e7, e, hd.1, hd.2.1, hd.2.2.1 k (by omega), e0, e1]
            exact hn
  simp only [wpX12_canLeave, c_0, c_1, c_2, c_3, c_4, c_5, c_6, c_7, c_8, c_9, c_10, c_11, c_12, c_14, c_16, c_19, c_20, c_24, c_31, c_32, c_35, c_48, c_57, c_59, c_63, c_97, c_100, c_122, c_127, c_169, c_255, c_600, c_1000, c_32767, Nat.le_refl, Nat.zero_le, Nat.add_zero, Nat.lt_irrefl, eq_self, o_sub, Nat.sub_zero, Nat.not_lt_zero, ↓ng_d, o_le, o_lt, o_eq, o_add, o_mul, o_cl, o_inT, o_and, n_31, o_shr, o_shl1, o_or, m_lt, m_ge, m_le, m_gt, m_ne, m_ne2, Option.some.injEq, exists_eq_left', true_and, and_true, true_implies, false_implies, implies_true, not_true_eq_false, not_false_eq_true, bI_0, bI_1, bI_01, b01, true_or, or_true, Nat.reduceEqDiff, Bool.not_eq_false, Bool.not_eq_true, Bool.true_eq_false, Bool.false_eq_true]
  exact ⟨_, main 7 0 false rfl (fun x hx => by omega) ⟨fun q => by simp at q, fun ⟨x, hx, _⟩ => by omega⟩⟩

/-! THE REFERENCE: windows -/
theorem bit_set (n j i : Nat) : (n ||| 2 ^ j).testBit i = (n.testBit i || decide (i = j)) := by
  rw [Nat.testBit_or, Nat.testBit_two_pow]
  have : (j = i) = (i = j) := propext ⟨Eq.symm, Eq.symm⟩
  simp only [this]
/-- what one member's way from a row to the next needs -/
def okB (w s lo hi dx k b t : Nat) : Prop := canBit s dx b ∧ (w ≤ k + 1 → lo ≤ pcn w t ∧ pcn w t ≤ hi)
def slJ (w s lo hi dx k R i N : Nat) : Prop := N < 65536 ∧ ∀ t, N.testBit t = true ↔ ∃ r b, 2 * r + b < i ∧ b < 2 ∧ R.testBit r = true ∧ t = (2 * r + b) % 2 ^ w ∧ okB w s lo hi dx k b t
theorem slJ_0 {w s lo hi dx k R : Nat} : slJ w s lo hi dx k R 0 0 := ⟨by decide, fun t => ⟨fun q => by simp at q, fun ⟨r, b, q, _⟩ => by omega⟩⟩
theorem slJ_y {w s lo hi dx k R N row b : Nat} (hw : w ≤ 4) (h : slJ w s lo hi dx k R (2 * row + b) N) (hb : b < 2) (hr : R.testBit row = true) (ho : okB w s lo hi dx k b ((2 * row + b) % 2 ^ w)) : slJ w s lo hi dx k R (2 * row + b + 1) (N ||| 2 ^ ((2 * row + b) % 2 ^ w)) := by
  have h16 : (2 * row + b) % 2 ^ w < 16 := Nat.lt_of_lt_of_le (Nat.mod_lt _ (Nat.pow_pos (by decide))) (show 2 ^ w ≤ 2 ^ 4 from Nat.pow_le_pow_right (by decide) hw)
  refine ⟨?_, fun t => ?_⟩
  · have h1 : (2 : Nat) ^ ((2 * row + b) % 2 ^ w) < 2 ^ 16 := Nat.pow_lt_pow_right (by decide) h16
    exact Nat.or_lt_two_pow (n := 16) h.1 h1
  · rw [bit_set]
    simp only [Bool.or_eq_true, decide_eq_true_eq]
    rw [h.2 t]
    constructor
    · rintro (⟨r, b', q1, q⟩ | q)
      · exact ⟨r, b', by omega, q⟩
      · exact ⟨row, b, by omega, hb, hr, q, by rw [q]; exact ho⟩
    · rintro ⟨r, b', q1, q2, q3, q4, q5⟩
      by_cases e : 2 * r + b' = 2 * row + b
      · right; rw [q4, e]
      · left; exact ⟨r, b', by omega, q2, q3, q4, q5⟩
theorem slJ_n {w s lo hi dx k R N row b : Nat} (h : slJ w s lo hi dx k R (2 * row + b) N) (hb : b < 2) (ho : ¬ okB w s lo hi dx k b ((2 * row + b) % 2 ^ w)) : slJ w s lo hi dx k R (2 * row + b + 1) N := by
  refine ⟨h.1, fun t => ?_⟩
  rw [h.2 t]
  constructor
  · rintro ⟨r, b', q1, q⟩; exact ⟨r, b', by omega, q⟩
  · rintro ⟨r, b', q1, q2, q3, q4, q5⟩
    by_cases e : 2 * r + b' = 2 * row + b
    · exfalso
      have e1 : b' = b := by omega
      rw [e] at q4
      rw [q4, e1] at q5
      exact ho q5
    · exact ⟨r, b', by omega, q2, q3, q4, q5⟩
theorem slJ_s {w s lo hi dx k R N row : Nat} (h : slJ w s lo hi dx k R (2 * row) N) (hr : R.testBit row = false) : slJ w s lo hi dx k R (2 * (row + 1)) N := by
  refine ⟨h.1, fun t => ?_⟩
  rw [h.2 t]
  constructor
  · rintro ⟨r, b', q1, q⟩; exact ⟨r, b', by omega, q⟩
  · rintro ⟨r, b', q1, q2, q3, q4, q5⟩
    have e : r ≠ row := fun w => by rw [w, hr] at q3; cases q3
    exact ⟨r, b', by omega, q2, q3, q4, q5⟩
theorem sl_or : ∀ r, r < 16 → ∀ b, b < 2 → r * 2 ^ 1 ||| b = 2 * r + b := by decide +kernel
/-- one bit -/
theorem q_cs67 {S : PS} {P : Nat → Nat} {c a w k R x row : Nat} {K14 : PS → Nat → Int32 → Nat → Int32 → Int32 → Int32 → Prop} {K44 : PS → Nat → Int32 → Nat → Int32 → Int32 → Int32 → Int32 → Int32 → Int32 → Prop} {Q : Int32 → PS → Prop} (hM : MShape S) (hp : rP S P) (hc : c < 8) (hk : k < 7) (hx : x < 32) (hrow : row < 16) (hR : R < 65536) (hr : R.testBit row = true) (hwe : P (9 + 20 * c + 9) = w) (hw0 : 0 < w) (hw4 : w ≤ 4) (hs : P (9 + 20 * c + 10) < 32) (hl : P (9 + 20 * c + 11) < 64) (hh : P (9 + 20 * c + 12) < 64)
    (hK : ∀ N, slJ w (P (9 + 20 * c + 10)) (P (9 + 20 * c + 11)) (P (9 + 20 * c + 12)) x k R (2 * (row + 1)) N → K44 S 87 (nI c) a (nI w) (nI R) (nI k) (nI x) (nI N) (nI (row + 1))) :
    ∀ r b N, b + r = 2 → slJ w (P (9 + 20 * c + 10)) (P (9 + 20 * c + 11)) (P (9 + 20 * c + 12)) x k R (2 * row + b) N → wpX12_canSlide_b67 K14 K44 Q (r + 1) S 87 (nI c) a (nI w) (nI R) (nI k) (nI x) (nI N) (nI row) (nI b) := by
  intro r
  induction r with
  | zero =>
    intro b N hb h
    have : b = 2 := by omega
    subst this
    have h3 := hK N h
    simp (disch := omega) only [wpX12_canSlide_b67, c_0, c_1, c_2, c_3, c_4, c_5, c_6, c_7, c_8, c_9, c_10, c_11, c_12, c_14, c_16, c_19, c_20, c_24, c_31, c_32, c_35, c_48, c_57, c_59, c_63, c_97, c_100, c_122, c_127, c_169, c_255, c_600, c_1000, c_32767, Nat.le_refl, Nat.zero_le, Nat.add_zero, Nat.lt_irrefl, eq_self, o_sub, Nat.sub_zero, Nat.not_lt_zero, ↓ng_d, o_le, o_lt, o_eq, o_add, o_mul, o_cl, o_inT, o_and, n_31, o_shr, o_shl1, o_or, m_lt, m_ge, m_le, m_gt, m_ne, m_ne2, Option.some.injEq, exists_eq_left', true_and, and_true, true_implies, false_implies, implies_true, not_true_eq_false, not_false_eq_true, bI_0, bI_1, bI_01, b01, true_or, or_true, Nat.reduceEqDiff, Bool.not_eq_false, Bool.not_eq_true, Bool.true_eq_false, Bool.false_eq_true]
    exact h3
  | succ r ih =>
    intro b N hb h
    have e2 : ¬ 2 ≤ b := by omega
    have hb2 : b < 2 := by omega
    have hN := h.1
    have p1 : 2 ^ w ≤ 2 ^ 4 := Nat.pow_le_pow_right (by decide) hw4
    have p2 : 1 ≤ 2 ^ w := Nat.one_le_two_pow
    have ht : (2 * row + b) &&& (2 ^ w - 1) = (2 * row + b) % 2 ^ w := Nat.and_two_pow_sub_one_eq_mod _ _
    have ht2 : (2 * row + b) % 2 ^ w < 2 ^ w := Nat.mod_lt _ (by omega)
    obtain ⟨t, hte⟩ : ∃ t, t = (2 * row + b) % 2 ^ w := ⟨_, rfl⟩
    rw [← hte] at ht ht2
    have htp := pcn_le w t
    have hn : (okB w (P (9 + 20 * c + 10)) (P (9 + 20 * c + 11)) (P (9 + 20 * c + 12)) x k b t → wpX12_canSlide_b67 K14 K44 Q (r + 1) S 87 (nI c) a (nI w) (nI R) (nI k) (nI x) (nI (N ||| 2 ^ t)) (nI row) (nI (b + 1))) ∧ (¬ okB w (P (9 + 20 * c + 10)) (P (9 + 20 * c + 11)) (P (9 + 20 * c + 12)) x k b t → wpX12_canSlide_b67 K14 K44 Q (r + 1) S 87 (nI c) a (nI w) (nI R) (nI k) (nI x) (nI N) (nI row) (nI (b + 1))) := by
      by_cases ho : okB w (P (9 + 20 * c + 10)) (P (9 + 20 * c + 11)) (P (9 + 20 * c + 12)) x k b t
      · have hn := ih (b + 1) (N ||| 2 ^ t) (by omega) (by rw [hte] at ho ⊢; exact slJ_y hw4 h hb2 hr ho)
        exact ⟨fun _ => hn, fun q => absurd ho q⟩
      · have hn := ih (b + 1) N (by omega) (by rw [hte] at ho; exact slJ_n h hb2 ho)
        exact ⟨fun q => absurd q ho, fun _ => hn⟩
    generalize r + 1 = fu at hn ⊢
    -- the truth of the bit's way, and the rest of it
    have tail : ∀ (q : Prop) (g : Int32), (q ↔ canBit (P (9 + 20 * c + 10)) x b) → (g = nI 0 ↔ ¬ q) → (g = nI 0 ∨ g = nI 1) → wpX12_canSlide_b124 K14 K44 (wpX12_canSlide_b67 K14 K44 Q fu) Q S 87 (nI c) a (nI w) (nI R) (nI k) (nI x) (nI N) (nI row) (nI b) (nI t) g := by
      intro q g hq hg hg2
      have fin : ∀ f : Prop, (f ↔ (w ≤ k + 1 → P (9 + 20 * c + 11) ≤ pcn w t ∧ pcn w t ≤ P (9 + 20 * c + 12))) → (f → wpX12_canSlide_b164 K14 K44 (wpX12_canSlide_b67 K14 K44 Q fu) Q S 87 (nI c) a (nI w) (nI R) (nI k) (nI x) (nI N) (nI row) (nI b) (nI t) g (nI 1)) ∧ (¬ f → wpX12_canSlide_b164 K14 K44 (wpX12_canSlide_b67 K14 K44 Q fu) Q S 87 (nI c) a (nI w) (nI R) (nI k) (nI x) (nI N) (nI row) (nI b) (nI t) g (nI 0)) := by
        intro f hf
        have g0 : ¬ q → wpX12_canSlide_b67 K14 K44 Q fu S 87 (nI c) a (nI w) (nI R) (nI k) (nI x) (nI N) (nI row) (nI (b + 1)) := fun hq0 => hn.2 (fun ho => hq0 (hq.mpr ho.1))
        constructor
        · intro hf1
          by_cases hq0 : q
          · have hg0 : ¬ g = nI 0 := fun w => hg.mp w hq0
            have h1 := hn.1 ⟨hq.mp hq0, hf.mp hf1⟩
            have h10 : ¬ (1 : Nat) = 0 := by decide
            simp (disch := omega) only [wpX12_canSlide_b164, wpX12_canSlide_b185, c_0, c_1, c_2, c_3, c_4, c_5, c_6, c_7, c_8, c_9, c_10, c_11, c_12, c_14, c_16, c_19, c_20, c_24, c_31, c_32, c_35, c_48, c_57, c_59, c_63, c_97, c_100, c_122, c_127, c_169, c_255, c_600, c_1000, c_32767, Nat.le_refl, Nat.zero_le, Nat.add_zero, Nat.lt_irrefl, eq_self, o_sub, Nat.sub_zero, Nat.not_lt_zero, ↓ng_d, o_le, o_lt, o_eq, o_add, o_mul, o_cl, o_inT, o_and, n_31, o_shr, o_shl1, o_or, m_lt, m_ge, m_le, m_gt, m_ne, m_ne2, Option.some.injEq, exists_eq_left', true_and, and_true, true_implies, false_implies, implies_true, not_true_eq_false, not_false_eq_true, bI_0, bI_1, bI_01, b01, true_or, or_true, Nat.reduceEqDiff, Bool.not_eq_false, Bool.not_eq_true, Bool.true_eq_false, Bool.false_eq_true, hg0, h10]
            exact h1
          · have hg0 := hg.mpr hq0
            have h1 := g0 hq0
            simp (disch := omega) only [wpX12_canSlide_b164, wpX12_canSlide_b185, c_0, c_1, c_2, c_3, c_4, c_5, c_6, c_7, c_8, c_9, c_10, c_11, c_12, c_14, c_16, c_19, c_20, c_24, c_31, c_32, c_35, c_48, c_57, c_59, c_63, c_97, c_100, c_122, c_127, c_169, c_255, c_600, c_1000, c_32767, Nat.le_refl, Nat.zero_le, Nat.add_zero, Nat.lt_irrefl, eq_self, o_sub, Nat.sub_zero, Nat.not_lt_zero, ↓ng_d, o_le, o_lt, o_eq, o_add, o_mul, o_cl, o_inT, o_and, n_31, o_shr, o_shl1, o_or, m_lt, m_ge, m_le, m_gt, m_ne, m_ne2, Option.some.injEq, exists_eq_left', true_and, and_true, true_implies, false_implies, implies_true, not_true_eq_false, not_false_eq_true, bI_0, bI_1, bI_01, b01, true_or, or_true, Nat.reduceEqDiff, Bool.not_eq_false, Bool.not_eq_true, Bool.true_eq_false, Bool.false_eq_true, hg0, Nat.or_zero]
            exact h1
        · intro hf1
          by_cases hq0 : q
          · have hg0 : ¬ g = nI 0 := fun w => hg.mp w hq0
            have h1 := hn.2 (fun ho => hf1 (hf.mpr ho.2))
            simp (disch := omega) only [wpX12_canSlide_b164, wpX12_canSlide_b185, c_0, c_1, c_2, c_3, c_4, c_5, c_6, c_7, c_8, c_9, c_10, c_11, c_12, c_14, c_16, c_19, c_20, c_24, c_31, c_32, c_35, c_48, c_57, c_59, c_63, c_97, c_100, c_122, c_127, c_169, c_255, c_600, c_1000, c_32767, Nat.le_refl, Nat.zero_le, Nat.add_zero, Nat.lt_irrefl, eq_self, o_sub, Nat.sub_zero, Nat.not_lt_zero, ↓ng_d, o_le, o_lt, o_eq, o_add, o_mul, o_cl, o_inT, o_and, n_31, o_shr, o_shl1, o_or, m_lt, m_ge, m_le, m_gt, m_ne, m_ne2, Option.some.injEq, exists_eq_left', true_and, and_true, true_implies, false_implies, implies_true, not_true_eq_false, not_false_eq_true, bI_0, bI_1, bI_01, b01, true_or, or_true, Nat.reduceEqDiff, Bool.not_eq_false, Bool.not_eq_true, Bool.true_eq_false, Bool.false_eq_true, hg0, Nat.or_zero]
            exact h1
          · have hg0 := hg.mpr hq0
            have h1 := g0 hq0
            simp (disch := omega) only [wpX12_canSlide_b164, wpX12_canSlide_b185, c_0, c_1, c_2, c_3, c_4, c_5, c_6, c_7, c_8, c_9, c_10, c_11, c_12, c_14, c_16, c_19, c_20, c_24, c_31, c_32, c_35, c_48, c_57, c_59, c_63, c_97, c_100, c_122, c_127, c_169, c_255, c_600, c_1000, c_32767, Nat.le_refl, Nat.zero_le, Nat.add_zero, Nat.lt_irrefl, eq_self, o_sub, Nat.sub_zero, Nat.not_lt_zero, ↓ng_d, o_le, o_lt, o_eq, o_add, o_mul, o_cl, o_inT, o_and, n_31, o_shr, o_shl1, o_or, m_lt, m_ge, m_le, m_gt, m_ne, m_ne2, Option.some.injEq, exists_eq_left', true_and, and_true, true_implies, false_implies, implies_true, not_true_eq_false, not_false_eq_true, bI_0, bI_1, bI_01, b01, true_or, or_true, Nat.reduceEqDiff, Bool.not_eq_false, Bool.not_eq_true, Bool.true_eq_false, Bool.false_eq_true, hg0, Nat.or_zero]
            exact h1
      by_cases hkw : k + 1 < w
      · have h1 := (fin True ⟨fun _ q => by omega, fun _ => trivial⟩).1 trivial
        simp (disch := omega) only [wpX12_canSlide_b124, wpX12_canSlide_b159, c_0, c_1, c_2, c_3, c_4, c_5, c_6, c_7, c_8, c_9, c_10, c_11, c_12, c_14, c_16, c_19, c_20, c_24, c_31, c_32, c_35, c_48, c_57, c_59, c_63, c_97, c_100, c_122, c_127, c_169, c_255, c_600, c_1000, c_32767, Nat.le_refl, Nat.zero_le, Nat.add_zero, Nat.lt_irrefl, eq_self, o_sub, Nat.sub_zero, Nat.not_lt_zero, ↓ng_d, o_le, o_lt, o_eq, o_add, o_mul, o_cl, o_inT, o_and, n_31, o_shr, o_shl1, o_or, m_lt, m_ge, m_le, m_gt, m_ne, m_ne2, Option.some.injEq, exists_eq_left', true_and, and_true, true_implies, false_implies, implies_true, not_true_eq_false, not_false_eq_true, bI_0, bI_1, bI_01, b01, true_or, or_true, Nat.reduceEqDiff, Bool.not_eq_false, Bool.not_eq_true, Bool.true_eq_false, Bool.false_eq_true, hkw]
        exact h1
      · simp (disch := omega) only [wpX12_canSlide_b124, wpX12_canSlide_b159, c_0, c_1, c_2, c_3, c_4, c_5, c_6, c_7, c_8, c_9, c_10, c_11, c_12, c_14, c_16, c_19, c_20, c_24, c_31, c_32, c_35, c_48, c_57, c_59, c_63, c_97, c_100, c_122, c_127, c_169, c_255, c_600, c_1000, c_32767, Nat.le_refl, Nat.zero_le, Nat.add_zero, Nat.lt_irrefl, eq_self, o_sub, Nat.sub_zero, Nat.not_lt_zero, ↓ng_d, o_le, o_lt, o_eq, o_add, o_mul, o_cl, o_inT, o_and, n_31, o_shr, o_shl1, o_or, m_lt, m_ge, m_le, m_gt, m_ne, m_ne2, Option.some.injEq, exists_eq_left', true_and, and_true, true_implies, false_implies, implies_true, not_true_eq_false, not_false_eq_true, bI_0, bI_1, bI_01, b01, true_or, or_true, Nat.reduceEqDiff, Bool.not_eq_false, Bool.not_eq_true, Bool.true_eq_false, Bool.false_eq_true, hkw]
        refine q_sizeOf (k := w) (by omega) ht2 ?_
        simp (disch := omega) only [w_of hM hp, w_isIn, msk hM, c_0, c_1, c_2, c_3, c_4, c_5, c_6, c_7, c_8, c_9, c_10, c_11, c_12, c_14, c_16, c_19, c_20, c_24, c_31, c_32, c_35, c_48, c_57, c_59, c_63, c_97, c_100, c_122, c_127, c_169, c_255, c_600, c_1000, c_32767, Nat.le_refl, Nat.zero_le, Nat.add_zero, Nat.lt_irrefl, eq_self, o_sub, Nat.sub_zero, Nat.not_lt_zero, ↓ng_d, o_le, o_lt, o_eq, o_add, o_mul, o_cl, o_inT, o_and, n_31, o_shr, o_shl1, o_or, m_lt, m_ge, m_le, m_gt, m_ne, m_ne2, Option.some.injEq, exists_eq_left', true_and, and_true, true_implies, false_implies, implies_true, not_true_eq_false, not_false_eq_true, bI_0, bI_1, bI_01, b01, true_or, or_true, Nat.reduceEqDiff, Bool.not_eq_false, Bool.not_eq_true, Bool.true_eq_false, Bool.false_eq_true]
        have h1 := fin (P (9 + 20 * c + 11) ≤ pcn w t ∧ pcn w t ≤ P (9 + 20 * c + 12)) ⟨fun q _ => q, fun q => q (by omega)⟩
        by_cases hf : P (9 + 20 * c + 11) ≤ pcn w t ∧ pcn w t ≤ P (9 + 20 * c + 12)
        · have h2 := h1.1 hf
          simp only [hf, and_self, decide_true, c_0, c_1, c_2, c_3, c_4, c_5, c_6, c_7, c_8, c_9, c_10, c_11, c_12, c_14, c_16, c_19, c_20, c_24, c_31, c_32, c_35, c_48, c_57, c_59, c_63, c_97, c_100, c_122, c_127, c_169, c_255, c_600, c_1000, c_32767, Nat.le_refl, Nat.zero_le, Nat.add_zero, Nat.lt_irrefl, eq_self, o_sub, Nat.sub_zero, Nat.not_lt_zero, ↓ng_d, o_le, o_lt, o_eq, o_add, o_mul, o_cl, o_inT, o_and, n_31, o_shr, o_shl1, o_or, m_lt, m_ge, m_le, m_gt, m_ne, m_ne2, Option.some.injEq, exists_eq_left', true_and, and_true, true_implies, false_implies, implies_true, not_true_eq_false, not_false_eq_true, bI_0, bI_1, bI_01, b01, true_or, or_true, Nat.reduceEqDiff, Bool.not_eq_false, Bool.not_eq_true, Bool.true_eq_false, Bool.false_eq_true]
          exact h2
        · have h2 := h1.2 hf
          simp only [hf, decide_false, c_0, c_1, c_2, c_3, c_4, c_5, c_6, c_7, c_8, c_9, c_10, c_11, c_12, c_14, c_16, c_19, c_20, c_24, c_31, c_32, c_35, c_48, c_57, c_59, c_63, c_97, c_100, c_122, c_127, c_169, c_255, c_600, c_1000, c_32767, Nat.le_refl, Nat.zero_le, Nat.add_zero, Nat.lt_irrefl, eq_self, o_sub, Nat.sub_zero, Nat.not_lt_zero, ↓ng_d, o_le, o_lt, o_eq, o_add, o_mul, o_cl, o_inT, o_and, n_31, o_shr, o_shl1, o_or, m_lt, m_ge, m_le, m_gt, m_ne, m_ne2, Option.some.injEq, exists_eq_left', true_and, and_true, true_implies, false_implies, implies_true, not_true_eq_false, not_false_eq_true, bI_0, bI_1, bI_01, b01, true_or, or_true, Nat.reduceEqDiff, Bool.not_eq_false, Bool.not_eq_true, Bool.true_eq_false, Bool.false_eq_true]
          exact h2
    have e01 : b = 0 ∨ b = 1 := by omega
    rcases e01 with rfl | rfl
    · have q1 := dm_andn _ hx _ hs
      have q2 := dm_andn_lt _ hx _ hs
      have q3 : ¬ (0 : Nat) = 1 := by decide
      have q4 : row * 2 ^ 1 ||| 0 = 2 * row := sl_or row hrow 0 (by decide)
      have ht0 : 2 * row &&& (2 ^ w - 1) = t := ht
      have q5 := canBit_0 _ hx _ hs
      simp (disch := omega) only [wpX12_canSlide_b67, wpX12_canSlide_b115, w_of hM hp, msk hM, c_0, c_1, c_2, c_3, c_4, c_5, c_6, c_7, c_8, c_9, c_10, c_11, c_12, c_14, c_16, c_19, c_20, c_24, c_31, c_32, c_35, c_48, c_57, c_59, c_63, c_97, c_100, c_122, c_127, c_169, c_255, c_600, c_1000, c_32767, Nat.le_refl, Nat.zero_le, Nat.add_zero, Nat.lt_irrefl, eq_self, o_sub, Nat.sub_zero, Nat.not_lt_zero, ↓ng_d, o_le, o_lt, o_eq, o_add, o_mul, o_cl, o_inT, o_and, n_31, o_shr, o_shl1, o_or, m_lt, m_ge, m_le, m_gt, m_ne, m_ne2, Option.some.injEq, exists_eq_left', true_and, and_true, true_implies, false_implies, implies_true, not_true_eq_false, not_false_eq_true, bI_0, bI_1, bI_01, b01, true_or, or_true, Nat.reduceEqDiff, Bool.not_eq_false, Bool.not_eq_true, Bool.true_eq_false, Bool.false_eq_true, e2, q3, o_shl, Nat.one_mul, q4, ht0, q1]
      refine ⟨fun z => tail False (nI 0) ⟨fun f => f.elim, fun f => q5.mp f z⟩ ⟨fun _ => id, fun _ => rfl⟩ (Or.inl rfl), fun z => tail True (nI 1) ⟨fun _ => q5.mpr z, fun _ => trivial⟩ ⟨fun f => absurd f (by decide), fun f => absurd trivial f⟩ (Or.inr rfl)⟩
    · have q2 := dm_and_lt _ hx _ hs
      have q4 : row * 2 ^ 1 ||| 1 = 2 * row + 1 := sl_or row hrow 1 (by decide)
      have q5 := canBit_1 _ hx _ hs
      simp (disch := omega) only [wpX12_canSlide_b67, wpX12_canSlide_b115, w_of hM hp, msk hM, c_0, c_1, c_2, c_3, c_4, c_5, c_6, c_7, c_8, c_9, c_10, c_11, c_12, c_14, c_16, c_19, c_20, c_24, c_31, c_32, c_35, c_48, c_57, c_59, c_63, c_97, c_100, c_122, c_127, c_169, c_255, c_600, c_1000, c_32767, Nat.le_refl, Nat.zero_le, Nat.add_zero, Nat.lt_irrefl, eq_self, o_sub, Nat.sub_zero, Nat.not_lt_zero, ↓ng_d, o_le, o_lt, o_eq, o_add, o_mul, o_cl, o_inT, o_and, n_31, o_shr, o_shl1, o_or, m_lt, m_ge, m_le, m_gt, m_ne, m_ne2, Option.some.injEq, exists_eq_left', true_and, and_true, true_implies, false_implies, implies_true, not_true_eq_false, not_false_eq_true, bI_0, bI_1, bI_01, b01, true_or, or_true, Nat.reduceEqDiff, Bool.not_eq_false, Bool.not_eq_true, Bool.true_eq_false, Bool.false_eq_true, e2, o_shl, Nat.one_mul, q4, ht]
      refine ⟨fun z => tail False (nI 0) ⟨fun f => f.elim, fun f => q5.mp f z⟩ ⟨fun _ => id, fun _ => rfl⟩ (Or.inl rfl), fun z => tail True (nI 1) ⟨fun _ => q5.mpr z, fun _ => trivial⟩ ⟨fun f => absurd f (by decide), fun f => absurd trivial f⟩ (Or.inr rfl)⟩
theorem q_cs44 {S : PS} {P : Nat → Nat} {c a w k R x : Nat} {K14 : PS → Nat → Int32 → Nat → Int32 → Int32 → Int32 → Prop} {Q : Int32 → PS → Prop} (hM : MShape S) (hp : rP S P) (hc : c < 8) (hk : k < 7) (hx : x < 32) (hR : R < 65536) (hwe : P (9 + 20 * c + 9) = w) (hw0 : 0 < w) (hw4 : w ≤ 4) (hs : P (9 + 20 * c + 10) < 32) (hl : P (9 + 20 * c + 11) < 64) (hh : P (9 + 20 * c + 12) < 64)
    (hK : ∀ N, slJ w (P (9 + 20 * c + 10)) (P (9 + 20 * c + 11)) (P (9 + 20 * c + 12)) x k R 32 N → K14 S 87 (nI c) a (nI w) (nI N) (nI (k + 1))) :
    ∀ r row N, row + r = 16 → slJ w (P (9 + 20 * c + 10)) (P (9 + 20 * c + 11)) (P (9 + 20 * c + 12)) x k R (2 * row) N → wpX12_canSlide_b44 K14 Q (r + 1) S 87 (nI c) a (nI w) (nI R) (nI k) (nI x) (nI N) (nI row) := by
  intro r
  induction r with
  | zero =>
    intro row N hr h
    have : row = 16 := by omega
    subst this
    have h3 := hK N h
    simp (disch := omega) only [wpX12_canSlide_b44, c_0, c_1, c_2, c_3, c_4, c_5, c_6, c_7, c_8, c_9, c_10, c_11, c_12, c_14, c_16, c_19, c_20, c_24, c_31, c_32, c_35, c_48, c_57, c_59, c_63, c_97, c_100, c_122, c_127, c_169, c_255, c_600, c_1000, c_32767, Nat.le_refl, Nat.zero_le, Nat.add_zero, Nat.lt_irrefl, eq_self, o_sub, Nat.sub_zero, Nat.not_lt_zero, ↓ng_d, o_le, o_lt, o_eq, o_add, o_mul, o_cl, o_inT, o_and, n_31, o_shr, o_shl1, o_or, m_lt, m_ge, m_le, m_gt, m_ne, m_ne2, Option.some.injEq, exists_eq_left', true_and, and_true, true_implies, false_implies, implies_true, not_true_eq_false, not_false_eq_true, bI_0, bI_1, bI_01, b01, true_or, or_true, Nat.reduceEqDiff, Bool.not_eq_false, Bool.not_eq_true, Bool.true_eq_false, Bool.false_eq_true]
    exact h3
  | succ r ih =>
    intro row N hr h
    have e : ¬ 16 ≤ row := by omega
    cases hb : R.testBit row
    · have hn := ih (row + 1) N (by omega) (slJ_s h hb)
      generalize r + 1 = fu at hn ⊢
      simp (disch := omega) only [wpX12_canSlide_b44, w_has, c_0, c_1, c_2, c_3, c_4, c_5, c_6, c_7, c_8, c_9, c_10, c_11, c_12, c_14, c_16, c_19, c_20, c_24, c_31, c_32, c_35, c_48, c_57, c_59, c_63, c_97, c_100, c_122, c_127, c_169, c_255, c_600, c_1000, c_32767, Nat.le_refl, Nat.zero_le, Nat.add_zero, Nat.lt_irrefl, eq_self, o_sub, Nat.sub_zero, Nat.not_lt_zero, ↓ng_d, o_le, o_lt, o_eq, o_add, o_mul, o_cl, o_inT, o_and, n_31, o_shr, o_shl1, o_or, m_lt, m_ge, m_le, m_gt, m_ne, m_ne2, Option.some.injEq, exists_eq_left', true_and, and_true, true_implies, false_implies, implies_true, not_true_eq_false, not_false_eq_true, bI_0, bI_1, bI_01, b01, true_or, or_true, Nat.reduceEqDiff, Bool.not_eq_false, Bool.not_eq_true, Bool.true_eq_false, Bool.false_eq_true, e, hb]
      exact hn
    · have hn := ih (row + 1)
      have h3 := q_cs67 (K14 := K14) (K44 := wpX12_canSlide_b44 K14 Q (r + 1)) (Q := Q) (a := a) hM hp hc hk hx (by omega) hR hb hwe hw0 hw4 hs hl hh (fun N2 h2 => hn N2 (by omega) h2) 2 0 N rfl h
      generalize r + 1 = fu at h3 ⊢
      simp (disch := omega) only [wpX12_canSlide_b44, w_has, c_0, c_1, c_2, c_3, c_4, c_5, c_6, c_7, c_8, c_9, c_10, c_11, c_12, c_14, c_16, c_19, c_20, c_24, c_31, c_32, c_35, c_48, c_57, c_59, c_63, c_97, c_100, c_122, c_127, c_169, c_255, c_600, c_1000, c_32767, Nat.le_refl, Nat.zero_le, Nat.add_zero, Nat.lt_irrefl, eq_self, o_sub, Nat.sub_zero, Nat.not_lt_zero, ↓ng_d, o_le, o_lt, o_eq, o_add, o_mul, o_cl, o_inT, o_and, n_31, o_shr, o_shl1, o_or, m_lt, m_ge, m_le, m_gt, m_ne, m_ne2, Option.some.injEq, exists_eq_left', true_and, and_true, true_implies, false_implies, implies_true, not_true_eq_false, not_false_eq_true, bI_0, bI_1, bI_01, b01, true_or, or_true, Nat.reduceEqDiff, Bool.not_eq_false, Bool.not_eq_true, Bool.true_eq_false, Bool.false_eq_true, e, hb]
      exact ⟨_, h3⟩
theorem q_canSlide {S : PS} {P d : Nat → Nat} {c a : Nat} {Q : Int32 → PS → Prop} (hM : MShape S) (hp : rP S P) (hd : rD S a d) (hc : c < 8) (hw : Cwf P c) (h0 : P 0 ≤ 7) (hk : P (9 + 20 * c) = 1) (hQ : Q (bI (dB (Can (cK P c) d))) S) : wpX12_canSlide S 87 (nI c) a Q := by
  obtain ⟨-, g1, g2, g3, g4, -, g6, -, -, g9, -⟩ := hw
  obtain ⟨w0, w4, s0, s5, lh, hw'⟩ := g6 hk
  have hl := g9 11 (by decide)
  have hh := g9 12 (by decide)
  have hm7 : ∀ k, k < P (9 + 20 * c + 1) → P (9 + 20 * c + (2 + k)) < 7 := fun k hk => Nat.lt_of_lt_of_le (g3 k hk) h0
  have hcK : Can (cK P c) d ↔ ∃ r, reach (P (9 + 20 * c + 9)) (P (9 + 20 * c + 10)) (P (9 + 20 * c + 11)) (P (9 + 20 * c + 12)) (fun k => P (9 + 20 * c + (2 + k))) d (P (9 + 20 * c + 1)) r := by
    have e : cOk P c = okWindow (P (9 + 20 * c + 1)) (fun k => P (9 + 20 * c + (2 + k))) (P (9 + 20 * c + 9)) (P (9 + 20 * c + 10)) (P (9 + 20 * c + 11)) (P (9 + 20 * c + 12)) := funext fun a => by
      unfold cOk
      rw [if_neg (by omega), if_pos hk]
    unfold cK
    rw [e]
    exact can_window.symm
  have main : ∀ r k R, k + r = P (9 + 20 * c + 1) → R < 65536 → (∀ t, R.testBit t = true ↔ reach (P (9 + 20 * c + 9)) (P (9 + 20 * c + 10)) (P (9 + 20 * c + 11)) (P (9 + 20 * c + 12)) (fun k => P (9 + 20 * c + (2 + k))) d k t) → wpX12_canSlide_b14 Q (r + 1) S 87 (nI c) a (nI (P (9 + 20 * c + 9))) (nI R) (nI k) := by
    intro r
    induction r with
    | zero =>
      intro k R hk hR h
      have hk' : P (9 + 20 * c + 1) = k := by omega
      simp (disch := omega) only [wpX12_canSlide_b14, w_of hM hp, msk hM, c_0, c_1, c_2, c_3, c_4, c_5, c_6, c_7, c_8, c_9, c_10, c_11, c_12, c_14, c_16, c_19, c_20, c_24, c_31, c_32, c_35, c_48, c_57, c_59, c_63, c_97, c_100, c_122, c_127, c_169, c_255, c_600, c_1000, c_32767, Nat.le_refl, Nat.zero_le, Nat.add_zero, Nat.lt_irrefl, eq_self, o_sub, Nat.sub_zero, Nat.not_lt_zero, ↓ng_d, o_le, o_lt, o_eq, o_add, o_mul, o_cl, o_inT, o_and, n_31, o_shr, o_shl1, o_or, m_lt, m_ge, m_le, m_gt, m_ne, m_ne2, Option.some.injEq, exists_eq_left', true_and, and_true, true_implies, false_implies, implies_true, not_true_eq_false, not_false_eq_true, bI_0, bI_1, bI_01, b01, true_or, or_true, Nat.reduceEqDiff, Bool.not_eq_false, Bool.not_eq_true, Bool.true_eq_false, Bool.false_eq_true, hk']
      refine ⟨fun e => ?_, fun e => ?_⟩
      · rw [dB_f.mpr (fun q => by
          obtain ⟨t, ht⟩ := hcK.mp q
          rw [hk'] at ht
          have := (h t).mpr ht
          rw [e] at this
          simp at this)] at hQ
        exact hQ
      · rw [dB_t.mpr (hcK.mpr (by
          rw [hk']
          apply Classical.byContradiction
          intro q
          apply e
          apply Nat.eq_of_testBit_eq
          intro i
          rw [Nat.zero_testBit]
          cases hb : R.testBit i
          · rfl
          · exact absurd ⟨i, (h i).mp hb⟩ q))] at hQ
        exact hQ
    | succ r ih =>
      intro k R hk hR h
      have e : ¬ P (9 + 20 * c + 1) ≤ k := by omega
      have hx := hm7 k (by omega)
      have hdx := hd.2.2.2 _ hx
      have hn : ∀ N, slJ (P (9 + 20 * c + 9)) (P (9 + 20 * c + 10)) (P (9 + 20 * c + 11)) (P (9 + 20 * c + 12)) (d (P (9 + 20 * c + (2 + k)))) k R 32 N → wpX12_canSlide_b14 Q (r + 1) S 87 (nI c) a (nI (P (9 + 20 * c + 9))) (nI N) (nI (k + 1)) := fun N h1 => ih (k + 1) N (by omega) h1.1 (fun t => by
        rw [h1.2 t, reach_s (n := P (9 + 20 * c + 1)) (m := fun k => P (9 + 20 * c + (2 + k))) g4 (by omega) w0]
        constructor
        · rintro ⟨r, b, q1, q2, q3, q4, q5⟩
          exact ⟨r, b, q2, (h r).mp q3, q4, q5.1, q5.2⟩
        · rintro ⟨r, b, q2, q3, q4, q5, q6⟩
          have hr16 : r < 16 := Nat.lt_of_lt_of_le (reach_lt q3) (show 2 ^ _ ≤ 2 ^ 4 from Nat.pow_le_pow_right (by decide) w4)
          exact ⟨r, b, by omega, q2, (h r).mpr q3, q4, q5, q6⟩)
      have h3 := q_cs44 (K14 := wpX12_canSlide_b14 Q (r + 1)) (Q := Q) (a := a) hM hp hc (show k < 7 by omega) hdx hR rfl w0 w4 s5 hl hh hn 16 0 0 rfl slJ_0
      generalize r + 1 = fu at h3 ⊢
      simp (disch := omega) only [wpX12_canSlide_b14, w_of hM hp, msk hM, c_0, c_1, c_2, c_3, c_4, c_5, c_6, c_7, c_8, c_9, c_10, c_11, c_12, c_14, c_16, c_19, c_20, c_24, c_31, c_32, c_35, c_48, c_57, c_59, c_63, c_97, c_100, c_122, c_127, c_169, c_255, c_600, c_1000, c_32767, Nat.le_refl, Nat.zero_le, Nat.add_zero, Nat.lt_irrefl, eq_self, o_sub, Nat.sub_zero, Nat.not_lt_zero, ↓ng_d, o_le, o_lt, o_eq, o_add, o_mul, o_cl, o_inT, o_and, n_31, o_shr, o_shl1, o_or, m_lt, m_ge, m_le, m_gt, m_ne, m_ne2, Option.some.injEq, exists_eq_left', true_and, and_true, true_implies, false_implies, implies_true, not_true_eq_false, not_false_eq_true, bI_0, bI_1, bI_01, b01, true_or, or_true, Nat.reduceEqDiff, Bool.not_eq_false, Bool.not_eq_true, Bool.true_eq_false, Bool.false_eq_true, e, hd.1, hd.2.1, hd.2.2.1 _ hx]
      exact ⟨_, h3⟩
  have w4' := g9 9 (by decide)
  simp (disch := omega) only [wpX12_canSlide, w_of hM hp, msk hM, c_0, c_1, c_2, c_3, c_4, c_5, c_6, c_7, c_8, c_9, c_10, c_11, c_12, c_14, c_16, c_19, c_20, c_24, c_31, c_32, c_35, c_48, c_57, c_59, c_63, c_97, c_100, c_122, c_127, c_169, c_255, c_600, c_1000, c_32767, Nat.le_refl, Nat.zero_le, Nat.add_zero, Nat.lt_irrefl, eq_self, o_sub, Nat.sub_zero, Nat.not_lt_zero, ↓ng_d, o_le, o_lt, o_eq, o_add, o_mul, o_cl, o_inT, o_and, n_31, o_shr, o_shl1, o_or, m_lt, m_ge, m_le, m_gt, m_ne, m_ne2, Option.some.injEq, exists_eq_left', true_and, and_true, true_implies, false_implies, implies_true, not_true_eq_false, not_false_eq_true, bI_0, bI_1, bI_01, b01, true_or, or_true, Nat.reduceEqDiff, Bool.not_eq_false, Bool.not_eq_true, Bool.true_eq_false, Bool.false_eq_true]
  exact ⟨_, main _ 0 1 (Nat.zero_add _) (by decide) (fun t => by
    rw [reach_0 w0]
    constructor
    · intro q
      cases t with
      | zero => rfl
      | succ t => rw [Nat.testBit_succ] at q; simp at q
    · rintro rfl; rfl)⟩

/-! THE REFERENCE: supports, facts, propagation -/
theorem fr.M {A : List Nat} {S S' : PS} (h : fr A S S') (hM : MShape S) : MShape S' := by
  unfold MShape
  rw [h.2.1, h.2.2.1, h.2.2.2.1]
  exact hM
theorem fr.P {A : List Nat} {S S' : PS} {P : Nat → Nat} (h : fr A S S') (ha : 88 ∉ A) (hp : rP S P) : rP S' P := fun k hk => by rw [h.I ha]; exact hp k hk
theorem fr.D {A : List Nat} {S S' : PS} {a : Nat} {d : Nat → Nat} (h : fr A S S') (ha : a ∉ A) (hd : rD S a d) : rD S' a d := ⟨by rw [h.K]; exact hd.1, by rw [h.L]; exact hd.2.1, fun x hx => by rw [h.I ha]; exact hd.2.2.1 x hx, hd.2.2.2⟩
/-- the number of a constraint, or of a learnt set with its sign -/
def isC (P : Nat → Nat) (C : Int32) (κ : Kon) : Prop := (∃ c, c < P 1 ∧ C = nI c ∧ κ = cK P c) ∨ (∃ s, Swf s ∧ 0 < s ∧ C = -nI s ∧ κ = lK s)
theorem fb_negM {s : Nat} (h : s < 2147483648) : (-nI s).toInt = -(s : Int) := by
  rw [Int32.toInt_neg, nI_toInt h, Int.bmod_eq_of_le (by omega) (by omega)]
theorem n_lt {s : Nat} (h0 : 0 < s) (h : s < 2147483648) : (-nI s < nI 0) = True := by
  apply propext
  rw [Int32.lt_iff_toInt_lt, nI_toInt (by decide), fb_negM h]
  constructor
  · intro _; trivial
  · intro _; omega
theorem n_ge {s : Nat} (h0 : 0 < s) (h : s < 2147483648) : (nI 0 ≤ -nI s) = False := by
  apply propext
  rw [Int32.le_iff_toInt_le, nI_toInt (by decide), fb_negM h]
  constructor
  · intro q; omega
  · intro q; exact q.elim
theorem cK_less {P : Nat → Nat} {c : Nat} (h1 : P (9 + 20 * c + 1) = 2) (hk : P (9 + 20 * c) = 2) : cK P c = (2, (fun k => P (9 + 20 * c + (2 + k))), okLess (fun k => P (9 + 20 * c + (2 + k)))) := by
  unfold cK
  rw [h1]
  have e : cOk P c = okLess (fun k => P (9 + 20 * c + (2 + k))) := funext fun a => by
    unfold cOk
    rw [if_neg (by omega), if_neg (by omega), if_pos hk]
  rw [e]
theorem cK_differ {P : Nat → Nat} {c : Nat} (h1 : P (9 + 20 * c + 1) = 2) (hk : P (9 + 20 * c) = 3) : cK P c = (2, (fun k => P (9 + 20 * c + (2 + k))), okDiffer (fun k => P (9 + 20 * c + (2 + k)))) := by
  unfold cK
  rw [h1]
  have e : cOk P c = okDiffer (fun k => P (9 + 20 * c + (2 + k))) := funext fun a => by
    unfold cOk
    rw [if_neg (by omega), if_neg (by omega), if_neg (by omega)]
  rw [e]
theorem q_can {S : PS} {P d : Nat → Nat} {C : Int32} {κ : Kon} {a : Nat} {Q : Int32 → PS → Prop} (hM : MShape S) (hp : rP S P) (hw : Pwf P) (hd : rD S a d) (hC : isC P C κ) (hQ : Q (bI (dB (Can κ d))) S) : wpX12_can S 87 C a Q := by
  have hQ2 : ∀ b : Bool, Q (bI b) S → ((bI b = nI 0 ∨ bI b = nI 1) ∧ Q (bI b) S) := fun b q => ⟨by rw [bI_01]; trivial, q⟩
  rcases hC with ⟨c, hc, rfl, rfl⟩ | ⟨s, hs, h0, rfl, rfl⟩
  · have hw2 := hw.2.2.2.2.2 c hc
    have hc8 : c < 8 := Nat.lt_of_lt_of_le hc hw.2.1
    obtain ⟨g0, g1, g2, g3, g4, -, -, g7, -, g9, g10⟩ := hw2
    have m0 := g10 0 (by decide)
    have m1 := g10 1 (by decide)
    have m0' : P (9 + 20 * c + 2) < 7 := m0
    have m1' : P (9 + 20 * c + 3) < 7 := m1
    have d0 := hd.2.2.2 _ m0'
    have d1 := hd.2.2.2 _ m1'
    have hk : P (9 + 20 * c) = 0 ∨ P (9 + 20 * c) = 1 ∨ P (9 + 20 * c) = 2 ∨ P (9 + 20 * c) = 3 := by omega
    rcases hk with hk | hk | hk | hk
    · have h1 := q_canCount (Q := fun r S => ((r = nI 0 ∨ r = nI 1) ∧ Q r S)) hM hp hd hc8 (hw.2.2.2.2.2 c hc) hw.1 hk (hQ2 _ hQ)
      have n1 : ¬ (0 : Nat) = 1 := by decide
      have n2 : ¬ (0 : Nat) = 2 := by decide
      simp (disch := omega) only [wpX12_can, w_of hM hp, msk hM, c_0, c_1, c_2, c_3, c_4, c_5, c_6, c_7, c_8, c_9, c_10, c_11, c_12, c_14, c_16, c_19, c_20, c_24, c_31, c_32, c_35, c_48, c_57, c_59, c_63, c_97, c_100, c_122, c_127, c_169, c_255, c_600, c_1000, c_32767, Nat.le_refl, Nat.zero_le, Nat.add_zero, Nat.lt_irrefl, eq_self, o_sub, Nat.sub_zero, Nat.not_lt_zero, ↓ng_d, o_le, o_lt, o_eq, o_add, o_mul, o_cl, o_inT, o_and, n_31, o_shr, o_shl1, o_or, m_lt, m_ge, m_le, m_gt, m_ne, m_ne2, Option.some.injEq, exists_eq_left', true_and, and_true, true_implies, false_implies, implies_true, not_true_eq_false, not_false_eq_true, bI_0, bI_1, bI_01, b01, true_or, or_true, Nat.reduceEqDiff, Bool.not_eq_false, Bool.not_eq_true, Bool.true_eq_false, Bool.false_eq_true, hd.1, hd.2.1, hk, n1, n2, not_false_eq_true, and_false, false_and]
      exact h1
    · have h1 := q_canSlide (Q := fun r S => ((r = nI 0 ∨ r = nI 1) ∧ Q r S)) hM hp hd hc8 (hw.2.2.2.2.2 c hc) hw.1 hk (hQ2 _ hQ)
      have n1 : ¬ (1 : Nat) = 0 := by decide
      have n2 : ¬ (1 : Nat) = 2 := by decide
      simp (disch := omega) only [wpX12_can, w_of hM hp, msk hM, c_0, c_1, c_2, c_3, c_4, c_5, c_6, c_7, c_8, c_9, c_10, c_11, c_12, c_14, c_16, c_19, c_20, c_24, c_31, c_32, c_35, c_48, c_57, c_59, c_63, c_97, c_100, c_122, c_127, c_169, c_255, c_600, c_1000, c_32767, Nat.le_refl, Nat.zero_le, Nat.add_zero, Nat.lt_irrefl, eq_self, o_sub, Nat.sub_zero, Nat.not_lt_zero, ↓ng_d, o_le, o_lt, o_eq, o_add, o_mul, o_cl, o_inT, o_and, n_31, o_shr, o_shl1, o_or, m_lt, m_ge, m_le, m_gt, m_ne, m_ne2, Option.some.injEq, exists_eq_left', true_and, and_true, true_implies, false_implies, implies_true, not_true_eq_false, not_false_eq_true, bI_0, bI_1, bI_01, b01, true_or, or_true, Nat.reduceEqDiff, Bool.not_eq_false, Bool.not_eq_true, Bool.true_eq_false, Bool.false_eq_true, hd.1, hd.2.1, hk, n1, n2, not_false_eq_true, and_false, false_and]
      exact h1
    · have e2 := g7 (by omega)
      have hm : P (9 + 20 * c + 2) ≠ P (9 + 20 * c + 3) := fun q => by
        have := g4 0 1 (by omega) (by omega) q
        omega
      have h1 := q_canBeLess (S := S) (Q := fun r S => ((r = nI 0 ∨ r = nI 1) ∧ Q r S)) d0 d1 (fun b hb => hQ2 b (by
        rw [dB_eq (hb.trans (can_less (m := fun k => P (9 + 20 * c + (2 + k))) hm d0 d1)), ← cK_less e2 hk]
        exact hQ))
      have n1 : ¬ (2 : Nat) = 0 := by decide
      have n2 : ¬ (2 : Nat) = 1 := by decide
      simp (disch := omega) only [wpX12_can, w_of hM hp, msk hM, c_0, c_1, c_2, c_3, c_4, c_5, c_6, c_7, c_8, c_9, c_10, c_11, c_12, c_14, c_16, c_19, c_20, c_24, c_31, c_32, c_35, c_48, c_57, c_59, c_63, c_97, c_100, c_122, c_127, c_169, c_255, c_600, c_1000, c_32767, Nat.le_refl, Nat.zero_le, Nat.add_zero, Nat.lt_irrefl, eq_self, o_sub, Nat.sub_zero, Nat.not_lt_zero, ↓ng_d, o_le, o_lt, o_eq, o_add, o_mul, o_cl, o_inT, o_and, n_31, o_shr, o_shl1, o_or, m_lt, m_ge, m_le, m_gt, m_ne, m_ne2, Option.some.injEq, exists_eq_left', true_and, and_true, true_implies, false_implies, implies_true, not_true_eq_false, not_false_eq_true, bI_0, bI_1, bI_01, b01, true_or, or_true, Nat.reduceEqDiff, Bool.not_eq_false, Bool.not_eq_true, Bool.true_eq_false, Bool.false_eq_true, hd.1, hd.2.1, hk, n1, n2, not_false_eq_true, and_false, false_and, hd.2.2.1 _ m0', hd.2.2.1 _ m1']
      exact h1
    · have e2 := g7 (by omega)
      have hm : P (9 + 20 * c + 2) ≠ P (9 + 20 * c + 3) := fun q => by
        have := g4 0 1 (by omega) (by omega) q
        omega
      have h1 := q_canDiffer (S := S) (Q := fun r S => ((r = nI 0 ∨ r = nI 1) ∧ Q r S)) d0 d1 (fun b hb => hQ2 b (by
        rw [dB_eq (hb.trans (can_differ (m := fun k => P (9 + 20 * c + (2 + k))) hm d0 d1)), ← cK_differ e2 hk]
        exact hQ))
      have n1 : ¬ (3 : Nat) = 0 := by decide
      have n2 : ¬ (3 : Nat) = 1 := by decide
      have n3 : ¬ (3 : Nat) = 2 := by decide
      simp (disch := omega) only [wpX12_can, w_of hM hp, msk hM, c_0, c_1, c_2, c_3, c_4, c_5, c_6, c_7, c_8, c_9, c_10, c_11, c_12, c_14, c_16, c_19, c_20, c_24, c_31, c_32, c_35, c_48, c_57, c_59, c_63, c_97, c_100, c_122, c_127, c_169, c_255, c_600, c_1000, c_32767, Nat.le_refl, Nat.zero_le, Nat.add_zero, Nat.lt_irrefl, eq_self, o_sub, Nat.sub_zero, Nat.not_lt_zero, ↓ng_d, o_le, o_lt, o_eq, o_add, o_mul, o_cl, o_inT, o_and, n_31, o_shr, o_shl1, o_or, m_lt, m_ge, m_le, m_gt, m_ne, m_ne2, Option.some.injEq, exists_eq_left', true_and, and_true, true_implies, false_implies, implies_true, not_true_eq_false, not_false_eq_true, bI_0, bI_1, bI_01, b01, true_or, or_true, Nat.reduceEqDiff, Bool.not_eq_false, Bool.not_eq_true, Bool.true_eq_false, Bool.false_eq_true, hd.1, hd.2.1, hk, n1, n2, n3, not_false_eq_true, and_false, false_and, hd.2.2.1 _ m0', hd.2.2.1 _ m1']
      exact h1
  · have hs1 := hs.1
    have h1 := q_canLeave (Q := fun r S => ((r = nI 0 ∨ r = nI 1) ∧ Q r S)) hs hd (hQ2 _ hQ)
    have hge := n_ge h0 (show s < 2147483648 by omega)
    simp (disch := omega) only [wpX12_can, msk hM, c_0, c_1, c_2, c_3, c_4, c_5, c_6, c_7, c_8, c_9, c_10, c_11, c_12, c_14, c_16, c_19, c_20, c_24, c_31, c_32, c_35, c_48, c_57, c_59, c_63, c_97, c_100, c_122, c_127, c_169, c_255, c_600, c_1000, c_32767, Nat.le_refl, Nat.zero_le, Nat.add_zero, Nat.lt_irrefl, eq_self, o_sub, Nat.sub_zero, Nat.not_lt_zero, ↓ng_d, o_le, o_lt, o_eq, o_add, o_mul, o_cl, o_inT, o_and, n_31, o_shr, o_shl1, o_or, m_lt, m_ge, m_le, m_gt, m_ne, m_ne2, Option.some.injEq, exists_eq_left', true_and, and_true, true_implies, false_implies, implies_true, not_true_eq_false, not_false_eq_true, bI_0, bI_1, bI_01, b01, true_or, or_true, Nat.reduceEqDiff, Bool.not_eq_false, Bool.not_eq_true, Bool.true_eq_false, Bool.false_eq_true, hge, Int32.neg_neg]
    exact h1
theorem q_hasSupport {S : PS} {P d : Nat → Nat} {C : Int32} {κ : Kon} {a x v : Nat} {Q : Int32 → PS → Prop} (hM : MShape S) (hp : rP S P) (hw : Pwf P) (hd : rD S a d) (ha : a ≠ 96) (hx : x < 7) (hv : v < 5) (hC : isC P C κ) (hQ : ∀ S', fr [96] S S' → Q (bI (dB (Can κ (ud d x (2 ^ v))))) S') : wpX12_hasSupport S 87 C (nI x) (nI v) a Q := by
  have ha2 : a ∉ [96] := by simp [ha]
  have hv32 := dm_pow_lt v hv
  have main : ∀ r k S', k + r = 7 → fr [96] S S' → (∀ j, j < k → pI S' 96 j = nI (d j)) → wpX12_hasSupport_b3 Q (r + 1) S' 87 C (nI x) (nI v) a (nI k) := by
    intro r
    induction r with
    | zero =>
      intro k S' hk hf h
      have : k = 7 := by omega
      subst this
      have hM' := hf.M hM
      have hf2 : fr [96] S (sI S' 96 x (nI (2 ^ v))) := fr_t hf (fr_sI _ _ _ (by decide))
      have hd2 : rD (sI S' 96 x (nI (2 ^ v))) 96 (ud d x (2 ^ v)) := by
        refine ⟨msk_trial hM', msl_trial hM', fun y hy => ?_, fun y hy => ?_⟩
        · rw [pI_sI]
          by_cases e : y = x
          · subst e; rw [if_pos ⟨rfl, rfl⟩, ud_s]
          · rw [if_neg (fun q => e q.2), ud_n _ _ e]; exact h y hy
        · by_cases e : y = x
          · subst e; rw [ud_s]; exact hv32
          · rw [ud_n _ _ e]; exact hd.2.2.2 y hy
      have h1 := q_can (Q := fun r S => ((r = nI 0 ∨ r = nI 1) ∧ Q r S)) (hf2.M hM) (hf2.P (by decide) hp) hw hd2 hC ⟨by rw [bI_01]; trivial, hQ _ hf2⟩
      simp (disch := omega) only [wpX12_hasSupport_b3, msk hM', msr_trial hM', msk_trial hM', msl_trial hM', c_0, c_1, c_2, c_3, c_4, c_5, c_6, c_7, c_8, c_9, c_10, c_11, c_12, c_14, c_16, c_19, c_20, c_24, c_31, c_32, c_35, c_48, c_57, c_59, c_63, c_97, c_100, c_122, c_127, c_169, c_255, c_600, c_1000, c_32767, Nat.le_refl, Nat.zero_le, Nat.add_zero, Nat.lt_irrefl, eq_self, o_sub, Nat.sub_zero, Nat.not_lt_zero, ↓ng_d, o_le, o_lt, o_eq, o_add, o_mul, o_cl, o_inT, o_and, n_31, o_shr, o_shl1, o_or, m_lt, m_ge, m_le, m_gt, m_ne, m_ne2, Option.some.injEq, exists_eq_left', true_and, and_true, true_implies, false_implies, implies_true, not_true_eq_false, not_false_eq_true, bI_0, bI_1, bI_01, b01, true_or, or_true, Nat.reduceEqDiff, Bool.not_eq_false, Bool.not_eq_true, Bool.true_eq_false, Bool.false_eq_true]
      exact h1
    | succ r ih =>
      intro k S' hk hf h
      have e : ¬ 7 ≤ k := by omega
      have hM' := hf.M hM
      have hd' := hf.D ha2 hd
      have h1 := ih (k + 1) (sI S' 96 k (nI (d k))) (by omega) (fr_t hf (fr_sI _ _ _ (by decide))) (fun j hj => by
        rw [pI_sI]
        by_cases q : j = k
        · rw [if_pos ⟨rfl, q⟩, q]
        · rw [if_neg (fun w => q w.2)]; exact h j (by omega))
      generalize r + 1 = fu at h1 ⊢
      simp (disch := omega) only [wpX12_hasSupport_b3, msk hM', msr_trial hM', msk_trial hM', msl_trial hM', c_0, c_1, c_2, c_3, c_4, c_5, c_6, c_7, c_8, c_9, c_10, c_11, c_12, c_14, c_16, c_19, c_20, c_24, c_31, c_32, c_35, c_48, c_57, c_59, c_63, c_97, c_100, c_122, c_127, c_169, c_255, c_600, c_1000, c_32767, Nat.le_refl, Nat.zero_le, Nat.add_zero, Nat.lt_irrefl, eq_self, o_sub, Nat.sub_zero, Nat.not_lt_zero, ↓ng_d, o_le, o_lt, o_eq, o_add, o_mul, o_cl, o_inT, o_and, n_31, o_shr, o_shl1, o_or, m_lt, m_ge, m_le, m_gt, m_ne, m_ne2, Option.some.injEq, exists_eq_left', true_and, and_true, true_implies, false_implies, implies_true, not_true_eq_false, not_false_eq_true, bI_0, bI_1, bI_01, b01, true_or, or_true, Nat.reduceEqDiff, Bool.not_eq_false, Bool.not_eq_true, Bool.true_eq_false, Bool.false_eq_true, e, hd'.1, hd'.2.1, hd'.2.2.1 k (by omega)]
      exact h1
  simp only [wpX12_hasSupport, c_0, c_1, c_2, c_3, c_4, c_5, c_6, c_7, c_8, c_9, c_10, c_11, c_12, c_14, c_16, c_19, c_20, c_24, c_31, c_32, c_35, c_48, c_57, c_59, c_63, c_97, c_100, c_122, c_127, c_169, c_255, c_600, c_1000, c_32767, Nat.le_refl, Nat.zero_le, Nat.add_zero, Nat.lt_irrefl, eq_self, o_sub, Nat.sub_zero, Nat.not_lt_zero, ↓ng_d, o_le, o_lt, o_eq, o_add, o_mul, o_cl, o_inT, o_and, n_31, o_shr, o_shl1, o_or, m_lt, m_ge, m_le, m_gt, m_ne, m_ne2, Option.some.injEq, exists_eq_left', true_and, and_true, true_implies, false_implies, implies_true, not_true_eq_false, not_false_eq_true, bI_0, bI_1, bI_01, b01, true_or, or_true, Nat.reduceEqDiff, Bool.not_eq_false, Bool.not_eq_true, Bool.true_eq_false, Bool.false_eq_true]
  exact ⟨_, main 7 0 S rfl (fr_r _ _) (fun j hj => by omega)⟩
/-! ===== facts ===== -/
def fG (T : List FT) (i : Nat) : FT := T.getD i (0, 0, 0, 0, 0)
def rT (S : PS) (T : List FT) : Prop := pI S 87 7 = nI T.length ∧ T.length ≤ 35 ∧ ∀ i, i < T.length → pI S 91 (5 * i) = nI (fG T i).1 ∧ pI S 91 (5 * i + 1) = nI (fG T i).2.1 ∧ pI S 91 (5 * i + 2) = (fG T i).2.2.1 ∧ pI S 91 (5 * i + 3) = nI (fG T i).2.2.2.1 ∧ pI S 91 (5 * i + 4) = nI (fG T i).2.2.2.2
theorem fG_old {T : List FT} {f : FT} {i : Nat} (h : i < T.length) : fG (T ++ [f]) i = fG T i := by
  unfold fG
  rw [List.getD_eq_getElem?_getD, List.getD_eq_getElem?_getD, List.getElem?_append_left h]
theorem fG_new {T : List FT} {f : FT} : fG (T ++ [f]) T.length = f := by
  unfold fG
  rw [List.getD_eq_getElem?_getD, List.getElem?_append_right (Nat.le_refl _)]
  simp
/-- the reference but for rows A and its own fields F -/
def mf (A F : List Nat) (S S' : PS) : Prop := fr (87 :: A) S S' ∧ ∀ k, k ∉ F → pI S' 87 k = pI S 87 k ∧ pJ S' 87 k = pJ S 87 k
theorem mf_r (A F : List Nat) (S : PS) : mf A F S S := ⟨fr_r _ _, fun _ _ => ⟨rfl, rfl⟩⟩
theorem mf_t {A F : List Nat} {S S' S2 : PS} (h : mf A F S S') (h2 : mf A F S' S2) : mf A F S S2 := ⟨fr_t h.1 h2.1, fun k hk => ⟨(h2.2 k hk).1.trans (h.2 k hk).1, (h2.2 k hk).2.trans (h.2 k hk).2⟩⟩
theorem mf_m {A B F E : List Nat} (hs : ∀ a ∈ A, a ∈ B) (hE : ∀ k ∈ F, k ∈ E) {S S' : PS} (h : mf A F S S') : mf B E S S' := ⟨fr_m (fun a ha => by exact (List.mem_cons.mp ha).elim (fun q => q ▸ List.mem_cons_self) (fun q => List.mem_cons_of_mem _ (hs a q))) h.1, fun k hk => h.2 k (fun q => hk (hE k q))⟩
theorem mf_fr {A F : List Nat} {S S' : PS} (h : fr A S S') (h87 : 87 ∉ A) : mf A F S S' := ⟨fr_m (fun a ha => List.mem_cons_of_mem _ ha) h, fun k _ => ⟨h.I h87 k, h.J h87 k⟩⟩
theorem mf_sI {A F : List Nat} (S : PS) {k : Nat} (v : Int32) (hk : k ∈ F) : mf A F S (sI S 87 k v) := ⟨fr_sI _ _ _ List.mem_cons_self, fun j hj => ⟨by rw [pI_sI, if_neg (show ¬ (87 = 87 ∧ j = k) from fun q => hj (q.2 ▸ hk))], rfl⟩⟩
theorem mf_row {A F : List Nat} (S : PS) {a : Nat} (k : Nat) (v : Int32) (ha : a ∈ A) (h87 : a ≠ 87) : mf A F S (sI S a k v) := ⟨fr_sI _ _ _ (List.mem_cons_of_mem _ ha), fun j _ => ⟨by rw [pI_sI, if_neg (show ¬ (87 = a ∧ j = k) from fun q => h87 q.1.symm)], rfl⟩⟩
theorem mf.M {A F : List Nat} {S S' : PS} (h : mf A F S S') (hM : MShape S) : MShape S' := h.1.M hM
theorem mf.P {A F : List Nat} {S S' : PS} {P : Nat → Nat} (h : mf A F S S') (ha : 88 ∉ 87 :: A) (hp : rP S P) : rP S' P := h.1.P ha hp
theorem mf.D {A F : List Nat} {S S' : PS} {a : Nat} {d : Nat → Nat} (h : mf A F S S') (ha : a ∉ 87 :: A) (hd : rD S a d) : rD S' a d := h.1.D ha hd
theorem mf.F {A F : List Nat} {S S' : PS} (h : mf A F S S') {k : Nat} (hk : k ∉ F) : pI S' 87 k = pI S 87 k := (h.2 k hk).1
theorem mf.T {A F : List Nat} {S S' : PS} {T : List FT} (h : mf A F S S') (ha : 91 ∉ 87 :: A) (hk : 7 ∉ F) (hT : rT S T) : rT S' T := by
  refine ⟨by rw [h.F hk]; exact hT.1, hT.2.1, fun i hi => ?_⟩
  rw [h.1.I ha, h.1.I ha, h.1.I ha, h.1.I ha, h.1.I ha]
  exact hT.2.2 i hi
theorem q_lays {S : PS} {T : List FT} {x v l s : Nat} {r : Int32} {Q : PS → Prop} (hM : MShape S) (hT : rT S T) (hn : T.length < 35) (hl : pI S 87 8 = nI l) (hQ : ∀ S', mf [91] [7] S S' → rT S' (T ++ [(x, v, r, l, s)]) → Q S') : wpX12_lays S 87 (nI x) (nI v) r (nI s) Q := by
  obtain ⟨t1, t2, t3⟩ := hT
  simp (disch := omega) only [wpX12_lays, msk hM, msr_facts hM, msk_facts hM, msl_facts hM, c_0, c_1, c_2, c_3, c_4, c_5, c_6, c_7, c_8, c_9, c_10, c_11, c_12, c_14, c_16, c_19, c_20, c_24, c_31, c_32, c_35, c_48, c_57, c_59, c_63, c_97, c_100, c_122, c_127, c_169, c_255, c_600, c_1000, c_32767, Nat.le_refl, Nat.zero_le, Nat.add_zero, Nat.lt_irrefl, eq_self, o_sub, Nat.sub_zero, Nat.not_lt_zero, ↓ng_d, o_le, o_lt, o_eq, o_add, o_mul, o_cl, o_inT, o_and, n_31, o_shr, o_shl1, o_or, m_lt, m_ge, m_le, m_gt, m_ne, m_ne2, Option.some.injEq, exists_eq_left', true_and, and_true, true_implies, false_implies, implies_true, not_true_eq_false, not_false_eq_true, bI_0, bI_1, bI_01, b01, true_or, or_true, Nat.reduceEqDiff, Bool.not_eq_false, Bool.not_eq_true, Bool.true_eq_false, Bool.false_eq_true, t1, pI_sI, hl, show ¬ ((87 : Nat) = 91) by decide, false_and, if_false]
  refine hQ _ ?_ ⟨?_, ?_, fun i hi => ?_⟩
  · exact mf_t (mf_t (mf_t (mf_t (mf_t (mf_row _ _ _ (by decide) (by decide)) (mf_row _ _ _ (by decide) (by decide))) (mf_row _ _ _ (by decide) (by decide))) (mf_row _ _ _ (by decide) (by decide))) (mf_row _ _ _ (by decide) (by decide))) (mf_sI _ _ (by decide))
  · rw [pI_sI, if_pos ⟨rfl, rfl⟩, List.length_append, List.length_singleton]
  · rw [List.length_append, List.length_singleton]; omega
  · rw [List.length_append, List.length_singleton] at hi
    simp only [pI_sI, show ¬ ((91 : Nat) = 87) by decide, false_and, if_false, true_and]
    by_cases e : i = T.length
    · subst e
      rw [fG_new]
      refine ⟨?_, ?_, ?_, ?_, ?_⟩
      · rw [if_neg (by omega), if_neg (by omega), if_neg (by omega), if_neg (by omega), if_pos rfl]
      · rw [if_neg (by omega), if_neg (by omega), if_neg (by omega), if_pos rfl]
      · rw [if_neg (by omega), if_neg (by omega), if_pos rfl]
      · rw [if_neg (by omega), if_pos rfl]
      · rw [if_pos rfl]
    · have hi2 : i < T.length := by omega
      rw [fG_old hi2]
      have := t3 i hi2
      refine ⟨?_, ?_, ?_, ?_, ?_⟩
      · rw [if_neg (by omega), if_neg (by omega), if_neg (by omega), if_neg (by omega), if_neg (by omega)]; exact this.1
      · rw [if_neg (by omega), if_neg (by omega), if_neg (by omega), if_neg (by omega), if_neg (by omega)]; exact this.2.1
      · rw [if_neg (by omega), if_neg (by omega), if_neg (by omega), if_neg (by omega), if_neg (by omega)]; exact this.2.2.1
      · rw [if_neg (by omega), if_neg (by omega), if_neg (by omega), if_neg (by omega), if_neg (by omega)]; exact this.2.2.2.1
      · rw [if_neg (by omega), if_neg (by omega), if_neg (by omega), if_neg (by omega), if_neg (by omega)]; exact this.2.2.2.2

/-! THE REFERENCE: a sweep of one constraint -/
theorem q_manyIn {S : PS} {P : Nat → Nat} {C : Int32} {κ : Kon} {Q : Int32 → PS → Prop} (hM : MShape S) (hp : rP S P) (hw : Pwf P) (hC : isC P C κ) (hQ : Q (nI κ.1) S) : wpX12_manyIn S 87 C Q := by
  rcases hC with ⟨c, hc, rfl, rfl⟩ | ⟨s, hs, h0, rfl, rfl⟩
  · have hc8 : c < 8 := Nat.lt_of_lt_of_le hc hw.2.1
    simp (disch := omega) only [wpX12_manyIn, w_of hM hp, msk hM, c_0, c_1, c_2, c_3, c_4, c_5, c_6, c_7, c_8, c_9, c_10, c_11, c_12, c_14, c_16, c_19, c_20, c_24, c_31, c_32, c_35, c_48, c_57, c_59, c_63, c_97, c_100, c_122, c_127, c_169, c_255, c_600, c_1000, c_32767, Nat.le_refl, Nat.zero_le, Nat.add_zero, Nat.lt_irrefl, eq_self, o_sub, Nat.sub_zero, Nat.not_lt_zero, ↓ng_d, o_le, o_lt, o_eq, o_add, o_mul, o_cl, o_inT, o_and, n_31, o_shr, o_shl1, o_or, m_lt, m_ge, m_le, m_gt, m_ne, m_ne2, Option.some.injEq, exists_eq_left', true_and, and_true, true_implies, false_implies, implies_true, not_true_eq_false, not_false_eq_true, bI_0, bI_1, bI_01, b01, true_or, or_true, Nat.reduceEqDiff, Bool.not_eq_false, Bool.not_eq_true, Bool.true_eq_false, Bool.false_eq_true]
    exact hQ
  · have hs1 := hs.1
    have hlt := n_lt h0 (show s < 2147483648 by omega)
    have main : ∀ r k, k + r = 7 → wpX12_manyIn_b15 Q (r + 1) S 87 (-nI s) (nI (cN (lp s) k)) (nI k) := by
      intro r
      induction r with
      | zero =>
        intro k hk
        have : k = 7 := by omega
        subst this
        simp (disch := omega) only [wpX12_manyIn_b15, c_0, c_1, c_2, c_3, c_4, c_5, c_6, c_7, c_8, c_9, c_10, c_11, c_12, c_14, c_16, c_19, c_20, c_24, c_31, c_32, c_35, c_48, c_57, c_59, c_63, c_97, c_100, c_122, c_127, c_169, c_255, c_600, c_1000, c_32767, Nat.le_refl, Nat.zero_le, Nat.add_zero, Nat.lt_irrefl, eq_self, o_sub, Nat.sub_zero, Nat.not_lt_zero, ↓ng_d, o_le, o_lt, o_eq, o_add, o_mul, o_cl, o_inT, o_and, n_31, o_shr, o_shl1, o_or, m_lt, m_ge, m_le, m_gt, m_ne, m_ne2, Option.some.injEq, exists_eq_left', true_and, and_true, true_implies, false_implies, implies_true, not_true_eq_false, not_false_eq_true, bI_0, bI_1, bI_01, b01, true_or, or_true, Nat.reduceEqDiff, Bool.not_eq_false, Bool.not_eq_true, Bool.true_eq_false, Bool.false_eq_true]
        exact hQ
      | succ r ih =>
        intro k hk
        have e : ¬ 7 ≤ k := by omega
        have hg := dg_lt s k
        have hn := ih (k + 1) (by omega)
        simp only [cN] at hn
        generalize r + 1 = fu at hn ⊢
        by_cases e0 : dg s k = 0
        · have : lp s k = false := by simp [lp, e0]
          simp only [this, Bool.false_eq_true, if_false] at hn
          have e1 : (nI 0 - nI 1 < nI 0) = True := by rw [v_lt 0 (by omega)]; simp
          simp (disch := omega) only [wpX12_manyIn_b15, Int32.neg_neg, w_valueIn, c_0, c_1, c_2, c_3, c_4, c_5, c_6, c_7, c_8, c_9, c_10, c_11, c_12, c_14, c_16, c_19, c_20, c_24, c_31, c_32, c_35, c_48, c_57, c_59, c_63, c_97, c_100, c_122, c_127, c_169, c_255, c_600, c_1000, c_32767, Nat.le_refl, Nat.zero_le, Nat.add_zero, Nat.lt_irrefl, eq_self, o_sub, Nat.sub_zero, Nat.not_lt_zero, ↓ng_d, o_le, o_lt, o_eq, o_add, o_mul, o_cl, o_inT, o_and, n_31, o_shr, o_shl1, o_or, m_lt, m_ge, m_le, m_gt, m_ne, m_ne2, Option.some.injEq, exists_eq_left', true_and, and_true, true_implies, false_implies, implies_true, not_true_eq_false, not_false_eq_true, bI_0, bI_1, bI_01, b01, true_or, or_true, Nat.reduceEqDiff, Bool.not_eq_false, Bool.not_eq_true, Bool.true_eq_false, Bool.false_eq_true, e, e0, e1]
          exact hn
        · have : lp s k = true := by simp [lp, e0]
          simp only [this, if_true] at hn
          have e1 : (nI (dg s k) - nI 1 < nI 0) = False := by rw [v_lt _ hg]; simp [e0]
          have e2 : nI (dg s k) - nI 1 = nI (dg s k - 1) := o_sub (by omega)
          rw [e2] at e1
          simp (disch := omega) only [wpX12_manyIn_b15, Int32.neg_neg, w_valueIn, c_0, c_1, c_2, c_3, c_4, c_5, c_6, c_7, c_8, c_9, c_10, c_11, c_12, c_14, c_16, c_19, c_20, c_24, c_31, c_32, c_35, c_48, c_57, c_59, c_63, c_97, c_100, c_122, c_127, c_169, c_255, c_600, c_1000, c_32767, Nat.le_refl, Nat.zero_le, Nat.add_zero, Nat.lt_irrefl, eq_self, o_sub, Nat.sub_zero, Nat.not_lt_zero, ↓ng_d, o_le, o_lt, o_eq, o_add, o_mul, o_cl, o_inT, o_and, n_31, o_shr, o_shl1, o_or, m_lt, m_ge, m_le, m_gt, m_ne, m_ne2, Option.some.injEq, exists_eq_left', true_and, and_true, true_implies, false_implies, implies_true, not_true_eq_false, not_false_eq_true, bI_0, bI_1, bI_01, b01, true_or, or_true, Nat.reduceEqDiff, Bool.not_eq_false, Bool.not_eq_true, Bool.true_eq_false, Bool.false_eq_true, e, e2, e1]
          exact hn
    simp (disch := omega) only [wpX12_manyIn, c_0, c_1, c_2, c_3, c_4, c_5, c_6, c_7, c_8, c_9, c_10, c_11, c_12, c_14, c_16, c_19, c_20, c_24, c_31, c_32, c_35, c_48, c_57, c_59, c_63, c_97, c_100, c_122, c_127, c_169, c_255, c_600, c_1000, c_32767, Nat.le_refl, Nat.zero_le, Nat.add_zero, Nat.lt_irrefl, eq_self, o_sub, Nat.sub_zero, Nat.not_lt_zero, ↓ng_d, o_le, o_lt, o_eq, o_add, o_mul, o_cl, o_inT, o_and, n_31, o_shr, o_shl1, o_or, m_lt, m_ge, m_le, m_gt, m_ne, m_ne2, Option.some.injEq, exists_eq_left', true_and, and_true, true_implies, false_implies, implies_true, not_true_eq_false, not_false_eq_true, bI_0, bI_1, bI_01, b01, true_or, or_true, Nat.reduceEqDiff, Bool.not_eq_false, Bool.not_eq_true, Bool.true_eq_false, Bool.false_eq_true, hlt]
    exact ⟨_, main 7 0 rfl⟩
theorem q_memberOf {S : PS} {P : Nat → Nat} {C : Int32} {κ : Kon} {k : Nat} {Q : Int32 → PS → Prop} (hM : MShape S) (hp : rP S P) (hw : Pwf P) (hC : isC P C κ) (hk : k < κ.1) (hQ : Q (nI (κ.2.1 k)) S) : wpX12_memberOf S 87 C (nI k) Q := by
  rcases hC with ⟨c, hc, rfl, rfl⟩ | ⟨s, hs, h0, rfl, rfl⟩
  · have hc8 : c < 8 := Nat.lt_of_lt_of_le hc hw.2.1
    have hm := (hw.2.2.2.2.2 c hc).2.2.1
    have hk2 : k < P (9 + 20 * c + 1) := hk
    simp (disch := omega) only [wpX12_memberOf, w_of hM hp, msk hM, c_0, c_1, c_2, c_3, c_4, c_5, c_6, c_7, c_8, c_9, c_10, c_11, c_12, c_14, c_16, c_19, c_20, c_24, c_31, c_32, c_35, c_48, c_57, c_59, c_63, c_97, c_100, c_122, c_127, c_169, c_255, c_600, c_1000, c_32767, Nat.le_refl, Nat.zero_le, Nat.add_zero, Nat.lt_irrefl, eq_self, o_sub, Nat.sub_zero, Nat.not_lt_zero, ↓ng_d, o_le, o_lt, o_eq, o_add, o_mul, o_cl, o_inT, o_and, n_31, o_shr, o_shl1, o_or, m_lt, m_ge, m_le, m_gt, m_ne, m_ne2, Option.some.injEq, exists_eq_left', true_and, and_true, true_implies, false_implies, implies_true, not_true_eq_false, not_false_eq_true, bI_0, bI_1, bI_01, b01, true_or, or_true, Nat.reduceEqDiff, Bool.not_eq_false, Bool.not_eq_true, Bool.true_eq_false, Bool.false_eq_true]
    exact hQ
  · have hs1 := hs.1
    have hlt := n_lt h0 (show s < 2147483648 by omega)
    have hk2 : k < cN (lp s) 7 := hk
    obtain ⟨y7, yp, yk⟩ := kt_in hk2
    have hQ2 : Q (nI (kt (lp s) 7 k)) S := hQ
    generalize kt (lp s) 7 k = y at y7 yp yk hQ2
    have hk7 : k < 7 := Nat.lt_of_lt_of_le hk2 (cN_le _ _)
    have main : ∀ r x, x + r = y → wpX12_memberOf_b18 Q (r + 1) S 87 (-nI s) (nI k) (nI x) (nI (k - cN (lp s) x)) := by
      intro r
      induction r with
      | zero =>
        intro x hx
        have : x = y := by omega
        subst this
        have hg := dg_lt s x
        have e0 := lp_t.mp yp
        have e2 : nI (dg s x) - nI 1 = nI (dg s x - 1) := o_sub (by omega)
        have e3 : k - cN (lp s) x = 0 := by omega
        simp (disch := omega) only [wpX12_memberOf_b18, Int32.neg_neg, w_valueIn, c_0, c_1, c_2, c_3, c_4, c_5, c_6, c_7, c_8, c_9, c_10, c_11, c_12, c_14, c_16, c_19, c_20, c_24, c_31, c_32, c_35, c_48, c_57, c_59, c_63, c_97, c_100, c_122, c_127, c_169, c_255, c_600, c_1000, c_32767, Nat.le_refl, Nat.zero_le, Nat.add_zero, Nat.lt_irrefl, eq_self, o_sub, Nat.sub_zero, Nat.not_lt_zero, ↓ng_d, o_le, o_lt, o_eq, o_add, o_mul, o_cl, o_inT, o_and, n_31, o_shr, o_shl1, o_or, m_lt, m_ge, m_le, m_gt, m_ne, m_ne2, Option.some.injEq, exists_eq_left', true_and, and_true, true_implies, false_implies, implies_true, not_true_eq_false, not_false_eq_true, bI_0, bI_1, bI_01, b01, true_or, or_true, Nat.reduceEqDiff, Bool.not_eq_false, Bool.not_eq_true, Bool.true_eq_false, Bool.false_eq_true, e2, e3]
        exact hQ2
      | succ r ih =>
        intro x hx
        have hg := dg_lt s x
        have hcx : cN (lp s) x ≤ k := by rw [← yk]; exact cN_mono _ (by omega)
        have hn := ih (x + 1) (by omega)
        simp only [cN] at hn
        generalize r + 1 = fu at hn ⊢
        by_cases e0 : dg s x = 0
        · have hl : lp s x = false := by simp [lp, e0]
          simp only [hl, Bool.false_eq_true, if_false, Nat.add_zero] at hn
          have e1 : (nI 0 - nI 1 < nI 0) = True := by rw [v_lt 0 (by omega)]; simp
          have e4 : (nI 0 ≤ nI 0 - nI 1) = False := by rw [v_ge 0 (by omega)]; simp
          by_cases el : 0 < k - cN (lp s) x
          · simp (disch := omega) only [wpX12_memberOf_b18, wpX12_memberOf_b32, Int32.neg_neg, w_valueIn, c_0, c_1, c_2, c_3, c_4, c_5, c_6, c_7, c_8, c_9, c_10, c_11, c_12, c_14, c_16, c_19, c_20, c_24, c_31, c_32, c_35, c_48, c_57, c_59, c_63, c_97, c_100, c_122, c_127, c_169, c_255, c_600, c_1000, c_32767, Nat.le_refl, Nat.zero_le, Nat.add_zero, Nat.lt_irrefl, eq_self, o_sub, Nat.sub_zero, Nat.not_lt_zero, ↓ng_d, o_le, o_lt, o_eq, o_add, o_mul, o_cl, o_inT, o_and, n_31, o_shr, o_shl1, o_or, m_lt, m_ge, m_le, m_gt, m_ne, m_ne2, Option.some.injEq, exists_eq_left', true_and, and_true, true_implies, false_implies, implies_true, not_true_eq_false, not_false_eq_true, bI_0, bI_1, bI_01, b01, true_or, or_true, Nat.reduceEqDiff, Bool.not_eq_false, Bool.not_eq_true, Bool.true_eq_false, Bool.false_eq_true, e0, e1, el]
            exact hn
          · simp (disch := omega) only [wpX12_memberOf_b18, wpX12_memberOf_b32, Int32.neg_neg, w_valueIn, c_0, c_1, c_2, c_3, c_4, c_5, c_6, c_7, c_8, c_9, c_10, c_11, c_12, c_14, c_16, c_19, c_20, c_24, c_31, c_32, c_35, c_48, c_57, c_59, c_63, c_97, c_100, c_122, c_127, c_169, c_255, c_600, c_1000, c_32767, Nat.le_refl, Nat.zero_le, Nat.add_zero, Nat.lt_irrefl, eq_self, o_sub, Nat.sub_zero, Nat.not_lt_zero, ↓ng_d, o_le, o_lt, o_eq, o_add, o_mul, o_cl, o_inT, o_and, n_31, o_shr, o_shl1, o_or, m_lt, m_ge, m_le, m_gt, m_ne, m_ne2, Option.some.injEq, exists_eq_left', true_and, and_true, true_implies, false_implies, implies_true, not_true_eq_false, not_false_eq_true, bI_0, bI_1, bI_01, b01, true_or, or_true, Nat.reduceEqDiff, Bool.not_eq_false, Bool.not_eq_true, Bool.true_eq_false, Bool.false_eq_true, e0, e1, e4, el]
            exact hn
        · have hl : lp s x = true := by simp [lp, e0]
          simp only [hl, if_true] at hn
          have e1 : (nI (dg s x) - nI 1 < nI 0) = False := by rw [v_lt _ hg]; simp [e0]
          have e2 : nI (dg s x) - nI 1 = nI (dg s x - 1) := o_sub (by omega)
          rw [e2] at e1
          have el : 0 < k - cN (lp s) x := by
            by_cases q : cN (lp s) x = k
            · have := kt_uq hl yp (q.trans yk.symm)
              omega
            · omega
          have e5 : k - cN (lp s) x - 1 = k - (cN (lp s) x + 1) := by omega
          simp (disch := omega) only [wpX12_memberOf_b18, wpX12_memberOf_b32, Int32.neg_neg, w_valueIn, c_0, c_1, c_2, c_3, c_4, c_5, c_6, c_7, c_8, c_9, c_10, c_11, c_12, c_14, c_16, c_19, c_20, c_24, c_31, c_32, c_35, c_48, c_57, c_59, c_63, c_97, c_100, c_122, c_127, c_169, c_255, c_600, c_1000, c_32767, Nat.le_refl, Nat.zero_le, Nat.add_zero, Nat.lt_irrefl, eq_self, o_sub, Nat.sub_zero, Nat.not_lt_zero, ↓ng_d, o_le, o_lt, o_eq, o_add, o_mul, o_cl, o_inT, o_and, n_31, o_shr, o_shl1, o_or, m_lt, m_ge, m_le, m_gt, m_ne, m_ne2, Option.some.injEq, exists_eq_left', true_and, and_true, true_implies, false_implies, implies_true, not_true_eq_false, not_false_eq_true, bI_0, bI_1, bI_01, b01, true_or, or_true, Nat.reduceEqDiff, Bool.not_eq_false, Bool.not_eq_true, Bool.true_eq_false, Bool.false_eq_true, e2, e1, el, e5]
          exact hn
    simp (disch := omega) only [wpX12_memberOf, c_0, c_1, c_2, c_3, c_4, c_5, c_6, c_7, c_8, c_9, c_10, c_11, c_12, c_14, c_16, c_19, c_20, c_24, c_31, c_32, c_35, c_48, c_57, c_59, c_63, c_97, c_100, c_122, c_127, c_169, c_255, c_600, c_1000, c_32767, Nat.le_refl, Nat.zero_le, Nat.add_zero, Nat.lt_irrefl, eq_self, o_sub, Nat.sub_zero, Nat.not_lt_zero, ↓ng_d, o_le, o_lt, o_eq, o_add, o_mul, o_cl, o_inT, o_and, n_31, o_shr, o_shl1, o_or, m_lt, m_ge, m_le, m_gt, m_ne, m_ne2, Option.some.injEq, exists_eq_left', true_and, and_true, true_implies, false_implies, implies_true, not_true_eq_false, not_false_eq_true, bI_0, bI_1, bI_01, b01, true_or, or_true, Nat.reduceEqDiff, Bool.not_eq_false, Bool.not_eq_true, Bool.true_eq_false, Bool.false_eq_true, hlt]
    exact ⟨_, main y 0 (Nat.zero_add _)⟩
/-- a constraint or learnt set: its number, what it is, its reason, its set -/
def isR (P : Nat → Nat) (C : Int32) (κ : Kon) (rs : Int32) (s : Nat) : Prop := (∃ c, c < P 1 ∧ C = nI c ∧ κ = cK P c ∧ rs = nI c ∧ s = 0) ∨ (Swf s ∧ 0 < s ∧ (∀ x, P 0 ≤ x → x < 7 → dg s x = 0) ∧ C = -nI s ∧ κ = lK s ∧ rs = nI 100)
theorem isR.C {P : Nat → Nat} {C : Int32} {κ : Kon} {rs : Int32} {s : Nat} (h : isR P C κ rs s) : isC P C κ := by
  rcases h with ⟨c, h1, h2, h3, -, -⟩ | ⟨h1, h2, -, h3, h4, -⟩
  · exact Or.inl ⟨c, h1, h2, h3⟩
  · exact Or.inr ⟨s, h1, h2, h3, h4⟩
theorem isR.mem {P : Nat → Nat} {C : Int32} {κ : Kon} {rs : Int32} {s : Nat} (hw : Pwf P) (h : isR P C κ rs s) : Kwf κ ∧ ∀ k, k < κ.1 → κ.2.1 k < P 0 := by
  rcases h with ⟨c, h1, h2, rfl, -, -⟩ | ⟨h1, h2, h3, -, rfl, -⟩
  · exact ⟨cK_wf (hw.2.2.2.2.2 c h1) hw.1, fun k hk => (hw.2.2.2.2.2 c h1).2.2.2.1 k hk⟩
  · refine ⟨lK_wf _, fun k hk => ?_⟩
    obtain ⟨q1, q2, -⟩ := kt_in (p := lp s) (n := 7) (k := k) hk
    show kt (lp s) 7 k < P 0
    apply Classical.byContradiction
    intro q
    exact lp_t.mp q2 (h3 _ (by omega) q1)
/-- what a sweep may write: on the domains and facts, or on a scratch row -/
def SwH (re : Bool) (a : Nat) (A F : List Nat) : Prop := a ∈ A ∧ 96 ∈ A ∧ a ≠ 96 ∧ a ≠ 87 ∧ a ≠ 91 ∧ a ≠ 88 ∧ (re = true → 91 ∈ A ∧ 7 ∈ F) ∧ 88 ∉ 87 :: A ∧ 93 ∉ 87 :: A ∧ 87 ∉ A ∧ 8 ∉ F ∧ 9 ∉ F
theorem SwH_t : SwH true 90 [90, 91, 96] [7] := by unfold SwH; decide
theorem SwH_f : SwH false 104 [104, 96] [] := by unfold SwH; decide
def IS (re : Bool) (a : Nat) (A F : List Nat) (S0 : PS) (σ : St) (S : PS) : Prop := mf A F S0 S ∧ rD S a σ.1 ∧ (re = true → rT S σ.2)
theorem IS.fr {re : Bool} {a : Nat} {A F : List Nat} {S0 S S' : PS} {σ : St} (h : IS re a A F S0 σ S) (hH : SwH re a A F) (hf : fr [96] S S') : IS re a A F S0 σ S' := by
  refine ⟨mf_t h.1 (mf_fr (fr_m (fun x hx => by rw [List.mem_singleton] at hx; rw [hx]; exact hH.2.1) hf) hH.2.2.2.2.2.2.2.2.2.1), hf.D (by simp [hH.2.2.1]) h.2.1, fun hr => (mf_fr (F := []) hf (by decide)).T (by decide) (by decide) (h.2.2 hr)⟩
theorem fl_ud {N : Nat} {d : Nat → Nat} (h : fl N d = false) {x w : Nat} (hx : x < N) : fl N (ud d x w) = decide (w = 0) := by
  by_cases e : w = 0
  · rw [decide_eq_true e, fl_t]
    exact ⟨x, hx, by rw [ud_s]; exact e⟩
  · rw [decide_eq_false e, fl_f]
    intro y hy
    by_cases q : y = x
    · subst q; rw [ud_s]; exact e
    · rw [ud_n _ _ q]; exact fl_f.mp h y hy
theorem stp_no {κ : Kon} {N : Nat} {r : Int32} {l s x v : Nat} {σ : St} (h : ¬ gone κ N x v σ.1) : stp κ N r l s x v σ = σ := by
  unfold stp
  rw [if_neg (fun q => h (dB_t.mp q))]
theorem stp_go {κ : Kon} {N : Nat} {r : Int32} {l s x v : Nat} {σ : St} (h : gone κ N x v σ.1) : stp κ N r l s x v σ = (ud σ.1 x (clr (σ.1 x) v), σ.2 ++ [(x, v, r, l, s)]) := by
  unfold stp
  rw [if_pos (dB_t.mpr h)]
theorem vls_up {κ : Kon} {N : Nat} {r : Int32} {l s x : Nat} {σ : St} {j : Nat} (h : fl N (vls κ N r l s x j σ).1 = true) : ∀ m, vls κ N r l s x (j + m) σ = vls κ N r l s x j σ := by
  intro m
  induction m with
  | zero => rfl
  | succ m ih =>
    show stp κ N r l s x (j + m) (vls κ N r l s x (j + m) σ) = _
    rw [ih, stp_fl h]
theorem q_so28 {re : Bool} {a : Nat} {A F : List Nat} {S0 : PS} {P : Nat → Nat} {C rs : Int32} {κ : Kon} {l s x kk c0 : Nat} {σ0 : St} {K6 : PS → Nat → Int32 → Nat → Int32 → Int32 → Int32 → Prop} {Q : Int32 → PS → Prop}
    (hH : SwH re a A F) (hM0 : MShape S0) (hp0 : rP S0 P) (hw : Pwf P) (hl : pI S0 87 8 = nI l) (hR : isR P C κ rs s) (hxN : x < P 0) (hd0 : Dwf σ0.1) (hb : dsum σ0.1 + σ0.2.length ≤ 35) (hc0 : c0 ≤ 100) (hkk : kk < 100)
    (hK : ∀ S, IS re a A F S0 (vls κ (P 0) rs l s x 5 σ0) S → fl (P 0) (vls κ (P 0) rs l s x 5 σ0).1 = false → K6 S 87 C a (bI re) (nI (c0 + ((vls κ (P 0) rs l s x 5 σ0).2.length - σ0.2.length))) (nI (kk + 1)))
    (hF : ∀ S, IS re a A F S0 (vls κ (P 0) rs l s x 5 σ0) S → fl (P 0) (vls κ (P 0) rs l s x 5 σ0).1 = true → Q ngI S) (hkw : Kwf κ) (hmem : ∃ k, k < κ.1 ∧ x = κ.2.1 k) :
    ∀ r v S, v + r = 5 → IS re a A F S0 (vls κ (P 0) rs l s x v σ0) S → fl (P 0) (vls κ (P 0) rs l s x v σ0).1 = false → wpX12_sweepsOne_b28 K6 Q (r + 1) S 87 C a (bI re) (nI (c0 + ((vls κ (P 0) rs l s x v σ0).2.length - σ0.2.length))) (nI kk) (nI x) (nI v) := by
  have hx7 : x < 7 := Nat.lt_of_lt_of_le hxN hw.1
  have hdn : ∀ j, j ≤ 5 → Dn (FR κ rs l s) σ0 (vls κ (P 0) rs l s x j σ0) := fun j hj => by
    obtain ⟨k, hk, e⟩ := hmem
    rw [e]
    exact vls_dn hkw hk hd0 j hj
  intro r
  induction r with
  | zero =>
    intro v S hv hI hf
    have : v = 5 := by omega
    subst this
    have h1 := hK S hI hf
    simp (disch := omega) only [wpX12_sweepsOne_b28, c_0, c_1, c_2, c_3, c_4, c_5, c_6, c_7, c_8, c_9, c_10, c_11, c_12, c_14, c_16, c_19, c_20, c_24, c_31, c_32, c_35, c_48, c_57, c_59, c_63, c_97, c_100, c_122, c_127, c_169, c_255, c_600, c_1000, c_32767, Nat.le_refl, Nat.zero_le, Nat.add_zero, Nat.lt_irrefl, eq_self, o_sub, Nat.sub_zero, Nat.not_lt_zero, ↓ng_d, o_le, o_lt, o_eq, o_add, o_mul, o_cl, o_inT, o_and, n_31, o_shr, o_shl1, o_or, m_lt, m_ge, m_le, m_gt, m_ne, m_ne2, Option.some.injEq, exists_eq_left', true_and, and_true, true_implies, false_implies, implies_true, not_true_eq_false, not_false_eq_true, bI_0, bI_1, bI_01, b01, true_or, or_true, Nat.reduceEqDiff, Bool.not_eq_false, Bool.not_eq_true, Bool.true_eq_false, Bool.false_eq_true]
    exact h1
  | succ r ih =>
    intro v S hv hI hf
    have e5 : ¬ 5 ≤ v := by omega
    have h5 : v < 5 := by omega
    have hM := hI.1.M hM0
    have hp := hI.1.P hH.2.2.2.2.2.2.2.1 hp0
    have hD := hI.2.1
    have hdx := hD.2.2.2 x hx7
    have hn := ih (v + 1) 
    have hlen := (hdn v (by omega)).2.1
    obtain ⟨T1, hT1, -⟩ := (hdn v (by omega)).2.2.1
    have hl1 : (vls κ (P 0) rs l s x v σ0).2.length = σ0.2.length + T1.length := by rw [hT1, List.length_append]
    have hvs : vls κ (P 0) rs l s x (v + 1) σ0 = stp κ (P 0) rs l s x v (vls κ (P 0) rs l s x v σ0) := rfl
    rw [hvs] at hn
    generalize r + 1 = fu at hn ⊢
    obtain ⟨σ, hσ⟩ : ∃ σ, σ = vls κ (P 0) rs l s x v σ0 := ⟨_, rfl⟩
    rw [← hσ] at hI hf hn hlen hl1 hvs hD hdx ⊢
    cases hbit : (σ.1 x).testBit v
    · rw [stp_no (fun q => by have q2 := q.2.1; rw [hbit] at q2; cases q2)] at hn
      have h1 := hn S (by omega) hI hf
      simp (disch := omega) only [wpX12_sweepsOne_b28, w_has, c_0, c_1, c_2, c_3, c_4, c_5, c_6, c_7, c_8, c_9, c_10, c_11, c_12, c_14, c_16, c_19, c_20, c_24, c_31, c_32, c_35, c_48, c_57, c_59, c_63, c_97, c_100, c_122, c_127, c_169, c_255, c_600, c_1000, c_32767, Nat.le_refl, Nat.zero_le, Nat.add_zero, Nat.lt_irrefl, eq_self, o_sub, Nat.sub_zero, Nat.not_lt_zero, ↓ng_d, o_le, o_lt, o_eq, o_add, o_mul, o_cl, o_inT, o_and, n_31, o_shr, o_shl1, o_or, m_lt, m_ge, m_le, m_gt, m_ne, m_ne2, Option.some.injEq, exists_eq_left', true_and, and_true, true_implies, false_implies, implies_true, not_true_eq_false, not_false_eq_true, bI_0, bI_1, bI_01, b01, true_or, or_true, Nat.reduceEqDiff, Bool.not_eq_false, Bool.not_eq_true, Bool.true_eq_false, Bool.false_eq_true, e5, hD.1, hD.2.1, hD.2.2.1 x hx7, hbit]
      exact h1
    · simp (disch := omega) only [wpX12_sweepsOne_b28, w_has, msk hM, c_0, c_1, c_2, c_3, c_4, c_5, c_6, c_7, c_8, c_9, c_10, c_11, c_12, c_14, c_16, c_19, c_20, c_24, c_31, c_32, c_35, c_48, c_57, c_59, c_63, c_97, c_100, c_122, c_127, c_169, c_255, c_600, c_1000, c_32767, Nat.le_refl, Nat.zero_le, Nat.add_zero, Nat.lt_irrefl, eq_self, o_sub, Nat.sub_zero, Nat.not_lt_zero, ↓ng_d, o_le, o_lt, o_eq, o_add, o_mul, o_cl, o_inT, o_and, n_31, o_shr, o_shl1, o_or, m_lt, m_ge, m_le, m_gt, m_ne, m_ne2, Option.some.injEq, exists_eq_left', true_and, and_true, true_implies, false_implies, implies_true, not_true_eq_false, not_false_eq_true, bI_0, bI_1, bI_01, b01, true_or, or_true, Nat.reduceEqDiff, Bool.not_eq_false, Bool.not_eq_true, Bool.true_eq_false, Bool.false_eq_true, e5, hD.1, hD.2.1, hD.2.2.1 x hx7, hbit]
      refine q_hasSupport hM hp hw hD hH.2.2.1 hx7 h5 hR.C (fun S1 hf1 => ?_)
      have hI1 := hI.fr hH hf1
      have hD1 := hI1.2.1
      have hM1 := hI1.1.M hM0
      by_cases hcan : Can κ (ud σ.1 x (2 ^ v))
      · rw [stp_no (fun q => q.2.2 hcan)] at hn
        have h1 := hn S1 (by omega) hI1 hf
        have hB := dB_t.mpr hcan
        simp (disch := omega) only [c_0, c_1, c_2, c_3, c_4, c_5, c_6, c_7, c_8, c_9, c_10, c_11, c_12, c_14, c_16, c_19, c_20, c_24, c_31, c_32, c_35, c_48, c_57, c_59, c_63, c_97, c_100, c_122, c_127, c_169, c_255, c_600, c_1000, c_32767, Nat.le_refl, Nat.zero_le, Nat.add_zero, Nat.lt_irrefl, eq_self, o_sub, Nat.sub_zero, Nat.not_lt_zero, ↓ng_d, o_le, o_lt, o_eq, o_add, o_mul, o_cl, o_inT, o_and, n_31, o_shr, o_shl1, o_or, m_lt, m_ge, m_le, m_gt, m_ne, m_ne2, Option.some.injEq, exists_eq_left', true_and, and_true, true_implies, false_implies, implies_true, not_true_eq_false, not_false_eq_true, bI_0, bI_1, bI_01, b01, true_or, or_true, Nat.reduceEqDiff, Bool.not_eq_false, Bool.not_eq_true, Bool.true_eq_false, Bool.false_eq_true, hB]
        exact h1
      · have hgo : gone κ (P 0) x v σ.1 := ⟨hf, hbit, hcan⟩
        rw [stp_go hgo] at hn hvs
        have hB := dB_f.mpr hcan
        have e1 := dm_clr _ hdx v h5
        have hfl := fl_ud hf (w := clr (σ.1 x) v) hxN
        have hc32 := dm_clr_lt _ hdx v h5
        have hds := dsum_clr hD.2.2.2 hx7 h5 hbit
        have hI2 : mf A F S0 (sI S1 a x (nI (clr (σ.1 x) v))) ∧ rD (sI S1 a x (nI (clr (σ.1 x) v))) a (ud σ.1 x (clr (σ.1 x) v)) ∧ (re = true → rT (sI S1 a x (nI (clr (σ.1 x) v))) σ.2) := by
          refine ⟨mf_t hI1.1 (mf_row _ _ _ hH.1 hH.2.2.2.1), ⟨hD1.1, hD1.2.1, fun y hy => ?_, fun y hy => ?_⟩, fun hr => (mf_row (A := [a]) (F := []) _ _ _ (by simp) hH.2.2.2.1).T (by simp [Ne.symm hH.2.2.2.2.1]) (by decide) (hI1.2.2 hr)⟩
          · rw [pI_sI]
            by_cases q : y = x
            · rw [if_pos ⟨rfl, q⟩, q, ud_s]
            · rw [if_neg (fun w => q w.2), ud_n _ _ q]; exact hD1.2.2.1 y hy
          · by_cases q : y = x
            · rw [q, ud_s]; exact hc32
            · rw [ud_n _ _ q]; exact hD1.2.2.2 y hy
        -- the tail behind the facts
        have tail : ∀ S2, IS re a A F S0 (ud σ.1 x (clr (σ.1 x) v), σ.2 ++ [(x, v, rs, l, s)]) S2 → wpX12_sweepsOne_b110 K6 (wpX12_sweepsOne_b28 K6 Q fu) Q S2 87 C a (bI re) (nI (c0 + (σ.2.length - σ0.2.length) + 1)) (nI kk) (nI x) (nI v) := by
          intro S2 hI3
          have hD3 := hI3.2.1
          have e3 : pI S2 a x = nI (clr (σ.1 x) v) := by rw [hD3.2.2.1 x hx7]; simp only [ud_s]
          have hcl : c0 + ((σ.2 ++ [(x, v, rs, l, s)]).length - σ0.2.length) = c0 + (σ.2.length - σ0.2.length) + 1 := by rw [List.length_append, List.length_singleton]; omega
          by_cases e0 : clr (σ.1 x) v = 0
          · have hf2 : fl (P 0) (ud σ.1 x (clr (σ.1 x) v)) = true := by rw [hfl, decide_eq_true e0]
            have hv5 : vls κ (P 0) rs l s x 5 σ0 = (ud σ.1 x (clr (σ.1 x) v), σ.2 ++ [(x, v, rs, l, s)]) := by
              have h9 := vls_up (κ := κ) (N := P 0) (r := rs) (l := l) (s := s) (x := x) (σ := σ0) (j := v + 1) (by rw [hvs]; exact hf2) (4 - v)
              rw [show v + 1 + (4 - v) = 5 by omega] at h9
              rw [h9, hvs]
            have h1 := hF S2 (by rw [hv5]; exact hI3) (by rw [hv5]; exact hf2)
            simp (disch := omega) only [wpX12_sweepsOne_b110, c_0, c_1, c_2, c_3, c_4, c_5, c_6, c_7, c_8, c_9, c_10, c_11, c_12, c_14, c_16, c_19, c_20, c_24, c_31, c_32, c_35, c_48, c_57, c_59, c_63, c_97, c_100, c_122, c_127, c_169, c_255, c_600, c_1000, c_32767, Nat.le_refl, Nat.zero_le, Nat.add_zero, Nat.lt_irrefl, eq_self, o_sub, Nat.sub_zero, Nat.not_lt_zero, ↓ng_d, o_le, o_lt, o_eq, o_add, o_mul, o_cl, o_inT, o_and, n_31, o_shr, o_shl1, o_or, m_lt, m_ge, m_le, m_gt, m_ne, m_ne2, Option.some.injEq, exists_eq_left', true_and, and_true, true_implies, false_implies, implies_true, not_true_eq_false, not_false_eq_true, bI_0, bI_1, bI_01, b01, true_or, or_true, Nat.reduceEqDiff, Bool.not_eq_false, Bool.not_eq_true, Bool.true_eq_false, Bool.false_eq_true, hD3.1, hD3.2.1, e3, e0]
            exact h1
          · have hf2 : fl (P 0) (ud σ.1 x (clr (σ.1 x) v)) = false := by rw [hfl, decide_eq_false e0]
            have h1 := hn S2 (by omega) hI3 hf2
            simp only [hcl] at h1
            simp (disch := omega) only [wpX12_sweepsOne_b110, c_0, c_1, c_2, c_3, c_4, c_5, c_6, c_7, c_8, c_9, c_10, c_11, c_12, c_14, c_16, c_19, c_20, c_24, c_31, c_32, c_35, c_48, c_57, c_59, c_63, c_97, c_100, c_122, c_127, c_169, c_255, c_600, c_1000, c_32767, Nat.le_refl, Nat.zero_le, Nat.add_zero, Nat.lt_irrefl, eq_self, o_sub, Nat.sub_zero, Nat.not_lt_zero, ↓ng_d, o_le, o_lt, o_eq, o_add, o_mul, o_cl, o_inT, o_and, n_31, o_shr, o_shl1, o_or, m_lt, m_ge, m_le, m_gt, m_ne, m_ne2, Option.some.injEq, exists_eq_left', true_and, and_true, true_implies, false_implies, implies_true, not_true_eq_false, not_false_eq_true, bI_0, bI_1, bI_01, b01, true_or, or_true, Nat.reduceEqDiff, Bool.not_eq_false, Bool.not_eq_true, Bool.true_eq_false, Bool.false_eq_true, hD3.1, hD3.2.1, e3, e0]
            exact h1
        cases re with
        | false =>
          have h1 := tail _ ⟨hI2.1, hI2.2.1, fun q => by cases q⟩
          simp (disch := omega) only [c_0, c_1, c_2, c_3, c_4, c_5, c_6, c_7, c_8, c_9, c_10, c_11, c_12, c_14, c_16, c_19, c_20, c_24, c_31, c_32, c_35, c_48, c_57, c_59, c_63, c_97, c_100, c_122, c_127, c_169, c_255, c_600, c_1000, c_32767, Nat.le_refl, Nat.zero_le, Nat.add_zero, Nat.lt_irrefl, eq_self, o_sub, Nat.sub_zero, Nat.not_lt_zero, ↓ng_d, o_le, o_lt, o_eq, o_add, o_mul, o_cl, o_inT, o_and, n_31, o_shr, o_shl1, o_or, m_lt, m_ge, m_le, m_gt, m_ne, m_ne2, Option.some.injEq, exists_eq_left', true_and, and_true, true_implies, false_implies, implies_true, not_true_eq_false, not_false_eq_true, bI_0, bI_1, bI_01, b01, true_or, or_true, Nat.reduceEqDiff, Bool.not_eq_false, Bool.not_eq_true, Bool.true_eq_false, Bool.false_eq_true, hB, hD1.1, hD1.2.1, hD1.2.2.1 x hx7, e1]
          exact h1
        | true =>
          have hM2 := hI2.1.M hM0
          have hl2 : pI (sI S1 a x (nI (clr (σ.1 x) v))) 87 8 = nI l := by rw [hI2.1.F hH.2.2.2.2.2.2.2.2.2.2.1]; exact hl
          have hmf : ∀ S2, mf [91] [7] (sI S1 a x (nI (clr (σ.1 x) v))) S2 → mf A F (sI S1 a x (nI (clr (σ.1 x) v))) S2 := fun S2 q => mf_m (fun z hz => by rw [List.mem_singleton] at hz; rw [hz]; exact (hH.2.2.2.2.2.2.1 rfl).1) (fun z hz => by rw [List.mem_singleton] at hz; rw [hz]; exact (hH.2.2.2.2.2.2.1 rfl).2) q
          have hlay : wpX12_lays (sI S1 a x (nI (clr (σ.1 x) v))) 87 (nI x) (nI v) rs (nI s) (fun S5 => wpX12_sweepsOne_b110 K6 (wpX12_sweepsOne_b28 K6 Q fu) Q S5 87 C a (bI true) (nI (c0 + (σ.2.length - σ0.2.length) + 1)) (nI kk) (nI x) (nI v)) :=
            q_lays hM2 (hI2.2.2 rfl) (by omega) hl2 (fun S3 m3 t3 => tail S3 ⟨mf_t hI2.1 (hmf _ m3), m3.D (by simp [hH.2.2.2.1, hH.2.2.2.2.1]) hI2.2.1, fun _ => t3⟩)
          rcases hR with ⟨c, hc, rfl, -, rfl, rfl⟩ | ⟨hs, h0, -, rfl, -, rfl⟩
          · have hc8 : c < 8 := Nat.lt_of_lt_of_le hc hw.2.1
            simp (disch := omega) only [wpX12_sweepsOne_b97, wpX12_sweepsOne_b107, c_0, c_1, c_2, c_3, c_4, c_5, c_6, c_7, c_8, c_9, c_10, c_11, c_12, c_14, c_16, c_19, c_20, c_24, c_31, c_32, c_35, c_48, c_57, c_59, c_63, c_97, c_100, c_122, c_127, c_169, c_255, c_600, c_1000, c_32767, Nat.le_refl, Nat.zero_le, Nat.add_zero, Nat.lt_irrefl, eq_self, o_sub, Nat.sub_zero, Nat.not_lt_zero, ↓ng_d, o_le, o_lt, o_eq, o_add, o_mul, o_cl, o_inT, o_and, n_31, o_shr, o_shl1, o_or, m_lt, m_ge, m_le, m_gt, m_ne, m_ne2, Option.some.injEq, exists_eq_left', true_and, and_true, true_implies, false_implies, implies_true, not_true_eq_false, not_false_eq_true, bI_0, bI_1, bI_01, b01, true_or, or_true, Nat.reduceEqDiff, Bool.not_eq_false, Bool.not_eq_true, Bool.true_eq_false, Bool.false_eq_true, hB, hD1.1, hD1.2.1, hD1.2.2.1 x hx7, e1, pK_sI, msk hM1]
            exact hlay
          · have hs1 := hs.1
            have hge := n_ge h0 (show s < 2147483648 by omega)
            simp (disch := omega) only [wpX12_sweepsOne_b97, wpX12_sweepsOne_b107, c_0, c_1, c_2, c_3, c_4, c_5, c_6, c_7, c_8, c_9, c_10, c_11, c_12, c_14, c_16, c_19, c_20, c_24, c_31, c_32, c_35, c_48, c_57, c_59, c_63, c_97, c_100, c_122, c_127, c_169, c_255, c_600, c_1000, c_32767, Nat.le_refl, Nat.zero_le, Nat.add_zero, Nat.lt_irrefl, eq_self, o_sub, Nat.sub_zero, Nat.not_lt_zero, ↓ng_d, o_le, o_lt, o_eq, o_add, o_mul, o_cl, o_inT, o_and, n_31, o_shr, o_shl1, o_or, m_lt, m_ge, m_le, m_gt, m_ne, m_ne2, Option.some.injEq, exists_eq_left', true_and, and_true, true_implies, false_implies, implies_true, not_true_eq_false, not_false_eq_true, bI_0, bI_1, bI_01, b01, true_or, or_true, Nat.reduceEqDiff, Bool.not_eq_false, Bool.not_eq_true, Bool.true_eq_false, Bool.false_eq_true, hB, hD1.1, hD1.2.1, hD1.2.2.1 x hx7, e1, hge, Int32.neg_neg, pK_sI, msk hM1]
            exact hlay

theorem sw1_up {κ : Kon} {N : Nat} {r : Int32} {l s : Nat} {σ : St} {j : Nat} (h : fl N (sw1 κ N r l s j σ).1 = true) : ∀ m, sw1 κ N r l s (j + m) σ = sw1 κ N r l s j σ := by
  intro m
  induction m with
  | zero => rfl
  | succ m ih =>
    show vls κ N r l s (κ.2.1 (j + m)) 5 (sw1 κ N r l s (j + m) σ) = _
    rw [ih, vls_fl h]
theorem q_sweepsOne {re : Bool} {a : Nat} {A F : List Nat} {S0 : PS} {P : Nat → Nat} {C rs : Int32} {κ : Kon} {l s : Nat} {σ0 : St} {Q : Int32 → PS → Prop}
    (hH : SwH re a A F) (hM0 : MShape S0) (hp0 : rP S0 P) (hw : Pwf P) (hl : pI S0 87 8 = nI l) (hR : isR P C κ rs s) (hd0 : Dwf σ0.1) (hb : dsum σ0.1 + σ0.2.length ≤ 35) (hf0 : fl (P 0) σ0.1 = false)
    (hK : ∀ S, IS re a A F S0 (sw1 κ (P 0) rs l s κ.1 σ0) S → fl (P 0) (sw1 κ (P 0) rs l s κ.1 σ0).1 = false → Q (nI ((sw1 κ (P 0) rs l s κ.1 σ0).2.length - σ0.2.length)) S)
    (hF : ∀ S, IS re a A F S0 (sw1 κ (P 0) rs l s κ.1 σ0) S → fl (P 0) (sw1 κ (P 0) rs l s κ.1 σ0).1 = true → Q ngI S) :
    ∀ S, IS re a A F S0 σ0 S → wpX12_sweepsOne S 87 C a (bI re) Q := by
  obtain ⟨hkw, hmN⟩ := hR.mem hw
  have hdn : ∀ j, j ≤ κ.1 → Dn (FR κ rs l s) σ0 (sw1 κ (P 0) rs l s j σ0) := fun j hj => sw1_dn hkw hd0 j hj
  have main : ∀ r k S, k + r = κ.1 → IS re a A F S0 (sw1 κ (P 0) rs l s k σ0) S → fl (P 0) (sw1 κ (P 0) rs l s k σ0).1 = false → wpX12_sweepsOne_b6 Q (r + 1) S 87 C a (bI re) (nI ((sw1 κ (P 0) rs l s k σ0).2.length - σ0.2.length)) (nI k) := by
    intro r
    induction r with
    | zero =>
      intro k S hk hI hf
      have hk' : κ.1 = k := by omega
      have hM := hI.1.M hM0
      have hp := hI.1.P hH.2.2.2.2.2.2.2.1 hp0
      have hκ7 := hkw.1
      rw [hk'] at hK
      have h1 := hK S hI hf
      simp (disch := omega) only [wpX12_sweepsOne_b6, msk hM, c_0, c_1, c_2, c_3, c_4, c_5, c_6, c_7, c_8, c_9, c_10, c_11, c_12, c_14, c_16, c_19, c_20, c_24, c_31, c_32, c_35, c_48, c_57, c_59, c_63, c_97, c_100, c_122, c_127, c_169, c_255, c_600, c_1000, c_32767, Nat.le_refl, Nat.zero_le, Nat.add_zero, Nat.lt_irrefl, eq_self, o_sub, Nat.sub_zero, Nat.not_lt_zero, ↓ng_d, o_le, o_lt, o_eq, o_add, o_mul, o_cl, o_inT, o_and, n_31, o_shr, o_shl1, o_or, m_lt, m_ge, m_le, m_gt, m_ne, m_ne2, Option.some.injEq, exists_eq_left', true_and, and_true, true_implies, false_implies, implies_true, not_true_eq_false, not_false_eq_true, bI_0, bI_1, bI_01, b01, true_or, or_true, Nat.reduceEqDiff, Bool.not_eq_false, Bool.not_eq_true, Bool.true_eq_false, Bool.false_eq_true]
      refine q_manyIn hM hp hw hR.C ?_
      rw [hk']
      simp (disch := omega) only [c_0, c_1, c_2, c_3, c_4, c_5, c_6, c_7, c_8, c_9, c_10, c_11, c_12, c_14, c_16, c_19, c_20, c_24, c_31, c_32, c_35, c_48, c_57, c_59, c_63, c_97, c_100, c_122, c_127, c_169, c_255, c_600, c_1000, c_32767, Nat.le_refl, Nat.zero_le, Nat.add_zero, Nat.lt_irrefl, eq_self, o_sub, Nat.sub_zero, Nat.not_lt_zero, ↓ng_d, o_le, o_lt, o_eq, o_add, o_mul, o_cl, o_inT, o_and, n_31, o_shr, o_shl1, o_or, m_lt, m_ge, m_le, m_gt, m_ne, m_ne2, Option.some.injEq, exists_eq_left', true_and, and_true, true_implies, false_implies, implies_true, not_true_eq_false, not_false_eq_true, bI_0, bI_1, bI_01, b01, true_or, or_true, Nat.reduceEqDiff, Bool.not_eq_false, Bool.not_eq_true, Bool.true_eq_false, Bool.false_eq_true]
      exact h1
    | succ r ih =>
      intro k S hk hI hf
      have hM := hI.1.M hM0
      have hp := hI.1.P hH.2.2.2.2.2.2.2.1 hp0
      have hκ7 := hkw.1
      have e : ¬ κ.1 ≤ k := by omega
      have hn := ih (k + 1)
      generalize r + 1 = fu at hn ⊢
      have hd := hdn k (by omega)
      have hd' := hdn (k + 1) (by omega)
      obtain ⟨T1, hT1, -⟩ := hd.2.2.1
      obtain ⟨T2, hT2, -⟩ := hd'.2.2.1
      have hl1 : (sw1 κ (P 0) rs l s k σ0).2.length = σ0.2.length + T1.length := by rw [hT1, List.length_append]
      have hl2 : (sw1 κ (P 0) rs l s (k + 1) σ0).2.length = σ0.2.length + T2.length := by rw [hT2, List.length_append]
      have hsum := hd.2.1
      have hsum2 := hd'.2.1
      have hvd := vls_dn (N := P 0) (r := rs) (l := l) (s := s) hkw (show k < κ.1 by omega) hd.1 5 (Nat.le_refl _)
      obtain ⟨T3, hT3, -⟩ := hvd.2.2.1
      have hl3 : (sw1 κ (P 0) rs l s (k + 1) σ0).2.length = (sw1 κ (P 0) rs l s k σ0).2.length + T3.length := by
        show (vls κ (P 0) rs l s (κ.2.1 k) 5 (sw1 κ (P 0) rs l s k σ0)).2.length = _
        rw [hT3, List.length_append]
      have h3 := q_so28 (K6 := wpX12_sweepsOne_b6 Q fu) (Q := Q) (kk := k) (c0 := (sw1 κ (P 0) rs l s k σ0).2.length - σ0.2.length) (x := κ.2.1 k) (σ0 := sw1 κ (P 0) rs l s k σ0) hH hM0 hp0 hw hl hR (hmN k (by omega)) hd.1 (by omega) (by omega) (by omega)
        (fun S2 hI2 hf2 => by
          have h4 := hn S2 (by omega) hI2 hf2
          rw [show (sw1 κ (P 0) rs l s k σ0).2.length - σ0.2.length + ((vls κ (P 0) rs l s (κ.2.1 k) 5 (sw1 κ (P 0) rs l s k σ0)).2.length - (sw1 κ (P 0) rs l s k σ0).2.length) = (sw1 κ (P 0) rs l s (k + 1) σ0).2.length - σ0.2.length by
            have : (vls κ (P 0) rs l s (κ.2.1 k) 5 (sw1 κ (P 0) rs l s k σ0)).2.length = (sw1 κ (P 0) rs l s (k + 1) σ0).2.length := rfl
            omega]
          exact h4)
        (fun S2 hI2 hf2 => by
          have h9 := sw1_up (κ := κ) (N := P 0) (r := rs) (l := l) (s := s) (σ := σ0) (j := k + 1) hf2 r
          rw [show k + 1 + r = κ.1 by omega] at h9
          exact hF S2 (by rw [h9]; exact hI2) (by rw [h9]; exact hf2)) hkw ⟨k, by omega, rfl⟩ 5 0 S rfl hI hf
      rw [show vls κ (P 0) rs l s (κ.2.1 k) 0 (sw1 κ (P 0) rs l s k σ0) = sw1 κ (P 0) rs l s k σ0 from rfl, Nat.sub_self, Nat.add_zero] at h3
      simp (disch := omega) only [wpX12_sweepsOne_b6, msk hM, c_0, c_1, c_2, c_3, c_4, c_5, c_6, c_7, c_8, c_9, c_10, c_11, c_12, c_14, c_16, c_19, c_20, c_24, c_31, c_32, c_35, c_48, c_57, c_59, c_63, c_97, c_100, c_122, c_127, c_169, c_255, c_600, c_1000, c_32767, Nat.le_refl, Nat.zero_le, Nat.add_zero, Nat.lt_irrefl, eq_self, o_sub, Nat.sub_zero, Nat.not_lt_zero, ↓ng_d, o_le, o_lt, o_eq, o_add, o_mul, o_cl, o_inT, o_and, n_31, o_shr, o_shl1, o_or, m_lt, m_ge, m_le, m_gt, m_ne, m_ne2, Option.some.injEq, exists_eq_left', true_and, and_true, true_implies, false_implies, implies_true, not_true_eq_false, not_false_eq_true, bI_0, bI_1, bI_01, b01, true_or, or_true, Nat.reduceEqDiff, Bool.not_eq_false, Bool.not_eq_true, Bool.true_eq_false, Bool.false_eq_true]
      refine q_manyIn hM hp hw hR.C ?_
      simp (disch := omega) only [msk hM, c_0, c_1, c_2, c_3, c_4, c_5, c_6, c_7, c_8, c_9, c_10, c_11, c_12, c_14, c_16, c_19, c_20, c_24, c_31, c_32, c_35, c_48, c_57, c_59, c_63, c_97, c_100, c_122, c_127, c_169, c_255, c_600, c_1000, c_32767, Nat.le_refl, Nat.zero_le, Nat.add_zero, Nat.lt_irrefl, eq_self, o_sub, Nat.sub_zero, Nat.not_lt_zero, ↓ng_d, o_le, o_lt, o_eq, o_add, o_mul, o_cl, o_inT, o_and, n_31, o_shr, o_shl1, o_or, m_lt, m_ge, m_le, m_gt, m_ne, m_ne2, Option.some.injEq, exists_eq_left', true_and, and_true, true_implies, false_implies, implies_true, not_true_eq_false, not_false_eq_true, bI_0, bI_1, bI_01, b01, true_or, or_true, Nat.reduceEqDiff, Bool.not_eq_false, Bool.not_eq_true, Bool.true_eq_false, Bool.false_eq_true, e]
      refine q_memberOf hM hp hw hR.C (by omega) ?_
      exact ⟨_, h3⟩
  intro S hI
  have h1 := main κ.1 0 S (Nat.zero_add _) hI hf0
  rw [show sw1 κ (P 0) rs l s 0 σ0 = σ0 from rfl, Nat.sub_self] at h1
  simp only [wpX12_sweepsOne, c_0, c_1, c_2, c_3, c_4, c_5, c_6, c_7, c_8, c_9, c_10, c_11, c_12, c_14, c_16, c_19, c_20, c_24, c_31, c_32, c_35, c_48, c_57, c_59, c_63, c_97, c_100, c_122, c_127, c_169, c_255, c_600, c_1000, c_32767, Nat.le_refl, Nat.zero_le, Nat.add_zero, Nat.lt_irrefl, eq_self, o_sub, Nat.sub_zero, Nat.not_lt_zero, ↓ng_d, o_le, o_lt, o_eq, o_add, o_mul, o_cl, o_inT, o_and, n_31, o_shr, o_shl1, o_or, m_lt, m_ge, m_le, m_gt, m_ne, m_ne2, Option.some.injEq, exists_eq_left', true_and, and_true, true_implies, false_implies, implies_true, not_true_eq_false, not_false_eq_true, bI_0, bI_1, bI_01, b01, true_or, or_true, Nat.reduceEqDiff, Bool.not_eq_false, Bool.not_eq_true, Bool.true_eq_false, Bool.false_eq_true]
  exact ⟨_, h1⟩

/-! THE REFERENCE: propagation -/
noncomputable def prE (P : Nat → Nat) (ss : List Nat) (l : Nat) (σ : St) : St := prp P ss l 36 σ
theorem prE_stop {P : Nat → Nat} {ss : List Nat} {l : Nat} {σ : St} (h : (rnd P ss l (P 1 + ss.length) σ).2.length = σ.2.length) : prE P ss l σ = rnd P ss l (P 1 + ss.length) σ := by
  unfold prE
  simp only [prp]
  rw [if_pos h]
theorem prE_step {P : Nat → Nat} {ss : List Nat} {l : Nat} {σ : St} (hw : Pwf P) (hd : Dwf σ.1) (h : ¬ (rnd P ss l (P 1 + ss.length) σ).2.length = σ.2.length) : prE P ss l σ = prE P ss l (rnd P ss l (P 1 + ss.length) σ) := by
  have h1 := prp_up (ss := ss) (l := l) hw 36 37 σ hd (by have := dsum_le σ.1; omega) (by omega)
  unfold prE
  rw [← h1]
  show (if (rnd P ss l (P 1 + ss.length) σ).2.length = σ.2.length then rnd P ss l (P 1 + ss.length) σ else prp P ss l 36 (rnd P ss l (P 1 + ss.length) σ)) = _
  rw [if_neg h]
theorem prE_fl {P : Nat → Nat} {ss : List Nat} {l : Nat} {σ : St} (h : fl (P 0) σ.1 = true) : prE P ss l σ = σ := prp_fl h 36
theorem prE_dn {P : Nat → Nat} {ss : List Nat} {l : Nat} {σ : St} (hw : Pwf P) (hd : Dwf σ.1) : Dn (FP1 P ss l) σ (prE P ss l σ) := prp_dn hw 36 σ hd
theorem prE_T {P : Nat → Nat} {ss : List Nat} {l : Nat} (d : Nat → Nat) (T : List FT) : prE P ss l (d, T) = ((prE P ss l (d, [])).1, T ++ (prE P ss l (d, [])).2) := prp_T 36 d T
theorem rnd_up {P : Nat → Nat} {ss : List Nat} {l : Nat} {σ : St} {j : Nat} (h : fl (P 0) (rnd P ss l j σ).1 = true) : ∀ m, rnd P ss l (j + m) σ = rnd P ss l j σ := by
  intro m
  induction m with
  | zero => rfl
  | succ m ih =>
    show sw1 _ _ _ _ _ _ (rnd P ss l (j + m) σ) = _
    rw [ih, sw1_fl h]
def rSS (S : PS) (ss : List Nat) : Prop := pI S 87 9 = nI ss.length ∧ ss.length ≤ 12 ∧ ∀ i, i < ss.length → pI S 93 i = nI (ss.getD i 0)
theorem mf.S {A F : List Nat} {S S' : PS} {ss : List Nat} (h : mf A F S S') (ha : 93 ∉ 87 :: A) (hk : 9 ∉ F) (hs : rSS S ss) : rSS S' ss := ⟨by rw [h.F hk]; exact hs.1, hs.2.1, fun i hi => by rw [h.1.I ha]; exact hs.2.2 i hi⟩
/-- the learnt sets are well-formed, over the problem's variables -/
def SSw (P : Nat → Nat) (ss : List Nat) : Prop := ∀ i, i < ss.length → Swf (ss.getD i 0) ∧ ∀ x, P 0 ≤ x → x < 7 → dg (ss.getD i 0) x = 0
theorem lK_0 : (lK 0).1 = 0 := by
  show cN (lp 0) 7 = 0
  decide
theorem kl_lt {P : Nat → Nat} {ss : List Nat} {c : Nat} (h : c < P 1) : kl P ss c = (cK P c, nI c, 0) := by unfold kl; rw [if_pos h]
theorem kl_ge {P : Nat → Nat} {ss : List Nat} {c : Nat} (h : ¬ c < P 1) : kl P ss c = (lK (ss.getD (c - P 1) 0), nI 100, ss.getD (c - P 1) 0) := by unfold kl; rw [if_neg h]
theorem q_sw11 {re : Bool} {a : Nat} {A F : List Nat} {S0 : PS} {P : Nat → Nat} {ss : List Nat} {l : Nat} {σ0 : St} {K2 : PS → Nat → Nat → Int32 → Int32 → Prop} {Q : Int32 → PS → Prop}
    (hH : SwH re a A F) (hM0 : MShape S0) (hp0 : rP S0 P) (hw : Pwf P) (hl : pI S0 87 8 = nI l) (hs0 : rSS S0 ss) (hsw : SSw P ss) (hd0 : Dwf σ0.1) (hb : dsum σ0.1 + σ0.2.length ≤ 35)
    (hK : ∀ S, IS re a A F S0 (rnd P ss l (P 1 + ss.length) σ0) S → fl (P 0) (rnd P ss l (P 1 + ss.length) σ0).1 = false → K2 S 87 a (bI re) (bI (decide (σ0.2.length < (rnd P ss l (P 1 + ss.length) σ0).2.length))))
    (hF : ∀ S, IS re a A F S0 (rnd P ss l (P 1 + ss.length) σ0) S → fl (P 0) (rnd P ss l (P 1 + ss.length) σ0).1 = true → Q (nI 0) S) :
    ∀ r k S, k + r = P 1 + ss.length → IS re a A F S0 (rnd P ss l k σ0) S → fl (P 0) (rnd P ss l k σ0).1 = false → wpX12_sweeps_b11 K2 Q (r + 1) S 87 a (bI re) (bI (decide (σ0.2.length < (rnd P ss l k σ0).2.length))) (nI k) := by
  have hdn : ∀ j, j ≤ P 1 + ss.length → Dn (FP1 P ss l) σ0 (rnd P ss l j σ0) := fun j hj => rnd_dn hw hd0 j hj
  have hP1 := hw.2.1
  have hs12 := hs0.2.1
  intro r
  induction r with
  | zero =>
    intro k S hk hI hf
    have hk' : k = P 1 + ss.length := by omega
    have hM := hI.1.M hM0
    have hp := hI.1.P hH.2.2.2.2.2.2.2.1 hp0
    have hS := hI.1.S hH.2.2.2.2.2.2.2.2.1 hH.2.2.2.2.2.2.2.2.2.2.2 hs0
    subst hk'
    have h1 := hK S hI hf
    simp (disch := omega) only [wpX12_sweeps_b11, msk hM, msr_p hM, msk_p hM, msl_p hM, hp 1 (by decide), hS.1, c_0, c_1, c_2, c_3, c_4, c_5, c_6, c_7, c_8, c_9, c_10, c_11, c_12, c_14, c_16, c_19, c_20, c_24, c_31, c_32, c_35, c_48, c_57, c_59, c_63, c_97, c_100, c_122, c_127, c_169, c_255, c_600, c_1000, c_32767, Nat.le_refl, Nat.zero_le, Nat.add_zero, Nat.lt_irrefl, eq_self, o_sub, Nat.sub_zero, Nat.not_lt_zero, ↓ng_d, o_le, o_lt, o_eq, o_add, o_mul, o_cl, o_inT, o_and, n_31, o_shr, o_shl1, o_or, m_lt, m_ge, m_le, m_gt, m_ne, m_ne2, Option.some.injEq, exists_eq_left', true_and, and_true, true_implies, false_implies, implies_true, not_true_eq_false, not_false_eq_true, bI_0, bI_1, bI_01, b01, true_or, or_true, Nat.reduceEqDiff, Bool.not_eq_false, Bool.not_eq_true, Bool.true_eq_false, Bool.false_eq_true]
    exact h1
  | succ r ih =>
    intro k S hk hI hf
    have hM := hI.1.M hM0
    have hp := hI.1.P hH.2.2.2.2.2.2.2.1 hp0
    have hS := hI.1.S hH.2.2.2.2.2.2.2.2.1 hH.2.2.2.2.2.2.2.2.2.2.2 hs0
    have e : ¬ P 1 + ss.length ≤ k := by omega
    have hn := ih (k + 1)
    generalize r + 1 = fu at hn ⊢
    have hd := hdn k (by omega)
    have hd' := hdn (k + 1) (by omega)
    obtain ⟨T1, hT1, -⟩ := hd.2.2.1
    have hl1 : (rnd P ss l k σ0).2.length = σ0.2.length + T1.length := by rw [hT1, List.length_append]
    have hsum := hd.2.1
    have hsum2 := hd'.2.1
    have hsd := sw1_dn (N := P 0) (r := (kl P ss k).2.1) (l := l) (s := (kl P ss k).2.2) (kl_wf (ss := ss) hw k) hd.1 _ (Nat.le_refl _)
    obtain ⟨T3, hT3, -⟩ := hsd.2.2.1
    have hl3 : (rnd P ss l (k + 1) σ0).2.length = (rnd P ss l k σ0).2.length + T3.length := by
      show (sw1 (kl P ss k).1 (P 0) (kl P ss k).2.1 l (kl P ss k).2.2 (kl P ss k).1.1 (rnd P ss l k σ0)).2.length = _
      rw [hT3, List.length_append]
    -- behind the sweep of one
    have tail : ∀ S2, IS re a A F S0 (rnd P ss l (k + 1) σ0) S2 → fl (P 0) (rnd P ss l (k + 1) σ0).1 = false → wpX12_sweeps_b108 K2 (wpX12_sweeps_b11 K2 Q fu) Q S2 87 a (bI re) (bI (decide (σ0.2.length < (rnd P ss l k σ0).2.length))) (nI k) (nI 0) (nI T3.length) := by
      intro S2 hI2 hf2
      have h1 := hn S2 (by omega) hI2 hf2
      by_cases q1 : σ0.2.length < (rnd P ss l k σ0).2.length
      · have q2 : σ0.2.length < (rnd P ss l (k + 1) σ0).2.length := by omega
        rw [decide_eq_true q1]
        rw [decide_eq_true q2] at h1
        simp (disch := omega) only [wpX12_sweeps_b108, wpX12_sweeps_b126, c_0, c_1, c_2, c_3, c_4, c_5, c_6, c_7, c_8, c_9, c_10, c_11, c_12, c_14, c_16, c_19, c_20, c_24, c_31, c_32, c_35, c_48, c_57, c_59, c_63, c_97, c_100, c_122, c_127, c_169, c_255, c_600, c_1000, c_32767, Nat.le_refl, Nat.zero_le, Nat.add_zero, Nat.lt_irrefl, eq_self, o_sub, Nat.sub_zero, Nat.not_lt_zero, ↓ng_d, o_le, o_lt, o_eq, o_add, o_mul, o_cl, o_inT, o_and, n_31, o_shr, o_shl1, o_or, m_lt, m_ge, m_le, m_gt, m_ne, m_ne2, Option.some.injEq, exists_eq_left', true_and, and_true, true_implies, false_implies, implies_true, not_true_eq_false, not_false_eq_true, bI_0, bI_1, bI_01, b01, true_or, or_true, Nat.reduceEqDiff, Bool.not_eq_false, Bool.not_eq_true, Bool.true_eq_false, Bool.false_eq_true]
        exact h1
      · rw [decide_eq_false q1]
        by_cases q3 : T3.length = 0
        · have q2 : ¬ σ0.2.length < (rnd P ss l (k + 1) σ0).2.length := by omega
          rw [decide_eq_false q2] at h1
          simp (disch := omega) only [wpX12_sweeps_b108, wpX12_sweeps_b126, c_0, c_1, c_2, c_3, c_4, c_5, c_6, c_7, c_8, c_9, c_10, c_11, c_12, c_14, c_16, c_19, c_20, c_24, c_31, c_32, c_35, c_48, c_57, c_59, c_63, c_97, c_100, c_122, c_127, c_169, c_255, c_600, c_1000, c_32767, Nat.le_refl, Nat.zero_le, Nat.add_zero, Nat.lt_irrefl, eq_self, o_sub, Nat.sub_zero, Nat.not_lt_zero, ↓ng_d, o_le, o_lt, o_eq, o_add, o_mul, o_cl, o_inT, o_and, n_31, o_shr, o_shl1, o_or, m_lt, m_ge, m_le, m_gt, m_ne, m_ne2, Option.some.injEq, exists_eq_left', true_and, and_true, true_implies, false_implies, implies_true, not_true_eq_false, not_false_eq_true, bI_0, bI_1, bI_01, b01, true_or, or_true, Nat.reduceEqDiff, Bool.not_eq_false, Bool.not_eq_true, Bool.true_eq_false, Bool.false_eq_true, q3]
          exact h1
        · have q2 : σ0.2.length < (rnd P ss l (k + 1) σ0).2.length := by omega
          rw [decide_eq_true q2] at h1
          have q4 : ¬ T3.length ≤ 0 := by omega
          simp (disch := omega) only [wpX12_sweeps_b108, wpX12_sweeps_b126, c_0, c_1, c_2, c_3, c_4, c_5, c_6, c_7, c_8, c_9, c_10, c_11, c_12, c_14, c_16, c_19, c_20, c_24, c_31, c_32, c_35, c_48, c_57, c_59, c_63, c_97, c_100, c_122, c_127, c_169, c_255, c_600, c_1000, c_32767, Nat.le_refl, Nat.zero_le, Nat.add_zero, Nat.lt_irrefl, eq_self, o_sub, Nat.sub_zero, Nat.not_lt_zero, ↓ng_d, o_le, o_lt, o_eq, o_add, o_mul, o_cl, o_inT, o_and, n_31, o_shr, o_shl1, o_or, m_lt, m_ge, m_le, m_gt, m_ne, m_ne2, Option.some.injEq, exists_eq_left', true_and, and_true, true_implies, false_implies, implies_true, not_true_eq_false, not_false_eq_true, bI_0, bI_1, bI_01, b01, true_or, or_true, Nat.reduceEqDiff, Bool.not_eq_false, Bool.not_eq_true, Bool.true_eq_false, Bool.false_eq_true, q4]
          exact h1
    have tailF : ∀ S2, IS re a A F S0 (rnd P ss l (k + 1) σ0) S2 → fl (P 0) (rnd P ss l (k + 1) σ0).1 = true → wpX12_sweeps_b108 K2 (wpX12_sweeps_b11 K2 Q fu) Q S2 87 a (bI re) (bI (decide (σ0.2.length < (rnd P ss l k σ0).2.length))) (nI k) (nI 0) ngI := by
      intro S2 hI2 hf2
      have h9 := rnd_up (P := P) (ss := ss) (l := l) (σ := σ0) (j := k + 1) hf2 r
      rw [show k + 1 + r = P 1 + ss.length by omega] at h9
      have h1 := hF S2 (by rw [h9]; exact hI2) (by rw [h9]; exact hf2)
      simp (disch := omega) only [wpX12_sweeps_b108, c_0, c_1, c_2, c_3, c_4, c_5, c_6, c_7, c_8, c_9, c_10, c_11, c_12, c_14, c_16, c_19, c_20, c_24, c_31, c_32, c_35, c_48, c_57, c_59, c_63, c_97, c_100, c_122, c_127, c_169, c_255, c_600, c_1000, c_32767, Nat.le_refl, Nat.zero_le, Nat.add_zero, Nat.lt_irrefl, eq_self, o_sub, Nat.sub_zero, Nat.not_lt_zero, ↓ng_d, o_le, o_lt, o_eq, o_add, o_mul, o_cl, o_inT, o_and, n_31, o_shr, o_shl1, o_or, m_lt, m_ge, m_le, m_gt, m_ne, m_ne2, Option.some.injEq, exists_eq_left', true_and, and_true, true_implies, false_implies, implies_true, not_true_eq_false, not_false_eq_true, bI_0, bI_1, bI_01, b01, true_or, or_true, Nat.reduceEqDiff, Bool.not_eq_false, Bool.not_eq_true, Bool.true_eq_false, Bool.false_eq_true]
      exact h1
    have one : ∀ (C : Int32), isR P C (kl P ss k).1 (kl P ss k).2.1 (kl P ss k).2.2 → wpX12_sweepsOne S 87 C a (bI re) (fun r2 S3 => wpX12_sweeps_b108 K2 (wpX12_sweeps_b11 K2 Q fu) Q S3 87 a (bI re) (bI (decide (σ0.2.length < (rnd P ss l k σ0).2.length))) (nI k) (nI 0) r2) := by
      intro C hR
      refine q_sweepsOne hH hM0 hp0 hw hl hR hd.1 (by omega) hf (fun S2 hI2 hf2 => ?_) (fun S2 hI2 hf2 => tailF S2 hI2 hf2) S hI
      have h1 := tail S2 hI2 hf2
      have e9 : (sw1 (kl P ss k).1 (P 0) (kl P ss k).2.1 l (kl P ss k).2.2 (kl P ss k).1.1 (rnd P ss l k σ0)).2.length - (rnd P ss l k σ0).2.length = T3.length := by
        have : (sw1 (kl P ss k).1 (P 0) (kl P ss k).2.1 l (kl P ss k).2.2 (kl P ss k).1.1 (rnd P ss l k σ0)).2.length = (rnd P ss l (k + 1) σ0).2.length := rfl
        omega
      rw [e9]
      exact h1
    by_cases hk1 : k < P 1
    · have h1 := one (nI k) (Or.inl ⟨k, hk1, rfl, by rw [kl_lt hk1], by rw [kl_lt hk1], by rw [kl_lt hk1]⟩)
      have e2 : ¬ P 1 ≤ k := by omega
      simp (disch := omega) only [wpX12_sweeps_b11, wpX12_sweeps_b59, wpX12_sweeps_b60, wpX12_sweeps_b103, msk hM, msr_p hM, msk_p hM, msl_p hM, hp 1 (by decide), hS.1, c_0, c_1, c_2, c_3, c_4, c_5, c_6, c_7, c_8, c_9, c_10, c_11, c_12, c_14, c_16, c_19, c_20, c_24, c_31, c_32, c_35, c_48, c_57, c_59, c_63, c_97, c_100, c_122, c_127, c_169, c_255, c_600, c_1000, c_32767, Nat.le_refl, Nat.zero_le, Nat.add_zero, Nat.lt_irrefl, eq_self, o_sub, Nat.sub_zero, Nat.not_lt_zero, ↓ng_d, o_le, o_lt, o_eq, o_add, o_mul, o_cl, o_inT, o_and, n_31, o_shr, o_shl1, o_or, m_lt, m_ge, m_le, m_gt, m_ne, m_ne2, Option.some.injEq, exists_eq_left', true_and, and_true, true_implies, false_implies, implies_true, not_true_eq_false, not_false_eq_true, bI_0, bI_1, bI_01, b01, true_or, or_true, Nat.reduceEqDiff, Bool.not_eq_false, Bool.not_eq_true, Bool.true_eq_false, Bool.false_eq_true, e, hk1, e2]
      exact h1
    · have e2 : P 1 ≤ k := by omega
      have e3 : k - P 1 < ss.length := by omega
      have hss := hsw _ e3
      have hs1 := hss.1.1
      have hrow := hS.2.2 _ e3
      by_cases e4 : ss.getD (k - P 1) 0 = 0
      · have hsame : rnd P ss l (k + 1) σ0 = rnd P ss l k σ0 := by
          show sw1 (kl P ss k).1 (P 0) (kl P ss k).2.1 l (kl P ss k).2.2 (kl P ss k).1.1 (rnd P ss l k σ0) = _
          rw [kl_ge hk1, e4]
          show sw1 (lK 0) (P 0) (nI 100) l 0 (lK 0).1 (rnd P ss l k σ0) = _
          rw [lK_0]
          rfl
        have h1 := tail S (by rw [hsame]; exact hI) (by rw [hsame]; exact hf)
        have e5 : T3.length = 0 := by rw [hsame] at hl3; omega
        rw [e5] at h1
        have n1 : ¬ (1 : Nat) = 0 := by decide
        have h2 : wpX12_sweeps_b108 K2 (wpX12_sweeps_b11 K2 Q fu) Q S 87 a (bI re) (bI (decide (σ0.2.length < (rnd P ss l k σ0).2.length))) (nI k) (nI 1) (nI 0) := h1
        simp (disch := omega) only [wpX12_sweeps_b11, wpX12_sweeps_b60, msk hM, msr_p hM, msk_p hM, msl_p hM, msr_sets hM, msk_sets hM, msl_sets hM, hp 1 (by decide), hS.1, hrow, c_0, c_1, c_2, c_3, c_4, c_5, c_6, c_7, c_8, c_9, c_10, c_11, c_12, c_14, c_16, c_19, c_20, c_24, c_31, c_32, c_35, c_48, c_57, c_59, c_63, c_97, c_100, c_122, c_127, c_169, c_255, c_600, c_1000, c_32767, Nat.le_refl, Nat.zero_le, Nat.add_zero, Nat.lt_irrefl, eq_self, o_sub, Nat.sub_zero, Nat.not_lt_zero, ↓ng_d, o_le, o_lt, o_eq, o_add, o_mul, o_cl, o_inT, o_and, n_31, o_shr, o_shl1, o_or, m_lt, m_ge, m_le, m_gt, m_ne, m_ne2, Option.some.injEq, exists_eq_left', true_and, and_true, true_implies, false_implies, implies_true, not_true_eq_false, not_false_eq_true, bI_0, bI_1, bI_01, b01, true_or, or_true, Nat.reduceEqDiff, Bool.not_eq_false, Bool.not_eq_true, Bool.true_eq_false, Bool.false_eq_true, e, hk1, e2, e4, n1]
        exact h2
      · have h1 := one (-nI (ss.getD (k - P 1) 0)) (Or.inr (by rw [kl_ge hk1]; exact ⟨hss.1, Nat.pos_of_ne_zero e4, hss.2, rfl, rfl, rfl⟩))
        simp (disch := omega) only [wpX12_sweeps_b11, wpX12_sweeps_b59, wpX12_sweeps_b60, wpX12_sweeps_b103, msk hM, msr_p hM, msk_p hM, msl_p hM, msr_sets hM, msk_sets hM, msl_sets hM, hp 1 (by decide), hS.1, hrow, c_0, c_1, c_2, c_3, c_4, c_5, c_6, c_7, c_8, c_9, c_10, c_11, c_12, c_14, c_16, c_19, c_20, c_24, c_31, c_32, c_35, c_48, c_57, c_59, c_63, c_97, c_100, c_122, c_127, c_169, c_255, c_600, c_1000, c_32767, Nat.le_refl, Nat.zero_le, Nat.add_zero, Nat.lt_irrefl, eq_self, o_sub, Nat.sub_zero, Nat.not_lt_zero, ↓ng_d, o_le, o_lt, o_eq, o_add, o_mul, o_cl, o_inT, o_and, n_31, o_shr, o_shl1, o_or, m_lt, m_ge, m_le, m_gt, m_ne, m_ne2, Option.some.injEq, exists_eq_left', true_and, and_true, true_implies, false_implies, implies_true, not_true_eq_false, not_false_eq_true, bI_0, bI_1, bI_01, b01, true_or, or_true, Nat.reduceEqDiff, Bool.not_eq_false, Bool.not_eq_true, Bool.true_eq_false, Bool.false_eq_true, e, hk1, e2, e4]
        exact h1
theorem q_sweeps {re : Bool} {a : Nat} {A F : List Nat} {S0 : PS} {P : Nat → Nat} {ss : List Nat} {l : Nat} {σ0 : St} {Q : Int32 → PS → Prop}
    (hH : SwH re a A F) (hM0 : MShape S0) (hp0 : rP S0 P) (hw : Pwf P) (hl : pI S0 87 8 = nI l) (hs0 : rSS S0 ss) (hsw : SSw P ss) (hd0 : Dwf σ0.1) (hb : dsum σ0.1 + σ0.2.length ≤ 35) (hf0 : fl (P 0) σ0.1 = false) (hI0 : IS re a A F S0 σ0 S0)
    (hQ : ∀ S, IS re a A F S0 (prE P ss l σ0) S → Q (bI (!fl (P 0) (prE P ss l σ0).1)) S) : wpX12_sweeps S0 87 a (bI re) Q := by
  have main : ∀ n σ S, dsum σ.1 < n → Dwf σ.1 → dsum σ.1 + σ.2.length ≤ 35 → IS re a A F S0 σ S → fl (P 0) σ.1 = false → prE P ss l σ = prE P ss l σ0 → wpX12_sweeps_b2 Q (n + 1) S 87 a (bI re) (bI true) := by
    intro n
    induction n with
    | zero => intro σ S h; omega
    | succ n ih =>
      intro σ S h1 h2 h3 hI hf he
      have hd := rnd_dn (ss := ss) (l := l) hw h2 _ (Nat.le_refl _)
      obtain ⟨T, hT, -⟩ := hd.2.2.1
      have hl1 : (rnd P ss l (P 1 + ss.length) σ).2.length = σ.2.length + T.length := by rw [hT, List.length_append]
      have hsum := hd.2.1
      have hM := hI.1.M hM0
      generalize hfu : n + 1 = fu at ih ⊢
      have h4 := q_sw11 (K2 := wpX12_sweeps_b2 Q fu) (Q := Q) (σ0 := σ) hH hM0 hp0 hw hl hs0 hsw h2 h3 (fun S2 hI2 hf2 => by
        by_cases q : T.length = 0
        · have e1 : ¬ σ.2.length < (rnd P ss l (P 1 + ss.length) σ).2.length := by omega
          rw [decide_eq_false e1]
          have e2 : prE P ss l σ = rnd P ss l (P 1 + ss.length) σ := prE_stop (by omega)
          have h5 := hQ S2 (by rw [← he, e2]; exact hI2)
          rw [← he, e2, hf2] at h5
          rw [← hfu]
          simp (disch := omega) only [wpX12_sweeps_b2, c_0, c_1, c_2, c_3, c_4, c_5, c_6, c_7, c_8, c_9, c_10, c_11, c_12, c_14, c_16, c_19, c_20, c_24, c_31, c_32, c_35, c_48, c_57, c_59, c_63, c_97, c_100, c_122, c_127, c_169, c_255, c_600, c_1000, c_32767, Nat.le_refl, Nat.zero_le, Nat.add_zero, Nat.lt_irrefl, eq_self, o_sub, Nat.sub_zero, Nat.not_lt_zero, ↓ng_d, o_le, o_lt, o_eq, o_add, o_mul, o_cl, o_inT, o_and, n_31, o_shr, o_shl1, o_or, m_lt, m_ge, m_le, m_gt, m_ne, m_ne2, Option.some.injEq, exists_eq_left', true_and, and_true, true_implies, false_implies, implies_true, not_true_eq_false, not_false_eq_true, bI_0, bI_1, bI_01, b01, true_or, or_true, Nat.reduceEqDiff, Bool.not_eq_false, Bool.not_eq_true, Bool.true_eq_false, Bool.false_eq_true]
          exact h5
        · have e1 : σ.2.length < (rnd P ss l (P 1 + ss.length) σ).2.length := by omega
          rw [decide_eq_true e1]
          exact ih _ S2 (by omega) hd.1 (by omega) hI2 hf2 (by rw [← he]; exact (prE_step hw h2 (by omega)).symm)) (fun S2 hI2 hf2 => by
        have e2 : prE P ss l σ = rnd P ss l (P 1 + ss.length) σ := by
          by_cases q : (rnd P ss l (P 1 + ss.length) σ).2.length = σ.2.length
          · exact prE_stop q
          · rw [prE_step hw h2 q, prE_fl hf2]
        have h5 := hQ S2 (by rw [← he, e2]; exact hI2)
        rw [← he, e2, hf2] at h5
        exact h5) (P 1 + ss.length) 0 S (Nat.zero_add _) hI hf
      rw [show decide (σ.2.length < (rnd P ss l 0 σ).2.length) = false from decide_eq_false (Nat.lt_irrefl _)] at h4
      simp (disch := omega) only [wpX12_sweeps_b2, c_0, c_1, c_2, c_3, c_4, c_5, c_6, c_7, c_8, c_9, c_10, c_11, c_12, c_14, c_16, c_19, c_20, c_24, c_31, c_32, c_35, c_48, c_57, c_59, c_63, c_97, c_100, c_122, c_127, c_169, c_255, c_600, c_1000, c_32767, Nat.le_refl, Nat.zero_le, Nat.add_zero, Nat.lt_irrefl, eq_self, o_sub, Nat.sub_zero, Nat.not_lt_zero, ↓ng_d, o_le, o_lt, o_eq, o_add, o_mul, o_cl, o_inT, o_and, n_31, o_shr, o_shl1, o_or, m_lt, m_ge, m_le, m_gt, m_ne, m_ne2, Option.some.injEq, exists_eq_left', true_and, and_true, true_implies, false_implies, implies_true, not_true_eq_false, not_false_eq_true, bI_0, bI_1, bI_01, b01, true_or, or_true, Nat.reduceEqDiff, Bool.not_eq_false, Bool.not_eq_true, Bool.true_eq_false, Bool.false_eq_true]
      exact ⟨_, h4⟩
  have h1 := main 36 σ0 S0 (by have := dsum_le σ0.1; omega) hd0 hb hI0 hf0 rfl
  simp only [wpX12_sweeps, c_0, c_1, c_2, c_3, c_4, c_5, c_6, c_7, c_8, c_9, c_10, c_11, c_12, c_14, c_16, c_19, c_20, c_24, c_31, c_32, c_35, c_48, c_57, c_59, c_63, c_97, c_100, c_122, c_127, c_169, c_255, c_600, c_1000, c_32767, Nat.le_refl, Nat.zero_le, Nat.add_zero, Nat.lt_irrefl, eq_self, o_sub, Nat.sub_zero, Nat.not_lt_zero, ↓ng_d, o_le, o_lt, o_eq, o_add, o_mul, o_cl, o_inT, o_and, n_31, o_shr, o_shl1, o_or, m_lt, m_ge, m_le, m_gt, m_ne, m_ne2, Option.some.injEq, exists_eq_left', true_and, and_true, true_implies, false_implies, implies_true, not_true_eq_false, not_false_eq_true, bI_0, bI_1, bI_01, b01, true_or, or_true, Nat.reduceEqDiff, Bool.not_eq_false, Bool.not_eq_true, Bool.true_eq_false, Bool.false_eq_true]
  exact ⟨_, h1⟩

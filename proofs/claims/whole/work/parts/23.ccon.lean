/-! THE CLASS: constraints by what is asked of them; the search for the least support -/
/-- a member of the constraint -/
noncomputable def inM (κ : Kon) (x : Nat) : Bool := dB (∃ k, k < κ.1 ∧ κ.2.1 k = x)
theorem inM_t {κ : Kon} {x : Nat} : inM κ x = true ↔ ∃ k, k < κ.1 ∧ κ.2.1 k = x := dB_t
noncomputable def scp (κ : Kon) : Nat → Nat := fun x => if inM κ x = true then 31 else 0
theorem scp_t {κ : Kon} {x : Nat} (h : inM κ x = true) : scp κ x = 31 := if_pos h
theorem scp_f {κ : Kon} {x : Nat} (h : inM κ x = false) : scp κ x = 0 := if_neg (by rw [h]; decide)
theorem scp_wf (κ : Kon) : Dwf (scp κ) := fun x _ => by unfold scp; split <;> omega
def vOK (κ : Kon) (d : Nat → Nat) (v : Nat) : Prop := v ≤ 2 ∧ ∀ a, Asg κ d a → (v = 0 → κ.2.2 a = false) ∧ (v = 2 → κ.2.2 a = true) ∧ (v = 1 → (∀ k, k < κ.1 → ∀ u, u < 5 → (d (κ.2.1 k)).testBit u = true → u = a (κ.2.1 k)) → κ.2.2 a = true)
def alk (κ : Kon) (v A : Nat) : Prop := A < 32 ∧ A.testBit v = true ∧ ∀ u, u < 5 → A.testBit u = true → ∀ k, k < κ.1 → ∀ a : Nat → Nat, (∀ j, j < κ.1 → a (κ.2.1 j) < 5) → a (κ.2.1 k) = u → κ.2.2 (ud a (κ.2.1 k) v) = κ.2.2 a
/-- what the class's constraint o answers: it is κ -/
def CC (S : PS) (o : Nat) (κ : Kon) : Prop := pC4 S o ∧ pI S o 1 = nI κ.1 ∧ pJ S o 2 = pk (scp κ) ∧ pI S o 3 = nI (ds 3 κ.2.1 κ.1) ∧ (∀ (d : Nat → Nat) (Q : Int32 → PS → Prop), Dwf d → (∀ v, vOK κ d v → Q (nI v) S) → wpC_verdict S o (pk d) Q) ∧ (∀ (v : Nat) (Q : Int32 → PS → Prop), v < 5 → (∀ A, alk κ v A → Q (nI A) S) → wpC_alike S o (nI v) Q)
/-! ===== pairs ===== -/
theorem w_allOf {S : PS} {x : Nat} {Q : Int64 → PS → Prop} (hx : x < 7) : wpX5_allOf S (nI x) Q = Q (pk (sg x 31)) S := by
  unfold wpX5_allOf
  rw [show (31 : Int64) = lN 31 from rfl, show (5 : Int32) = nI 5 from rfl, o_mul, show (63 : Int64) = lN 63 from rfl, l_shl (by omega), l_allOf x hx]
theorem w_pair {S : PS} {x v : Nat} {Q : Int64 → PS → Prop} (hx : x < 7) (hv : v < 5) : wpX5_pair S (nI x) (nI v) Q = Q (pk (sg x (2 ^ v))) S := by
  unfold wpX5_pair
  rw [show (1 : Int64) = lN 1 from rfl, show (5 : Int32) = nI 5 from rfl, o_mul, o_add, show (63 : Int64) = lN 63 from rfl, l_shl (by omega), l_pair x hx v hv]
theorem w_narrowed {S : PS} {d : Nat → Nat} {x v : Nat} {Q : Int64 → PS → Prop} (hd : Dwf d) (hx : x < 7) (hv : v < 5) : wpX5_narrowed S (pk d) (nI x) (nI v) Q = Q (pk (ud d x (d x &&& 2 ^ v))) S := by
  unfold wpX5_narrowed
  rw [w_allOf hx]
  rw [w_pair hx hv]
  rw [ngL_d, pq_nr hd hx (dm_pow_lt v hv)]
theorem w_valuesOf {S : PS} {d : Nat → Nat} {x : Nat} {Q : Int32 → PS → Prop} (hd : Dwf d) (hx : x < 7) : wpX5_valuesOf S (pk d) (nI x) Q = Q (nI (d x)) S := by
  unfold wpX5_valuesOf pk
  rw [show (5 : Int32) = nI 5 from rfl, o_mul, show (63 : Int64) = lN 63 from rfl, l_ushr (by have := pq_lt hd; omega) (by omega), lN_i, show (31 : Int32) = nI 31 from rfl, o_and, pq_v hd hx]
theorem w_isValue {S : PS} {v : Nat} {Q : Int32 → PS → Prop} (hv : v < 2147483648) : wpX11_isValue S (nI v) Q = Q (bI (decide (v < 5))) S := by
  simp (disch := omega) only [wpX11_isValue, c_0, c_1, c_2, c_3, c_4, c_5, c_6, c_7, c_8, c_9, c_10, c_11, c_12, c_14, c_16, c_19, c_20, c_24, c_31, c_32, c_35, c_48, c_57, c_59, c_63, c_97, c_100, c_122, c_127, c_169, c_255, c_600, c_1000, c_32767, Nat.le_refl, Nat.zero_le, Nat.add_zero, Nat.lt_irrefl, eq_self, o_sub, Nat.sub_zero, Nat.not_lt_zero, ↓ng_d, o_le, o_lt, o_eq, o_add, o_mul, o_cl, o_inT, o_and, n_31, o_shr, o_shl1, o_or, m_lt, m_ge, m_le, m_gt, m_ne, m_ne2, Option.some.injEq, exists_eq_left', true_and, and_true, true_implies, false_implies, implies_true, not_true_eq_false, not_false_eq_true, bI_0, bI_1, bI_01, b01, true_or, or_true, Nat.reduceEqDiff, Bool.not_eq_false, Bool.not_eq_true, Bool.true_eq_false, Bool.false_eq_true]
  by_cases h : 5 ≤ v
  · have : ¬ v < 5 := by omega
    simp [h, this, bI]
  · have : v < 5 := by omega
    simp [h, this, bI]
theorem dm_bit0 : ∀ d, d < 32 → ∀ v, v < 5 → (d &&& 2 ^ v = 0 ↔ d.testBit v = false) := by decide +kernel
theorem pq_sg0 {d : Nat → Nat} {x w : Nat} (hx : x < 7) (hw : w < 32) : (pk (sg x w) = lN 0) = (w = 0) := by
  rw [pq_0 (sg_wf hw)]
  apply propext
  constructor
  · intro h; have := h x hx; rw [sg_s] at this; exact this
  · intro h y hy
    unfold sg
    split
    · exact h
    · rfl
theorem w_has5 {S : PS} {d : Nat → Nat} {x v : Nat} {Q : Int32 → PS → Prop} (hd : Dwf d) (hx : x < 7) (hv : v < 5) : wpX5_has S (pk d) (nI x) (nI v) Q = Q (bI ((d x).testBit v)) S := by
  unfold wpX5_has
  rw [w_isValue (by omega)]
  have e : decide (v < 5) = true := decide_eq_true hv
  simp (disch := omega) only [e, c_0, c_1, c_2, c_3, c_4, c_5, c_6, c_7, c_8, c_9, c_10, c_11, c_12, c_14, c_16, c_19, c_20, c_24, c_31, c_32, c_35, c_48, c_57, c_59, c_63, c_97, c_100, c_122, c_127, c_169, c_255, c_600, c_1000, c_32767, Nat.le_refl, Nat.zero_le, Nat.add_zero, Nat.lt_irrefl, eq_self, o_sub, Nat.sub_zero, Nat.not_lt_zero, ↓ng_d, o_le, o_lt, o_eq, o_add, o_mul, o_cl, o_inT, o_and, n_31, o_shr, o_shl1, o_or, m_lt, m_ge, m_le, m_gt, m_ne, m_ne2, Option.some.injEq, exists_eq_left', true_and, and_true, true_implies, false_implies, implies_true, not_true_eq_false, not_false_eq_true, bI_0, bI_1, bI_01, b01, true_or, or_true, Nat.reduceEqDiff, Bool.not_eq_false, Bool.not_eq_true, Bool.true_eq_false, Bool.false_eq_true, w_pair hx hv]
  rw [pq_asg hd hx (dm_pow_lt v hv), l_0, lg_0, pq_sg0 (d := d) hx (dm_and_lt _ (hd x hx) _ (dm_pow_lt v hv)), propext (dm_bit0 _ (hd x hx) v hv)]
  cases (d x).testBit v <;> simp [bI, c_0, c_1]
/-- a value out of range is in no domain -/
theorem w_has5n {S : PS} {L : Int64} {X v : Int32} {Q : Int32 → PS → Prop} (h : v < nI 0 ∨ nI 5 ≤ v) : wpX5_has S L X v Q = Q (nI 0) S := by
  unfold wpX5_has wpX11_isValue
  rw [c_0, c_5]
  by_cases h1 : v < nI 0
  · simp only [h1, not_true_eq_false, true_implies, false_implies, and_true, eq_self]
  · have h2 : nI 5 ≤ v := h.resolve_left h1
    simp only [h1, h2, not_true_eq_false, not_false_eq_true, true_implies, false_implies, and_true, true_and, eq_self]
def m1 (w : Nat) : Nat := if w = 0 then 0 else 1
theorem m1_wf (d : Nat → Nat) : Dwf (fun x => m1 (d x)) := fun x _ => by show m1 (d x) < 32; unfold m1; split <;> omega
theorem dm_any : ∀ w, w < 32 → (w.testBit 0 || w.testBit 1 || w.testBit 2 || w.testBit 3 || w.testBit 4) = (m1 w).testBit 0 := by decide +kernel
theorem m1_hi : ∀ w, w < 32 → ∀ j, j < 5 → j ≠ 0 → (m1 w).testBit j = false := by decide +kernel
theorem zeros_tb : ∀ i, i < 64 → (1108378657 : Nat).testBit i = (decide (i < 35) && decide (i % 5 = 0)) := by decide +kernel
theorem w_marks {S : PS} {d : Nat → Nat} {Q : Int64 → PS → Prop} (hd : Dwf d) : wpX5_marks S (pk d) Q = Q (pk (fun x => m1 (d x))) S := by
  unfold wpX5_marks
  have hl := pq_lt hd
  congr 1
  unfold pk
  rw [show (63 : Int64) = lN 63 from rfl, show (1 : Int32) = nI 1 from rfl, show (2 : Int32) = nI 2 from rfl, show (3 : Int32) = nI 3 from rfl, show (4 : Int32) = nI 4 from rfl, l_ushr (by omega) (by decide), l_ushr (by omega) (by decide), l_ushr (by omega) (by decide), l_ushr (by omega) (by decide), lN_or, lN_or, lN_or, lN_or, show (1108378657 : Int64) = lN 1108378657 from rfl, lN_and]
  refine pq_of (m1_wf d) (fun i => ?_)
  rw [Nat.testBit_and, Nat.testBit_or, Nat.testBit_or, Nat.testBit_or, Nat.testBit_or, Nat.testBit_shiftRight, Nat.testBit_shiftRight, Nat.testBit_shiftRight, Nat.testBit_shiftRight]
  by_cases h64 : i < 64
  · rw [zeros_tb i h64]
    by_cases h : i < 35
    · by_cases h5 : i % 5 = 0
      · have e : ∀ j, j < 5 → (ds 5 d 7).testBit (j + i) = (d (i / 5)).testBit j := fun j hj => by
          rw [pq_tb hd]
          have e1 : (j + i) / 5 = i / 5 := by omega
          have e2 : (j + i) % 5 = j := by omega
          have e3 : j + i < 35 := by omega
          rw [e1, e2]
          simp [e3]
        have e0 := e 0 (by decide)
        rw [Nat.zero_add] at e0
        rw [e0, e 1 (by decide), e 2 (by decide), e 3 (by decide), e 4 (by decide), dm_any _ (hd _ (i5 h).1), h5]
        simp [h]
      · rw [m1_hi _ (hd _ (i5 h).1) _ (i5 h).2 h5]
        simp [h5]
    · simp [h]
  · have : (1108378657 : Nat).testBit i = false := Nat.testBit_lt_two_pow (Nat.lt_of_lt_of_le (show (1108378657 : Nat) < 2 ^ 64 by decide) (Nat.pow_le_pow_right (by decide) (by omega)))
    have h35 : ¬ i < 35 := by omega
    simp [this, h35]
/-- how many variables have a value -/
def nzs (d : Nat → Nat) : Nat := cN (fun x => decide (d x ≠ 0)) 7
theorem dsum_m1 (d : Nat → Nat) : dsum (fun x => m1 (d x)) = nzs d := by
  have h : ∀ n, sN (fun x => pcn 5 (m1 (d x))) n = cN (fun x => decide (d x ≠ 0)) n := by
    intro n
    induction n with
    | zero => rfl
    | succ n ih =>
      simp only [sN, cN]
      rw [ih]
      unfold m1
      by_cases e : d n = 0
      · simp [e, pcn]
      · simp [e, pcn]
  exact h 7
theorem w_variablesIn {S : PS} {d : Nat → Nat} {Q : Int32 → PS → Prop} (hd : Dwf d) : wpX5_variablesIn S (pk d) Q = Q (nI (nzs d)) S := by
  unfold wpX5_variablesIn
  rw [w_marks hd]
  rw [w_bcl, bcl_pk (m1_wf d), dsum_m1]
/-- the least value alone -/
def lo1 (w : Nat) : Nat := if w = 0 then 0 else 2 ^ pick5 (dF w)
theorem lo1_lt : ∀ w, w < 32 → lo1 w < 32 := by decide +kernel
theorem l_lo1 : ∀ x, x < 7 → ∀ w, w < 32 → pk (sg x w) &&& (-(pk (sg x w))) = pk (sg x (lo1 w)) := by decide +kernel
theorem q_leastOfEach {S : PS} {d : Nat → Nat} {Q : Int64 → PS → Prop} (hd : Dwf d) (hQ : Q (pk (fun x => lo1 (d x))) S) : wpX5_leastOfEach S (pk d) Q := by
  have main : ∀ r k, k + r = 7 → wpX5_leastOfEach_b5 Q (r + 1) S (pk d) (pk (fun x => if x < k then lo1 (d x) else 0)) (nI k) := by
    intro r
    induction r with
    | zero =>
      intro k hk
      have : k = 7 := by omega
      subst this
      have e : pk (fun x => if x < 7 then lo1 (d x) else 0) = pk (fun x => lo1 (d x)) := pq_cg (fun x hx => if_pos hx)
      simp (disch := omega) only [wpX5_leastOfEach_b5, c_0, c_1, c_2, c_3, c_4, c_5, c_6, c_7, c_8, c_9, c_10, c_11, c_12, c_14, c_16, c_19, c_20, c_24, c_31, c_32, c_35, c_48, c_57, c_59, c_63, c_97, c_100, c_122, c_127, c_169, c_255, c_600, c_1000, c_32767, Nat.le_refl, Nat.zero_le, Nat.add_zero, Nat.lt_irrefl, eq_self, o_sub, Nat.sub_zero, Nat.not_lt_zero, ↓ng_d, o_le, o_lt, o_eq, o_add, o_mul, o_cl, o_inT, o_and, n_31, o_shr, o_shl1, o_or, m_lt, m_ge, m_le, m_gt, m_ne, m_ne2, Option.some.injEq, exists_eq_left', true_and, and_true, true_implies, false_implies, implies_true, not_true_eq_false, not_false_eq_true, bI_0, bI_1, bI_01, b01, true_or, or_true, Nat.reduceEqDiff, Bool.not_eq_false, Bool.not_eq_true, Bool.true_eq_false, Bool.false_eq_true]
      rw [e]
      exact hQ
    | succ r ih =>
      intro k hk
      have e : ¬ 7 ≤ k := by omega
      have hdk := hd k (by omega)
      have hn := ih (k + 1) (by omega)
      generalize r + 1 = fu at hn ⊢
      have hw1 : Dwf (fun x => if x < k then lo1 (d x) else 0) := fun x hx => by
        show (if x < k then lo1 (d x) else 0) < 32
        split
        · exact lo1_lt _ (hd x hx)
        · omega
      have e2 : pk (fun x => if x < k then lo1 (d x) else 0) ||| pk (sg k (lo1 (d k))) = pk (fun x => if x < k + 1 then lo1 (d x) else 0) := by
        rw [pq_or hw1 (sg_wf (lo1_lt _ hdk))]
        apply pq_cg
        intro x hx
        show (if x < k then lo1 (d x) else 0) ||| sg k (lo1 (d k)) x = if x < k + 1 then lo1 (d x) else 0
        by_cases q : x = k
        · subst q; rw [sg_s, if_neg (Nat.lt_irrefl _), if_pos (Nat.lt_succ_self _), Nat.zero_or]
        · rw [sg_n q, Nat.or_zero]
          by_cases q2 : x < k
          · rw [if_pos q2, if_pos (by omega)]
          · rw [if_neg q2, if_neg (by omega)]
      simp (disch := omega) only [wpX5_leastOfEach_b5, c_0, c_1, c_2, c_3, c_4, c_5, c_6, c_7, c_8, c_9, c_10, c_11, c_12, c_14, c_16, c_19, c_20, c_24, c_31, c_32, c_35, c_48, c_57, c_59, c_63, c_97, c_100, c_122, c_127, c_169, c_255, c_600, c_1000, c_32767, Nat.le_refl, Nat.zero_le, Nat.add_zero, Nat.lt_irrefl, eq_self, o_sub, Nat.sub_zero, Nat.not_lt_zero, ↓ng_d, o_le, o_lt, o_eq, o_add, o_mul, o_cl, o_inT, o_and, n_31, o_shr, o_shl1, o_or, m_lt, m_ge, m_le, m_gt, m_ne, m_ne2, Option.some.injEq, exists_eq_left', true_and, and_true, true_implies, false_implies, implies_true, not_true_eq_false, not_false_eq_true, bI_0, bI_1, bI_01, b01, true_or, or_true, Nat.reduceEqDiff, Bool.not_eq_false, Bool.not_eq_true, Bool.true_eq_false, Bool.false_eq_true, e, w_allOf]
      rw [pq_asg hd (by omega) (by decide), dm_31 _ hdk, l_lo1 _ (by omega) _ hdk, e2]
      exact hn
  have h1 := main 7 0 rfl
  have e0 : pk (fun x => if x < 0 then lo1 (d x) else 0) = lN 0 := by rw [pq_z]; exact pq_cg (fun x _ => if_neg (Nat.not_lt_zero _))
  rw [e0] at h1
  unfold wpX5_leastOfEach
  exact ⟨_, h1⟩
/-! ===== places of a constraint ===== -/
theorem ds3_at {m : Nat → Nat} {n k : Nat} (hm : ∀ i, i < n → m i < 8) (hk : k < n) : (ds 3 m n >>> (3 * k)) &&& 7 = m k := by
  apply Nat.eq_of_testBit_eq
  intro i
  rw [Nat.testBit_and, Nat.testBit_shiftRight, ds_tb (by decide) hm, show (7 : Nat) = 2 ^ 3 - 1 from rfl, Nat.testBit_two_pow_sub_one]
  by_cases h : i < 3
  · have e1 : (3 * k + i) / 3 = k := by omega
    have e2 : (3 * k + i) % 3 = i := by omega
    have e3 : 3 * k + i < 3 * n := by omega
    rw [e1, e2]
    simp [h, e3]
  · have : (m k).testBit i = false := Nat.testBit_lt_two_pow (Nat.lt_of_lt_of_le (hm k hk) (show 2 ^ 3 ≤ 2 ^ i from Nat.pow_le_pow_right (by decide) (by omega)))
    simp [h, this]
theorem ds3_lt {m : Nat → Nat} {n : Nat} (hm : ∀ i, i < n → m i < 8) (hn : n ≤ 7) : ds 3 m n < 2097152 := Nat.lt_of_lt_of_le (ds_lt (k := 3) hm) (show 2 ^ (3 * n) ≤ 2 ^ 21 from Nat.pow_le_pow_right (by decide) (by omega))
theorem w_variableAt {S : PS} {o : Nat} {κ : Kon} {k : Nat} {Q : Int32 → PS → Prop} (h4 : pC4 S o) (h3 : pI S o 3 = nI (ds 3 κ.2.1 κ.1)) (hκ : Kwf κ) (hk : k < κ.1) : wpX1_variableAt S o (nI k) Q = Q (nI (κ.2.1 k)) S := by
  have hm : ∀ i, i < κ.1 → κ.2.1 i < 8 := fun i hi => by have := hκ.2.1 i hi; omega
  have hlt := ds3_lt hm hκ.1
  have hk7 := hκ.1
  unfold wpX1_variableAt
  rw [h3, show (3 : Int32) = nI 3 from rfl, o_mul, show (31 : Int32) = nI 31 from rfl, o_ushr (by omega) (by omega), show (7 : Int32) = nI 7 from rfl, o_and, ds3_at hm hk]
  exact propext ⟨fun q => q.2, fun q => ⟨h4, q⟩⟩
theorem w_hasVariable {S : PS} {o : Nat} {κ : Kon} {x : Nat} {Q : Int32 → PS → Prop} (h4 : pC4 S o) (h2 : pJ S o 2 = pk (scp κ)) (hx : x < 7) : wpX1_hasVariable S o (nI x) Q = Q (bI (inM κ x)) S := by
  unfold wpX1_hasVariable
  have e7 : ¬ 7 ≤ x := by omega
  simp (disch := omega) only [c_0, c_1, c_2, c_3, c_4, c_5, c_6, c_7, c_8, c_9, c_10, c_11, c_12, c_14, c_16, c_19, c_20, c_24, c_31, c_32, c_35, c_48, c_57, c_59, c_63, c_97, c_100, c_122, c_127, c_169, c_255, c_600, c_1000, c_32767, Nat.le_refl, Nat.zero_le, Nat.add_zero, Nat.lt_irrefl, eq_self, o_sub, Nat.sub_zero, Nat.not_lt_zero, ↓ng_d, o_le, o_lt, o_eq, o_add, o_mul, o_cl, o_inT, o_and, n_31, o_shr, o_shl1, o_or, m_lt, m_ge, m_le, m_gt, m_ne, m_ne2, Option.some.injEq, exists_eq_left', true_and, and_true, true_implies, false_implies, implies_true, not_true_eq_false, not_false_eq_true, bI_0, bI_1, bI_01, b01, true_or, or_true, Nat.reduceEqDiff, Bool.not_eq_false, Bool.not_eq_true, Bool.true_eq_false, Bool.false_eq_true, e7, w_allOf hx, h4, h2]
  rw [pq_asg (scp_wf κ) hx (by decide), l_0, lg_0, pq_sg0 (d := scp κ) hx (dm_and_lt _ (scp_wf κ x hx) _ (by decide)), dm_31 _ (scp_wf κ x hx)]
  unfold scp
  cases inM κ x <;> simp [bI, c_0, c_1]

/-! THE CLASS: the least support -/
def lexlt (κ : Kon) (a b : Nat → Nat) : Prop := ∃ k, k < κ.1 ∧ a (κ.2.1 k) < b (κ.2.1 k) ∧ ∀ j, j < k → a (κ.2.1 j) = b (κ.2.1 j)
def agr (κ : Kon) (a b : Nat → Nat) : Prop := ∀ k, k < κ.1 → a (κ.2.1 k) = b (κ.2.1 k)
/-- the lexicographically first that fulfils -/
def Lea (κ : Kon) (d a : Nat → Nat) : Prop := Ful κ d a ∧ ∀ b, Ful κ d b → agr κ a b ∨ lexlt κ a b
theorem lex_as {κ : Kon} {a b : Nat → Nat} (h : lexlt κ a b) (h2 : agr κ b a ∨ lexlt κ b a) : False := by
  obtain ⟨k, h1, h3, h4⟩ := h
  rcases h2 with q | ⟨j, q1, q2, q3⟩
  · have := q k h1; omega
  · by_cases e : j < k
    · have := h4 j e; omega
    · by_cases e2 : k < j
      · have := q3 k e2; omega
      · have : j = k := by omega
        subst this; omega
theorem Lea_uq {κ : Kon} {d a b : Nat → Nat} (h1 : Lea κ d a) (h2 : Lea κ d b) : agr κ a b := by
  rcases h1.2 b h2.1 with q | q
  · exact q
  · exact (lex_as q (h2.2 a h1.1)).elim
/-- an assignment's pairs -/
noncomputable def oneOf (κ : Kon) (a : Nat → Nat) : Nat → Nat := fun x => if inM κ x = true then 2 ^ a x else 0
theorem oneOf_wf {κ : Kon} {a : Nat → Nat} (h : ∀ k, k < κ.1 → a (κ.2.1 k) < 5) : Dwf (oneOf κ a) := fun x _ => by
  unfold oneOf
  by_cases e : inM κ x = true
  · rw [if_pos e]
    obtain ⟨k, hk, rfl⟩ := inM_t.mp e
    exact dm_pow_lt _ (h k hk)
  · rw [if_neg e]; omega
/-- what the search answers -/
def Lres (κ : Kon) (d : Nat → Nat) (res : Int64) : Prop := (res = lN 0 ∧ ¬ Can κ d) ∨ ∃ a, Lea κ d a ∧ res = pk (oneOf κ a)
theorem Lres_0 {κ : Kon} {d : Nat → Nat} {res : Int64} (hκ : Kwf κ) (hn : 0 < κ.1) (h : Lres κ d res) : (res = lN 0) = ¬ Can κ d := by
  apply propext
  rcases h with ⟨h1, h2⟩ | ⟨a, h1, rfl⟩
  · exact ⟨fun _ => h2, fun _ => h1⟩
  · have ha : ∀ k, k < κ.1 → a (κ.2.1 k) < 5 := fun k hk => (h1.1.1 k hk).1
    rw [pq_0 (oneOf_wf ha)]
    constructor
    · intro q
      have h2 := q (κ.2.1 0) (hκ.2.1 0 hn)
      unfold oneOf at h2
      rw [if_pos (inM_t.mpr ⟨0, hn, rfl⟩)] at h2
      have := Nat.pow_pos (n := a (κ.2.1 0)) (show 0 < 2 by decide)
      omega
    · intro q; exact absurd ⟨a, h1.1⟩ q
theorem lo1_tb : ∀ w, w < 32 → w ≠ 0 → pick5 (dF w) < 5 ∧ w.testBit (pick5 (dF w)) = true ∧ ∀ u, u < 5 → w.testBit u = true → pick5 (dF w) ≤ u := by decide +kernel
/-- all least values together -/
def a0 (d : Nat → Nat) : Nat → Nat := fun x => pick5 (dF (d x))
theorem a0_asg {κ : Kon} {d : Nat → Nat} (hκ : Kwf κ) (hd : Dwf d) (h : ∀ k, k < κ.1 → d (κ.2.1 k) ≠ 0) : Asg κ d (a0 d) := fun k hk => by
  have := lo1_tb _ (hd _ (hκ.2.1 k hk)) (h k hk)
  exact ⟨this.1, this.2.1⟩
theorem a0_lea {κ : Kon} {d : Nat → Nat} (hκ : Kwf κ) (hd : Dwf d) (h : ∀ k, k < κ.1 → d (κ.2.1 k) ≠ 0) (hok : κ.2.2 (a0 d) = true) : Lea κ d (a0 d) := by
  refine ⟨⟨a0_asg hκ hd h, hok⟩, fun b hb => ?_⟩
  have hle : ∀ k, k < κ.1 → a0 d (κ.2.1 k) ≤ b (κ.2.1 k) := fun k hk => (lo1_tb _ (hd _ (hκ.2.1 k hk)) (h k hk)).2.2 _ (hb.1 k hk).1 (hb.1 k hk).2
  apply Classical.byContradiction
  intro q
  have q1 : ¬ agr κ (a0 d) b := fun w => q (Or.inl w)
  apply q1
  intro k
  induction k using Nat.strongRecOn with
  | _ k ih =>
    intro hk
    apply Classical.byContradiction
    intro e
    exact q (Or.inr ⟨k, hk, by have := hle k hk; omega, fun j hj => ih j hj (by omega)⟩)
/-- the number of members -/
theorem inM_cnt {κ : Kon} (hκ : Kwf κ) : cN (fun x => inM κ x) 7 = κ.1 := by
  have h : ∀ n, n ≤ κ.1 → cN (fun x => dB (∃ k, k < n ∧ κ.2.1 k = x)) 7 = n := by
    intro n
    induction n with
    | zero =>
      intro _
      have : ∀ j, cN (fun x => dB (∃ k, k < 0 ∧ κ.2.1 k = x)) j = 0 := by
        intro j
        induction j with
        | zero => rfl
        | succ j ih =>
          rw [cN_s, ih, show dB (∃ k, k < 0 ∧ κ.2.1 k = j) = false from dB_f.mpr (fun ⟨k, q, _⟩ => by omega)]
          rfl
      exact this 7
    | succ n ih =>
      intro hn
      have h1 := ih (by omega)
      have h7 := hκ.2.1 n (by omega)
      have hfresh : dB (∃ k, k < n ∧ κ.2.1 k = κ.2.1 n) = false := dB_f.mpr (fun ⟨k, q, w⟩ => by have := hκ.2.2.1 k n (by omega) (by omega) w; omega)
      have gen : ∀ j, cN (fun x => dB (∃ k, k < n + 1 ∧ κ.2.1 k = x)) j = cN (fun x => dB (∃ k, k < n ∧ κ.2.1 k = x)) j + (if κ.2.1 n < j then 1 else 0) := by
        intro j
        induction j with
        | zero => simp [cN]
        | succ j ihj =>
          rw [cN_s, cN_s, ihj]
          by_cases e : κ.2.1 n = j
          · have t1 : dB (∃ k, k < n + 1 ∧ κ.2.1 k = j) = true := dB_t.mpr ⟨n, by omega, e⟩
            have t2 : dB (∃ k, k < n ∧ κ.2.1 k = j) = false := by rw [← e]; exact hfresh
            rw [t1, t2, if_neg (show ¬ κ.2.1 n < j by omega), if_pos (show κ.2.1 n < j + 1 by omega)]
            simp
          · have t : dB (∃ k, k < n + 1 ∧ κ.2.1 k = j) = dB (∃ k, k < n ∧ κ.2.1 k = j) := dB_c ⟨fun ⟨k, q, w⟩ => ⟨k, Or.elim (Nat.lt_or_ge k n) id (fun z => absurd ((show k = n by omega) ▸ w) e), w⟩, fun ⟨k, q, w⟩ => ⟨k, by omega, w⟩⟩
            rw [t]
            by_cases z : κ.2.1 n < j
            · rw [if_pos z, if_pos (show κ.2.1 n < j + 1 by omega)]; omega
            · rw [if_neg z, if_neg (show ¬ κ.2.1 n < j + 1 by omega)]; omega
      rw [gen 7, h1, if_pos h7]
  exact h κ.1 (Nat.le_refl _)
/-- all members have a value just where so many pairs are left -/
theorem cN_full {p q : Nat → Bool} : ∀ n, (∀ i, i < n → p i = true → q i = true) → (cN p n = cN q n ↔ ∀ i, i < n → q i = true → p i = true) := by
  intro n h
  have hle : ∀ n, (∀ i, i < n → p i = true → q i = true) → cN p n ≤ cN q n := by
    intro n
    induction n with
    | zero => intro _; exact Nat.le_refl _
    | succ n ih =>
      intro h
      have h1 := ih (fun i hi => h i (by omega))
      have h2 := h n (by omega)
      simp only [cN]
      cases hp : p n
      · simp; omega
      · rw [h2 hp]; simp; omega
  induction n with
  | zero => exact ⟨fun _ i hi => by omega, fun _ => rfl⟩
  | succ n ih =>
    have h1 := ih (fun i hi => h i (by omega))
    have h2 := h n (by omega)
    have h3 := hle n (fun i hi => h i (by omega))
    simp only [cN]
    constructor
    · intro e i hi hq
      by_cases z : i = n
      · subst z
        cases hp : p i
        · rw [hp, hq] at e; simp at e; omega
        · rfl
      · refine h1.mp ?_ i (by omega) hq
        cases hp : p n
        · cases hqn : q n
          · rw [hp, hqn] at e; simpa using e
          · rw [hp, hqn] at e; simp at e; omega
        · rw [hp, h2 hp] at e; simpa using e
    · intro e
      rw [h1.mpr (fun i hi => e i (by omega))]
      cases hp : p n
      · cases hqn : q n
        · rfl
        · have := e n (by omega) hqn; rw [hp] at this; cases this
      · rw [h2 hp]
theorem lo1_0 : ∀ w, w < 32 → (lo1 w = 0 ↔ w = 0) := by decide +kernel
theorem lo1_1 : ∀ w, w < 32 → pcn 5 (lo1 w) = if w = 0 then 0 else 1 := by decide +kernel
theorem dsum_lo1 {e : Nat → Nat} (he : Dwf e) : dsum (fun x => lo1 (e x)) = cN (fun x => decide (e x ≠ 0)) 7 := by
  have h : ∀ n, n ≤ 7 → sN (fun x => pcn 5 (lo1 (e x))) n = cN (fun x => decide (e x ≠ 0)) n := by
    intro n
    induction n with
    | zero => intro _; rfl
    | succ n ih =>
      intro hn
      simp only [sN, cN]
      rw [ih (by omega), lo1_1 _ (he n (by omega))]
      by_cases q : e n = 0
      · simp [q]
      · simp [q]
  exact h 7 (Nat.le_refl _)
theorem and_scp {κ : Kon} {d : Nat → Nat} (hd : Dwf d) {x : Nat} (hx : x < 7) : d x &&& scp κ x = if inM κ x = true then d x else 0 := by
  unfold scp
  split
  · exact dm_31 _ (hd x hx)
  · exact Nat.and_zero _
/-- the end of the search: all the least values, if each member has one -/
theorem q_lf28 {S : PS} {o : Nat} {κ : Kon} {d : Nat → Nat} {Rc : PS → Nat → Int64 → Int32 → (Int64 → PS → Prop) → Prop} {Q : Int64 → PS → Prop} {x3 x4 : Int32} (h4 : pC4 S o) (h1 : pI S o 1 = nI κ.1) (h2 : pJ S o 2 = pk (scp κ)) (hκ : Kwf κ) (hd : Dwf d)
    (hok : (∀ k, k < κ.1 → d (κ.2.1 k) ≠ 0) → κ.2.2 (a0 d) = true) (hQ : ∀ res, Lres κ d res → Q res S) : wpX1_leastFrom_b28 Rc Q S o (pk d) x3 x4 := by
  have hk7 := hκ.1
  have he : Dwf (fun x => d x &&& scp κ x) := fun x hx => dm_and_lt _ (hd x hx) _ (scp_wf κ x hx)
  unfold wpX1_leastFrom_b28
  refine ⟨h4, ?_⟩
  rw [h2, pq_and hd (scp_wf κ)]
  refine q_leastOfEach he ?_
  show wpJ13_bitCount_95d88 S _ _
  rw [w_bcl, bcl_pk (fun x hx => lo1_lt _ (he x hx)), dsum_lo1 he]
  refine ⟨h4, ?_⟩
  rw [h1]
  have hc7 := cN_le (fun x => decide (d x &&& scp κ x ≠ 0)) 7
  rw [o_eq (by omega) (by omega)]
  have hiff : (cN (fun x => decide (d x &&& scp κ x ≠ 0)) 7 = κ.1) ↔ ∀ k, k < κ.1 → d (κ.2.1 k) ≠ 0 := by
    have h3 := cN_full (p := fun x => decide (d x &&& scp κ x ≠ 0)) (q := fun x => inM κ x) 7 (fun i hi q => by
      rw [and_scp hd hi] at q
      cases hm : inM κ i
      · simp [hm] at q
      · rfl)
    rw [inM_cnt hκ] at h3
    rw [h3]
    constructor
    · intro w k hk
      have h5 := w _ (hκ.2.1 k hk) (inM_t.mpr ⟨k, hk, rfl⟩)
      rw [and_scp hd (hκ.2.1 k hk), if_pos (inM_t.mpr ⟨k, hk, rfl⟩)] at h5
      simpa using h5
    · intro w i hi hm
      obtain ⟨k, hk, rfl⟩ := inM_t.mp hm
      rw [and_scp hd hi, if_pos hm]
      simpa using w k hk
  rw [propext hiff]
  constructor
  · intro hne
    exact hQ _ (Or.inl ⟨rfl, fun ⟨a, ha, _⟩ => hne (fun k hk h0 => by have := (ha k hk).2; rw [h0] at this; simp at this)⟩)
  · intro hall
    refine hQ _ (Or.inr ⟨a0 d, a0_lea hκ hd hall (hok hall), ?_⟩)
    apply pq_cg
    intro x hx
    rw [and_scp hd hx]
    unfold oneOf
    cases hm : inM κ x
    · simp [lo1]
    · obtain ⟨k, hk, rfl⟩ := inM_t.mp hm
      have := hall k hk
      simp [lo1, this, a0]
theorem and_pow : ∀ d, d < 32 → ∀ v, v < 5 → d.testBit v = true → d &&& 2 ^ v = 2 ^ v := by decide +kernel
theorem ud_asg {κ : Kon} {d a : Nat → Nat} (hκ : Kwf κ) {p u : Nat} (hp : p < κ.1) (hu : u < 5) (hd : Dwf d) : Asg κ (ud d (κ.2.1 p) (2 ^ u)) a ↔ (a (κ.2.1 p) = u ∧ ∀ k, k < κ.1 → k ≠ p → a (κ.2.1 k) < 5 ∧ (d (κ.2.1 k)).testBit (a (κ.2.1 k)) = true) := by
  constructor
  · intro h
    refine ⟨?_, fun k hk hn => ?_⟩
    · have := h p hp
      rw [ud_s, dm_pow_tb u hu _ this.1] at this
      simpa using this.2
    · have := h k hk
      rw [ud_n _ _ (fun q => hn (hκ.2.2.1 k p hk hp q))] at this
      exact this
  · rintro ⟨h1, h2⟩ k hk
    by_cases e : k = p
    · subst e
      rw [ud_s, h1, dm_pow_tb u hu u hu]
      exact ⟨hu, by simp⟩
    · rw [ud_n _ _ (fun q => e (hκ.2.2.1 k p hk hp q))]
      exact h2 k hk e
theorem asg_ud {κ : Kon} {d a : Nat → Nat} (hκ : Kwf κ) {p : Nat} (hp : p < κ.1) (hd : Dwf d) (h : Asg κ d a) : Asg κ (ud d (κ.2.1 p) (2 ^ a (κ.2.1 p))) a := (ud_asg hκ hp (h p hp).1 hd).mpr ⟨rfl, fun k hk _ => h k hk⟩
theorem asg_of_ud {κ : Kon} {d a : Nat → Nat} (hκ : Kwf κ) {p u : Nat} (hp : p < κ.1) (hu : u < 5) (hd : Dwf d) (hb : (d (κ.2.1 p)).testBit u = true) (h : Asg κ (ud d (κ.2.1 p) (2 ^ u)) a) : Asg κ d a := fun k hk => by
  obtain ⟨h1, h2⟩ := (ud_asg hκ hp hu hd).mp h
  by_cases e : k = p
  · subst e; rw [h1]; exact ⟨hu, hb⟩
  · exact h2 k hk e
/-- what an alike value cannot, another one cannot -/
theorem alk_can {κ : Kon} {d : Nat → Nat} (hκ : Kwf κ) (hd : Dwf d) {p v u A : Nat} (hp : p < κ.1) (hv : v < 5) (hu : u < 5) (hA : alk κ v A) (hb : A.testBit u = true) (hn : ¬ Can κ (ud d (κ.2.1 p) (2 ^ v))) : ¬ Can κ (ud d (κ.2.1 p) (2 ^ u)) := by
  rintro ⟨a, h1, h2⟩
  apply hn
  obtain ⟨h3, h4⟩ := (ud_asg hκ hp hu hd).mp h1
  refine ⟨ud a (κ.2.1 p) v, (ud_asg hκ hp hv hd).mpr ⟨ud_s _ _ _, fun k hk hne => ?_⟩, ?_⟩
  · rw [ud_n _ _ (fun q => hne (hκ.2.2.1 k p hk hp q))]
    exact h4 k hk hne
  · rw [hA.2.2 u hu hb p hp a (fun j hj => (h1 j hj).1) h3]
    exact h2
theorem lf_bit (x v : Nat) : (x >>> v) &&& 1 = if x.testBit v then 1 else 0 := by
  have h : ((x >>> v) &&& 1).testBit 0 = x.testBit v := by rw [Nat.testBit_and, Nat.testBit_shiftRight]; simp
  have h1 : (x >>> v) &&& 1 < 2 := Nat.lt_of_le_of_lt Nat.and_le_right (by decide)
  generalize (x >>> v) &&& 1 = z at h h1
  have : z = 0 ∨ z = 1 := by omega
  rcases this with rfl | rfl
  · rw [← h]; rfl
  · rw [← h]; rfl
theorem q_least {S : PS} {o : Nat} {κ : Kon} (hC : CC S o κ) (hκ : Kwf κ) : ∀ (dep r p : Nat) (d : Nat → Nat) (Q : Int64 → PS → Prop), p + r = κ.1 → r < dep → Dwf d → (∀ k, k < p → ∃ u, u < 5 ∧ d (κ.2.1 k) = 2 ^ u) → 0 < κ.1 → (∀ res, Lres κ d res → Q res S) → wpX1_leastFrom dep S o (pk d) (nI p) Q := by
  obtain ⟨h4, hc1, hc2, hc3, hver, halk⟩ := hC
  have hk7 := hκ.1
  intro dep
  induction dep with
  | zero => intro r p d Q _ h; omega
  | succ dep ihd =>
    intro r p d Q hpr hdep hd hfix hn0 hQ
    unfold wpX1_leastFrom
    refine ⟨h4, hver d _ hd (fun v hv => ?_)⟩
    obtain ⟨hv2, hva⟩ := hv
    have e028 : v ≠ 0 → (∀ k, k < κ.1 → d (κ.2.1 k) ≠ 0) → (v = 2 ∨ p = κ.1) → κ.2.2 (a0 d) = true := by
      intro hv0 hall hor
      have hA := a0_asg hκ hd hall
      have h5 := hva _ hA
      by_cases e : v = 2
      · exact h5.2.1 e
      · have hp : p = κ.1 := hor.resolve_left e
        refine h5.2.2 (by omega) (fun k hk u hu hb => ?_)
        obtain ⟨w, hw, hdw⟩ := hfix k (by omega)
        have h6 := (hA k hk)
        rw [hdw, dm_pow_tb w hw u hu] at hb
        rw [hdw, dm_pow_tb w hw _ h6.1] at h6
        have h7 : u = w := by simpa using hb
        have h8 : a0 d (κ.2.1 k) = w := by simpa using h6.2
        rw [h7, h8]
    by_cases ev0 : v = 0
    · subst ev0
      have hno : ¬ Can κ d := fun ⟨a, ha, hok⟩ => by rw [(hva a ha).1 rfl] at hok; cases hok
      have h1 := hQ (lN 0) (Or.inl ⟨rfl, hno⟩)
      simp (disch := omega) only [c_0, c_1, c_2, c_3, c_4, c_5, c_6, c_7, c_8, c_9, c_10, c_11, c_12, c_14, c_16, c_19, c_20, c_24, c_31, c_32, c_35, c_48, c_57, c_59, c_63, c_97, c_100, c_122, c_127, c_169, c_255, c_600, c_1000, c_32767, Nat.le_refl, Nat.zero_le, Nat.add_zero, Nat.lt_irrefl, eq_self, o_sub, Nat.sub_zero, Nat.not_lt_zero, ↓ng_d, o_le, o_lt, o_eq, o_add, o_mul, o_cl, o_inT, o_and, n_31, o_shr, o_shl1, o_or, m_lt, m_ge, m_le, m_gt, m_ne, m_ne2, Option.some.injEq, exists_eq_left', true_and, and_true, true_implies, false_implies, implies_true, not_true_eq_false, not_false_eq_true, bI_0, bI_1, bI_01, b01, true_or, or_true, Nat.reduceEqDiff, Bool.not_eq_false, Bool.not_eq_true, Bool.true_eq_false, Bool.false_eq_true]
      exact h1
    · by_cases ev2 : v = 2
      · have h1 := q_lf28 (Rc := wpX1_leastFrom dep) (Q := Q) (x3 := nI p) (x4 := nI v) h4 hc1 hc2 hκ hd (fun hall => e028 ev0 hall (Or.inl ev2)) hQ
        simp (disch := omega) only [c_0, c_1, c_2, c_3, c_4, c_5, c_6, c_7, c_8, c_9, c_10, c_11, c_12, c_14, c_16, c_19, c_20, c_24, c_31, c_32, c_35, c_48, c_57, c_59, c_63, c_97, c_100, c_122, c_127, c_169, c_255, c_600, c_1000, c_32767, Nat.le_refl, Nat.zero_le, Nat.add_zero, Nat.lt_irrefl, eq_self, o_sub, Nat.sub_zero, Nat.not_lt_zero, ↓ng_d, o_le, o_lt, o_eq, o_add, o_mul, o_cl, o_inT, o_and, n_31, o_shr, o_shl1, o_or, m_lt, m_ge, m_le, m_gt, m_ne, m_ne2, Option.some.injEq, exists_eq_left', true_and, and_true, true_implies, false_implies, implies_true, not_true_eq_false, not_false_eq_true, bI_0, bI_1, bI_01, b01, true_or, or_true, Nat.reduceEqDiff, Bool.not_eq_false, Bool.not_eq_true, Bool.true_eq_false, Bool.false_eq_true, ev0, ev2] at h1 ⊢
        exact h1
      · by_cases ep : p = κ.1
        · have h1 := q_lf28 (Rc := wpX1_leastFrom dep) (Q := Q) (x3 := nI p) (x4 := nI v) h4 hc1 hc2 hκ hd (fun hall => e028 ev0 hall (Or.inr ep)) hQ
          have e9 : ¬ p < κ.1 := by omega
          simp (disch := omega) only [c_0, c_1, c_2, c_3, c_4, c_5, c_6, c_7, c_8, c_9, c_10, c_11, c_12, c_14, c_16, c_19, c_20, c_24, c_31, c_32, c_35, c_48, c_57, c_59, c_63, c_97, c_100, c_122, c_127, c_169, c_255, c_600, c_1000, c_32767, Nat.le_refl, Nat.zero_le, Nat.add_zero, Nat.lt_irrefl, eq_self, o_sub, Nat.sub_zero, Nat.not_lt_zero, ↓ng_d, o_le, o_lt, o_eq, o_add, o_mul, o_cl, o_inT, o_and, n_31, o_shr, o_shl1, o_or, m_lt, m_ge, m_le, m_gt, m_ne, m_ne2, Option.some.injEq, exists_eq_left', true_and, and_true, true_implies, false_implies, implies_true, not_true_eq_false, not_false_eq_true, bI_0, bI_1, bI_01, b01, true_or, or_true, Nat.reduceEqDiff, Bool.not_eq_false, Bool.not_eq_true, Bool.true_eq_false, Bool.false_eq_true, ev0, ev2, hc1, e9, h4]
          exact h1
        · have ep2 : p < κ.1 := by omega
          have hx7 := hκ.2.1 p ep2
          have hdx := hd _ hx7
          -- the loop over the values
          have loop : ∀ r2 u left, u + r2 = 5 → left < 32 → (∀ w, w < 5 → left.testBit w = true → (d (κ.2.1 p)).testBit w = true) → (∀ w, w < 5 → (d (κ.2.1 p)).testBit w = true → (w < u ∨ left.testBit w = false) → ¬ Can κ (ud d (κ.2.1 p) (2 ^ w))) → wpX1_leastFrom_b76 (wpX1_leastFrom dep) Q (r2 + 1) S o (pk d) (nI p) (nI v) (nI (κ.2.1 p)) (nI left) (nI u) := by
            intro r2
            induction r2 with
            | zero =>
              intro u left hu hl hsub hno
              have : u = 5 := by omega
              subst this
              have h1 := hQ (lN 0) (Or.inl ⟨rfl, fun ⟨a, ha, hok⟩ => hno _ (ha p ep2).1 (ha p ep2).2 (Or.inl (ha p ep2).1) ⟨a, asg_ud hκ ep2 hd ha, hok⟩⟩)
              simp (disch := omega) only [wpX1_leastFrom_b76, c_0, c_1, c_2, c_3, c_4, c_5, c_6, c_7, c_8, c_9, c_10, c_11, c_12, c_14, c_16, c_19, c_20, c_24, c_31, c_32, c_35, c_48, c_57, c_59, c_63, c_97, c_100, c_122, c_127, c_169, c_255, c_600, c_1000, c_32767, Nat.le_refl, Nat.zero_le, Nat.add_zero, Nat.lt_irrefl, eq_self, o_sub, Nat.sub_zero, Nat.not_lt_zero, ↓ng_d, o_le, o_lt, o_eq, o_add, o_mul, o_cl, o_inT, o_and, n_31, o_shr, o_shl1, o_or, m_lt, m_ge, m_le, m_gt, m_ne, m_ne2, Option.some.injEq, exists_eq_left', true_and, and_true, true_implies, false_implies, implies_true, not_true_eq_false, not_false_eq_true, bI_0, bI_1, bI_01, b01, true_or, or_true, Nat.reduceEqDiff, Bool.not_eq_false, Bool.not_eq_true, Bool.true_eq_false, Bool.false_eq_true]
              exact h1
            | succ r2 ih2 =>
              intro u left hu hl hsub hno
              generalize r2 + 1 = fu at ih2 ⊢
              have e5 : ¬ 5 ≤ u := by omega
              have hu5 : u < 5 := by omega
              cases hb : left.testBit u
              · have hz : (left >>> u) &&& 1 = 0 := by rw [lf_bit, hb]; rfl
                have h1 := ih2 (u + 1) left (by omega) hl hsub (fun w hw hbw hor => hno w hw hbw (by
                  by_cases q : w = u
                  · right; rw [q]; exact hb
                  · rcases hor with q2 | q2
                    · left; omega
                    · right; exact q2))
                simp (disch := omega) only [wpX1_leastFrom_b76, c_0, c_1, c_2, c_3, c_4, c_5, c_6, c_7, c_8, c_9, c_10, c_11, c_12, c_14, c_16, c_19, c_20, c_24, c_31, c_32, c_35, c_48, c_57, c_59, c_63, c_97, c_100, c_122, c_127, c_169, c_255, c_600, c_1000, c_32767, Nat.le_refl, Nat.zero_le, Nat.add_zero, Nat.lt_irrefl, eq_self, o_sub, Nat.sub_zero, Nat.not_lt_zero, ↓ng_d, o_le, o_lt, o_eq, o_add, o_mul, o_cl, o_inT, o_and, n_31, o_shr, o_shl1, o_or, m_lt, m_ge, m_le, m_gt, m_ne, m_ne2, Option.some.injEq, exists_eq_left', true_and, and_true, true_implies, false_implies, implies_true, not_true_eq_false, not_false_eq_true, bI_0, bI_1, bI_01, b01, true_or, or_true, Nat.reduceEqDiff, Bool.not_eq_false, Bool.not_eq_true, Bool.true_eq_false, Bool.false_eq_true, e5, o_ushr, hz]
                exact h1
              · have hz : (left >>> u) &&& 1 = 1 := by rw [lf_bit, hb]; rfl
                have n10 : ¬ (1 : Nat) = 0 := by decide
                have hbd := hsub u hu5 hb
                have hd2 : Dwf (ud d (κ.2.1 p) (2 ^ u)) := fun y hy => by
                  by_cases q : y = κ.2.1 p
                  · rw [q, ud_s]; exact dm_pow_lt u hu5
                  · rw [ud_n _ _ q]; exact hd y hy
                have hrec := ihd (r - 1) (p + 1) (ud d (κ.2.1 p) (2 ^ u)) (fun r9 S10 => ((lg_cmp r9 (0 : Int64)) = 0 → (pC4 S10 o ∧ (wpC_alike S10 o (nI u) (fun r12 S13 => (wpX1_leastFrom_b76 (wpX1_leastFrom dep) Q fu S13 o (pk d) (nI p) (nI v) (nI (κ.2.1 p)) (nI left &&& (r12 ^^^ (-1 : Int32))) (nI u + 1)))))) ∧ (¬ (lg_cmp r9 (0 : Int64)) = 0 → (Q r9 S10))) (by omega) (by omega) hd2 (fun k hk => by
                    by_cases q : k = p
                    · subst q; exact ⟨u, hu5, ud_s _ _ _⟩
                    · obtain ⟨w, hw, hdw⟩ := hfix k (by omega)
                      exact ⟨w, hw, by rw [ud_n _ _ (fun z => q (hκ.2.2.1 k p (by omega) ep2 z))]; exact hdw⟩) hn0
                  (fun res hres => by
                    have hr0 := Lres_0 hκ hn0 hres
                    refine ⟨fun hz0 => ⟨h4, halk u _ hu5 (fun A hA => ?_)⟩, fun hz0 => ?_⟩
                    · rw [show (0 : Int64) = lN 0 from rfl, show (0 : Int32) = nI 0 from rfl, lg_0, hr0] at hz0
                      have h1 := ih2 (u + 1) (andn left A) (by omega) (dm_andn_lt _ hl _ hA.1) (fun w hw hbw => by
                        rw [dm_andn_tb _ hl _ hA.1 w hw] at hbw
                        simp only [Bool.and_eq_true] at hbw
                        exact hsub w hw hbw.1) (fun w hw hbw hor => by
                        by_cases q1 : A.testBit w = true
                        · exact alk_can hκ hd ep2 hu5 hw hA q1 hz0
                        · by_cases q2 : w = u
                          · rw [q2]; exact hz0
                          · refine hno w hw hbw ?_
                            rcases hor with q3 | q3
                            · left; omega
                            · right
                              rw [dm_andn_tb _ hl _ hA.1 w hw] at q3
                              have : A.testBit w = false := by simpa using q1
                              rw [this] at q3
                              simpa using q3)
                      rw [ng_d, dm_andn _ hl _ hA.1, show (1 : Int32) = nI 1 from rfl, o_add]
                      exact h1
                    · rw [show (0 : Int64) = lN 0 from rfl, show (0 : Int32) = nI 0 from rfl, lg_0, hr0] at hz0
                      have hcan : Can κ (ud d (κ.2.1 p) (2 ^ u)) := Classical.byContradiction hz0
                      rcases hres with ⟨-, q⟩ | ⟨a, ha, rfl⟩
                      · exact absurd hcan q
                      · refine hQ _ (Or.inr ⟨a, ⟨⟨asg_of_ud hκ ep2 hu5 hd hbd ha.1.1, ha.1.2⟩, fun b hb2 => ?_⟩, rfl⟩)
                        have hap : a (κ.2.1 p) = u := ((ud_asg hκ ep2 hu5 hd).mp ha.1.1).1
                        have hbp := hb2.1 p ep2
                        by_cases q1 : b (κ.2.1 p) = u
                        · have := asg_ud hκ ep2 hd hb2.1
                          rw [q1] at this
                          exact ha.2 b ⟨this, hb2.2⟩
                        · have hgt : u < b (κ.2.1 p) := by
                            apply Classical.byContradiction
                            intro q2
                            exact hno _ hbp.1 hbp.2 (Or.inl (by omega)) ⟨b, asg_ud hκ ep2 hd hb2.1, hb2.2⟩
                          refine Or.inr ⟨p, ep2, by omega, fun j hj => ?_⟩
                          obtain ⟨w, hw, hdw⟩ := hfix j hj
                          have q3 := hb2.1 j (by omega)
                          have q4 := (asg_of_ud hκ ep2 hu5 hd hbd ha.1.1) j (by omega)
                          rw [hdw, dm_pow_tb w hw _ q3.1] at q3
                          rw [hdw, dm_pow_tb w hw _ q4.1] at q4
                          have q5 : b (κ.2.1 j) = w := by simpa using q3.2
                          have q6 : a (κ.2.1 j) = w := by simpa using q4.2
                          rw [q5, q6])
                have hap2 := and_pow _ hdx u hu5 hbd
                simp (disch := omega) only [wpX1_leastFrom_b76, e5, o_ushr, hz, n10, c_0, c_1, c_5, c_31, o_le, o_add, o_and, o_eq, not_false_eq_true, true_implies, false_implies, true_and, and_true, implies_true, w_narrowed hd hx7 hu5, hap2]
                simp only [c_0, c_1, o_add] at hrec
                exact hrec
          have h1 := loop 5 0 (d (κ.2.1 p)) rfl hdx (fun w _ h => h) (fun w hw hbw hor => by
            rcases hor with q | q
            · omega
            · rw [hbw] at q; cases q)
          simp (disch := omega) only [c_0, c_1, c_2, c_3, c_4, c_5, c_6, c_7, c_8, c_9, c_10, c_11, c_12, c_14, c_16, c_19, c_20, c_24, c_31, c_32, c_35, c_48, c_57, c_59, c_63, c_97, c_100, c_122, c_127, c_169, c_255, c_600, c_1000, c_32767, Nat.le_refl, Nat.zero_le, Nat.add_zero, Nat.lt_irrefl, eq_self, o_sub, Nat.sub_zero, Nat.not_lt_zero, ↓ng_d, o_le, o_lt, o_eq, o_add, o_mul, o_cl, o_inT, o_and, n_31, o_shr, o_shl1, o_or, m_lt, m_ge, m_le, m_gt, m_ne, m_ne2, Option.some.injEq, exists_eq_left', true_and, and_true, true_implies, false_implies, implies_true, not_true_eq_false, not_false_eq_true, bI_0, bI_1, bI_01, b01, true_or, or_true, Nat.reduceEqDiff, Bool.not_eq_false, Bool.not_eq_true, Bool.true_eq_false, Bool.false_eq_true, ev0, ev2, hc1, ep2, h4, w_variableAt h4 hc3 hκ ep2, w_valuesOf hd hx7]
          exact ⟨_, h1⟩

/-! THE CLASS: each kind of constraint answers as it must -/
theorem alk_self {κ : Kon} (hκ : Kwf κ) {v : Nat} (hv : v < 5) : alk κ v (2 ^ v) := by
  refine ⟨dm_pow_lt v hv, by rw [dm_pow_tb v hv v hv]; simp, fun u hu hb k hk a ha hak => ?_⟩
  rw [dm_pow_tb v hv u hu] at hb
  have e : u = v := by simpa using hb
  apply hκ.2.2.2
  intro j hj
  by_cases q : κ.2.1 j = κ.2.1 k
  · rw [q, ud_s, hak, e]
  · rw [ud_n _ _ q]
theorem one_shl {v : Nat} (hv : v < 5) : (nI 1 <<< (nI v &&& nI 31)) = nI (2 ^ v) := by rw [o_and31 (by omega), o_shl1 (by omega)]
/-! ===== comparisons ===== -/
def vdL (l r : Nat) : Nat := if 2 * lo1 l ≤ r then (if lo1 r ≤ l then 1 else 2) else 0
def vdD (l r : Nat) : Nat := if l &&& r = 0 then 2 else if l = r then (if pcn 5 l = 1 then 0 else 1) else 1
def sing (l x : Nat) : Prop := ∀ u, u < 5 → l.testBit u = true → u = x
theorem lv_2 : ∀ w, w < 32 → ∀ v, v < 5 → w.testBit v = true → (∀ u, u < 5 → w.testBit u = true → u = v) → w = 2 ^ v := by decide +kernel
def vdLb (l r x y : Nat) : Bool := decide (l.testBit x = true → r.testBit y = true → (vdL l r = 0 → ¬ x < y) ∧ (vdL l r = 2 → x < y) ∧ (vdL l r = 1 → l = 2 ^ x → r = 2 ^ y → x < y))
theorem vdL_b : ∀ l, l < 32 → ∀ r, r < 32 → ∀ x, x < 5 → ∀ y, y < 5 → vdLb l r x y = true := by decide +kernel
theorem vdL_ok (l : Nat) (hl : l < 32) (r : Nat) (hr : r < 32) (x : Nat) (hx : x < 5) (y : Nat) (hy : y < 5) (h1 : l.testBit x = true) (h2 : r.testBit y = true) : (vdL l r = 0 → ¬ x < y) ∧ (vdL l r = 2 → x < y) ∧ (vdL l r = 1 → l = 2 ^ x → r = 2 ^ y → x < y) := of_decide_eq_true (vdL_b l hl r hr x hx y hy) h1 h2
def vdDb (l r x y : Nat) : Bool := decide (l.testBit x = true → r.testBit y = true → (vdD l r = 0 → ¬ x ≠ y) ∧ (vdD l r = 2 → x ≠ y) ∧ (vdD l r = 1 → l = 2 ^ x → r = 2 ^ y → x ≠ y))
theorem vdD_b : ∀ l, l < 32 → ∀ r, r < 32 → ∀ x, x < 5 → ∀ y, y < 5 → vdDb l r x y = true := by decide +kernel
theorem vdD_ok (l : Nat) (hl : l < 32) (r : Nat) (hr : r < 32) (x : Nat) (hx : x < 5) (y : Nat) (hy : y < 5) (h1 : l.testBit x = true) (h2 : r.testBit y = true) : (vdD l r = 0 → ¬ x ≠ y) ∧ (vdD l r = 2 → x ≠ y) ∧ (vdD l r = 1 → l = 2 ^ x → r = 2 ^ y → x ≠ y) := of_decide_eq_true (vdD_b l hl r hr x hx y hy) h1 h2
theorem i_lo1 : ∀ l, l < 32 → nI l &&& (-(nI l)) = nI (lo1 l) := by decide +kernel
theorem w_vLess {S : PS} {l r : Nat} {Q : Int32 → PS → Prop} (hl : l < 32) (hr : r < 32) : wpX0_verdictOnLess S (nI l) (nI r) Q = Q (nI (vdL l r)) S := by
  have h1 := lo1_lt l hl
  have h2 := lo1_lt r hr
  unfold wpX0_verdictOnLess
  rw [i_lo1 l hl, i_lo1 r hr]
  simp (disch := omega) only [c_0, c_1, c_2, c_3, c_4, c_5, c_6, c_7, c_8, c_9, c_10, c_11, c_12, c_14, c_16, c_19, c_20, c_24, c_31, c_32, c_35, c_48, c_57, c_59, c_63, c_97, c_100, c_122, c_127, c_169, c_255, c_600, c_1000, c_32767, Nat.le_refl, Nat.zero_le, Nat.add_zero, Nat.lt_irrefl, eq_self, o_sub, Nat.sub_zero, Nat.not_lt_zero, ↓ng_d, o_le, o_lt, o_eq, o_add, o_mul, o_cl, o_inT, o_and, n_31, o_shr, o_shl1, o_or, m_lt, m_ge, m_le, m_gt, m_ne, m_ne2, Option.some.injEq, exists_eq_left', true_and, and_true, true_implies, false_implies, implies_true, not_true_eq_false, not_false_eq_true, bI_0, bI_1, bI_01, b01, true_or, or_true, Nat.reduceEqDiff, Bool.not_eq_false, Bool.not_eq_true, Bool.true_eq_false, Bool.false_eq_true]
  unfold vdL
  by_cases e1 : 2 * lo1 l ≤ r
  · by_cases e2 : lo1 r ≤ l
    · simp [e1, e2]
    · simp [e1, e2]
  · simp [e1]
/-- a constraint object of the class holds constraint c of P -/
def KRep (S : PS) (o : Nat) (P : Nat → Nat) (c : Nat) : Prop := pI S o 0 = nI (P (9 + 20 * c)) ∧ pI S o 1 = nI (P (9 + 20 * c + 1)) ∧ pJ S o 2 = pk (scp (cK P c)) ∧ pI S o 3 = nI (ds 3 (cK P c).2.1 (cK P c).1)
  ∧ (P (9 + 20 * c) = 0 → pK S o = 2 ∧ pI S o 4 = nI (ds 3 (fun v => P (9 + 20 * c + (9 + v))) 5) ∧ pI S o 5 = nI (ds 3 (fun v => P (9 + 20 * c + (14 + v))) 5) ∧ pI S o 6 = nI (P (9 + 20 * c + 19)))
  ∧ (P (9 + 20 * c) = 1 → pK S o = 9 ∧ pI S o 4 = nI (P (9 + 20 * c + 9)) ∧ pI S o 5 = nI (P (9 + 20 * c + 10)) ∧ pI S o 6 = nI (P (9 + 20 * c + 11)) ∧ pI S o 7 = nI (P (9 + 20 * c + 12)))
  ∧ (2 ≤ P (9 + 20 * c) → pK S o = 1)
theorem CC_cmp {S : PS} {o : Nat} {P : Nat → Nat} {c : Nat} (h : KRep S o P c) (hw : Cwf P c) (h0 : P 0 ≤ 7) (hk : 2 ≤ P (9 + 20 * c)) : CC S o (cK P c) := by
  obtain ⟨r0, r1, r2, r3, -, -, r6⟩ := h
  have hK := r6 hk
  have h4 : pC4 S o := Or.inl hK
  have hκ := cK_wf hw h0
  have e2 := hw.2.2.2.2.2.2.2.1 hk
  have en : (cK P c).1 = 2 := e2
  have q1 : ¬ pK S o = 2 := by rw [hK]; decide
  have q2 : ¬ pK S o = 4 := by rw [hK]; decide
  have q3 : ¬ pK S o = 9 := by rw [hK]; decide
  refine ⟨h4, r1, r2, r3, fun d Q hd hQ => ⟨fun _ => ?_, fun w => absurd w q1, fun w => absurd w q2, fun w => absurd w q3⟩, fun v Q hv hQ => ⟨fun _ => ?_, fun w => absurd w q1, fun w => absurd w q2, fun w => absurd w q3⟩⟩
  · have hm0 := hκ.2.1 0 (by omega)
    have hm1 := hκ.2.1 1 (by omega)
    have d0 := hd _ hm0
    have d1 := hd _ hm1
    have hkd : P (9 + 20 * c) = 2 ∨ P (9 + 20 * c) = 3 := by have := hw.1; omega
    have hk3 := hw.1
    rcases hkd with e | e
    · have hv : vOK (cK P c) d (vdL (d ((cK P c).2.1 0)) (d ((cK P c).2.1 1))) := by
        refine ⟨by unfold vdL; split <;> (try split) <;> omega, fun a ha => ?_⟩
        have a0' := ha 0 (by omega)
        have a1' := ha 1 (by omega)
        have h5 := vdL_ok _ d0 _ d1 _ a0'.1 _ a1'.1 a0'.2 a1'.2
        have hok : (cK P c).2.2 a = decide (a ((cK P c).2.1 0) < a ((cK P c).2.1 1)) := by rw [cK_less e2 e]; rfl
        rw [hok]
        exact ⟨fun q => decide_eq_false (h5.1 q), fun q => decide_eq_true (h5.2.1 q), fun q w => decide_eq_true (h5.2.2 q (lv_2 _ d0 _ a0'.1 a0'.2 (w 0 (by omega))) (lv_2 _ d1 _ a1'.1 a1'.2 (w 1 (by omega))))⟩
      have h6 := hQ _ hv
      simp (disch := omega) only [wpX0_verdict, c_0, c_1, c_2, c_3, c_4, c_5, c_6, c_7, c_8, c_9, c_10, c_11, c_12, c_14, c_16, c_19, c_20, c_24, c_31, c_32, c_35, c_48, c_57, c_59, c_63, c_97, c_100, c_122, c_127, c_169, c_255, c_600, c_1000, c_32767, Nat.le_refl, Nat.zero_le, Nat.add_zero, Nat.lt_irrefl, eq_self, o_sub, Nat.sub_zero, Nat.not_lt_zero, ↓ng_d, o_le, o_lt, o_eq, o_add, o_mul, o_cl, o_inT, o_and, n_31, o_shr, o_shl1, o_or, m_lt, m_ge, m_le, m_gt, m_ne, m_ne2, Option.some.injEq, exists_eq_left', true_and, and_true, true_implies, false_implies, implies_true, not_true_eq_false, not_false_eq_true, bI_0, bI_1, bI_01, b01, true_or, or_true, Nat.reduceEqDiff, Bool.not_eq_false, Bool.not_eq_true, Bool.true_eq_false, Bool.false_eq_true, w_variableAt h4 r3 hκ, w_valuesOf hd hm0, w_valuesOf hd hm1, hK, r0, e, w_vLess d0 d1]
      exact h6
    · have hv : vOK (cK P c) d (vdD (d ((cK P c).2.1 0)) (d ((cK P c).2.1 1))) := by
        refine ⟨by unfold vdD; split <;> (try split) <;> (try split) <;> omega, fun a ha => ?_⟩
        have a0' := ha 0 (by omega)
        have a1' := ha 1 (by omega)
        have h5 := vdD_ok _ d0 _ d1 _ a0'.1 _ a1'.1 a0'.2 a1'.2
        have hok : (cK P c).2.2 a = decide (a ((cK P c).2.1 0) ≠ a ((cK P c).2.1 1)) := by rw [cK_differ e2 e]; rfl
        rw [hok]
        exact ⟨fun q => decide_eq_false (h5.1 q), fun q => decide_eq_true (h5.2.1 q), fun q w => decide_eq_true (h5.2.2 q (lv_2 _ d0 _ a0'.1 a0'.2 (w 0 (by omega))) (lv_2 _ d1 _ a1'.1 a1'.2 (w 1 (by omega))))⟩
      have h6 := hQ _ hv
      have n32 : ¬ (3 : Nat) = 2 := by decide
      have hab := dm_and_lt _ d0 _ d1
      have hp := pcn_le 5 (d ((cK P c).2.1 0))
      simp (disch := omega) only [wpX0_verdict, c_0, c_1, c_2, c_3, c_4, c_5, c_6, c_7, c_8, c_9, c_10, c_11, c_12, c_14, c_16, c_19, c_20, c_24, c_31, c_32, c_35, c_48, c_57, c_59, c_63, c_97, c_100, c_122, c_127, c_169, c_255, c_600, c_1000, c_32767, Nat.le_refl, Nat.zero_le, Nat.add_zero, Nat.lt_irrefl, eq_self, o_sub, Nat.sub_zero, Nat.not_lt_zero, ↓ng_d, o_le, o_lt, o_eq, o_add, o_mul, o_cl, o_inT, o_and, n_31, o_shr, o_shl1, o_or, m_lt, m_ge, m_le, m_gt, m_ne, m_ne2, Option.some.injEq, exists_eq_left', true_and, and_true, true_implies, false_implies, implies_true, not_true_eq_false, not_false_eq_true, bI_0, bI_1, bI_01, b01, true_or, or_true, Nat.reduceEqDiff, Bool.not_eq_false, Bool.not_eq_true, Bool.true_eq_false, Bool.false_eq_true, w_variableAt h4 r3 hκ, w_valuesOf hd hm0, w_valuesOf hd hm1, hK, r0, e, n32, w_bci, bci_5 _ d0]
      unfold vdD at h6
      refine ⟨fun z => ⟨fun z2 => ?_, fun z2 => ⟨fun z3 => ?_, fun z3 => ?_⟩⟩, fun z => ?_⟩
      · rw [if_neg z, if_neg z2] at h6; exact h6
      · rw [if_neg z, if_pos z2, if_neg z3] at h6; exact h6
      · rw [if_neg z, if_pos z2, if_pos z3] at h6; exact h6
      · rw [if_pos z] at h6; exact h6
  · have h6 := hQ _ (alk_self hκ hv)
    unfold wpX0_alike
    rw [show (1 : Int32) = nI 1 from rfl, show (31 : Int32) = nI 31 from rfl, one_shl hv]
    exact h6
/-! ===== learnt sets ===== -/
def sset (s : Nat) : Nat → Nat := fun x => if dg s x = 0 then 0 else 2 ^ (dg s x - 1)
theorem sset_wf {s : Nat} (hs : Swf s) : Dwf (sset s) := fun x hx => by
  unfold sset
  split
  · omega
  · exact dm_pow_lt _ (by have := hs.2 x hx; omega)
/-- the view shows the set s -/
def VRep (S : PS) (s : Nat) : Prop := pK S 82 = 4 ∧ pI S 82 1 = nI (lK s).1 ∧ pJ S 82 2 = pk (scp (lK s)) ∧ pI S 82 3 = nI (ds 3 (lK s).2.1 (lK s).1) ∧ pJ S 82 4 = pk (sset s)
theorem inM_lK {s x : Nat} (hx : x < 7) : inM (lK s) x = decide (dg s x ≠ 0) := by
  by_cases e : dg s x ≠ 0
  · rw [decide_eq_true e, inM_t]
    exact ⟨cN (lp s) x, cN_lt hx (lp_t.mpr e), kt_of hx (lp_t.mpr e)⟩
  · rw [decide_eq_false e]
    cases h : inM (lK s) x
    · rfl
    · obtain ⟨k, hk, rfl⟩ := inM_t.mp h
      exact absurd (lp_t.mp (kt_in hk).2.1) e
theorem lv_1 : ∀ w, w < 32 → ∀ g, g < 6 → g ≠ 0 → (w &&& 2 ^ (g - 1) = 2 ^ (g - 1) ↔ w.testBit (g - 1) = true) := by decide +kernel
theorem CC_lK {S : PS} {s : Nat} (h : VRep S s) (hs : Swf s) : CC S 82 (lK s) := by
  obtain ⟨hK, r1, r2, r3, r4⟩ := h
  have h4 : pC4 S 82 := Or.inr (Or.inr (Or.inl hK))
  have hκ := lK_wf s
  have q1 : ¬ pK S 82 = 1 := by rw [hK]; decide
  have q2 : ¬ pK S 82 = 2 := by rw [hK]; decide
  have q3 : ¬ pK S 82 = 9 := by rw [hK]; decide
  have hss := sset_wf hs
  refine ⟨h4, r1, r2, r3, fun d Q hd hQ => ⟨fun w => absurd w q1, fun w => absurd w q2, fun _ => ?_, fun w => absurd w q3⟩, fun v Q hv hQ => ⟨fun w => absurd w q1, fun w => absurd w q2, fun _ => ?_, fun w => absurd w q3⟩⟩
  · have ew : ∀ x, x < 7 → (d x &&& sset s x = sset s x ↔ (dg s x ≠ 0 → (d x).testBit (dg s x - 1) = true)) := fun x hx => by
      unfold sset
      by_cases e : dg s x = 0
      · rw [if_pos e]; simp [e]
      · rw [if_neg e, lv_1 _ (hd x hx) _ (by have := hs.2 x hx; omega) e]
        exact ⟨fun q _ => q, fun q => q e⟩
    have mem : ∀ a, Asg (lK s) d a → ∀ x, x < 7 → dg s x ≠ 0 → a x < 5 ∧ (d x).testBit (a x) = true := fun a ha x hx h0 => by
      have h5 := ha (cN (lp s) x) (cN_lt hx (lp_t.mpr h0))
      have h6 : kt (lp s) 7 (cN (lp s) x) = x := kt_of hx (lp_t.mpr h0)
      have h7 : a (kt (lp s) 7 (cN (lp s) x)) < 5 ∧ (d (kt (lp s) 7 (cN (lp s) x))).testBit (a (kt (lp s) 7 (cN (lp s) x))) = true := h5
      rw [h6] at h7
      exact h7
    unfold wpX4_verdict
    refine ⟨hK, ?_⟩
    rw [r2, r4, show (0 : Int32) = nI 0 from rfl, show (1 : Int32) = nI 1 from rfl, show (2 : Int32) = nI 2 from rfl, lg_0, lg_0, pq_and hd hss, pq_and hd (scp_wf _), pq_inj (fun x hx => dm_and_lt _ (hd x hx) _ (hss x hx)) hss, pq_inj (fun x hx => dm_and_lt _ (hd x hx) _ (scp_wf _ x hx)) hss]
    have hno : (∀ x, x < 7 → d x &&& scp (lK s) x = sset s x) → ∀ a, Asg (lK s) d a → (lK s).2.2 a = false := fun hall a ha => by
      show dB _ = false
      rw [dB_f]
      rintro ⟨x, hx, h0, hne⟩
      have h5 := hall x hx
      rw [and_scp hd hx, inM_lK hx, if_pos (by simpa using h0)] at h5
      have h6 := mem a ha x hx h0
      unfold sset at h5
      rw [if_neg h0] at h5
      rw [h5, dm_pow_tb _ (by have := hs.2 x hx; omega) _ h6.1] at h6
      exact hne (by simpa using h6.2)
    refine ⟨fun hsub => ⟨fun hne => hQ 1 ⟨by omega, fun a ha => ⟨fun q => by omega, fun q => by omega, fun _ hsing => ?_⟩⟩, fun he => hQ 0 ⟨by omega, fun a ha => ⟨fun _ => hno he a ha, fun q => by omega, fun q => by omega⟩⟩⟩, fun hnsub => hQ 2 ⟨by omega, fun a ha => ⟨fun q => by omega, fun _ => ?_, fun q => by omega⟩⟩⟩
    · exfalso
      apply hne
      intro x hx
      rw [and_scp hd hx, inM_lK hx]
      unfold sset
      by_cases e : dg s x = 0
      · rw [if_pos e, if_neg (by simp [e])]
      · rw [if_neg e, if_pos (by simpa using e)]
        have hb := (ew x hx).mp (hsub x hx) e
        have h5 : ∀ u, u < 5 → (d x).testBit u = true → u = dg s x - 1 := fun u hu hbu => by
          have h6 := hsing (cN (lp s) x) (cN_lt hx (lp_t.mpr e))
          have h7 : kt (lp s) 7 (cN (lp s) x) = x := kt_of hx (lp_t.mpr e)
          have h8 : ∀ u, u < 5 → (d (kt (lp s) 7 (cN (lp s) x))).testBit u = true → u = a (kt (lp s) 7 (cN (lp s) x)) := h6
          rw [h7] at h8
          rw [h8 u hu hbu, h8 (dg s x - 1) (by have := hs.2 x hx; omega) hb]
        exact lv_2 _ (hd x hx) _ (by have := hs.2 x hx; omega) hb h5
    · show dB _ = true
      rw [dB_t]
      apply Classical.byContradiction
      intro q
      apply hnsub
      intro x hx
      rw [ew x hx]
      intro h0
      have h6 := mem a ha x hx h0
      by_cases e : a x = dg s x - 1
      · rw [← e]; exact h6.2
      · exact absurd ⟨x, hx, h0, e⟩ q
  · have h6 := hQ _ (alk_self hκ hv)
    unfold wpX4_alike
    rw [show (1 : Int32) = nI 1 from rfl, show (31 : Int32) = nI 31 from rfl, one_shl hv]
    exact h6

/-! THE CLASS: counts -/
/-- a count over the members is one over the variables -/
theorem mem_cnt {κ : Kon} (hκ : Kwf κ) (p : Nat → Bool) : cN (fun x => inM κ x && p x) 7 = cN (fun k => p (κ.2.1 k)) κ.1 := by
  have h : ∀ n, n ≤ κ.1 → cN (fun x => dB (∃ k, k < n ∧ κ.2.1 k = x) && p x) 7 = cN (fun k => p (κ.2.1 k)) n := by
    intro n
    induction n with
    | zero =>
      intro _
      have : ∀ j, cN (fun x => dB (∃ k, k < 0 ∧ κ.2.1 k = x) && p x) j = 0 := by
        intro j
        induction j with
        | zero => rfl
        | succ j ih =>
          rw [cN_s, ih, show dB (∃ k, k < 0 ∧ κ.2.1 k = j) = false from dB_f.mpr (fun ⟨k, q, _⟩ => by omega)]
          rfl
      exact this 7
    | succ n ih =>
      intro hn
      have h1 := ih (by omega)
      have h7 := hκ.2.1 n (by omega)
      have hfresh : dB (∃ k, k < n ∧ κ.2.1 k = κ.2.1 n) = false := dB_f.mpr (fun ⟨k, q, w⟩ => by have := hκ.2.2.1 k n (by omega) (by omega) w; omega)
      have gen : ∀ j, cN (fun x => dB (∃ k, k < n + 1 ∧ κ.2.1 k = x) && p x) j = cN (fun x => dB (∃ k, k < n ∧ κ.2.1 k = x) && p x) j + (if κ.2.1 n < j ∧ p (κ.2.1 n) = true then 1 else 0) := by
        intro j
        induction j with
        | zero => simp [cN]
        | succ j ihj =>
          rw [cN_s, cN_s, ihj]
          by_cases e : κ.2.1 n = j
          · have t1 : dB (∃ k, k < n + 1 ∧ κ.2.1 k = j) = true := dB_t.mpr ⟨n, by omega, e⟩
            have t2 : dB (∃ k, k < n ∧ κ.2.1 k = j) = false := by rw [← e]; exact hfresh
            rw [t1, t2, e]
            cases hp : p j
            · simp
            · simp
          · have t : dB (∃ k, k < n + 1 ∧ κ.2.1 k = j) = dB (∃ k, k < n ∧ κ.2.1 k = j) := dB_c ⟨fun ⟨k, q, w⟩ => ⟨k, Or.elim (Nat.lt_or_ge k n) id (fun z => absurd ((show k = n by omega) ▸ w) e), w⟩, fun ⟨k, q, w⟩ => ⟨k, by omega, w⟩⟩
            rw [t]
            by_cases z : κ.2.1 n < j
            · have z2 : κ.2.1 n < j + 1 := by omega
              simp only [z, z2, true_and]
              omega
            · have z2 : ¬ κ.2.1 n < j + 1 := by omega
              simp only [z, z2, false_and, if_false]
              omega
      rw [gen 7, h1, cN_s]
      simp only [h7, true_and]
  exact h κ.1 (Nat.le_refl _)
theorem zeros_shl : ∀ u, u < 5 → lN 1108378657 <<< ((nI u).toInt64 &&& lN 63) = pk (fun _ => 2 ^ u) := by decide +kernel
theorem pc_pow : ∀ w, w < 32 → ∀ u, u < 5 → pcn 5 (w &&& (2 ^ u &&& 31)) = if w.testBit u then 1 else 0 := by decide +kernel
theorem cl_andn : ∀ w, w < 32 → ∀ u, u < 5 → andn (w &&& 31) (2 ^ u &&& 31) = clr w u := by decide +kernel
/-- most and fewest -/
def mst (κ : Kon) (d : Nat → Nat) (u : Nat) : Nat := cN (fun k => (d (κ.2.1 k)).testBit u) κ.1
def few (κ : Kon) (d : Nat → Nat) (u : Nat) : Nat := cN (fun k => decide (clr (d (κ.2.1 k)) u = 0)) κ.1
theorem cN_not (p : Nat → Bool) (n : Nat) : n - cN (fun k => !p k) n = cN p n := by
  have : ∀ n, cN p n + cN (fun k => !p k) n = n := by
    intro n
    induction n with
    | zero => rfl
    | succ n ih => rw [cN_s, cN_s]; cases p n <;> simp <;> omega
  have := this n
  omega
theorem pw_wf {u : Nat} (hu : u < 5) : Dwf (fun _ => 2 ^ u) := fun _ _ => dm_pow_lt u hu
theorem mst_eq {κ : Kon} {d : Nat → Nat} (hκ : Kwf κ) (hd : Dwf d) {u : Nat} (hu : u < 5) : bcl (pk d &&& (pk (fun _ => 2 ^ u) &&& pk (scp κ))) = nI (mst κ d u) := by
  rw [pq_and (pw_wf hu) (scp_wf κ), pq_and hd (fun x hx => dm_and_lt _ (dm_pow_lt u hu) _ (scp_wf κ x hx)), bcl_pk (fun x hx => dm_and_lt _ (hd x hx) _ (dm_and_lt _ (dm_pow_lt u hu) _ (scp_wf κ x hx)))]
  congr 1
  unfold mst
  rw [← mem_cnt hκ (fun x => (d x).testBit u)]
  have : ∀ n, n ≤ 7 → sN (fun x => pcn 5 (d x &&& (2 ^ u &&& scp κ x))) n = cN (fun x => inM κ x && (d x).testBit u) n := by
    intro n
    induction n with
    | zero => intro _; rfl
    | succ n ih =>
      intro hn
      rw [sN_s, cN_s, ih (by omega)]
      cases hm : inM κ n
      · rw [scp_f hm]; simp [pcn_0]
      · rw [scp_t hm, pc_pow _ (hd n (by omega)) u hu]; simp
  exact this 7 (Nat.le_refl _)
theorem few_eq {S : PS} {κ : Kon} {d : Nat → Nat} {Q : Int32 → PS → Prop} (hκ : Kwf κ) (hd : Dwf d) {u : Nat} (hu : u < 5) : wpX5_variablesIn S ((pk d &&& pk (scp κ)) &&& ((pk (fun _ => 2 ^ u) &&& pk (scp κ)) ^^^ ngL)) Q = Q (nI (κ.1 - few κ d u)) S := by
  have w1 : Dwf (fun x => d x &&& scp κ x) := fun x hx => dm_and_lt _ (hd x hx) _ (scp_wf κ x hx)
  have w2 : Dwf (fun x => 2 ^ u &&& scp κ x) := fun x hx => dm_and_lt _ (dm_pow_lt u hu) _ (scp_wf κ x hx)
  rw [pq_and (pw_wf hu) (scp_wf κ), pq_and hd (scp_wf κ), pq_andn w1 w2, w_variablesIn (fun x hx => dm_andn_lt _ (w1 x hx) _ (w2 x hx))]
  congr 2
  have e1 : nzs (fun x => andn (d x &&& scp κ x) (2 ^ u &&& scp κ x)) = cN (fun k => !decide (clr (d (κ.2.1 k)) u = 0)) κ.1 := by
    rw [← mem_cnt hκ (fun x => !decide (clr (d x) u = 0))]
    unfold nzs
    apply cN_cong
    intro x hx
    cases hm : inM κ x
    · simp [scp_f hm, andn]
    · simp only [scp_t hm, Bool.true_and, cl_andn _ (hd x hx) u hu]
      by_cases q : clr (d x) u = 0
      · simp [q]
      · simp [q]
  rw [e1]
  unfold few
  have h2 := cN_not (fun k => decide (clr (d (κ.2.1 k)) u = 0)) κ.1
  have h3 := cN_le (fun k => !decide (clr (d (κ.2.1 k)) u = 0)) κ.1
  omega
theorem cN_sub {p q : Nat → Bool} {n : Nat} (h : ∀ k, k < n → p k = true → q k = true) : cN p n ≤ cN q n := by
  induction n with
  | zero => exact Nat.le_refl _
  | succ n ih =>
    have h1 := ih (fun k hk => h k (by omega))
    have h2 := h n (by omega)
    simp only [cN]
    cases hp : p n
    · simp; omega
    · rw [h2 hp]; simp; omega
/-- an assignment's count lies between fewest and most; with single values they are the same -/
theorem few_mst {κ : Kon} {d a : Nat → Nat} (hκ : Kwf κ) (hd : Dwf d) (ha : Asg κ d a) {u : Nat} (hu : u < 5) : few κ d u ≤ cnt κ.2.1 a u κ.1 ∧ cnt κ.2.1 a u κ.1 ≤ mst κ d u := by
  constructor
  · apply cN_sub
    intro k hk h
    have h1 : clr (d (κ.2.1 k)) u = 0 := by simpa using h
    have h2 := dm_clr_tb _ (hd _ (hκ.2.1 k hk)) u hu _ (ha k hk).1
    rw [h1, (ha k hk).2] at h2
    simp at h2
    simpa using h2
  · apply cN_sub
    intro k hk h
    have h1 : a (κ.2.1 k) = u := by simpa using h
    rw [← h1]
    exact (ha k hk).2
theorem few_mst1 {κ : Kon} {d a : Nat → Nat} (hκ : Kwf κ) (hd : Dwf d) (ha : Asg κ d a) (hs : ∀ k, k < κ.1 → ∀ u, u < 5 → (d (κ.2.1 k)).testBit u = true → u = a (κ.2.1 k)) {u : Nat} (hu : u < 5) : cnt κ.2.1 a u κ.1 ≤ few κ d u ∧ mst κ d u ≤ cnt κ.2.1 a u κ.1 := by
  constructor
  · apply cN_sub
    intro k hk h
    have h1 : a (κ.2.1 k) = u := by simpa using h
    have : clr (d (κ.2.1 k)) u = 0 := by
      rw [dm_0 _ (dm_clr_lt _ (hd _ (hκ.2.1 k hk)) u hu)]
      intro v hv
      rw [dm_clr_tb _ (hd _ (hκ.2.1 k hk)) u hu v hv]
      cases hb : (d (κ.2.1 k)).testBit v
      · rfl
      · have := hs k hk v hv hb
        rw [h1] at this
        simp [this]
    simpa using this
  · apply cN_sub
    intro k hk h
    have := hs k hk u hu h
    simp [this]
theorem cnt_sum {m a : Nat → Nat} {n : Nat} (h : ∀ k, k < n → a (m k) < 5) : sN (fun u => cnt m a u n) 5 = n := by
  induction n with
  | zero => rfl
  | succ n ih =>
    have h1 := ih (fun k hk => h k (by omega))
    have h2 := h n (by omega)
    simp only [sN, cnt, cN] at h1 ⊢
    rcases lt5 h2 with e | e | e | e | e <;> simp [e] <;> omega
/-- the verdict on one number, the least of two -/
def vOn (f m a b : Nat) : Nat := if m < a then 0 else if f ≤ b then (if f < a then 1 else if b < m then 1 else 2) else 0
theorem w_vOn {S : PS} {f m a b : Nat} {Q : Int32 → PS → Prop} (hf : f < 1000) (hm : m < 1000) (ha : a < 1000) (hb : b < 1000) : wpX1_verdictOn S (nI f) (nI m) (nI a) (nI b) Q = Q (nI (vOn f m a b)) S := by
  simp (disch := omega) only [wpX1_verdictOn, c_0, c_1, c_2, c_3, c_4, c_5, c_6, c_7, c_8, c_9, c_10, c_11, c_12, c_14, c_16, c_19, c_20, c_24, c_31, c_32, c_35, c_48, c_57, c_59, c_63, c_97, c_100, c_122, c_127, c_169, c_255, c_600, c_1000, c_32767, Nat.le_refl, Nat.zero_le, Nat.add_zero, Nat.lt_irrefl, eq_self, o_sub, Nat.sub_zero, Nat.not_lt_zero, ↓ng_d, o_le, o_lt, o_eq, o_add, o_mul, o_cl, o_inT, o_and, n_31, o_shr, o_shl1, o_or, m_lt, m_ge, m_le, m_gt, m_ne, m_ne2, Option.some.injEq, exists_eq_left', true_and, and_true, true_implies, false_implies, implies_true, not_true_eq_false, not_false_eq_true, bI_0, bI_1, bI_01, b01, true_or, or_true, Nat.reduceEqDiff, Bool.not_eq_false, Bool.not_eq_true, Bool.true_eq_false, Bool.false_eq_true]
  unfold vOn
  by_cases e1 : m < a
  · simp [e1]
  · by_cases e2 : f ≤ b
    · by_cases e3 : f < a
      · simp [e1, e2, e3]
      · by_cases e4 : b < m
        · simp [e1, e2, e3, e4]
        · simp [e1, e2, e3, e4]
    · simp [e1, e2]
theorem vOn_2 (f m a b : Nat) : vOn f m a b ≤ 2 := by unfold vOn; split <;> (try split) <;> (try split) <;> (try split) <;> omega
theorem vOn_0 {f m a b : Nat} (h : vOn f m a b = 0) : m < a ∨ b < f := by
  unfold vOn at h
  by_cases e1 : m < a
  · exact Or.inl e1
  · rw [if_neg e1] at h
    by_cases e2 : f ≤ b
    · rw [if_pos e2] at h; split at h <;> (try split at h) <;> omega
    · exact Or.inr (by omega)
theorem vOn_n {f m a b : Nat} (h : vOn f m a b ≠ 0) : a ≤ m ∧ f ≤ b := by
  unfold vOn at h
  by_cases e1 : m < a
  · rw [if_pos e1] at h; omega
  · rw [if_neg e1] at h
    by_cases e2 : f ≤ b
    · omega
    · rw [if_neg e2] at h; omega
theorem vOn_a {f m a b : Nat} (h : vOn f m a b = 2) : a ≤ f ∧ m ≤ b := by
  unfold vOn at h
  by_cases e1 : m < a
  · rw [if_pos e1] at h; omega
  · rw [if_neg e1] at h
    by_cases e2 : f ≤ b
    · rw [if_pos e2] at h
      by_cases e3 : f < a
      · rw [if_pos e3] at h; omega
      · rw [if_neg e3] at h
        by_cases e4 : b < m
        · rw [if_pos e4] at h; omega
        · omega
    · rw [if_neg e2] at h; omega
theorem ifn {c : Prop} [Decidable c] (x y : Nat) : (if c then nI x else nI y) = nI (if c then x else y) := by split <;> rfl
theorem if_nI {a b : Nat} (ha : a < 2147483648) (hb : b < 2147483648) (x y : Nat) : (if nI a < nI b then nI x else nI y) = nI (if a < b then x else y) := by
  by_cases h : a < b
  · rw [if_pos h, if_pos (by rw [o_lt ha hb]; exact h)]
  · rw [if_neg h, if_neg (by rw [o_lt ha hb]; exact h)]
theorem CC_counts {S : PS} {o : Nat} {P : Nat → Nat} {c : Nat} (h : KRep S o P c) (hw : Cwf P c) (h0 : P 0 ≤ 7) (hk : P (9 + 20 * c) = 0) : CC S o (cK P c) := by
  obtain ⟨r0, r1, r2, r3, r4, -, -⟩ := h
  obtain ⟨hK, k4, k5, k6⟩ := r4 hk
  have h4 : pC4 S o := Or.inr (Or.inl hK)
  have hκ := cK_wf hw h0
  have q1 : ¬ pK S o = 1 := by rw [hK]; decide
  have q2 : ¬ pK S o = 4 := by rw [hK]; decide
  have q3 : ¬ pK S o = 9 := by rw [hK]; decide
  obtain ⟨-, g1, g2, g3, g4, g5, -, -, g8, g9, -⟩ := hw
  have hn7 := hκ.1
  have lo8 : ∀ v, v < 5 → P (9 + 20 * c + (9 + v)) < 8 := fun v hv => by have := g5 hk v hv; omega
  have hi8 : ∀ v, v < 5 → P (9 + 20 * c + (14 + v)) < 8 := fun v hv => by have := g5 hk v hv; omega
  have hok : ∀ a, (cK P c).2.2 a = okCounts (cK P c).1 (cK P c).2.1 (fun v => P (9 + 20 * c + (9 + v))) (fun v => P (9 + 20 * c + (14 + v))) a := fun a => by
    show cOk P c a = _
    unfold cOk
    rw [if_pos hk]
    rfl
  refine ⟨h4, r1, r2, r3, fun d Q hd hQ => ⟨fun w => absurd w q1, fun _ => ?_, fun w => absurd w q2, fun w => absurd w q3⟩, fun v Q hv hQ => ⟨fun w => absurd w q1, fun _ => ?_, fun w => absurd w q2, fun w => absurd w q3⟩⟩
  · obtain ⟨κ, hκe⟩ : ∃ κ, κ = cK P c := ⟨_, rfl⟩
    have r1 : pI S o 1 = nI κ.1 := by rw [hκe]; exact r1
    clear hn7
    rw [← hκe] at hκ r2 r3 hQ hok
    have hn7 := hκ.1
    obtain ⟨lo, hlo⟩ : ∃ lo : Nat → Nat, lo = fun v => P (9 + 20 * c + (9 + v)) := ⟨_, rfl⟩
    obtain ⟨hi, hhi⟩ : ∃ hi : Nat → Nat, hi = fun v => P (9 + 20 * c + (14 + v)) := ⟨_, rfl⟩
    have lo8' : ∀ v, v < 5 → lo v < 8 := fun v hv => by rw [hlo]; exact lo8 v hv
    have hi8' : ∀ v, v < 5 → hi v < 8 := fun v hv => by rw [hhi]; exact hi8 v hv
    rw [← hlo] at k4
    rw [← hhi] at k5
    have hok' : ∀ a, κ.2.2 a = okCounts κ.1 κ.2.1 lo hi a := fun a => by rw [hlo, hhi]; exact hok a
    have hl4 : ds 3 lo 5 < 32768 := ds_lt (k := 3) lo8'
    have hl5 : ds 3 hi 5 < 32768 := ds_lt (k := 3) hi8'
    have fm : ∀ u, few κ d u ≤ 7 ∧ mst κ d u ≤ 7 := fun u => ⟨Nat.le_trans (cN_le _ _) hn7, Nat.le_trans (cN_le _ _) hn7⟩
    -- what the end of the loop answers
    have fin : ∀ vd u nd rm, u ≤ 5 → vd ≤ 2 → nd ≤ 200 → rm ≤ 200 → (vd = 0 → ∃ w, w < 5 ∧ (mst κ d w < lo w ∨ hi w < few κ d w)) → (vd ≠ 0 → u = 5 ∧ (∀ w, w < 5 → lo w ≤ mst κ d w ∧ few κ d w ≤ hi w) ∧ nd = sN (fun w => if few κ d w < lo w then lo w else few κ d w) 5 ∧ rm = sN (fun w => if hi w < mst κ d w then hi w else mst κ d w) 5) → (vd = 2 → ∀ w, w < 5 → lo w ≤ few κ d w ∧ mst κ d w ≤ hi w) → wpX2_verdict_b140 Q S o (pk d) (nI vd) (nI nd) (nI rm) (nI u) := by
      intro vd u nd rm hu hvd hnd hrm c0 cn c2
      have bad0 : vd = 0 → Q (nI 0) S := fun e => hQ 0 ⟨by omega, fun a ha => ⟨fun _ => by
        obtain ⟨w, hw, hor⟩ := c0 e
        have := few_mst hκ hd ha hw
        rw [hok' a]
        unfold okCounts
        rw [dB_f]
        intro q
        have := q w hw
        omega, fun q => by omega, fun q => by omega⟩⟩
      have bad1 : vd ≠ 0 → (κ.1 < nd ∨ rm < κ.1) → Q (nI 0) S := fun e hor => hQ 0 ⟨by omega, fun a ha => ⟨fun _ => by
        obtain ⟨-, -, e1, e2⟩ := cn e
        rw [hok' a]
        unfold okCounts
        rw [dB_f]
        intro q
        have hs := cnt_sum (m := κ.2.1) (a := a) (n := κ.1) (fun k hk => (ha k hk).1)
        have l1 : nd ≤ sN (fun u => cnt κ.2.1 a u κ.1) 5 := by
          rw [e1]
          simp only [sN]
          have f0 := few_mst hκ hd ha (show 0 < 5 by decide); have f1 := few_mst hκ hd ha (show 1 < 5 by decide); have f2 := few_mst hκ hd ha (show 2 < 5 by decide); have f3 := few_mst hκ hd ha (show 3 < 5 by decide); have f4 := few_mst hκ hd ha (show 4 < 5 by decide)
          have t0 := q 0 (by decide); have t1 := q 1 (by decide); have t2 := q 2 (by decide); have t3 := q 3 (by decide); have t4 := q 4 (by decide)
          split <;> split <;> split <;> split <;> split <;> omega
        have l2 : sN (fun u => cnt κ.2.1 a u κ.1) 5 ≤ rm := by
          rw [e2]
          simp only [sN]
          have f0 := few_mst hκ hd ha (show 0 < 5 by decide); have f1 := few_mst hκ hd ha (show 1 < 5 by decide); have f2 := few_mst hκ hd ha (show 2 < 5 by decide); have f3 := few_mst hκ hd ha (show 3 < 5 by decide); have f4 := few_mst hκ hd ha (show 4 < 5 by decide)
          have t0 := q 0 (by decide); have t1 := q 1 (by decide); have t2 := q 2 (by decide); have t3 := q 3 (by decide); have t4 := q 4 (by decide)
          split <;> split <;> split <;> split <;> split <;> omega
        omega, fun q => by omega, fun q => by omega⟩⟩
      have good : vd ≠ 0 → Q (nI vd) S := fun e => hQ vd ⟨hvd, fun a ha => ⟨fun q => absurd q e, fun q => by
        have h5 := c2 q
        rw [hok' a]
        unfold okCounts
        rw [dB_t]
        intro w hw
        have h6 := h5 w hw
        have := few_mst hκ hd ha hw
        omega, fun q hs => by
        obtain ⟨-, h5, -, -⟩ := cn e
        rw [hok' a]
        unfold okCounts
        rw [dB_t]
        intro w hw
        have h6 := h5 w hw
        have := few_mst1 hκ hd ha hs hw
        omega⟩⟩
      simp (disch := omega) only [wpX2_verdict_b140, c_0, c_1, c_2, c_3, c_4, c_5, c_6, c_7, c_8, c_9, c_10, c_11, c_12, c_14, c_16, c_19, c_20, c_24, c_31, c_32, c_35, c_48, c_57, c_59, c_63, c_97, c_100, c_122, c_127, c_169, c_255, c_600, c_1000, c_32767, Nat.le_refl, Nat.zero_le, Nat.add_zero, Nat.lt_irrefl, eq_self, o_sub, Nat.sub_zero, Nat.not_lt_zero, ↓ng_d, o_le, o_lt, o_eq, o_add, o_mul, o_cl, o_inT, o_and, n_31, o_shr, o_shl1, o_or, m_lt, m_ge, m_le, m_gt, m_ne, m_ne2, Option.some.injEq, exists_eq_left', true_and, and_true, true_implies, false_implies, implies_true, not_true_eq_false, not_false_eq_true, bI_0, bI_1, bI_01, b01, true_or, or_true, Nat.reduceEqDiff, Bool.not_eq_false, Bool.not_eq_true, Bool.true_eq_false, Bool.false_eq_true, hK, r1]
      by_cases e : vd = 0
      · subst e
        have hb := bad0 rfl
        exact ⟨fun _ => hb, fun _ => ⟨fun _ => hb, fun _ => hb⟩⟩
      · refine ⟨fun q => bad1 e (Or.inl q), fun q => ⟨fun _ => good e, fun q2 => bad1 e (Or.inr (by omega))⟩⟩
    have main : ∀ r u vd nd rm, u + r = 5 → vd ≤ 2 → nd = sN (fun w => if few κ d w < lo w then lo w else few κ d w) u → rm = sN (fun w => if hi w < mst κ d w then hi w else mst κ d w) u → (vd = 0 → ∃ w, w < u ∧ (mst κ d w < lo w ∨ hi w < few κ d w)) → (vd ≠ 0 → ∀ w, w < u → lo w ≤ mst κ d w ∧ few κ d w ≤ hi w) → (vd = 2 → ∀ w, w < u → lo w ≤ few κ d w ∧ mst κ d w ≤ hi w) → wpX2_verdict_b11 Q (r + 1) S o (pk d) (nI vd) (nI nd) (nI rm) (nI u) := by
      intro r
      induction r with
      | zero =>
        intro u vd nd rm hu hvd hnd hrm c0 cn c2
        have : u = 5 := by omega
        subst this
        have b1 : nd ≤ 5 * 14 := by rw [hnd]; refine sN_le (fun i hi' => ?_); have := fm i; have := lo8' i hi'; show (if few κ d i < lo i then lo i else few κ d i) ≤ 14; split <;> omega
        have b2 : rm ≤ 5 * 14 := by rw [hrm]; refine sN_le (fun i hi' => ?_); have := fm i; have := hi8' i hi'; show (if hi i < mst κ d i then hi i else mst κ d i) ≤ 14; split <;> omega
        have h5 := fin vd 5 nd rm (by omega) hvd (by omega) (by omega) c0 (fun e => ⟨rfl, cn e, hnd, hrm⟩) c2
        simp (disch := omega) only [wpX2_verdict_b11, c_0, c_1, c_2, c_3, c_4, c_5, c_6, c_7, c_8, c_9, c_10, c_11, c_12, c_14, c_16, c_19, c_20, c_24, c_31, c_32, c_35, c_48, c_57, c_59, c_63, c_97, c_100, c_122, c_127, c_169, c_255, c_600, c_1000, c_32767, Nat.le_refl, Nat.zero_le, Nat.add_zero, Nat.lt_irrefl, eq_self, o_sub, Nat.sub_zero, Nat.not_lt_zero, ↓ng_d, o_le, o_lt, o_eq, o_add, o_mul, o_cl, o_inT, o_and, n_31, o_shr, o_shl1, o_or, m_lt, m_ge, m_le, m_gt, m_ne, m_ne2, Option.some.injEq, exists_eq_left', true_and, and_true, true_implies, false_implies, implies_true, not_true_eq_false, not_false_eq_true, bI_0, bI_1, bI_01, b01, true_or, or_true, Nat.reduceEqDiff, Bool.not_eq_false, Bool.not_eq_true, Bool.true_eq_false, Bool.false_eq_true]
        exact h5
      | succ r ih =>
        intro u vd nd rm hu hvd hnd hrm c0 cn c2
        have e5 : ¬ 5 ≤ u := by omega
        have hu5 : u < 5 := by omega
        have b1 : nd ≤ u * 14 := by rw [hnd]; refine sN_le (fun i hi' => ?_); have := fm i; have := lo8' i (by omega); show (if few κ d i < lo i then lo i else few κ d i) ≤ 14; split <;> omega
        have b2 : rm ≤ u * 14 := by rw [hrm]; refine sN_le (fun i hi' => ?_); have := fm i; have := hi8' i (by omega); show (if hi i < mst κ d i then hi i else mst κ d i) ≤ 14; split <;> omega
        by_cases ev : vd = 0
        · subst ev
          have h5 := fin 0 u nd rm (by omega) (by omega) (by omega) (by omega) (fun _ => by obtain ⟨w, hw, q⟩ := c0 rfl; exact ⟨w, by omega, q⟩) (fun e => absurd rfl e) (fun e => by omega)
          simp (disch := omega) only [wpX2_verdict_b11, c_0, c_1, c_2, c_3, c_4, c_5, c_6, c_7, c_8, c_9, c_10, c_11, c_12, c_14, c_16, c_19, c_20, c_24, c_31, c_32, c_35, c_48, c_57, c_59, c_63, c_97, c_100, c_122, c_127, c_169, c_255, c_600, c_1000, c_32767, Nat.le_refl, Nat.zero_le, Nat.add_zero, Nat.lt_irrefl, eq_self, o_sub, Nat.sub_zero, Nat.not_lt_zero, ↓ng_d, o_le, o_lt, o_eq, o_add, o_mul, o_cl, o_inT, o_and, n_31, o_shr, o_shl1, o_or, m_lt, m_ge, m_le, m_gt, m_ne, m_ne2, Option.some.injEq, exists_eq_left', true_and, and_true, true_implies, false_implies, implies_true, not_true_eq_false, not_false_eq_true, bI_0, bI_1, bI_01, b01, true_or, or_true, Nat.reduceEqDiff, Bool.not_eq_false, Bool.not_eq_true, Bool.true_eq_false, Bool.false_eq_true, e5]
          exact h5
        · have hf := fm u
          have hl := lo8' u hu5
          have hh := hi8' u hu5
          have hv2 := vOn_2 (few κ d u) (mst κ d u) (lo u) (hi u)
          have e1 : κ.1 - (κ.1 - few κ d u) = few κ d u := by have := cN_le (fun k => decide (clr (d (κ.2.1 k)) u = 0)) κ.1; show κ.1 - (κ.1 - few κ d u) = few κ d u; unfold few at *; omega
          have e2 : (ds 3 lo 5 >>> (3 * u)) &&& 7 = lo u := ds3_at lo8' hu5
          have e3 : (ds 3 hi 5 >>> (3 * u)) &&& 7 = hi u := ds3_at hi8' hu5
          have h5 := ih (u + 1) (if vOn (few κ d u) (mst κ d u) (lo u) (hi u) < vd then vOn (few κ d u) (mst κ d u) (lo u) (hi u) else vd) (nd + (if few κ d u < lo u then lo u else few κ d u)) (rm + (if hi u < mst κ d u then hi u else mst κ d u)) (by omega) (by split <;> omega) (by rw [hnd]; rfl) (by rw [hrm]; rfl)
            (fun q => by
              have : vOn (few κ d u) (mst κ d u) (lo u) (hi u) = 0 := by split at q <;> omega
              exact ⟨u, by omega, vOn_0 this⟩)
            (fun q w hw => by
              by_cases z : w = u
              · subst z
                exact vOn_n (fun y => q (by rw [y]; split <;> omega))
              · exact cn ev w (by omega))
            (fun q w hw => by
              have hv : vd = 2 ∧ vOn (few κ d u) (mst κ d u) (lo u) (hi u) = 2 := by split at q <;> omega
              by_cases z : w = u
              · subst z; exact vOn_a hv.2
              · exact c2 hv.1 w (by omega))
          unfold wpX2_verdict_b11
          rw [show (1108378657 : Int64) = lN 1108378657 from rfl, show (63 : Int64) = lN 63 from rfl, zeros_shl u hu5, ngL_d]
          simp (disch := omega) only [c_0, c_1, c_2, c_3, c_4, c_5, c_6, c_7, c_8, c_9, c_10, c_11, c_12, c_14, c_16, c_19, c_20, c_24, c_31, c_32, c_35, c_48, c_57, c_59, c_63, c_97, c_100, c_122, c_127, c_169, c_255, c_600, c_1000, c_32767, Nat.le_refl, Nat.zero_le, Nat.add_zero, Nat.lt_irrefl, eq_self, o_sub, Nat.sub_zero, Nat.not_lt_zero, ↓ng_d, o_le, o_lt, o_eq, o_add, o_mul, o_cl, o_inT, o_and, n_31, o_shr, o_shl1, o_or, m_lt, m_ge, m_le, m_gt, m_ne, m_ne2, Option.some.injEq, exists_eq_left', true_and, and_true, true_implies, false_implies, implies_true, not_true_eq_false, not_false_eq_true, bI_0, bI_1, bI_01, b01, true_or, or_true, Nat.reduceEqDiff, Bool.not_eq_false, Bool.not_eq_true, Bool.true_eq_false, Bool.false_eq_true, e5, ev, hK, w_bcl]
          rw [r2, mst_eq hκ hd hu5, few_eq hκ hd hu5]
          simp (disch := omega) only [c_0, c_1, c_2, c_3, c_4, c_5, c_6, c_7, c_8, c_9, c_10, c_11, c_12, c_14, c_16, c_19, c_20, c_24, c_31, c_32, c_35, c_48, c_57, c_59, c_63, c_97, c_100, c_122, c_127, c_169, c_255, c_600, c_1000, c_32767, Nat.le_refl, Nat.zero_le, Nat.add_zero, Nat.lt_irrefl, eq_self, o_sub, Nat.sub_zero, Nat.not_lt_zero, ↓ng_d, o_le, o_lt, o_eq, o_add, o_mul, o_cl, o_inT, o_and, n_31, o_shr, o_shl1, o_or, m_lt, m_ge, m_le, m_gt, m_ne, m_ne2, Option.some.injEq, exists_eq_left', true_and, and_true, true_implies, false_implies, implies_true, not_true_eq_false, not_false_eq_true, bI_0, bI_1, bI_01, b01, true_or, or_true, Nat.reduceEqDiff, Bool.not_eq_false, Bool.not_eq_true, Bool.true_eq_false, Bool.false_eq_true, hK, r1, e1, k4, k5, o_ushr, e2, e3, w_vOn, ifn]
          exact h5
    have h9 := main 5 0 2 0 0 rfl (by omega) rfl rfl (fun q => by omega) (fun _ w hw => by omega) (fun _ w hw => by omega)
    unfold wpX2_verdict
    exact ⟨_, h9⟩
  · have hc32 := (g8 hk).1
    have hfree := (g8 hk).2
    unfold wpX2_alike wpX2_hasCount
    refine ⟨hK, ?_⟩
    rw [w_isValue (by omega)]
    have ev : decide (v < 5) = true := decide_eq_true hv
    simp (disch := omega) only [ev, c_0, c_1, c_2, c_3, c_4, c_5, c_6, c_7, c_8, c_9, c_10, c_11, c_12, c_14, c_16, c_19, c_20, c_24, c_31, c_32, c_35, c_48, c_57, c_59, c_63, c_97, c_100, c_122, c_127, c_169, c_255, c_600, c_1000, c_32767, Nat.le_refl, Nat.zero_le, Nat.add_zero, Nat.lt_irrefl, eq_self, o_sub, Nat.sub_zero, Nat.not_lt_zero, ↓ng_d, o_le, o_lt, o_eq, o_add, o_mul, o_cl, o_inT, o_and, n_31, o_shr, o_shl1, o_or, m_lt, m_ge, m_le, m_gt, m_ne, m_ne2, Option.some.injEq, exists_eq_left', true_and, and_true, true_implies, false_implies, implies_true, not_true_eq_false, not_false_eq_true, bI_0, bI_1, bI_01, b01, true_or, or_true, Nat.reduceEqDiff, Bool.not_eq_false, Bool.not_eq_true, Bool.true_eq_false, Bool.false_eq_true, hK, k6, o_ushr]
    rw [o_has0]
    cases hb : (P (9 + 20 * c + 19)).testBit v
    · simp (disch := omega) only [c_0, c_1, c_2, c_3, c_4, c_5, c_6, c_7, c_8, c_9, c_10, c_11, c_12, c_14, c_16, c_19, c_20, c_24, c_31, c_32, c_35, c_48, c_57, c_59, c_63, c_97, c_100, c_122, c_127, c_169, c_255, c_600, c_1000, c_32767, Nat.le_refl, Nat.zero_le, Nat.add_zero, Nat.lt_irrefl, eq_self, o_sub, Nat.sub_zero, Nat.not_lt_zero, ↓ng_d, o_le, o_lt, o_eq, o_add, o_mul, o_cl, o_inT, o_and, n_31, o_shr, o_shl1, o_or, m_lt, m_ge, m_le, m_gt, m_ne, m_ne2, Option.some.injEq, exists_eq_left', true_and, and_true, true_implies, false_implies, implies_true, not_true_eq_false, not_false_eq_true, bI_0, bI_1, bI_01, b01, true_or, or_true, Nat.reduceEqDiff, Bool.not_eq_false, Bool.not_eq_true, Bool.true_eq_false, Bool.false_eq_true]
      rw [dm_andn 31 (by decide) _ hc32]
      refine hQ _ ⟨dm_andn_lt _ (by decide) _ hc32, by rw [dm_andn_tb _ (by decide) _ hc32 v hv, hb]; rcases lt5 hv with rfl | rfl | rfl | rfl | rfl <;> rfl, fun u hu hbu k hkk a ha hak => ?_⟩
      rw [dm_andn_tb _ (by decide) _ hc32 u hu] at hbu
      have hbu2 : (P (9 + 20 * c + 19)).testBit u = false := by simp only [Bool.and_eq_true, Bool.not_eq_true'] at hbu; exact hbu.2
      rw [hok, hok]
      unfold okCounts
      apply dB_c
      have same : ∀ w, w ≠ v → w ≠ u → cnt (cK P c).2.1 (ud a ((cK P c).2.1 k) v) w (cK P c).1 = cnt (cK P c).2.1 a w (cK P c).1 := fun w h1 h2 => cN_cong (fun j hj => by
        by_cases q : (cK P c).2.1 j = (cK P c).2.1 k
        · rw [q, ud_s, hak, decide_eq_false (fun z => h1 z.symm), decide_eq_false (fun z => h2 z.symm)]
        · rw [ud_n _ _ q])
      have fr1 : ∀ b w, (P (9 + 20 * c + 19)).testBit w = false → w < 5 → P (9 + 20 * c + (9 + w)) ≤ cnt (cK P c).2.1 b w (cK P c).1 ∧ cnt (cK P c).2.1 b w (cK P c).1 ≤ P (9 + 20 * c + (14 + w)) := fun b w h1 h2 => by
        have := hfree w h2 h1
        have := cN_le (fun k => decide (b ((cK P c).2.1 k) = w)) (cK P c).1
        show P (9 + 20 * c + (9 + w)) ≤ cN (fun k => decide (b ((cK P c).2.1 k) = w)) (cK P c).1 ∧ cN (fun k => decide (b ((cK P c).2.1 k) = w)) (cK P c).1 ≤ P (9 + 20 * c + (14 + w))
        omega
      constructor
      · intro q w hw
        by_cases h1 : w = v
        · subst h1; exact fr1 a w hb hw
        · by_cases h2 : w = u
          · subst h2; exact fr1 a w hbu2 hw
          · have := q w hw; rw [same w h1 h2] at this; exact this
      · intro q w hw
        by_cases h1 : w = v
        · subst h1; exact fr1 _ w hb hw
        · by_cases h2 : w = u
          · subst h2; exact fr1 _ w hbu2 hw
          · rw [same w h1 h2]; exact q w hw
    · simp (disch := omega) only [c_0, c_1, c_2, c_3, c_4, c_5, c_6, c_7, c_8, c_9, c_10, c_11, c_12, c_14, c_16, c_19, c_20, c_24, c_31, c_32, c_35, c_48, c_57, c_59, c_63, c_97, c_100, c_122, c_127, c_169, c_255, c_600, c_1000, c_32767, Nat.le_refl, Nat.zero_le, Nat.add_zero, Nat.lt_irrefl, eq_self, o_sub, Nat.sub_zero, Nat.not_lt_zero, ↓ng_d, o_le, o_lt, o_eq, o_add, o_mul, o_cl, o_inT, o_and, n_31, o_shr, o_shl1, o_or, m_lt, m_ge, m_le, m_gt, m_ne, m_ne2, Option.some.injEq, exists_eq_left', true_and, and_true, true_implies, false_implies, implies_true, not_true_eq_false, not_false_eq_true, bI_0, bI_1, bI_01, b01, true_or, or_true, Nat.reduceEqDiff, Bool.not_eq_false, Bool.not_eq_true, Bool.true_eq_false, Bool.false_eq_true]
      exact hQ _ (alk_self hκ hv)

/-! THE CLASS: windows -/
theorem zeros_mul : ∀ s, s < 32 → lN 1108378657 * (nI s).toInt64 = pk (fun _ => s) := by decide +kernel
/-- the members of one window -/
def wK (κ : Kon) (i w : Nat) : Kon := (w, (fun j => κ.2.1 (i + j)), fun _ => true)
theorem wK_wf {κ : Kon} (hκ : Kwf κ) {i w : Nat} (h : i + w ≤ κ.1) : Kwf (wK κ i w) := by
  have h7 := hκ.1
  exact ⟨by show w ≤ 7; omega, fun k hk => hκ.2.1 (i + k) (by have : k < w := hk; omega), fun a b ha hb e => by
    have ha' : a < w := ha
    have hb' : b < w := hb
    have := hκ.2.2.1 (i + a) (i + b) (by omega) (by omega) e
    omega, fun _ _ _ => rfl⟩
theorem sw_wf {s : Nat} (hs : s < 32) : Dwf (fun _ => s) := fun _ _ => hs
theorem s31 : ∀ w, w < 32 → ∀ s, s < 32 → w &&& (s &&& 31) = w &&& s ∧ andn (w &&& 31) (s &&& 31) = andn w s := by decide +kernel
theorem w_most {S : PS} {κ : Kon} {d : Nat → Nat} {s : Nat} {Q : Int32 → PS → Prop} (hκ : Kwf κ) (hd : Dwf d) (hs : s < 32) : wpX5_variablesIn S (pk d &&& (pk (fun _ => s) &&& pk (scp κ))) Q = Q (nI (cN (fun k => decide (d (κ.2.1 k) &&& s ≠ 0)) κ.1)) S := by
  rw [pq_and (sw_wf hs) (scp_wf κ), pq_and hd (fun x hx => dm_and_lt _ hs _ (scp_wf κ x hx)), w_variablesIn (fun x hx => dm_and_lt _ (hd x hx) _ (dm_and_lt _ hs _ (scp_wf κ x hx)))]
  congr 2
  rw [← mem_cnt hκ (fun x => decide (d x &&& s ≠ 0))]
  unfold nzs
  apply cN_cong
  intro x hx
  cases hm : inM κ x
  · simp [scp_f hm]
  · simp only [scp_t hm, Bool.true_and, (s31 _ (hd x hx) _ hs).1]
theorem w_out {S : PS} {κ : Kon} {d : Nat → Nat} {s : Nat} {Q : Int32 → PS → Prop} (hκ : Kwf κ) (hd : Dwf d) (hs : s < 32) : wpX5_variablesIn S ((pk d &&& pk (scp κ)) &&& ((pk (fun _ => s) &&& pk (scp κ)) ^^^ ngL)) Q = Q (nI (cN (fun k => !decide (andn (d (κ.2.1 k)) s = 0)) κ.1)) S := by
  have w1 : Dwf (fun x => d x &&& scp κ x) := fun x hx => dm_and_lt _ (hd x hx) _ (scp_wf κ x hx)
  have w2 : Dwf (fun x => s &&& scp κ x) := fun x hx => dm_and_lt _ hs _ (scp_wf κ x hx)
  rw [pq_and (sw_wf hs) (scp_wf κ), pq_and hd (scp_wf κ), pq_andn w1 w2, w_variablesIn (fun x hx => dm_andn_lt _ (w1 x hx) _ (w2 x hx))]
  congr 2
  rw [← mem_cnt hκ (fun x => !decide (andn (d x) s = 0))]
  unfold nzs
  apply cN_cong
  intro x hx
  cases hm : inM κ x
  · simp [scp_f hm, andn]
  · simp only [scp_t hm, Bool.true_and, (s31 _ (hd x hx) _ hs).2]
    by_cases q : andn (d x) s = 0
    · simp [q]
    · simp [q]
def wmo (κ : Kon) (d : Nat → Nat) (w s i : Nat) : Nat := cN (fun j => decide (d (κ.2.1 (i + j)) &&& s ≠ 0)) w
def wfe (κ : Kon) (d : Nat → Nat) (w s i : Nat) : Nat := cN (fun j => decide (andn (d (κ.2.1 (i + j))) s = 0)) w
theorem w_bounds {κ : Kon} {d a : Nat → Nat} (hκ : Kwf κ) (hd : Dwf d) (ha : Asg κ d a) {w s i : Nat} (hs : s < 32) (h : i + w ≤ κ.1) : wfe κ d w s i ≤ wct w s κ.2.1 a i ∧ wct w s κ.2.1 a i ≤ wmo κ d w s i := by
  constructor
  · apply cN_sub
    intro j hj q
    have h1 := ha (i + j) (by omega)
    have h2 := dm_andn_tb _ (hd _ (hκ.2.1 (i + j) (by omega))) _ hs _ h1.1
    have q1 : andn (d (κ.2.1 (i + j))) s = 0 := by simpa using q
    rw [q1, h1.2] at h2
    simp at h2
    exact h2
  · apply cN_sub
    intro j hj q
    have h1 := ha (i + j) (by omega)
    have : d (κ.2.1 (i + j)) &&& s ≠ 0 := fun z => by
      have h3 : (d (κ.2.1 (i + j)) &&& s).testBit (a (κ.2.1 (i + j))) = true := by rw [Nat.testBit_and, h1.2, q]; rfl
      rw [z] at h3
      simp at h3
    simpa using this
theorem w_bounds1 {κ : Kon} {d a : Nat → Nat} (hκ : Kwf κ) (hd : Dwf d) (ha : Asg κ d a) (hsg : ∀ k, k < κ.1 → ∀ u, u < 5 → (d (κ.2.1 k)).testBit u = true → u = a (κ.2.1 k)) {w s i : Nat} (hs : s < 32) (h : i + w ≤ κ.1) : wct w s κ.2.1 a i ≤ wfe κ d w s i ∧ wmo κ d w s i ≤ wct w s κ.2.1 a i := by
  constructor
  · apply cN_sub
    intro j hj q
    have hdx := hd _ (hκ.2.1 (i + j) (by omega))
    have : andn (d (κ.2.1 (i + j))) s = 0 := by
      rw [dm_0 _ (dm_andn_lt _ hdx _ hs)]
      intro v hv
      rw [dm_andn_tb _ hdx _ hs v hv]
      cases hb : (d (κ.2.1 (i + j))).testBit v
      · rfl
      · have := hsg (i + j) (by omega) v hv hb
        rw [this, q]
        rfl
    simpa using this
  · apply cN_sub
    intro j hj q
    have hdx := hd _ (hκ.2.1 (i + j) (by omega))
    have q1 : d (κ.2.1 (i + j)) &&& s ≠ 0 := by simpa using q
    obtain ⟨v, hv, hb⟩ := dm_ex (dm_and_lt _ hdx _ hs) q1
    rw [Nat.testBit_and, Bool.and_eq_true] at hb
    have := hsg (i + j) (by omega) v hv hb.1
    rw [← this]
    exact hb.2
theorem CC_window {S : PS} {o : Nat} {P : Nat → Nat} {c : Nat} (h : KRep S o P c) (hw : Cwf P c) (h0 : P 0 ≤ 7) (hk : P (9 + 20 * c) = 1) : CC S o (cK P c) := by
  obtain ⟨r0, r1, r2, r3, -, r5, -⟩ := h
  obtain ⟨hK, k4, k5, k6, k7⟩ := r5 hk
  have h4 : pC4 S o := Or.inr (Or.inr (Or.inr hK))
  have hκ := cK_wf hw h0
  have q1 : ¬ pK S o = 1 := by rw [hK]; decide
  have q2 : ¬ pK S o = 2 := by rw [hK]; decide
  have q3 : ¬ pK S o = 4 := by rw [hK]; decide
  obtain ⟨-, g1, g2, g3, g4, -, g6, -, -, g9, -⟩ := hw
  obtain ⟨w0, w4, s0, s5, lh, hw'⟩ := g6 hk
  have hn7 := hκ.1
  obtain ⟨κ, hκe⟩ : ∃ κ, κ = cK P c := ⟨_, rfl⟩
  obtain ⟨w, hwe⟩ : ∃ w, w = P (9 + 20 * c + 9) := ⟨_, rfl⟩
  obtain ⟨s, hse⟩ : ∃ s, s = P (9 + 20 * c + 10) := ⟨_, rfl⟩
  obtain ⟨lo, hle⟩ : ∃ lo, lo = P (9 + 20 * c + 11) := ⟨_, rfl⟩
  obtain ⟨hi, hhe⟩ : ∃ hi, hi = P (9 + 20 * c + 12) := ⟨_, rfl⟩
  have hok : ∀ a, κ.2.2 a = okWindow κ.1 κ.2.1 w s lo hi a := fun a => by
    rw [hκe, hwe, hse, hle, hhe]
    show cOk P c a = _
    unfold cOk
    rw [if_neg (by omega), if_pos hk]
    rfl
  rw [← hwe] at k4 w0 w4 hw'
  rw [← hse] at k5 s0 s5
  rw [← hle] at k6 lh
  rw [← hhe] at k7 lh hw'
  have r1 : pI S o 1 = nI κ.1 := by rw [hκe]; exact r1
  clear hn7
  rw [← hκe] at hκ r2 r3 ⊢
  have hn7 := hκ.1
  refine ⟨h4, r1, r2, r3, fun d Q hd hQ => ⟨fun q => absurd q q1, fun q => absurd q q2, fun q => absurd q q3, fun _ => ?_⟩, fun v Q hv hQ => ⟨fun q => absurd q q1, fun q => absurd q q2, fun q => absurd q q3, fun _ => ?_⟩⟩
  · have fm : ∀ i, wfe κ d w s i ≤ w ∧ wmo κ d w s i ≤ w := fun i => ⟨cN_le _ _, cN_le _ _⟩
    have main : ∀ r i vd, κ.1 < i + r + w → i + r ≤ κ.1 + 1 → i ≤ 8 → vd ≤ 2 → (vd = 0 → ∃ j, j + w ≤ κ.1 ∧ (wmo κ d w s j < lo ∨ hi < wfe κ d w s j)) → (vd ≠ 0 → ∀ j, j < i → j + w ≤ κ.1 → lo ≤ wmo κ d w s j ∧ wfe κ d w s j ≤ hi) → (vd = 2 → ∀ j, j < i → j + w ≤ κ.1 → lo ≤ wfe κ d w s j ∧ wmo κ d w s j ≤ hi) → wpX10_verdict_b5 Q (r + 1) S o (pk d) (nI vd) (nI i) := by
      intro r
      induction r with
      | zero =>
        intro i vd hi1 hi2 hi8 hvd c0 cn c2
        have e : κ.1 < i + w := by omega
        have h5 := hQ vd ⟨hvd, fun a ha => ⟨fun q => by
          obtain ⟨j, hj, hor⟩ := c0 q
          have := w_bounds hκ hd ha s5 hj
          rw [hok]; unfold okWindow; rw [dB_f]
          intro z
          have := z j hj
          omega, fun q => by
          have h6 := c2 q
          rw [hok]; unfold okWindow; rw [dB_t]
          intro j hj
          have := w_bounds hκ hd ha s5 hj
          have := h6 j (by omega) hj
          omega, fun q hsg => by
          have h6 := cn (by omega)
          rw [hok]; unfold okWindow; rw [dB_t]
          intro j hj
          have := w_bounds1 hκ hd ha hsg s5 hj
          have := h6 j (by omega) hj
          omega⟩⟩
        simp (disch := omega) only [wpX10_verdict_b5, c_0, c_1, c_2, c_3, c_4, c_5, c_6, c_7, c_8, c_9, c_10, c_11, c_12, c_14, c_16, c_19, c_20, c_24, c_31, c_32, c_35, c_48, c_57, c_59, c_63, c_97, c_100, c_122, c_127, c_169, c_255, c_600, c_1000, c_32767, Nat.le_refl, Nat.zero_le, Nat.add_zero, Nat.lt_irrefl, eq_self, o_sub, Nat.sub_zero, Nat.not_lt_zero, ↓ng_d, o_le, o_lt, o_eq, o_add, o_mul, o_cl, o_inT, o_and, n_31, o_shr, o_shl1, o_or, m_lt, m_ge, m_le, m_gt, m_ne, m_ne2, Option.some.injEq, exists_eq_left', true_and, and_true, true_implies, false_implies, implies_true, not_true_eq_false, not_false_eq_true, bI_0, bI_1, bI_01, b01, true_or, or_true, Nat.reduceEqDiff, Bool.not_eq_false, Bool.not_eq_true, Bool.true_eq_false, Bool.false_eq_true, hK, r1, k4, e]
        exact h5
      | succ r ih =>
        intro i vd hi1 hi2 hi8 hvd c0 cn c2
        by_cases e : κ.1 < i + w
        · have h5 := hQ vd ⟨hvd, fun a ha => ⟨fun q => by
            obtain ⟨j, hj, hor⟩ := c0 q
            have := w_bounds hκ hd ha s5 hj
            rw [hok]; unfold okWindow; rw [dB_f]
            intro z
            have := z j hj
            omega, fun q => by
            have h6 := c2 q
            rw [hok]; unfold okWindow; rw [dB_t]
            intro j hj
            have := w_bounds hκ hd ha s5 hj
            have := h6 j (by omega) hj
            omega, fun q hsg => by
            have h6 := cn (by omega)
            rw [hok]; unfold okWindow; rw [dB_t]
            intro j hj
            have := w_bounds1 hκ hd ha hsg s5 hj
            have := h6 j (by omega) hj
            omega⟩⟩
          simp (disch := omega) only [wpX10_verdict_b5, c_0, c_1, c_2, c_3, c_4, c_5, c_6, c_7, c_8, c_9, c_10, c_11, c_12, c_14, c_16, c_19, c_20, c_24, c_31, c_32, c_35, c_48, c_57, c_59, c_63, c_97, c_100, c_122, c_127, c_169, c_255, c_600, c_1000, c_32767, Nat.le_refl, Nat.zero_le, Nat.add_zero, Nat.lt_irrefl, eq_self, o_sub, Nat.sub_zero, Nat.not_lt_zero, ↓ng_d, o_le, o_lt, o_eq, o_add, o_mul, o_cl, o_inT, o_and, n_31, o_shr, o_shl1, o_or, m_lt, m_ge, m_le, m_gt, m_ne, m_ne2, Option.some.injEq, exists_eq_left', true_and, and_true, true_implies, false_implies, implies_true, not_true_eq_false, not_false_eq_true, bI_0, bI_1, bI_01, b01, true_or, or_true, Nat.reduceEqDiff, Bool.not_eq_false, Bool.not_eq_true, Bool.true_eq_false, Bool.false_eq_true, hK, r1, k4, e]
          exact h5
        · by_cases ev : vd = 0
          · subst ev
            have h5 := hQ 0 ⟨by omega, fun a ha => ⟨fun q => by
              obtain ⟨j, hj, hor⟩ := c0 q
              have := w_bounds hκ hd ha s5 hj
              rw [hok]; unfold okWindow; rw [dB_f]
              intro z
              have := z j hj
              omega, fun q => by omega, fun q => by omega⟩⟩
            simp (disch := omega) only [wpX10_verdict_b5, c_0, c_1, c_2, c_3, c_4, c_5, c_6, c_7, c_8, c_9, c_10, c_11, c_12, c_14, c_16, c_19, c_20, c_24, c_31, c_32, c_35, c_48, c_57, c_59, c_63, c_97, c_100, c_122, c_127, c_169, c_255, c_600, c_1000, c_32767, Nat.le_refl, Nat.zero_le, Nat.add_zero, Nat.lt_irrefl, eq_self, o_sub, Nat.sub_zero, Nat.not_lt_zero, ↓ng_d, o_le, o_lt, o_eq, o_add, o_mul, o_cl, o_inT, o_and, n_31, o_shr, o_shl1, o_or, m_lt, m_ge, m_le, m_gt, m_ne, m_ne2, Option.some.injEq, exists_eq_left', true_and, and_true, true_implies, false_implies, implies_true, not_true_eq_false, not_false_eq_true, bI_0, bI_1, bI_01, b01, true_or, or_true, Nat.reduceEqDiff, Bool.not_eq_false, Bool.not_eq_true, Bool.true_eq_false, Bool.false_eq_true, hK, r1, k4, e]
            exact h5
          · have hin : i + w ≤ κ.1 := by omega
            have hv2 := vOn_2 (wfe κ d w s i) (wmo κ d w s i) lo hi
            have hf := fm i
            have h5 := ih (i + 1) (if vOn (wfe κ d w s i) (wmo κ d w s i) lo hi < vd then vOn (wfe κ d w s i) (wmo κ d w s i) lo hi else vd) (by omega) (by omega) (by omega) (by split <;> omega)
              (fun q => by
                have : vOn (wfe κ d w s i) (wmo κ d w s i) lo hi = 0 := by split at q <;> omega
                exact ⟨i, hin, vOn_0 this⟩)
              (fun q j hj hjn => by
                by_cases z : j = i
                · subst z
                  exact vOn_n (fun y => q (by rw [y]; split <;> omega))
                · exact cn ev j (by omega) hjn)
              (fun q j hj hjn => by
                have hv : vd = 2 ∧ vOn (wfe κ d w s i) (wmo κ d w s i) lo hi = 2 := by split at q <;> omega
                by_cases z : j = i
                · subst z; exact vOn_a hv.2
                · exact c2 hv.1 j (by omega) hjn)
            have inner : ∀ r2 p, p + r2 = w → wpX10_verdict_b30 (wpX10_verdict_b5 Q (r + 1)) Q (r2 + 1) S o (pk d) (nI vd) (nI i) (pk (scp (wK κ i p))) (nI (i + p)) := by
              intro r2
              induction r2 with
              | zero =>
                intro p hp
                have : p = w := by omega
                subst this
                have hκw := wK_wf hκ hin
                have e1 : wfe κ d p s i = p - cN (fun j => !decide (andn (d (κ.2.1 (i + j))) s = 0)) p := (cN_not (fun j => decide (andn (d (κ.2.1 (i + j))) s = 0)) p).symm
                have e2 := cN_le (fun j => !decide (andn (d (κ.2.1 (i + j))) s = 0)) p
                unfold wpX10_verdict_b30
                simp (disch := omega) only [c_0, c_1, c_2, c_3, c_4, c_5, c_6, c_7, c_8, c_9, c_10, c_11, c_12, c_14, c_16, c_19, c_20, c_24, c_31, c_32, c_35, c_48, c_57, c_59, c_63, c_97, c_100, c_122, c_127, c_169, c_255, c_600, c_1000, c_32767, Nat.le_refl, Nat.zero_le, Nat.add_zero, Nat.lt_irrefl, eq_self, o_sub, Nat.sub_zero, Nat.not_lt_zero, ↓ng_d, o_le, o_lt, o_eq, o_add, o_mul, o_cl, o_inT, o_and, n_31, o_shr, o_shl1, o_or, m_lt, m_ge, m_le, m_gt, m_ne, m_ne2, Option.some.injEq, exists_eq_left', true_and, and_true, true_implies, false_implies, implies_true, not_true_eq_false, not_false_eq_true, bI_0, bI_1, bI_01, b01, true_or, or_true, Nat.reduceEqDiff, Bool.not_eq_false, Bool.not_eq_true, Bool.true_eq_false, Bool.false_eq_true, hK, k4, k5, ngL_d]
                rw [show (1108378657 : Int64) = lN 1108378657 from rfl, zeros_mul s s5, w_most hκw hd s5]
                simp (disch := omega) only [c_0, c_1, c_2, c_3, c_4, c_5, c_6, c_7, c_8, c_9, c_10, c_11, c_12, c_14, c_16, c_19, c_20, c_24, c_31, c_32, c_35, c_48, c_57, c_59, c_63, c_97, c_100, c_122, c_127, c_169, c_255, c_600, c_1000, c_32767, Nat.le_refl, Nat.zero_le, Nat.add_zero, Nat.lt_irrefl, eq_self, o_sub, Nat.sub_zero, Nat.not_lt_zero, ↓ng_d, o_le, o_lt, o_eq, o_add, o_mul, o_cl, o_inT, o_and, n_31, o_shr, o_shl1, o_or, m_lt, m_ge, m_le, m_gt, m_ne, m_ne2, Option.some.injEq, exists_eq_left', true_and, and_true, true_implies, false_implies, implies_true, not_true_eq_false, not_false_eq_true, bI_0, bI_1, bI_01, b01, true_or, or_true, Nat.reduceEqDiff, Bool.not_eq_false, Bool.not_eq_true, Bool.true_eq_false, Bool.false_eq_true, hK, k4, k5, ngL_d]
                rw [w_out hκw hd s5]
                have e5 : nI p - nI (cN (fun k => !decide (andn (d ((wK κ i p).2.1 k)) s = 0)) (wK κ i p).1) = nI (wfe κ d p s i) := by rw [e1]; exact o_sub e2
                have e6 : cN (fun k => decide (d ((wK κ i p).2.1 k) &&& s ≠ 0)) (wK κ i p).1 = wmo κ d p s i := rfl
                rw [e5, e6]
                simp (disch := omega) only [c_0, c_1, c_2, c_3, c_4, c_5, c_6, c_7, c_8, c_9, c_10, c_11, c_12, c_14, c_16, c_19, c_20, c_24, c_31, c_32, c_35, c_48, c_57, c_59, c_63, c_97, c_100, c_122, c_127, c_169, c_255, c_600, c_1000, c_32767, Nat.le_refl, Nat.zero_le, Nat.add_zero, Nat.lt_irrefl, eq_self, o_sub, Nat.sub_zero, Nat.not_lt_zero, ↓ng_d, o_le, o_lt, o_eq, o_add, o_mul, o_cl, o_inT, o_and, n_31, o_shr, o_shl1, o_or, m_lt, m_ge, m_le, m_gt, m_ne, m_ne2, Option.some.injEq, exists_eq_left', true_and, and_true, true_implies, false_implies, implies_true, not_true_eq_false, not_false_eq_true, bI_0, bI_1, bI_01, b01, true_or, or_true, Nat.reduceEqDiff, Bool.not_eq_false, Bool.not_eq_true, Bool.true_eq_false, Bool.false_eq_true, hK, k6, k7, w_vOn, ifn]
                exact h5
              | succ r2 ih2 =>
                intro p hp
                have hx := hκ.2.1 (i + p) (by omega)
                have h6 := ih2 (p + 1) (by omega)
                have e1 : ¬ i + w ≤ i + p := by omega
                have e2 : pk (scp (wK κ i p)) ||| pk (sg (κ.2.1 (i + p)) 31) = pk (scp (wK κ i (p + 1))) := by
                  rw [pq_or (scp_wf _) (sg_wf (by decide))]
                  apply pq_cg
                  intro x hx7
                  show scp (wK κ i p) x ||| sg (κ.2.1 (i + p)) 31 x = scp (wK κ i (p + 1)) x
                  have t : inM (wK κ i (p + 1)) x = true ↔ (inM (wK κ i p) x = true ∨ κ.2.1 (i + p) = x) := by
                    rw [inM_t, inM_t]
                    constructor
                    · rintro ⟨k, hk1, hk2⟩
                      have hk1' : k < p + 1 := hk1
                      by_cases z : k = p
                      · right; rw [← z]; exact hk2
                      · left; exact ⟨k, by show k < p; omega, hk2⟩
                    · rintro (⟨k, hk1, hk2⟩ | q)
                      · exact ⟨k, by have : k < p := hk1; show k < p + 1; omega, hk2⟩
                      · exact ⟨p, Nat.lt_succ_self p, q⟩
                  unfold scp
                  by_cases z : κ.2.1 (i + p) = x
                  · rw [if_pos (t.mpr (Or.inr z)), ← z, sg_s]
                    split <;> rfl
                  · rw [sg_n (fun y => z y.symm), Nat.or_zero]
                    by_cases y : inM (wK κ i p) x = true
                    · rw [if_pos y, if_pos (t.mpr (Or.inl y))]
                    · rw [if_neg y, if_neg (fun q => (t.mp q).elim y z)]
                unfold wpX10_verdict_b30
                simp (disch := omega) only [c_0, c_1, c_2, c_3, c_4, c_5, c_6, c_7, c_8, c_9, c_10, c_11, c_12, c_14, c_16, c_19, c_20, c_24, c_31, c_32, c_35, c_48, c_57, c_59, c_63, c_97, c_100, c_122, c_127, c_169, c_255, c_600, c_1000, c_32767, Nat.le_refl, Nat.zero_le, Nat.add_zero, Nat.lt_irrefl, eq_self, o_sub, Nat.sub_zero, Nat.not_lt_zero, ↓ng_d, o_le, o_lt, o_eq, o_add, o_mul, o_cl, o_inT, o_and, n_31, o_shr, o_shl1, o_or, m_lt, m_ge, m_le, m_gt, m_ne, m_ne2, Option.some.injEq, exists_eq_left', true_and, and_true, true_implies, false_implies, implies_true, not_true_eq_false, not_false_eq_true, bI_0, bI_1, bI_01, b01, true_or, or_true, Nat.reduceEqDiff, Bool.not_eq_false, Bool.not_eq_true, Bool.true_eq_false, Bool.false_eq_true, hK, k4, e1, w_variableAt h4 r3 hκ, w_allOf hx, e2]
                exact h6
            have h7 := inner w 0 (Nat.zero_add _)
            have e8 : pk (scp (wK κ i 0)) = lN 0 := by
              rw [pq_z]
              apply pq_cg
              intro x _
              unfold scp
              rw [if_neg (fun q => by obtain ⟨k, hk1, _⟩ := inM_t.mp q; exact absurd hk1 (Nat.not_lt_zero _))]
            rw [e8] at h7
            generalize r + 1 = fu at h7 ⊢
            simp (disch := omega) only [wpX10_verdict_b5, c_0, c_1, c_2, c_3, c_4, c_5, c_6, c_7, c_8, c_9, c_10, c_11, c_12, c_14, c_16, c_19, c_20, c_24, c_31, c_32, c_35, c_48, c_57, c_59, c_63, c_97, c_100, c_122, c_127, c_169, c_255, c_600, c_1000, c_32767, Nat.le_refl, Nat.zero_le, Nat.add_zero, Nat.lt_irrefl, eq_self, o_sub, Nat.sub_zero, Nat.not_lt_zero, ↓ng_d, o_le, o_lt, o_eq, o_add, o_mul, o_cl, o_inT, o_and, n_31, o_shr, o_shl1, o_or, m_lt, m_ge, m_le, m_gt, m_ne, m_ne2, Option.some.injEq, exists_eq_left', true_and, and_true, true_implies, false_implies, implies_true, not_true_eq_false, not_false_eq_true, bI_0, bI_1, bI_01, b01, true_or, or_true, Nat.reduceEqDiff, Bool.not_eq_false, Bool.not_eq_true, Bool.true_eq_false, Bool.false_eq_true, hK, r1, k4, e, ev]
            exact ⟨_, h7⟩
    have h9 := main (κ.1 + 1) 0 2 (by omega) (by omega) (by omega) (by omega) (fun q => by omega) (fun _ j hj => by omega) (fun _ j hj => by omega)
    unfold wpX10_verdict
    exact ⟨_, h9⟩
  · have gen : ∀ A, A < 32 → A.testBit v = true → (∀ u, u < 5 → A.testBit u = true → s.testBit u = s.testBit v) → alk κ v A := fun A hA hAv hAs => ⟨hA, hAv, fun u hu hb k hkk a ha hak => by
      rw [hok, hok]
      unfold okWindow
      apply dB_c
      have same : ∀ i, i + w ≤ κ.1 → wct w s κ.2.1 (ud a (κ.2.1 k) v) i = wct w s κ.2.1 a i := fun i hiw => cN_cong (fun j hj => by
        by_cases q : κ.2.1 (i + j) = κ.2.1 k
        · rw [q, ud_s, hak]; exact (hAs u hu hb).symm
        · rw [ud_n _ _ q])
      constructor
      · intro q i hiw; rw [← same i hiw]; exact q i hiw
      · intro q i hiw; rw [same i hiw]; exact q i hiw⟩
    unfold wpX10_alike
    simp (disch := omega) only [c_0, c_1, c_2, c_3, c_4, c_5, c_6, c_7, c_8, c_9, c_10, c_11, c_12, c_14, c_16, c_19, c_20, c_24, c_31, c_32, c_35, c_48, c_57, c_59, c_63, c_97, c_100, c_122, c_127, c_169, c_255, c_600, c_1000, c_32767, Nat.le_refl, Nat.zero_le, Nat.add_zero, Nat.lt_irrefl, eq_self, o_sub, Nat.sub_zero, Nat.not_lt_zero, ↓ng_d, o_le, o_lt, o_eq, o_add, o_mul, o_cl, o_inT, o_and, n_31, o_shr, o_shl1, o_or, m_lt, m_ge, m_le, m_gt, m_ne, m_ne2, Option.some.injEq, exists_eq_left', true_and, and_true, true_implies, false_implies, implies_true, not_true_eq_false, not_false_eq_true, bI_0, bI_1, bI_01, b01, true_or, or_true, Nat.reduceEqDiff, Bool.not_eq_false, Bool.not_eq_true, Bool.true_eq_false, Bool.false_eq_true, hK, k5, o_ushr]
    rw [o_has0]
    cases hb : s.testBit v
    · simp (disch := omega) only [c_0, c_1, c_2, c_3, c_4, c_5, c_6, c_7, c_8, c_9, c_10, c_11, c_12, c_14, c_16, c_19, c_20, c_24, c_31, c_32, c_35, c_48, c_57, c_59, c_63, c_97, c_100, c_122, c_127, c_169, c_255, c_600, c_1000, c_32767, Nat.le_refl, Nat.zero_le, Nat.add_zero, Nat.lt_irrefl, eq_self, o_sub, Nat.sub_zero, Nat.not_lt_zero, ↓ng_d, o_le, o_lt, o_eq, o_add, o_mul, o_cl, o_inT, o_and, n_31, o_shr, o_shl1, o_or, m_lt, m_ge, m_le, m_gt, m_ne, m_ne2, Option.some.injEq, exists_eq_left', true_and, and_true, true_implies, false_implies, implies_true, not_true_eq_false, not_false_eq_true, bI_0, bI_1, bI_01, b01, true_or, or_true, Nat.reduceEqDiff, Bool.not_eq_false, Bool.not_eq_true, Bool.true_eq_false, Bool.false_eq_true]
      rw [dm_andn 31 (by decide) _ s5]
      have f31 : ∀ u, u < 5 → (31 : Nat).testBit u = true := by decide
      refine hQ _ (gen _ (dm_andn_lt _ (by decide) _ s5) (by rw [dm_andn_tb _ (by decide) _ s5 v hv, hb, f31 v hv]; rfl) (fun u hu hbu => ?_))
      rw [dm_andn_tb _ (by decide) _ s5 u hu, f31 u hu] at hbu
      simpa [hb] using hbu
    · simp (disch := omega) only [c_0, c_1, c_2, c_3, c_4, c_5, c_6, c_7, c_8, c_9, c_10, c_11, c_12, c_14, c_16, c_19, c_20, c_24, c_31, c_32, c_35, c_48, c_57, c_59, c_63, c_97, c_100, c_122, c_127, c_169, c_255, c_600, c_1000, c_32767, Nat.le_refl, Nat.zero_le, Nat.add_zero, Nat.lt_irrefl, eq_self, o_sub, Nat.sub_zero, Nat.not_lt_zero, ↓ng_d, o_le, o_lt, o_eq, o_add, o_mul, o_cl, o_inT, o_and, n_31, o_shr, o_shl1, o_or, m_lt, m_ge, m_le, m_gt, m_ne, m_ne2, Option.some.injEq, exists_eq_left', true_and, and_true, true_implies, false_implies, implies_true, not_true_eq_false, not_false_eq_true, bI_0, bI_1, bI_01, b01, true_or, or_true, Nat.reduceEqDiff, Bool.not_eq_false, Bool.not_eq_true, Bool.true_eq_false, Bool.false_eq_true]
      exact hQ _ (gen s s5 hb (fun u hu hbu => by rw [hbu, hb]))
theorem CC_of {S : PS} {o : Nat} {P : Nat → Nat} {c : Nat} (h : KRep S o P c) (hw : Cwf P c) (h0 : P 0 ≤ 7) : CC S o (cK P c) := by
  by_cases e0 : P (9 + 20 * c) = 0
  · exact CC_counts h hw h0 e0
  · by_cases e1 : P (9 + 20 * c) = 1
    · exact CC_window h hw h0 e1
    · exact CC_cmp h hw h0 (by omega)

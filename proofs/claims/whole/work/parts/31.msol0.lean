/-! THE REFERENCE: its solutions -/
def stN (m : Nat → Nat) : Nat → Nat
  | 0 => 0
  | k + 1 => stN m k ||| 2 ^ m k
theorem stN_lt {m : Nat → Nat} : ∀ n, (∀ k, k < n → m k < 7) → stN m n < 128 := by
  intro n
  induction n with
  | zero => intro _; show (0 : Nat) < 128; decide
  | succ n ih =>
    intro h
    have h1 : 2 ^ m n < 2 ^ 7 := Nat.pow_lt_pow_right (by decide) (h n (by omega))
    exact Nat.or_lt_two_pow (n := 7) (ih (fun k hk => h k (by omega))) h1
theorem stN_tb {m : Nat → Nat} {x : Nat} : ∀ n, (stN m n).testBit x = true ↔ ∃ k, k < n ∧ m k = x := by
  intro n
  induction n with
  | zero => simp [stN]
  | succ n ih =>
    show (stN m n ||| 2 ^ m n).testBit x = true ↔ _
    rw [bit_set, Bool.or_eq_true, ih, decide_eq_true_eq]
    constructor
    · rintro (⟨k, h1, h2⟩ | h)
      · exact ⟨k, by omega, h2⟩
      · exact ⟨n, by omega, h.symm⟩
    · rintro ⟨k, h1, h2⟩
      by_cases e : k = n
      · right; rw [← h2, e]
      · left; exact ⟨k, by omega, h2⟩
theorem q_setOf {S : PS} {P : Nat → Nat} {c : Nat} {Q : Int32 → PS → Prop} (hM : MShape S) (hp : rP S P) (hw : Pwf P) (hc : c < P 1) (hQ : Q (nI (stN (cK P c).2.1 (cK P c).1)) S) : wpX12_setOf S 87 (nI c) Q := by
  have hκ := cK_wf (hw.2.2.2.2.2 c hc) hw.1
  have hc8 : c < 8 := Nat.lt_of_lt_of_le hc hw.2.1
  have hn7 := hκ.1
  have main : ∀ r k, k + r = (cK P c).1 → wpX12_setOf_b4 Q (r + 1) S 87 (nI c) (nI (stN (cK P c).2.1 k)) (nI k) := by
    intro r
    induction r with
    | zero =>
      intro k hk
      have hle : (cK P c).1 ≤ k := by omega
      have hk' : k = (cK P c).1 := by omega
      have h1 : wpX12_of S 87 (nI c) (nI 1) (fun r2 S3 => (r2 ≤ nI k → Q (nI (stN (cK P c).2.1 k)) S3) ∧ (¬ r2 ≤ nI k → pK S3 87 = 11 ∧ wpX12_of S3 87 (nI c) (nI (2 + k)) (fun r5 S6 => wpX12_setOf_b4 Q 0 S6 87 (nI c) (nI (stN (cK P c).2.1 k) ||| (nI 1 <<< (r5 &&& nI 31))) (nI (k + 1))))) := by
        rw [w_of hM hp (by omega)]
        refine ⟨fun _ => by rw [hk']; exact hQ, fun q => ?_⟩
        rw [o_le (by have := hκ.1; show (cK P c).1 < _; omega) (by omega)] at q
        exact absurd hle q
      simp (disch := omega) only [wpX12_setOf_b4, c_1, c_2, c_31, o_add, msk hM, true_and]
      exact h1
    | succ r ih =>
      intro k hk
      have hx := hκ.2.1 k (by omega)
      have hlt := stN_lt (m := (cK P c).2.1) k (fun j hj => hκ.2.1 j (by omega))
      have hle : ¬ (cK P c).1 ≤ k := by omega
      have hn := ih (k + 1) (by omega)
      generalize r + 1 = fu at hn ⊢
      have hn' : wpX12_setOf_b4 Q fu S 87 (nI c) (nI (stN (cK P c).2.1 k ||| 2 ^ (cK P c).2.1 k)) (nI (k + 1)) := hn
      have h1 : wpX12_of S 87 (nI c) (nI 1) (fun r2 S3 => (r2 ≤ nI k → Q (nI (stN (cK P c).2.1 k)) S3) ∧ (¬ r2 ≤ nI k → pK S3 87 = 11 ∧ wpX12_of S3 87 (nI c) (nI (2 + k)) (fun r5 S6 => wpX12_setOf_b4 Q fu S6 87 (nI c) (nI (stN (cK P c).2.1 k) ||| (nI 1 <<< (r5 &&& nI 31))) (nI (k + 1))))) := by
        rw [w_of hM hp (by omega)]
        refine ⟨fun q => ?_, fun _ => ⟨msk hM, ?_⟩⟩
        · rw [o_le (by have := hκ.1; show (cK P c).1 < _; omega) (by omega)] at q
          exact absurd q hle
        · rw [w_of hM hp (by omega)]
          show wpX12_setOf_b4 Q fu S 87 (nI c) (nI (stN (cK P c).2.1 k) ||| (nI 1 <<< (nI ((cK P c).2.1 k) &&& nI 31))) (nI (k + 1))
          rw [o_and31 (by omega), o_shl1 (by omega), o_or]
          exact hn'
      simp (disch := omega) only [wpX12_setOf_b4, c_1, c_2, c_31, o_add, msk hM, true_and]
      exact h1
  have h1 := main (cK P c).1 0 (Nat.zero_add _)
  unfold wpX12_setOf
  exact ⟨_, h1⟩
/-- the constraint's greatest member is x -/
def top (P : Nat → Nat) (c x : Nat) : Prop := stN (cK P c).2.1 (cK P c).1 >>> x = 1
theorem top_mem {P : Nat → Nat} {c x : Nat} (h : top P c x) : ∀ k, k < (cK P c).1 → (cK P c).2.1 k ≤ x := fun k hk => by
  apply Classical.byContradiction
  intro q
  have h1 := (stN_tb (m := (cK P c).2.1) (x := (cK P c).2.1 k) (cK P c).1).mpr ⟨k, hk, rfl⟩
  have h2 : (stN (cK P c).2.1 (cK P c).1 >>> x).testBit ((cK P c).2.1 k - x) = true := by rw [Nat.testBit_shiftRight, show x + ((cK P c).2.1 k - x) = (cK P c).2.1 k by omega]; exact h1
  have h3 : stN (cK P c).2.1 (cK P c).1 >>> x = 1 := h
  rw [h3] at h2
  obtain ⟨j, hj⟩ : ∃ j, (cK P c).2.1 k - x = j + 1 := ⟨(cK P c).2.1 k - x - 1, by omega⟩
  rw [hj, Nat.testBit_succ] at h2
  simp at h2
theorem top_ex {P : Nat → Nat} (hw : Pwf P) {c : Nat} (hc : c < P 1) : ∃ x, x < P 0 ∧ top P c x := by
  have hκ := cK_wf (hw.2.2.2.2.2 c hc) hw.1
  have h0 : 0 < (cK P c).1 := (hw.2.2.2.2.2 c hc).2.1
  have hlt := stN_lt (m := (cK P c).2.1) (cK P c).1 hκ.2.1
  have hne : stN (cK P c).2.1 (cK P c).1 ≠ 0 := fun q => by
    have h1 := (stN_tb (m := (cK P c).2.1) (x := (cK P c).2.1 0) (cK P c).1).mpr ⟨0, h0, rfl⟩
    rw [q] at h1
    simp at h1
  have hd : ∀ s, s < 128 → s ≠ 0 → ∃ x, x < 7 ∧ s >>> x = 1 ∧ s.testBit x = true := by decide +kernel
  obtain ⟨x, h1, h2, h3⟩ := hd _ hlt hne
  obtain ⟨k, hk, e⟩ := (stN_tb _).mp h3
  exact ⟨x, by rw [← e]; exact mK_lt hw hc k hk, h2⟩
theorem q_fits {S : PS} {P a : Nat → Nat} {x : Nat} {Q : Int32 → PS → Prop} (hM : MShape S) (hp : rP S P) (hw : Pwf P) (hx : x < P 0) (ha : ∀ y, a y < 5) (hg : rG S (fun k => k) a (x + 1)) (hQ : ∀ b : Bool, (b = true ↔ ∀ c, c < P 1 → top P c x → (cK P c).2.2 a = true) → Q (bI b) S) : wpX12_fits S 87 (nI x) Q := by
  have hP1 := hw.2.1
  have hP0 := hw.1
  have main : ∀ r i, i + r = P 1 → (∀ c, c < i → top P c x → (cK P c).2.2 a = true) → wpX12_fits_b2 Q (r + 1) S 87 (nI x) (nI i) := by
    intro r
    induction r with
    | zero =>
      intro i hi hall
      have hle : P 1 ≤ i := by omega
      have h1 := hQ true ⟨fun _ c hc => hall c (by omega), fun _ => rfl⟩
      simp (disch := omega) only [wpX12_fits_b2, c_0, c_1, c_2, c_3, c_4, c_5, c_6, c_7, c_8, c_9, c_10, c_11, c_12, c_14, c_16, c_19, c_20, c_24, c_31, c_32, c_35, c_48, c_57, c_59, c_63, c_97, c_100, c_122, c_127, c_169, c_255, c_600, c_1000, c_32767, Nat.le_refl, Nat.zero_le, Nat.add_zero, Nat.lt_irrefl, eq_self, o_sub, Nat.sub_zero, Nat.not_lt_zero, ↓ng_d, o_le, o_lt, o_eq, o_add, o_mul, o_cl, o_inT, o_and, n_31, o_shr, o_shl1, o_or, m_lt, m_ge, m_le, m_gt, m_ne, m_ne2, Option.some.injEq, exists_eq_left', true_and, and_true, true_implies, false_implies, implies_true, not_true_eq_false, not_false_eq_true, bI_0, bI_1, bI_01, b01, true_or, or_true, Nat.reduceEqDiff, Bool.not_eq_false, Bool.not_eq_true, Bool.true_eq_false, Bool.false_eq_true, msk hM, msr_p hM, msk_p hM, msl_p hM, hp 1 (by decide), hle]
      exact h1
    | succ r ih =>
      intro i hi hall
      have hle : ¬ P 1 ≤ i := by omega
      have hil : i < P 1 := by omega
      have hκ := cK_wf (hw.2.2.2.2.2 i hil) hw.1
      have hlt := stN_lt (m := (cK P i).2.1) (cK P i).1 hκ.2.1
      have hn := ih (i + 1) (by omega)
      generalize r + 1 = fu at hn ⊢
      simp (disch := omega) only [wpX12_fits_b2, c_0, c_1, c_2, c_3, c_4, c_5, c_6, c_7, c_8, c_9, c_10, c_11, c_12, c_14, c_16, c_19, c_20, c_24, c_31, c_32, c_35, c_48, c_57, c_59, c_63, c_97, c_100, c_122, c_127, c_169, c_255, c_600, c_1000, c_32767, Nat.le_refl, Nat.zero_le, Nat.add_zero, Nat.lt_irrefl, eq_self, o_sub, Nat.sub_zero, Nat.not_lt_zero, ↓ng_d, o_le, o_lt, o_eq, o_add, o_mul, o_cl, o_inT, o_and, n_31, o_shr, o_shl1, o_or, m_lt, m_ge, m_le, m_gt, m_ne, m_ne2, Option.some.injEq, exists_eq_left', true_and, and_true, true_implies, false_implies, implies_true, not_true_eq_false, not_false_eq_true, bI_0, bI_1, bI_01, b01, true_or, or_true, Nat.reduceEqDiff, Bool.not_eq_false, Bool.not_eq_true, Bool.true_eq_false, Bool.false_eq_true, msk hM, msr_p hM, msk_p hM, msl_p hM, hp 1 (by decide), hle]
      refine q_setOf hM hp hw hil ?_
      have hsl : stN (cK P i).2.1 (cK P i).1 >>> x ≤ stN (cK P i).2.1 (cK P i).1 := Nat.shiftRight_le _ _
      simp (disch := omega) only [c_0, c_1, c_2, c_3, c_4, c_5, c_6, c_7, c_8, c_9, c_10, c_11, c_12, c_14, c_16, c_19, c_20, c_24, c_31, c_32, c_35, c_48, c_57, c_59, c_63, c_97, c_100, c_122, c_127, c_169, c_255, c_600, c_1000, c_32767, Nat.le_refl, Nat.zero_le, Nat.add_zero, Nat.lt_irrefl, eq_self, o_sub, Nat.sub_zero, Nat.not_lt_zero, ↓ng_d, o_le, o_lt, o_eq, o_add, o_mul, o_cl, o_inT, o_and, n_31, o_shr, o_shl1, o_or, m_lt, m_ge, m_le, m_gt, m_ne, m_ne2, Option.some.injEq, exists_eq_left', true_and, and_true, true_implies, false_implies, implies_true, not_true_eq_false, not_false_eq_true, bI_0, bI_1, bI_01, b01, true_or, or_true, Nat.reduceEqDiff, Bool.not_eq_false, Bool.not_eq_true, Bool.true_eq_false, Bool.false_eq_true, msk hM]
      refine ⟨fun q => hn (fun c hc ht => ?_), fun q => ?_⟩
      · by_cases e : c = i
        · subst e; exact absurd ht q
        · exact hall c (by omega) ht
      · have hgc : rG S (cK P i).2.1 a (cK P i).1 := fun k hk => hg _ (by have := top_mem q k hk; omega)
        refine q_fulfils hM hp hw hil (fun k _ => ha _) hgc ?_
        cases hb : (cK P i).2.2 a
        · have h1 := hQ false ⟨fun z => (by cases z), fun z => by rw [z i hil q] at hb; cases hb⟩
          simp only [c_0, c_1, c_2, c_3, c_4, c_5, c_6, c_7, c_8, c_9, c_10, c_11, c_12, c_14, c_16, c_19, c_20, c_24, c_31, c_32, c_35, c_48, c_57, c_59, c_63, c_97, c_100, c_122, c_127, c_169, c_255, c_600, c_1000, c_32767, Nat.le_refl, Nat.zero_le, Nat.add_zero, Nat.lt_irrefl, eq_self, o_sub, Nat.sub_zero, Nat.not_lt_zero, ↓ng_d, o_le, o_lt, o_eq, o_add, o_mul, o_cl, o_inT, o_and, n_31, o_shr, o_shl1, o_or, m_lt, m_ge, m_le, m_gt, m_ne, m_ne2, Option.some.injEq, exists_eq_left', true_and, and_true, true_implies, false_implies, implies_true, not_true_eq_false, not_false_eq_true, bI_0, bI_1, bI_01, b01, true_or, or_true, Nat.reduceEqDiff, Bool.not_eq_false, Bool.not_eq_true, Bool.true_eq_false, Bool.false_eq_true]
          exact h1
        · have h1 := hn (fun c hc ht => by
            by_cases e : c = i
            · subst e; exact hb
            · exact hall c (by omega) ht)
          simp only [c_0, c_1, c_2, c_3, c_4, c_5, c_6, c_7, c_8, c_9, c_10, c_11, c_12, c_14, c_16, c_19, c_20, c_24, c_31, c_32, c_35, c_48, c_57, c_59, c_63, c_97, c_100, c_122, c_127, c_169, c_255, c_600, c_1000, c_32767, Nat.le_refl, Nat.zero_le, Nat.add_zero, Nat.lt_irrefl, eq_self, o_sub, Nat.sub_zero, Nat.not_lt_zero, ↓ng_d, o_le, o_lt, o_eq, o_add, o_mul, o_cl, o_inT, o_and, n_31, o_shr, o_shl1, o_or, m_lt, m_ge, m_le, m_gt, m_ne, m_ne2, Option.some.injEq, exists_eq_left', true_and, and_true, true_implies, false_implies, implies_true, not_true_eq_false, not_false_eq_true, bI_0, bI_1, bI_01, b01, true_or, or_true, Nat.reduceEqDiff, Bool.not_eq_false, Bool.not_eq_true, Bool.true_eq_false, Bool.false_eq_true]
          exact h1
  unfold wpX12_fits
  exact ⟨_, main (P 1) 0 (Nat.zero_add _) (fun c hc => by omega)⟩
/-- what has been met: the first one, the values that came -/
def FM (S : PS) (N cnt : Nat) (F U : Nat → Nat) : Prop := (cnt ≠ 0 → ∀ y, y < N → pI S 102 y = nI (F y)) ∧ (∀ y, y < 7 → pI S 103 y = nI (U y)) ∧ (∀ y, y < 7 → U y < 32) ∧ (∀ y, F y < 5)
theorem q_meets {S : PS} {P a F U : Nat → Nat} {cnt : Nat} {Q : PS → Prop} (hM : MShape S) (hp : rP S P) (hw : Pwf P) (hc : cnt < 100000) (ha : ∀ y, a y < 5) (hg : rG S (fun k => k) a (P 0)) (hF : FM S (P 0) cnt F U) (hQ : ∀ S', fr [102, 103] S S' → FM S' (P 0) (cnt + 1) (fun y => if cnt = 0 then a y else F y) (fun y => if y < P 0 then U y ||| 2 ^ a y else U y) → Q S') : wpX12_meets S 87 (nI cnt) Q := by
  have hP0 := hw.1
  obtain ⟨f1, f2, f3, f4⟩ := hF
  have main : ∀ r x S', x + r = P 0 → fr [102, 103] S S' → (∀ y, y < x → pI S' 102 y = nI (if cnt = 0 then a y else F y)) → (cnt ≠ 0 → ∀ y, x ≤ y → y < P 0 → pI S' 102 y = nI (F y)) → (∀ y, y < 7 → pI S' 103 y = nI (if y < x then U y ||| 2 ^ a y else U y)) → wpX12_meets_b2 Q (r + 1) S' 87 (nI cnt) (nI x) := by
    intro r
    induction r with
    | zero =>
      intro x S' hx hf h1 h2 h3
      have hM' := hf.M hM
      have hp' := hf.P (by decide) hp
      have hle : P 0 ≤ x := by omega
      have hxe : x = P 0 := by omega
      subst hxe
      have h4 := hQ S' hf ⟨fun _ y hy => h1 y hy, fun y hy => h3 y hy, fun y hy => by
        show (if y < P 0 then U y ||| 2 ^ a y else U y) < 32
        split
        · exact dm_or_lt _ (f3 y hy) _ (dm_pow_lt _ (ha y))
        · exact f3 y hy, fun y => by
        show (if cnt = 0 then a y else F y) < 5
        split
        · exact ha y
        · exact f4 y⟩
      simp (disch := omega) only [wpX12_meets_b2, c_0, c_1, c_2, c_3, c_4, c_5, c_6, c_7, c_8, c_9, c_10, c_11, c_12, c_14, c_16, c_19, c_20, c_24, c_31, c_32, c_35, c_48, c_57, c_59, c_63, c_97, c_100, c_122, c_127, c_169, c_255, c_600, c_1000, c_32767, Nat.le_refl, Nat.zero_le, Nat.add_zero, Nat.lt_irrefl, eq_self, o_sub, Nat.sub_zero, Nat.not_lt_zero, ↓ng_d, o_le, o_lt, o_eq, o_add, o_mul, o_cl, o_inT, o_and, n_31, o_shr, o_shl1, o_or, m_lt, m_ge, m_le, m_gt, m_ne, m_ne2, Option.some.injEq, exists_eq_left', true_and, and_true, true_implies, false_implies, implies_true, not_true_eq_false, not_false_eq_true, bI_0, bI_1, bI_01, b01, true_or, or_true, Nat.reduceEqDiff, Bool.not_eq_false, Bool.not_eq_true, Bool.true_eq_false, Bool.false_eq_true, msk hM', msr_p hM', msk_p hM', msl_p hM', hp' 0 (by decide), hle]
      exact h4
    | succ r ih =>
      intro x S' hx hf h1 h2 h3
      have hM' := hf.M hM
      have hp' := hf.P (by decide) hp
      have hle : ¬ P 0 ≤ x := by omega
      have hx7 : x < 7 := by omega
      have hgx : pI S' 101 x = nI (a x) := by rw [hf.I (by decide)]; exact hg x (by omega)
      have h103 : pI S' 103 x = nI (U x) := by rw [h3 x hx7, if_neg (Nat.lt_irrefl _)]
      have hax := ha x
      have hn := ih (x + 1)
      generalize r + 1 = fu at hn ⊢
      have tail : ∀ t2 : Int32, t2 = nI (if cnt = 0 then a x else F x) → wpX12_meets_b36 (wpX12_meets_b2 Q fu) Q S' 87 (nI cnt) (nI x) 102 (nI x) t2 := by
        intro t2 ht2
        have h5 := hn (sI (sI S' 102 x t2) 103 x (nI (U x ||| 2 ^ a x))) (by omega) (fr_t hf (fr_t (fr_sI _ _ _ (by decide)) (fr_sI _ _ _ (by decide)))) (fun y hy => by
          rw [pI_sI, if_neg (fun q => by omega), pI_sI]
          by_cases e : y = x
          · rw [if_pos ⟨rfl, e⟩, ht2, e]
          · rw [if_neg (fun q => e q.2)]; exact h1 y (by omega)) (fun hc0 y q1 q2 => by
          rw [pI_sI, if_neg (fun q => by omega), pI_sI, if_neg (fun q => by omega)]
          exact h2 hc0 y (by omega) q2) (fun y hy => by
          rw [pI_sI]
          by_cases e : y = x
          · rw [if_pos ⟨rfl, e⟩, e, if_pos (Nat.lt_succ_self _)]
          · rw [if_neg (fun q => e q.2), pI_sI, if_neg (fun q => by omega), h3 y hy]
            by_cases z : y < x
            · rw [if_pos z, if_pos (by omega)]
            · rw [if_neg z, if_neg (by omega)])
        have e1 : pI (sI S' 102 x t2) 103 x = nI (U x) := by rw [pI_sI, if_neg (fun q => by omega)]; exact h103
        have e2 : pI (sI S' 102 x t2) 101 x = nI (a x) := by rw [pI_sI, if_neg (fun q => by omega)]; exact hgx
        simp (disch := omega) only [wpX12_meets_b36, c_0, c_1, c_2, c_3, c_4, c_5, c_6, c_7, c_8, c_9, c_10, c_11, c_12, c_14, c_16, c_19, c_20, c_24, c_31, c_32, c_35, c_48, c_57, c_59, c_63, c_97, c_100, c_122, c_127, c_169, c_255, c_600, c_1000, c_32767, Nat.le_refl, Nat.zero_le, Nat.add_zero, Nat.lt_irrefl, eq_self, o_sub, Nat.sub_zero, Nat.not_lt_zero, ↓ng_d, o_le, o_lt, o_eq, o_add, o_mul, o_cl, o_inT, o_and, n_31, o_shr, o_shl1, o_or, m_lt, m_ge, m_le, m_gt, m_ne, m_ne2, Option.some.injEq, exists_eq_left', true_and, and_true, true_implies, false_implies, implies_true, not_true_eq_false, not_false_eq_true, bI_0, bI_1, bI_01, b01, true_or, or_true, Nat.reduceEqDiff, Bool.not_eq_false, Bool.not_eq_true, Bool.true_eq_false, Bool.false_eq_true, msk hM', msk_firstOne hM', msl_firstOne hM', msr_possible hM', msk_possible hM', msl_possible hM', msr_given hM', msk_given hM', msl_given hM', e1, e2]
        exact h5
      by_cases ec : cnt = 0
      · have h5 := tail (nI (a x)) (by rw [if_pos ec])
        simp (disch := omega) only [wpX12_meets_b2, c_0, c_1, c_2, c_3, c_4, c_5, c_6, c_7, c_8, c_9, c_10, c_11, c_12, c_14, c_16, c_19, c_20, c_24, c_31, c_32, c_35, c_48, c_57, c_59, c_63, c_97, c_100, c_122, c_127, c_169, c_255, c_600, c_1000, c_32767, Nat.le_refl, Nat.zero_le, Nat.add_zero, Nat.lt_irrefl, eq_self, o_sub, Nat.sub_zero, Nat.not_lt_zero, ↓ng_d, o_le, o_lt, o_eq, o_add, o_mul, o_cl, o_inT, o_and, n_31, o_shr, o_shl1, o_or, m_lt, m_ge, m_le, m_gt, m_ne, m_ne2, Option.some.injEq, exists_eq_left', true_and, and_true, true_implies, false_implies, implies_true, not_true_eq_false, not_false_eq_true, bI_0, bI_1, bI_01, b01, true_or, or_true, Nat.reduceEqDiff, Bool.not_eq_false, Bool.not_eq_true, Bool.true_eq_false, Bool.false_eq_true, msk hM', msr_p hM', msk_p hM', msl_p hM', hp' 0 (by decide), hle, msr_firstOne hM', msr_given hM', msk_given hM', msl_given hM', hgx]
        refine ⟨fun q => absurd ec q, fun _ => h5⟩
      · have h5 := tail (pI S' 102 x) (by rw [if_neg ec]; exact h2 ec x (Nat.le_refl _) (by omega))
        simp (disch := omega) only [wpX12_meets_b2, c_0, c_1, c_2, c_3, c_4, c_5, c_6, c_7, c_8, c_9, c_10, c_11, c_12, c_14, c_16, c_19, c_20, c_24, c_31, c_32, c_35, c_48, c_57, c_59, c_63, c_97, c_100, c_122, c_127, c_169, c_255, c_600, c_1000, c_32767, Nat.le_refl, Nat.zero_le, Nat.add_zero, Nat.lt_irrefl, eq_self, o_sub, Nat.sub_zero, Nat.not_lt_zero, ↓ng_d, o_le, o_lt, o_eq, o_add, o_mul, o_cl, o_inT, o_and, n_31, o_shr, o_shl1, o_or, m_lt, m_ge, m_le, m_gt, m_ne, m_ne2, Option.some.injEq, exists_eq_left', true_and, and_true, true_implies, false_implies, implies_true, not_true_eq_false, not_false_eq_true, bI_0, bI_1, bI_01, b01, true_or, or_true, Nat.reduceEqDiff, Bool.not_eq_false, Bool.not_eq_true, Bool.true_eq_false, Bool.false_eq_true, msk hM', msr_p hM', msk_p hM', msl_p hM', hp' 0 (by decide), hle, msr_firstOne hM', msk_firstOne hM', msl_firstOne hM', ec]
        exact h5
  unfold wpX12_meets
  exact ⟨_, main (P 0) 0 S (Nat.zero_add _) (fr_r _ _) (fun y hy => by omega) (fun hc0 y _ q2 => f1 hc0 y q2) (fun y hy => by rw [if_neg (Nat.not_lt_zero _)]; exact f2 y hy)⟩
/-- the assignments before a prefix and a value -/
def Bef (x : Nat) (a : Nat → Nat) (u : Nat) (b : Nat → Nat) : Prop := (∃ j, j < x ∧ (∀ i, i < j → b i = a i) ∧ b j < a j) ∨ ((∀ i, i < x → b i = a i) ∧ b x < u)
theorem Bef_d {x w : Nat} {a b : Nat → Nat} : Bef (x + 1) (ud a x w) 0 b ↔ Bef x a w b := by
  constructor
  · rintro (⟨j, h1, h2, h3⟩ | ⟨_, h⟩)
    · by_cases e : j = x
      · subst e
        rw [ud_s] at h3
        exact Or.inr ⟨fun i hi => by rw [h2 i hi, ud_n _ _ (by omega)], h3⟩
      · rw [ud_n _ _ e] at h3
        exact Or.inl ⟨j, by omega, fun i hi => by rw [h2 i hi, ud_n _ _ (by omega)], h3⟩
    · exact absurd h (Nat.not_lt_zero _)
  · rintro (⟨j, h1, h2, h3⟩ | ⟨h1, h2⟩)
    · exact Or.inl ⟨j, by omega, fun i hi => by rw [h2 i hi, ud_n _ _ (by omega)], by rw [ud_n _ _ (by omega)]; exact h3⟩
    · exact Or.inl ⟨x, by omega, fun i hi => by rw [h1 i hi, ud_n _ _ (by omega)], by rw [ud_s]; exact h2⟩
theorem Bef_s {x w : Nat} {a b : Nat → Nat} : Bef x a (w + 1) b ↔ Bef x a w b ∨ ((∀ i, i < x → b i = a i) ∧ b x = w) := by
  constructor
  · rintro (h | ⟨h1, h2⟩)
    · exact Or.inl (Or.inl h)
    · by_cases e : b x = w
      · exact Or.inr ⟨h1, e⟩
      · exact Or.inl (Or.inr ⟨h1, by omega⟩)
  · rintro ((h | ⟨h1, h2⟩) | ⟨h1, h2⟩)
    · exact Or.inl h
    · exact Or.inr ⟨h1, by omega⟩
    · exact Or.inr ⟨h1, by omega⟩
theorem Bef_u {x w : Nat} {a b : Nat → Nat} (hb : b (x + 1) < 5) : Bef (x + 1) (ud a x w) 5 b ↔ Bef x a (w + 1) b := by
  have hd := Bef_d (x := x) (w := w) (a := a) (b := b)
  constructor
  · intro h
    rcases h with h | h
    · exact Bef_s.mpr (Or.inl (hd.mp (Or.inl h)))
    · refine Bef_s.mpr (Or.inr ⟨fun i hi => ?_, ?_⟩)
      · rw [h.1 i (by omega), ud_n _ _ (by omega)]
      · rw [h.1 x (by omega), ud_s]
  · intro h
    rcases Bef_s.mp h with h | h
    · rcases hd.mpr h with h | h
      · exact Or.inl h
      · exact absurd h.2 (Nat.not_lt_zero _)
    · refine Or.inr ⟨fun i hi => ?_, hb⟩
      by_cases e : i = x
      · rw [e, ud_s]; exact h.2
      · rw [ud_n _ _ e]; exact h.1 i (by omega)
/-- what has been met are the solutions of X -/
def Acc (P d : Nat → Nat) (X : (Nat → Nat) → Prop) (cnt : Nat) (F U : Nat → Nat) : Prop := (cnt = 0 ↔ ¬ ∃ b, Ful (sK P) d b ∧ X b) ∧ (cnt ≠ 0 → (∃ b, Ful (sK P) d b ∧ X b ∧ agr (sK P) F b) ∧ ∀ b, Ful (sK P) d b → X b → agr (sK P) F b ∨ lexlt (sK P) F b) ∧ ∀ y, y < P 0 → ∀ v, v < 5 → ((U y).testBit v = true ↔ ∃ b, Ful (sK P) d b ∧ X b ∧ b y = v)
theorem Acc_cg {P d : Nat → Nat} {X Y : (Nat → Nat) → Prop} {cnt : Nat} {F U : Nat → Nat} (h : ∀ b, Ful (sK P) d b → (X b ↔ Y b)) (hA : Acc P d X cnt F U) : Acc P d Y cnt F U := by
  obtain ⟨a1, a2, a3⟩ := hA
  refine ⟨?_, fun q => ⟨?_, fun b hb hy => (a2 q).2 b hb ((h b hb).mpr hy)⟩, fun y hy v hv => ?_⟩
  · rw [a1]
    exact ⟨fun q ⟨b, hb, hy⟩ => q ⟨b, hb, (h b hb).mpr hy⟩, fun q ⟨b, hb, hx⟩ => q ⟨b, hb, (h b hb).mp hx⟩⟩
  · obtain ⟨b, hb, hx, hag⟩ := (a2 q).1
    exact ⟨b, hb, (h b hb).mp hx, hag⟩
  · rw [a3 y hy v hv]
    exact ⟨fun ⟨b, hb, hx, e⟩ => ⟨b, hb, (h b hb).mp hx, e⟩, fun ⟨b, hb, hy, e⟩ => ⟨b, hb, (h b hb).mpr hy, e⟩⟩

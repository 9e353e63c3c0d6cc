/-! REPORTS: the reference -/
theorem w_inN {S : PS} {w B : Nat} {Q : Int32 → PS → Prop} (hw : w < B + 1) (hB : B < 1000) : wpX12_isIn S (nI w) (nI 0) (nI B) Q = Q (nI 1) S := by
  have h0 : ¬ nI w < nI 0 := by
    rw [o_lt (by omega) (by omega)]
    omega
  have h1 : ¬ nI B < nI w := by
    rw [o_lt (by omega) (by omega)]
    omega
  unfold wpX12_isIn
  rw [c_0, c_1]
  simp only [h0, h1, not_false_eq_true, true_implies, false_implies, true_and]
theorem w_inN0 {S : PS} {v : Int32} {B : Nat} {Q : Int32 → PS → Prop} (hB : B < 1000) (h : v < nI 0 ∨ nI (B + 1) ≤ v) : wpX12_isIn S v (nI 0) (nI B) Q = Q (nI 0) S := by
  unfold wpX12_isIn
  rw [c_0]
  by_cases h1 : v < nI 0
  · simp only [h1, not_true_eq_false, true_implies, false_implies, and_true]
  · have h2 : nI B < v := by
      have h3 := h.resolve_left h1
      rw [Int32.le_iff_toInt_le, nI_toInt (by omega)] at h3
      rw [Int32.lt_iff_toInt_lt, nI_toInt (by omega)]
      omega
    simp only [h1, h2, not_true_eq_false, not_false_eq_true, true_implies, false_implies, and_true, true_and]
theorem w_inL {S : PS} {w N : Nat} {Q : Int32 → PS → Prop} (hw : w < N) (hN : N < 1000) : wpX12_isIn S (nI w) (nI 0) (nI N - nI 1) Q = Q (nI 1) S := by
  rw [o_sub (by omega)]
  exact w_inN (by omega) (by omega)
theorem w_inL0 {S : PS} {v : Int32} {N : Nat} {Q : Int32 → PS → Prop} (hN : N < 1000) (h : v < nI 0 ∨ nI N ≤ v) : wpX12_isIn S v (nI 0) (nI N - nI 1) Q = Q (nI 0) S := by
  by_cases z : N = 0
  · rw [z, show nI 0 - nI 1 = ngI by decide]
    unfold wpX12_isIn
    rw [c_0]
    by_cases h1 : v < nI 0
    · simp only [h1, not_true_eq_false, true_implies, false_implies, and_true]
    · have h2 : ngI < v := by
        have h3 := h.resolve_left h1
        rw [z, Int32.le_iff_toInt_le, nI_toInt (by decide)] at h3
        rw [Int32.lt_iff_toInt_lt]
        have : ngI.toInt = -1 := rfl
        omega
      simp only [h1, h2, not_true_eq_false, not_false_eq_true, true_implies, false_implies, and_true, true_and]
  · rw [o_sub (by omega)]
    exact w_inN0 (by omega) (by rw [show N - 1 + 1 = N by omega]; exact h)
theorem q_mfixed {S : PS} {P d : Nat → Nat} {Q : Int32 → PS → Prop} (hM : MShape S) (hp : rP S P) (hw : Pwf P) (hd : rD S 90 d) (hQ : Q (nI (cN (fun x => decide (pcn 5 (d x) = 1)) (P 0))) S) : wpX12_fixed S 87 Q := by
  have hP0 := hw.1
  have loop : ∀ r k, k + r = P 0 → wpX12_fixed_b4 Q (r + 1) S 87 (nI (cN (fun x => decide (pcn 5 (d x) = 1)) k)) (nI k) := by
    intro r
    induction r with
    | zero =>
      intro k hk
      have hle : P 0 ≤ k := by omega
      have e : k = P 0 := by omega
      have h1 := hQ
      rw [← e] at h1
      simp (disch := omega) only [wpX12_fixed_b4, c_0, c_1, c_2, c_3, c_4, c_5, c_6, c_7, c_8, c_9, c_10, c_11, c_12, c_14, c_16, c_19, c_20, c_24, c_31, c_32, c_35, c_48, c_57, c_59, c_63, c_97, c_100, c_122, c_127, c_169, c_255, c_600, c_1000, c_32767, Nat.le_refl, Nat.zero_le, Nat.add_zero, Nat.lt_irrefl, eq_self, o_sub, Nat.sub_zero, Nat.not_lt_zero, ↓ng_d, o_le, o_lt, o_eq, o_add, o_mul, o_cl, o_inT, o_and, n_31, o_shr, o_shl1, o_or, m_lt, m_ge, m_le, m_gt, m_ne, m_ne2, Option.some.injEq, exists_eq_left', true_and, and_true, true_implies, false_implies, implies_true, not_true_eq_false, not_false_eq_true, bI_0, bI_1, bI_01, b01, true_or, or_true, Nat.reduceEqDiff, Bool.not_eq_false, Bool.not_eq_true, Bool.true_eq_false, Bool.false_eq_true, msk hM, msr_p hM, msk_p hM, msl_p hM, hp 0 (by decide), hle]
      exact h1
    | succ r ih =>
      intro k hk
      have hle : ¬ P 0 ≤ k := by omega
      have hk7 : k < 7 := by omega
      have hn := ih (k + 1) (by omega)
      generalize r + 1 = fu at hn ⊢
      have main : wpX12_sizeOf S (nI (d k)) (fun r8 S9 => ((¬ r8 = nI 1 → (wpX12_fixed_b4 Q fu S9 87 (nI (cN (fun x => decide (pcn 5 (d x) = 1)) k)) (nI (k + 1)))) ∧ (r8 = nI 1 → (wpX12_fixed_b4 Q fu S9 87 (nI (cN (fun x => decide (pcn 5 (d x) = 1)) k + 1)) (nI (k + 1)))))) := by
        refine q_sizeOf (k := 5) (by decide) (hd.2.2.2 k hk7) ?_
        have hpc := pcn_le 5 (d k)
        rw [o_eq (by omega) (by omega)]
        rw [cN_s] at hn
        refine ⟨fun z => ?_, fun z => ?_⟩
        · rw [if_neg (fun z2 => z (of_decide_eq_true z2)), Nat.add_zero] at hn
          exact hn
        · rw [if_pos (decide_eq_true z)] at hn
          exact hn
      simp (disch := omega) only [wpX12_fixed_b4, c_0, c_1, c_2, c_3, c_4, c_5, c_6, c_7, c_8, c_9, c_10, c_11, c_12, c_14, c_16, c_19, c_20, c_24, c_31, c_32, c_35, c_48, c_57, c_59, c_63, c_97, c_100, c_122, c_127, c_169, c_255, c_600, c_1000, c_32767, Nat.le_refl, Nat.zero_le, Nat.add_zero, Nat.lt_irrefl, eq_self, o_sub, Nat.sub_zero, Nat.not_lt_zero, ↓ng_d, o_le, o_lt, o_eq, o_add, o_mul, o_cl, o_inT, o_and, n_31, o_shr, o_shl1, o_or, m_lt, m_ge, m_le, m_gt, m_ne, m_ne2, Option.some.injEq, exists_eq_left', true_and, and_true, true_implies, false_implies, implies_true, not_true_eq_false, not_false_eq_true, bI_0, bI_1, bI_01, b01, true_or, or_true, Nat.reduceEqDiff, Bool.not_eq_false, Bool.not_eq_true, Bool.true_eq_false, Bool.false_eq_true, msk hM, msr_p hM, msk_p hM, msl_p hM, msr_domain hM, msk_domain hM, msl_domain hM, hp 0 (by decide), hd.2.2.1 k hk7, hle]
      exact main
  exact ⟨_, loop (P 0) 0 (Nat.zero_add _)⟩
theorem m_report {S : PS} {P : Nat → Nat} {l n : Nat} {ss : List Nat} {σ : St} {x : Int32} {Q : Int32 → PS → Prop} (hM : MShape S) (hp : rP S P) (hw : Pwf P) (hd : rD S 90 σ.1) (hT : rT S σ.2) (hss : rSS S ss) (h8 : pI S 87 8 = nI l) (h10 : pI S 87 10 = nI n) (h11 : pI S 87 11 = bI (fl (P 0) σ.1))
    (hQ : ∀ S' k, mf [] [0] S S' → pI S' 87 0 = nI 0 → k < 8 → x = nI k → Q (nI (repA P l σ ss.length n k)) S')
    (hX : ∀ S', mf [] [0] S S' → pI S' 87 0 = nI 1 → (x < nI 0 ∨ nI 8 ≤ x) → Q (nI 0) S') : wpX12_report S 87 x Q := by
  have hP0 := hw.1
  have hf : mf [] [0] S (sI S 87 0 (nI 0)) := mf_sI _ _ (by decide)
  have h0 : pI (sI S 87 0 (nI 0)) 87 0 = nI 0 := by rw [pI_sI, if_pos ⟨rfl, rfl⟩]
  have hM1 := hf.M hM
  have hp1 := hf.P (by decide) hp
  have hd1 := hf.D (by decide) hd
  unfold wpX12_report
  rw [c_0, c_1, c_2, c_3, c_4, c_5, c_6, c_7]
  refine ⟨msk hM, ?_⟩
  rcases i_split x (N := 8) (by decide) with ⟨k, hk, rfl⟩ | hx
  · rw [w_inN (B := 7) hk (by decide)]
    refine ⟨msk hM1, ?_⟩
    rw [w_may1 hM1 h0]
    have i0 : vp_in (nI 0) (pL (sI S 87 0 (nI 0)) 88) := by
      rw [msl_p hM1, o_inT (by decide) (by decide)]
      trivial
    have i1 : vp_in (nI 1) (pL (sI S 87 0 (nI 0)) 88) := by
      rw [msl_p hM1, o_inT (by decide) (by decide)]
      trivial
    refine ⟨fun _ => ⟨fun e => ⟨msk hM1, 88, msr_p hM1, msk_p hM1, i0, ?_⟩, fun e => ⟨msk hM1, 88, msr_p hM1, msk_p hM1, i1, ?_⟩, fun e => ⟨msk hM1, ?_⟩, fun e => ⟨msk hM1, ?_⟩, fun e => ⟨msk hM1, ?_⟩, fun e => ⟨msk hM1, ?_⟩, fun e => ⟨msk hM1, ?_⟩, fun e => ⟨msk hM1, ?_⟩⟩, fun z => absurd z (by decide)⟩
    · rw [o_cl (by decide), hp1 0 (by decide)]
      exact hQ _ 0 hf h0 (by decide) e
    · rw [o_cl (by decide), hp1 1 (by decide)]
      exact hQ _ 1 hf h0 (by decide) e
    · rw [hf.F (by decide), h8]
      exact hQ _ 2 hf h0 (by decide) e
    · rw [hf.F (by decide), hT.1]
      exact hQ _ 3 hf h0 (by decide) e
    · rw [hf.F (by decide), hss.1]
      exact hQ _ 4 hf h0 (by decide) e
    · rw [hf.F (by decide), h11]
      have h1 := hQ _ 5 hf h0 (by decide) e
      unfold repA at h1
      cases hb : fl (P 0) σ.1
      · rw [hb] at h1
        exact ⟨fun _ => h1, fun z => absurd rfl z⟩
      · rw [hb] at h1
        exact ⟨fun z => absurd z (by decide), fun _ => h1⟩
    · exact q_mfixed hM1 hp1 hw hd1 (hQ _ 6 hf h0 (by decide) e)
    · rw [hf.F (by decide), h10]
      refine hQ _ 7 hf h0 (by decide) ?_
      obtain ⟨n0, n1, n2, n3, n4, n5, n6⟩ := e
      rcases lt8 hk with z | z | z | z | z | z | z | z
      · exact absurd (by rw [z]) n0
      · exact absurd (by rw [z]) n1
      · exact absurd (by rw [z]) n2
      · exact absurd (by rw [z]) n3
      · exact absurd (by rw [z]) n4
      · exact absurd (by rw [z]) n5
      · exact absurd (by rw [z]) n6
      · rw [z]
  · rw [w_inN0 (B := 7) (by decide) hx]
    refine ⟨msk hM1, ?_⟩
    rw [w_may0 hM1 (by decide) (by decide) h0]
    have h1 := hX (sI (sI S 87 0 (nI 0)) 87 0 (nI 1)) (mf_t hf (mf_sI _ _ (by decide))) (by rw [pI_sI, if_pos ⟨rfl, rfl⟩]) hx
    exact ⟨fun z => absurd rfl z, fun _ => h1⟩
theorem m_domain {S : PS} {P d : Nat → Nat} {x : Int32} {Q : Int32 → PS → Prop} (hM : MShape S) (hp : rP S P) (hw : Pwf P) (hd : rD S 90 d)
    (hQ : ∀ S' k, mf [] [0] S S' → pI S' 87 0 = nI 0 → k < P 0 → x = nI k → Q (nI (d k)) S')
    (hX : ∀ S', mf [] [0] S S' → pI S' 87 0 = nI 1 → (x < nI 0 ∨ nI (P 0) ≤ x) → Q (nI 0) S') : wpX12_domain S 87 x Q := by
  have hP0 := hw.1
  have hf : mf [] [0] S (sI S 87 0 (nI 0)) := mf_sI _ _ (by decide)
  have h0 : pI (sI S 87 0 (nI 0)) 87 0 = nI 0 := by rw [pI_sI, if_pos ⟨rfl, rfl⟩]
  have hM1 := hf.M hM
  have hp1 := hf.P (by decide) hp
  have hd1 := hf.D (by decide) hd
  unfold wpX12_domain
  rw [c_0, c_1]
  refine ⟨msk hM, ?_⟩
  rcases i_split x (N := P 0) (by omega) with ⟨k, hk, rfl⟩ | hx
  · rw [w_mvar hM1 hp1 hw hk]
    refine ⟨msk hM1, ?_⟩
    rw [w_may1 hM1 h0]
    refine ⟨fun z => absurd z (by decide), fun _ => ⟨msk hM1, 90, msr_domain hM1, msk_domain hM1, ?_, ?_⟩⟩
    · rw [msl_domain hM1, o_inT (by omega) (by omega)]
      trivial
    · rw [o_cl (by omega), hd1.2.2.1 k (by omega)]
      exact hQ _ k hf h0 hk rfl
  · rw [w_mvar0 hM1 hp1 hw hx]
    refine ⟨msk hM1, ?_⟩
    rw [w_may0 hM1 (by decide) (by decide) h0]
    have h1 := hX (sI (sI S 87 0 (nI 0)) 87 0 (nI 1)) (mf_t hf (mf_sI _ _ (by decide))) (by rw [pI_sI, if_pos ⟨rfl, rfl⟩]) hx
    exact ⟨fun _ => h1, fun z => absurd rfl z⟩
theorem q_mfacts {S : PS} {T : List FT} {r : Int32} {Q : Int32 → PS → Prop} (hM : MShape S) (hT : rT S T) (hQ : Q (nI (cN (fun i => decide ((fG T i).2.2.1 = r)) T.length)) S) : wpX12_factsBy S 87 r Q := by
  obtain ⟨t1, t2, t3⟩ := hT
  have loop : ∀ q i, i + q = T.length → wpX12_factsBy_b4 Q (q + 1) S 87 r (nI (cN (fun i => decide ((fG T i).2.2.1 = r)) i)) (nI i) := by
    intro q
    induction q with
    | zero =>
      intro i hi
      have hle : T.length ≤ i := by omega
      have e : i = T.length := by omega
      have h1 := hQ
      rw [← e] at h1
      simp (disch := omega) only [wpX12_factsBy_b4, c_0, c_1, c_2, c_3, c_4, c_5, c_6, c_7, c_8, c_9, c_10, c_11, c_12, c_14, c_16, c_19, c_20, c_24, c_31, c_32, c_35, c_48, c_57, c_59, c_63, c_97, c_100, c_122, c_127, c_169, c_255, c_600, c_1000, c_32767, Nat.le_refl, Nat.zero_le, Nat.add_zero, Nat.lt_irrefl, eq_self, o_sub, Nat.sub_zero, Nat.not_lt_zero, ↓ng_d, o_le, o_lt, o_eq, o_add, o_mul, o_cl, o_inT, o_and, n_31, o_shr, o_shl1, o_or, m_lt, m_ge, m_le, m_gt, m_ne, m_ne2, Option.some.injEq, exists_eq_left', true_and, and_true, true_implies, false_implies, implies_true, not_true_eq_false, not_false_eq_true, bI_0, bI_1, bI_01, b01, true_or, or_true, Nat.reduceEqDiff, Bool.not_eq_false, Bool.not_eq_true, Bool.true_eq_false, Bool.false_eq_true, msk hM, t1, hle]
      exact h1
    | succ q ih =>
      intro i hi
      have hle : ¬ T.length ≤ i := by omega
      have hn := ih (i + 1) (by omega)
      generalize q + 1 = fu at hn ⊢
      have hr := (t3 i (by omega)).2.2.1
      have main : (¬ (fG T i).2.2.1 = r → (wpX12_factsBy_b4 Q fu S 87 r (nI (cN (fun i => decide ((fG T i).2.2.1 = r)) i)) (nI (i + 1)))) ∧ ((fG T i).2.2.1 = r → (wpX12_factsBy_b4 Q fu S 87 r (nI (cN (fun i => decide ((fG T i).2.2.1 = r)) i + 1)) (nI (i + 1)))) := by
        rw [cN_s] at hn
        refine ⟨fun z => ?_, fun z => ?_⟩
        · rw [if_neg (fun z2 => z (of_decide_eq_true z2)), Nat.add_zero] at hn
          exact hn
        · rw [if_pos (decide_eq_true z)] at hn
          exact hn
      simp (disch := omega) only [wpX12_factsBy_b4, c_0, c_1, c_2, c_3, c_4, c_5, c_6, c_7, c_8, c_9, c_10, c_11, c_12, c_14, c_16, c_19, c_20, c_24, c_31, c_32, c_35, c_48, c_57, c_59, c_63, c_97, c_100, c_122, c_127, c_169, c_255, c_600, c_1000, c_32767, Nat.le_refl, Nat.zero_le, Nat.add_zero, Nat.lt_irrefl, eq_self, o_sub, Nat.sub_zero, Nat.not_lt_zero, ↓ng_d, o_le, o_lt, o_eq, o_add, o_mul, o_cl, o_inT, o_and, n_31, o_shr, o_shl1, o_or, m_lt, m_ge, m_le, m_gt, m_ne, m_ne2, Option.some.injEq, exists_eq_left', true_and, and_true, true_implies, false_implies, implies_true, not_true_eq_false, not_false_eq_true, bI_0, bI_1, bI_01, b01, true_or, or_true, Nat.reduceEqDiff, Bool.not_eq_false, Bool.not_eq_true, Bool.true_eq_false, Bool.false_eq_true, msk hM, msr_facts hM, msk_facts hM, msl_facts hM, t1, hr, hle]
      exact main
  exact ⟨_, loop _ 0 (Nat.zero_add _)⟩
theorem m_constraint {S : PS} {P : Nat → Nat} {σ : St} {c x : Int32} {Q : Int32 → PS → Prop} (hM : MShape S) (hp : rP S P) (hw : Pwf P) (hT : rT S σ.2)
    (hQ : ∀ S' k j, mf [] [0] S S' → pI S' 87 0 = nI 0 → k < P 1 → c = nI k → j < 4 → x = nI j → Q (nI (conA P σ k j)) S')
    (hX : ∀ S', mf [] [0] S S' → pI S' 87 0 = nI 1 → (c < nI 0 ∨ nI (P 1) ≤ c) → Q (nI 0) S')
    (hX2 : ∀ S' k, mf [] [0] S S' → pI S' 87 0 = nI 2 → k < P 1 → c = nI k → (x < nI 0 ∨ nI 4 ≤ x) → Q (nI 0) S') : wpX12_constraint_ S 87 c x Q := by
  have hP0 := hw.1
  have hP1 := hw.2.1
  have hf : mf [] [0] S (sI S 87 0 (nI 0)) := mf_sI _ _ (by decide)
  have h0 : pI (sI S 87 0 (nI 0)) 87 0 = nI 0 := by rw [pI_sI, if_pos ⟨rfl, rfl⟩]
  have hM1 := hf.M hM
  have hp1 := hf.P (by decide) hp
  have hT1 := hf.T (by decide) (by decide) hT
  unfold wpX12_constraint_
  rw [c_0, c_1, c_2, c_3]
  refine ⟨msk hM, q_mcon hM1 hp1 hw (fun k hk ec => ⟨msk hM1, ?_⟩) (fun hno => ⟨msk hM1, ?_⟩)⟩
  · rw [w_may1 hM1 h0]
    refine ⟨fun z => absurd z (by decide), fun _ => ?_⟩
    subst ec
    rcases i_split x (N := 4) (by decide) with ⟨j, hj, rfl⟩ | hx
    · rw [w_inN (B := 3) hj (by decide)]
      refine ⟨msk hM1, ?_⟩
      rw [w_may1 hM1 h0]
      refine ⟨fun _ => ⟨fun z2 => ⟨fun z => ⟨msk hM1, ?_⟩, fun z => ⟨msk hM1, ?_⟩⟩, fun z => ⟨msk hM1, ?_⟩⟩, fun z => absurd z (by decide)⟩
      · rw [o_le (by omega) (by omega)] at z2
        rw [o_eq (by omega) (by omega)] at z
        have e : j = 3 := by omega
        subst e
        exact q_mfacts hM1 hT1 (hQ _ k 3 hf h0 hk rfl hj rfl)
      · rw [o_eq (by omega) (by omega)] at z
        subst z
        exact q_setOf hM1 hp1 hw hk (hQ _ k 2 hf h0 hk rfl hj rfl)
      · rw [o_le (by omega) (by omega)] at z
        rw [w_of hM1 hp1 (by omega)]
        have h1 := hQ _ k j hf h0 hk rfl hj rfl
        have e : j = 0 ∨ j = 1 := by omega
        rcases e with e | e
        · subst e
          exact h1
        · subst e
          exact h1
    · rw [w_inN0 (B := 3) (by decide) hx]
      refine ⟨msk hM1, ?_⟩
      rw [w_may0 hM1 (by decide) (by decide) h0]
      have h1 := hX2 (sI (sI S 87 0 (nI 0)) 87 0 (nI 2)) k (mf_t hf (mf_sI _ _ (by decide))) (by rw [pI_sI, if_pos ⟨rfl, rfl⟩]) hk rfl hx
      exact ⟨fun z => absurd rfl z, fun _ => h1⟩
  · rw [w_may0 hM1 (by decide) (by decide) h0]
    have h1 := hX (sI (sI S 87 0 (nI 0)) 87 0 (nI 1)) (mf_t hf (mf_sI _ _ (by decide))) (by rw [pI_sI, if_pos ⟨rfl, rfl⟩]) hno
    exact ⟨fun _ => h1, fun z => absurd rfl z⟩
theorem w_isFact {S : PS} {T : List FT} {i : Nat} {Q : Int32 → PS → Prop} (hM : MShape S) (hT : rT S T) (hi : i < T.length) : wpX12_isFact S 87 (nI i) Q = Q (nI 1) S := by
  have t2 := hT.2.1
  unfold wpX12_isFact
  rw [c_0, c_1, hT.1, w_inL hi (by omega)]
  exact propext ⟨fun q => q.2.2, fun q => ⟨msk hM, Or.inr rfl, q⟩⟩
theorem w_isFact0 {S : PS} {T : List FT} {x : Int32} {Q : Int32 → PS → Prop} (hM : MShape S) (hT : rT S T) (hx : x < nI 0 ∨ nI T.length ≤ x) : wpX12_isFact S 87 x Q = Q (nI 0) S := by
  have t2 := hT.2.1
  unfold wpX12_isFact
  rw [c_0, c_1, hT.1, w_inL0 (by omega) hx]
  exact propext ⟨fun q => q.2.2, fun q => ⟨msk hM, Or.inl rfl, q⟩⟩
theorem m_fact {S : PS} {T : List FT} {c x : Int32} {Q : Int32 → PS → Prop} (hM : MShape S) (hT : rT S T)
    (hQ : ∀ S' i j, mf [] [0] S S' → pI S' 87 0 = nI 0 → i < T.length → c = nI i → j < 4 → x = nI j → Q (facA (fG T i) j) S')
    (hX : ∀ S', mf [] [0] S S' → pI S' 87 0 = nI 1 → (c < nI 0 ∨ nI T.length ≤ c) → Q (nI 0) S')
    (hX2 : ∀ S' i, mf [] [0] S S' → pI S' 87 0 = nI 2 → i < T.length → c = nI i → (x < nI 0 ∨ nI 4 ≤ x) → Q (nI 0) S') : wpX12_fact S 87 c x Q := by
  have t2 := hT.2.1
  have hf : mf [] [0] S (sI S 87 0 (nI 0)) := mf_sI _ _ (by decide)
  have h0 : pI (sI S 87 0 (nI 0)) 87 0 = nI 0 := by rw [pI_sI, if_pos ⟨rfl, rfl⟩]
  have hM1 := hf.M hM
  have hT1 := hf.T (by decide) (by decide) hT
  unfold wpX12_fact
  rw [c_0, c_1, c_2, c_3, c_5]
  refine ⟨msk hM, ?_⟩
  rcases i_split c (N := T.length) (by omega) with ⟨i, hi, rfl⟩ | hcn
  · rw [w_isFact hM1 hT1 hi]
    refine ⟨msk hM1, ?_⟩
    rw [w_may1 hM1 h0]
    refine ⟨fun z => absurd z (by decide), fun _ => ?_⟩
    rcases i_split x (N := 4) (by decide) with ⟨j, hj, rfl⟩ | hx
    · rw [w_inN (B := 3) hj (by decide)]
      refine ⟨msk hM1, ?_⟩
      rw [w_may1 hM1 h0]
      refine ⟨fun z => absurd z (by decide), fun _ => ⟨msk hM1, 91, msr_facts hM1, msk_facts hM1, ?_, ?_⟩⟩
      · rw [msl_facts hM1, o_mul, o_add, o_inT (by omega) (by omega)]
        trivial
      · rw [o_mul, o_add, o_cl (by omega)]
        have h1 := hQ _ i j hf h0 hi rfl hj rfl
        obtain ⟨f0, f1, f2, f3, _⟩ := hT1.2.2 i hi
        rcases lt4 hj with z | z | z | z
        · subst z
          rw [Nat.add_zero, f0]
          exact h1
        · subst z
          rw [f1]
          exact h1
        · subst z
          rw [f2]
          exact h1
        · subst z
          rw [f3]
          exact h1
    · rw [w_inN0 (B := 3) (by decide) hx]
      refine ⟨msk hM1, ?_⟩
      rw [w_may0 hM1 (by decide) (by decide) h0]
      have h1 := hX2 (sI (sI S 87 0 (nI 0)) 87 0 (nI 2)) i (mf_t hf (mf_sI _ _ (by decide))) (by rw [pI_sI, if_pos ⟨rfl, rfl⟩]) hi rfl hx
      exact ⟨fun _ => h1, fun z => absurd rfl z⟩
  · rw [w_isFact0 hM1 hT1 hcn]
    refine ⟨msk hM1, ?_⟩
    rw [w_may0 hM1 (by decide) (by decide) h0]
    have h1 := hX (sI (sI S 87 0 (nI 0)) 87 0 (nI 1)) (mf_t hf (mf_sI _ _ (by decide))) (by rw [pI_sI, if_pos ⟨rfl, rfl⟩]) hcn
    exact ⟨fun _ => h1, fun z => absurd rfl z⟩
/-- the trail's variables and values are small -/
def Tsm (T : List FT) : Prop := ∀ i, i < T.length → (fG T i).1 < 7 ∧ (fG T i).2.1 < 5
theorem m_factOf {S : PS} {P : Nat → Nat} {T : List FT} {x v : Int32} {Q : Int32 → PS → Prop} (hM : MShape S) (hp : rP S P) (hw : Pwf P) (hT : rT S T) (hsm : Tsm T)
    (hQ : ∀ S' y w i, mf [] [0] S S' → pI S' 87 0 = nI 0 → y < P 0 → x = nI y → w < 5 → v = nI w → i < T.length → ((fG T i).1 = y ∧ (fG T i).2.1 = w) → (∀ j, j < i → ¬ ((fG T j).1 = y ∧ (fG T j).2.1 = w)) → Q (nI i) S')
    (hX : ∀ S', mf [] [0] S S' → pI S' 87 0 = nI 1 → (x < nI 0 ∨ nI (P 0) ≤ x) → Q (nI 0) S')
    (hX2 : ∀ S' y, mf [] [0] S S' → pI S' 87 0 = nI 2 → y < P 0 → x = nI y → (v < nI 0 ∨ nI 5 ≤ v) → Q (nI 0) S')
    (hX3 : ∀ S' y w, mf [] [0] S S' → pI S' 87 0 = nI 3 → y < P 0 → x = nI y → w < 5 → v = nI w → (∀ j, j < T.length → ¬ ((fG T j).1 = y ∧ (fG T j).2.1 = w)) → Q (nI 0) S') : wpX12_factOf S 87 x v Q := by
  have hP0 := hw.1
  have t2 := hT.2.1
  have hf : mf [] [0] S (sI S 87 0 (nI 0)) := mf_sI _ _ (by decide)
  have h0 : pI (sI S 87 0 (nI 0)) 87 0 = nI 0 := by rw [pI_sI, if_pos ⟨rfl, rfl⟩]
  have hM1 := hf.M hM
  have hp1 := hf.P (by decide) hp
  have hT1 := hf.T (by decide) (by decide) hT
  unfold wpX12_factOf
  rw [c_0, c_1, c_2, c_4]
  refine ⟨msk hM, ?_⟩
  rcases i_split x (N := P 0) (by omega) with ⟨y, hy, rfl⟩ | hx
  · rw [w_mvar hM1 hp1 hw hy]
    refine ⟨msk hM1, ?_⟩
    rw [w_may1 hM1 h0]
    refine ⟨fun z => absurd z (by decide), fun _ => ?_⟩
    rcases i_split v (N := 5) (by decide) with ⟨w, hw5, rfl⟩ | hv
    · rw [w_inN (B := 4) hw5 (by decide)]
      refine ⟨msk hM1, ?_⟩
      rw [w_may1 hM1 h0]
      refine ⟨fun _ => ?_, fun z => absurd z (by decide)⟩
      generalize hS1 : sI S 87 0 (nI 0) = S1 at hf h0 hM1 hp1 hT1
      obtain ⟨u1, u2, u3⟩ := hT1
      have loop : ∀ q i, i + q = T.length → (∀ j, j < i → ¬ ((fG T j).1 = y ∧ (fG T j).2.1 = w)) → wpX12_factOf_b36 Q (q + 1) S1 87 (nI y) (nI w) (nI i) := by
        intro q
        induction q with
        | zero =>
          intro i hi hno
          have hle : T.length ≤ i := by omega
          have e : i = T.length := by omega
          rw [e] at hno
          have h1 := hX3 (sI S1 87 0 (nI 3)) y w (mf_t hf (mf_sI _ _ (by decide))) (by rw [pI_sI, if_pos ⟨rfl, rfl⟩]) hy rfl hw5 rfl hno
          simp (disch := omega) only [wpX12_factOf_b36, c_0, c_1, c_2, c_3, c_4, c_5, c_6, c_7, c_8, c_9, c_10, c_11, c_12, c_14, c_16, c_19, c_20, c_24, c_31, c_32, c_35, c_48, c_57, c_59, c_63, c_97, c_100, c_122, c_127, c_169, c_255, c_600, c_1000, c_32767, Nat.le_refl, Nat.zero_le, Nat.add_zero, Nat.lt_irrefl, eq_self, o_sub, Nat.sub_zero, Nat.not_lt_zero, ↓ng_d, o_le, o_lt, o_eq, o_add, o_mul, o_cl, o_inT, o_and, n_31, o_shr, o_shl1, o_or, m_lt, m_ge, m_le, m_gt, m_ne, m_ne2, Option.some.injEq, exists_eq_left', true_and, and_true, true_implies, false_implies, implies_true, not_true_eq_false, not_false_eq_true, bI_0, bI_1, bI_01, b01, true_or, or_true, Nat.reduceEqDiff, Bool.not_eq_false, Bool.not_eq_true, Bool.true_eq_false, Bool.false_eq_true, msk hM1, u1, hle, w_may0 hM1 (show 0 < 3 by decide) (show 3 < 2147483648 by decide) h0]
          exact h1
        | succ q ih =>
          intro i hi hno
          have hle : ¬ T.length ≤ i := by omega
          have hil : i < T.length := by omega
          have hn := ih (i + 1) (by omega)
          generalize q + 1 = fu at hn ⊢
          obtain ⟨s1, s2⟩ := hsm i hil
          obtain ⟨f0, f1, _⟩ := u3 i hil
          have hstep : ¬ ((fG T i).1 = y ∧ (fG T i).2.1 = w) → wpX12_factOf_b36 Q fu S1 87 (nI y) (nI w) (nI (i + 1)) := fun z => hn (fun j hj => by
            by_cases e : j = i
            · rw [e]
              exact z
            · exact hno j (by omega))
          have main : (¬ (fG T i).1 = y → (wpX12_factOf_b36 Q fu S1 87 (nI y) (nI w) (nI (i + 1)))) ∧ ((fG T i).1 = y → ((¬ (fG T i).2.1 = w → (wpX12_factOf_b36 Q fu S1 87 (nI y) (nI w) (nI (i + 1)))) ∧ ((fG T i).2.1 = w → (Q (nI i) S1)))) :=
            ⟨fun z => hstep (fun q2 => z q2.1), fun z1 => ⟨fun z => hstep (fun q2 => z q2.2), fun z2 => hQ S1 y w i hf h0 hy rfl hw5 rfl hil ⟨z1, z2⟩ hno⟩⟩
          simp (disch := omega) only [wpX12_factOf_b36, c_0, c_1, c_2, c_3, c_4, c_5, c_6, c_7, c_8, c_9, c_10, c_11, c_12, c_14, c_16, c_19, c_20, c_24, c_31, c_32, c_35, c_48, c_57, c_59, c_63, c_97, c_100, c_122, c_127, c_169, c_255, c_600, c_1000, c_32767, Nat.le_refl, Nat.zero_le, Nat.add_zero, Nat.lt_irrefl, eq_self, o_sub, Nat.sub_zero, Nat.not_lt_zero, ↓ng_d, o_le, o_lt, o_eq, o_add, o_mul, o_cl, o_inT, o_and, n_31, o_shr, o_shl1, o_or, m_lt, m_ge, m_le, m_gt, m_ne, m_ne2, Option.some.injEq, exists_eq_left', true_and, and_true, true_implies, false_implies, implies_true, not_true_eq_false, not_false_eq_true, bI_0, bI_1, bI_01, b01, true_or, or_true, Nat.reduceEqDiff, Bool.not_eq_false, Bool.not_eq_true, Bool.true_eq_false, Bool.false_eq_true, msk hM1, msr_facts hM1, msk_facts hM1, msl_facts hM1, u1, f0, f1, hle]
          exact main
      exact ⟨_, loop _ 0 (Nat.zero_add _) (fun j hj => absurd hj (Nat.not_lt_zero _))⟩
    · rw [w_inN0 (B := 4) (by decide) hv]
      refine ⟨msk hM1, ?_⟩
      rw [w_may0 hM1 (by decide) (by decide) h0]
      have h1 := hX2 (sI (sI S 87 0 (nI 0)) 87 0 (nI 2)) y (mf_t hf (mf_sI _ _ (by decide))) (by rw [pI_sI, if_pos ⟨rfl, rfl⟩]) hy rfl hv
      exact ⟨fun z => absurd rfl z, fun _ => h1⟩
  · rw [w_mvar0 hM1 hp1 hw hx]
    refine ⟨msk hM1, ?_⟩
    rw [w_may0 hM1 (by decide) (by decide) h0]
    have h1 := hX (sI (sI S 87 0 (nI 0)) 87 0 (nI 1)) (mf_t hf (mf_sI _ _ (by decide))) (by rw [pI_sI, if_pos ⟨rfl, rfl⟩]) hx
    exact ⟨fun _ => h1, fun z => absurd rfl z⟩

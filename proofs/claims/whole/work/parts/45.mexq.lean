/-! EXPLANATIONS: the reference's questions -/
theorem m_explanationSize {S : PS} {P : Nat → Nat} {T : List FT} {x : Int32} {Q : Int32 → PS → Prop} (hM : MShape S) (hp : rP S P) (hw : Pwf P) (hT : rT S T) (hk : Tok P T)
    (hQ : ∀ S' i, mf [96, 97, 98] [0] S S' → pI S' 87 0 = nI 0 → i < T.length → x = nI i → Q (nI (cN (tbF T (exE P T i)) i)) S')
    (hX : ∀ S', mf [96, 97, 98] [0] S S' → pI S' 87 0 = nI 1 → (x < nI 0 ∨ nI T.length ≤ x) → Q (nI 0) S') : wpX12_explanationSize S 87 x Q := by
  have t2 := hT.2.1
  have hf : mf [96, 97, 98] [0] S (sI S 87 0 (nI 0)) := mf_sI _ _ (by decide)
  have h0 : pI (sI S 87 0 (nI 0)) 87 0 = nI 0 := by rw [pI_sI, if_pos ⟨rfl, rfl⟩]
  have hM1 := hf.M hM
  have hp1 := hf.P (by decide) hp
  have hT1 := hf.T (by decide) (by decide) hT
  unfold wpX12_explanationSize
  rw [c_0, c_1]
  refine ⟨msk hM, ?_⟩
  rcases i_split x (N := T.length) (by omega) with ⟨i, hi, rfl⟩ | hx
  · rw [w_isFact hM1 hT1 hi]
    refine ⟨msk hM1, ?_⟩
    rw [w_may1 hM1 h0]
    refine ⟨fun z => absurd z (by decide), fun _ => ⟨msk hM1, ?_⟩⟩
    exact q_explains hM1 hp1 hw hT1 hk hi (fun S' hf2 _ => hQ S' i (mf_frs hf hf2 (by decide)) (by rw [hf2.I (by decide)]; exact h0) hi rfl)
  · rw [w_isFact0 hM1 hT1 hx]
    refine ⟨msk hM1, ?_⟩
    rw [w_may0 hM1 (by decide) (by decide) h0]
    have h1 := hX (sI (sI S 87 0 (nI 0)) 87 0 (nI 1)) (mf_t hf (mf_sI _ _ (by decide))) (by rw [pI_sI, if_pos ⟨rfl, rfl⟩]) hx
    exact ⟨fun _ => h1, fun z => absurd rfl z⟩
theorem m_explained {S : PS} {P : Nat → Nat} {T : List FT} {x y : Int32} {Q : Int32 → PS → Prop} (hM : MShape S) (hp : rP S P) (hw : Pwf P) (hT : rT S T) (hk : Tok P T)
    (hQ : ∀ S' i k j, mf [96, 97, 98] [0] S S' → pI S' 87 0 = nI 0 → i < T.length → x = nI i → k < cN (tbF T (exE P T i)) i → y = nI k → j < i → tbF T (exE P T i) j = true → cN (tbF T (exE P T i)) j = k → Q (nI j) S')
    (hX : ∀ S', mf [96, 97, 98] [0] S S' → pI S' 87 0 = nI 1 → (x < nI 0 ∨ nI T.length ≤ x) → Q (nI 0) S')
    (hX2 : ∀ S' i, mf [96, 97, 98] [0] S S' → pI S' 87 0 = nI 1 → i < T.length → x = nI i → (y < nI 0 ∨ nI (cN (tbF T (exE P T i)) i) ≤ y) → Q (nI 0) S') : wpX12_explained S 87 x y Q := by
  have t2 := hT.2.1
  have hf : mf [96, 97, 98] [0] S (sI S 87 0 (nI 0)) := mf_sI _ _ (by decide)
  have h0 : pI (sI S 87 0 (nI 0)) 87 0 = nI 0 := by rw [pI_sI, if_pos ⟨rfl, rfl⟩]
  have hM1 := hf.M hM
  have hp1 := hf.P (by decide) hp
  have hT1 := hf.T (by decide) (by decide) hT
  unfold wpX12_explained
  rw [c_0, c_1]
  refine ⟨msk hM, ?_⟩
  rcases i_split x (N := T.length) (by omega) with ⟨i, hi, rfl⟩ | hx
  · rw [w_isFact hM1 hT1 hi]
    refine ⟨msk hM1, ?_⟩
    rw [w_may1 hM1 h0]
    refine ⟨fun z => absurd z (by decide), fun _ => ⟨msk hM1, ?_⟩⟩
    refine q_explains hM1 hp1 hw hT1 hk hi (fun S' hf2 hr => ?_)
    have hcl := cN_le (tbF T (exE P T i)) i
    have hf3 := mf_frs hf hf2 (by decide)
    have hM2 := hf3.M hM
    have h02 : pI S' 87 0 = nI 0 := by rw [hf2.I (by decide)]; exact h0
    rcases i_split y (N := cN (tbF T (exE P T i)) i) (by omega) with ⟨k, hkn, rfl⟩ | hy
    · rw [w_inL hkn (by omega)]
      refine ⟨msk hM2, ?_⟩
      rw [w_may1 hM2 h02]
      refine ⟨fun _ => ?_, fun z => absurd z (by decide)⟩
      have loop : ∀ r j, j + r = i → cN (tbF T (exE P T i)) j ≤ k → wpX12_explained_b45 Q (r + 1) S' 87 (nI i) (nI k) (nI j) (nI (k - cN (tbF T (exE P T i)) j)) := by
        intro r
        induction r with
        | zero =>
          intro j hj hle
          have e : j = i := by omega
          rw [e] at hle
          omega
        | succ r ih =>
          intro j hj hle
          have hji : j < i := by omega
          have hrj := hr j (by omega)
          rw [decide_eq_true hji, Bool.true_and] at hrj
          have hn := ih (j + 1) (by omega)
          generalize r + 1 = fu at hn ⊢
          rw [cN_s] at hn
          have iL : vp_in (nI j) (pL S' 97) := by
            rw [msl_isLeft hM2, o_inT (by omega) (by omega)]
            trivial
          have next : (tbF T (exE P T i) j = true → cN (tbF T (exE P T i)) j < k) → wpX12_explained_b59 (wpX12_explained_b45 Q fu) Q S' 87 (nI i) (nI k) (nI j) (nI (k - cN (tbF T (exE P T i)) j)) := fun hlt => by
            unfold wpX12_explained_b59
            simp (disch := omega) only [c_0, c_1, o_cl, o_add]
            refine ⟨msk hM2, 97, msr_isLeft hM2, msk_isLeft hM2, iL, fun z => ?_, fun z => ?_⟩
            · rw [hrj, bI_0] at z
              rw [if_neg (by rw [z]; decide), Nat.add_zero] at hn
              rw [o_sub (Nat.zero_le _), Nat.sub_zero]
              exact hn hle
            · rw [hrj, bI_0, Bool.not_eq_false] at z
              have h1 := hlt z
              rw [if_pos z] at hn
              have h2 := hn (by omega)
              rw [o_sub (by omega), show k - cN (tbF T (exE P T i)) j - 1 = k - (cN (tbF T (exE P T i)) j + 1) by omega]
              exact h2
          unfold wpX12_explained_b45
          simp (disch := omega) only [c_0, c_1, o_cl, o_lt]
          refine ⟨fun z => next (fun _ => by omega), fun z => ⟨msk hM2, 97, msr_isLeft hM2, msk_isLeft hM2, iL, fun z2 => ?_, fun z2 => ?_⟩⟩
          · rw [hrj, bI_0, Bool.not_eq_false] at z2
            exact hQ S' i k j hf3 h02 hi rfl hkn rfl hji z2 (by omega)
          · rw [hrj, bI_0] at z2
            exact next (fun q => by rw [z2] at q; cases q)
      exact ⟨_, loop i 0 (Nat.zero_add _) (Nat.zero_le _)⟩
    · rw [w_inL0 (by omega) hy]
      refine ⟨msk hM2, ?_⟩
      rw [w_may0 hM2 (by decide) (by decide) h02]
      have h1 := hX2 (sI S' 87 0 (nI 1)) i (mf_t hf3 (mf_sI _ _ (by decide))) (by rw [pI_sI, if_pos ⟨rfl, rfl⟩]) hi rfl hy
      exact ⟨fun z => absurd rfl z, fun _ => h1⟩
  · rw [w_isFact0 hM1 hT1 hx]
    refine ⟨msk hM1, ?_⟩
    rw [w_may0 hM1 (by decide) (by decide) h0]
    have h1 := hX (sI (sI S 87 0 (nI 0)) 87 0 (nI 1)) (mf_t hf (mf_sI _ _ (by decide))) (by rw [pI_sI, if_pos ⟨rfl, rfl⟩]) hx
    exact ⟨fun _ => h1, fun z => absurd rfl z⟩
theorem m_depth {S : PS} {P : Nat → Nat} {T : List FT} {x : Int32} {Q : Int32 → PS → Prop} (hM : MShape S) (hp : rP S P) (hw : Pwf P) (hT : rT S T) (hk : Tok P T)
    (hQ : ∀ S' i, mf [96, 97, 98, 99] [0] S S' → pI S' 87 0 = nI 0 → i < T.length → x = nI i → Q (nI (dpA P T (i + 1) i)) S')
    (hX : ∀ S', mf [96, 97, 98, 99] [0] S S' → pI S' 87 0 = nI 1 → (x < nI 0 ∨ nI T.length ≤ x) → Q (nI 0) S') : wpX12_depth S 87 x Q := by
  have t2 := hT.2.1
  have hf : mf [96, 97, 98, 99] [0] S (sI S 87 0 (nI 0)) := mf_sI _ _ (by decide)
  have h0 : pI (sI S 87 0 (nI 0)) 87 0 = nI 0 := by rw [pI_sI, if_pos ⟨rfl, rfl⟩]
  have hM1 := hf.M hM
  have hp1 := hf.P (by decide) hp
  have hT1 := hf.T (by decide) (by decide) hT
  unfold wpX12_depth
  rw [c_0, c_1]
  refine ⟨msk hM, ?_⟩
  rcases i_split x (N := T.length) (by omega) with ⟨i, hi, rfl⟩ | hx
  · rw [w_isFact hM1 hT1 hi]
    refine ⟨msk hM1, ?_⟩
    rw [w_may1 hM1 h0]
    refine ⟨fun _ => ?_, fun z => absurd z (by decide)⟩
    generalize hS1 : sI S 87 0 (nI 0) = S1 at hf h0 hM1 hp1 hT1
    have outer : ∀ r f S2, f + r = i + 1 → fr [96, 97, 98, 99] S1 S2 → (∀ j, j < f → pI S2 99 j = nI (dpA P T f j)) → wpX12_depth_b22 Q (r + 1) S2 87 (nI i) (nI f) := by
      intro r
      induction r with
      | zero =>
        intro f S2 hfr hf2 hd
        have hM2 := hf2.M hM1
        have hlt : i < f := by omega
        have e : f = i + 1 := by omega
        have h1 := hQ S2 i (mf_frs hf hf2 (by decide)) (by rw [hf2.I (by decide)]; exact h0) hi rfl
        have h2 := hd i hlt
        rw [e] at h2
        simp (disch := omega) only [wpX12_depth_b22, c_0, c_1, c_2, c_3, c_4, c_5, c_6, c_7, c_8, c_9, c_10, c_11, c_12, c_14, c_16, c_19, c_20, c_24, c_31, c_32, c_35, c_48, c_57, c_59, c_63, c_97, c_100, c_122, c_127, c_169, c_255, c_600, c_1000, c_32767, Nat.le_refl, Nat.zero_le, Nat.add_zero, Nat.lt_irrefl, eq_self, o_sub, Nat.sub_zero, Nat.not_lt_zero, ↓ng_d, o_le, o_lt, o_eq, o_add, o_mul, o_cl, o_inT, o_and, n_31, o_shr, o_shl1, o_or, m_lt, m_ge, m_le, m_gt, m_ne, m_ne2, Option.some.injEq, exists_eq_left', true_and, and_true, true_implies, false_implies, implies_true, not_true_eq_false, not_false_eq_true, bI_0, bI_1, bI_01, b01, true_or, or_true, Nat.reduceEqDiff, Bool.not_eq_false, Bool.not_eq_true, Bool.true_eq_false, Bool.false_eq_true, hlt, msk hM2, msr_depths hM2, msk_depths hM2, msl_depths hM2, h2]
        exact h1
      | succ r ih =>
        intro f S2 hfr hf2 hd
        have hM2 := hf2.M hM1
        have hlt : ¬ i < f := by omega
        have hfl : f < T.length := by omega
        have hn := ih (f + 1)
        generalize r + 1 = fu at hn ⊢
        have hf3 : fr [96, 97, 98, 99] S1 (sI S2 99 f (nI 0)) := fr_t hf2 (fr_sI _ _ _ (by decide))
        have hM3 := hf3.M hM1
        have hd3 : ∀ j, j < f → pI (sI S2 99 f (nI 0)) 99 j = nI (dpA P T f j) := fun j hj => by
          rw [pI_sI, if_neg (fun q => absurd q.2 (by omega))]
          exact hd j hj
        have hz3 : pI (sI S2 99 f (nI 0)) 99 f = nI 0 := by rw [pI_sI, if_pos ⟨rfl, rfl⟩]
        have fin : ∀ S4, fr [96, 97, 98, 99] S1 S4 → (∀ j, j < f → pI S4 99 j = nI (dpA P T f j)) → pI S4 99 f = nI (dpF (dpA P T f) (tbF T (exE P T f)) f) → wpX12_depth_b22 Q fu S4 87 (nI i) (nI (f + 1)) := fun S4 hf4 hd4 he4 => hn S4 (by omega) hf4 (fun j hj => by
          unfold dpA
          by_cases e : j = f
          · rw [e, ud_s]
            exact he4
          · rw [ud_n _ _ e]
            exact hd4 j (by omega))
        have main : wpX12_explains (sI S2 99 f (nI 0)) 87 (nI f) (fun r19 S20 => ((¬ r19 = nI 0 → (∃ n9 : Nat, wpX12_depth_b47 (wpX12_depth_b22 Q fu) Q n9 S20 87 (nI i) (nI f) (nI 0))) ∧ (r19 = nI 0 → (wpX12_depth_b22 Q fu S20 87 (nI i) (nI (f + 1)))))) := by
          refine q_explains hM3 (hf3.P (by decide) hp1) hw (hf3.T (by decide) (by decide) hT1) hk hfl (fun S4 hf4 hr4 => ?_)
          have hf5 : fr [96, 97, 98, 99] S1 S4 := fr_t hf3 (fr_m (by decide) hf4)
          have hcl := cN_le (tbF T (exE P T f)) f
          have hd5 : ∀ j, j < f → pI S4 99 j = nI (dpA P T f j) := fun j hj => by
            rw [hf4.I (by decide)]
            exact hd3 j hj
          have hz5 : pI S4 99 f = nI 0 := by
            rw [hf4.I (by decide)]
            exact hz3
          rw [o_eq (by omega) (by omega)]
          refine ⟨fun z => ?_, fun z => fin S4 hf5 hd5 (by rw [hz5, dpF_0 f z])⟩
          have inner : ∀ q k S6, k + q = f → fr [96, 97, 98, 99] S1 S6 → (∀ j, j < T.length → pI S6 97 j = bI (decide (j < f) && tbF T (exE P T f) j)) → (∀ j, j < f → pI S6 99 j = nI (dpA P T f j)) → pI S6 99 f = nI (dpF (dpA P T f) (tbF T (exE P T f)) k) → wpX12_depth_b47 (wpX12_depth_b22 Q fu) Q (q + 1) S6 87 (nI i) (nI f) (nI k) := by
            intro q
            induction q with
            | zero =>
              intro k S6 hkq hf6 hr6 hd6 he6
              have hle : f ≤ k := by omega
              have e : k = f := by omega
              rw [e] at he6
              have h1 := fin S6 hf6 hd6 he6
              simp (disch := omega) only [wpX12_depth_b47, c_0, c_1, c_2, c_3, c_4, c_5, c_6, c_7, c_8, c_9, c_10, c_11, c_12, c_14, c_16, c_19, c_20, c_24, c_31, c_32, c_35, c_48, c_57, c_59, c_63, c_97, c_100, c_122, c_127, c_169, c_255, c_600, c_1000, c_32767, Nat.le_refl, Nat.zero_le, Nat.add_zero, Nat.lt_irrefl, eq_self, o_sub, Nat.sub_zero, Nat.not_lt_zero, ↓ng_d, o_le, o_lt, o_eq, o_add, o_mul, o_cl, o_inT, o_and, n_31, o_shr, o_shl1, o_or, m_lt, m_ge, m_le, m_gt, m_ne, m_ne2, Option.some.injEq, exists_eq_left', true_and, and_true, true_implies, false_implies, implies_true, not_true_eq_false, not_false_eq_true, bI_0, bI_1, bI_01, b01, true_or, or_true, Nat.reduceEqDiff, Bool.not_eq_false, Bool.not_eq_true, Bool.true_eq_false, Bool.false_eq_true, hle]
              exact h1
            | succ q ih2 =>
              intro k S6 hkq hf6 hr6 hd6 he6
              have hM6 := hf6.M hM1
              have hle : ¬ f ≤ k := by omega
              have hkf : k < f := by omega
              have hn2 := ih2 (k + 1)
              generalize q + 1 = fv at hn2 ⊢
              have hrk : pI S6 97 k = bI (tbF T (exE P T f) k) := by
                rw [hr6 k (by omega), decide_eq_true hkf]
                rfl
              have hdk := hd6 k hkf
              have b1 := dpA_le (P := P) (T := T) f k
              have b2 := dpF_le (g := dpA P T f) (b := tbF T (exE P T f)) k (fun j _ => dpA_le (P := P) (T := T) f j)
              have main2 : (tbF T (exE P T f) k = false → wpX12_depth_b47 (wpX12_depth_b22 Q fu) Q fv S6 87 (nI i) (nI f) (nI (k + 1))) ∧ (tbF T (exE P T f) k = true → ((dpA P T f k < dpF (dpA P T f) (tbF T (exE P T f)) k → wpX12_depth_b47 (wpX12_depth_b22 Q fu) Q fv S6 87 (nI i) (nI f) (nI (k + 1))) ∧ (¬ dpA P T f k < dpF (dpA P T f) (tbF T (exE P T f)) k → wpX12_depth_b47 (wpX12_depth_b22 Q fu) Q fv (sI S6 99 f (nI (dpA P T f k + 1))) 87 (nI i) (nI f) (nI (k + 1))))) := by
                refine ⟨fun z2 => hn2 S6 (by omega) hf6 hr6 hd6 ?_, fun z2 => ⟨fun z3 => hn2 S6 (by omega) hf6 hr6 hd6 ?_, fun z3 => hn2 _ (by omega) (fr_t hf6 (fr_sI _ _ _ (by decide))) (fun j hj => ?_) (fun j hj => ?_) ?_⟩⟩
                · unfold dpF
                  rw [if_neg (by rw [z2]; decide)]
                  exact he6
                · unfold dpF
                  rw [if_pos z2, if_neg (by omega)]
                  exact he6
                · rw [pI_sI, if_neg (fun q2 => absurd q2.1 (by decide))]
                  exact hr6 j hj
                · rw [pI_sI, if_neg (fun q2 => absurd q2.2 (by omega))]
                  exact hd6 j hj
                · unfold dpF
                  rw [pI_sI, if_pos ⟨rfl, rfl⟩, if_pos z2, if_pos (by omega)]
              simp (disch := omega) only [wpX12_depth_b47, c_0, c_1, c_2, c_3, c_4, c_5, c_6, c_7, c_8, c_9, c_10, c_11, c_12, c_14, c_16, c_19, c_20, c_24, c_31, c_32, c_35, c_48, c_57, c_59, c_63, c_97, c_100, c_122, c_127, c_169, c_255, c_600, c_1000, c_32767, Nat.le_refl, Nat.zero_le, Nat.add_zero, Nat.lt_irrefl, eq_self, o_sub, Nat.sub_zero, Nat.not_lt_zero, ↓ng_d, o_le, o_lt, o_eq, o_add, o_mul, o_cl, o_inT, o_and, n_31, o_shr, o_shl1, o_or, m_lt, m_ge, m_le, m_gt, m_ne, m_ne2, Option.some.injEq, exists_eq_left', true_and, and_true, true_implies, false_implies, implies_true, not_true_eq_false, not_false_eq_true, bI_0, bI_1, bI_01, b01, true_or, or_true, Nat.reduceEqDiff, Bool.not_eq_false, Bool.not_eq_true, Bool.true_eq_false, Bool.false_eq_true, hle, msk hM6, msr_isLeft hM6, msk_isLeft hM6, msl_isLeft hM6, hrk, msr_depths hM6, msk_depths hM6, msl_depths hM6, hdk, he6]
              exact main2
          exact ⟨_, inner f 0 S4 (Nat.zero_add _) hf5 (fun j hj => hr4 j hj) hd5 (by rw [hz5]; rfl)⟩
        simp (disch := omega) only [wpX12_depth_b22, c_0, c_1, c_2, c_3, c_4, c_5, c_6, c_7, c_8, c_9, c_10, c_11, c_12, c_14, c_16, c_19, c_20, c_24, c_31, c_32, c_35, c_48, c_57, c_59, c_63, c_97, c_100, c_122, c_127, c_169, c_255, c_600, c_1000, c_32767, Nat.le_refl, Nat.zero_le, Nat.add_zero, Nat.lt_irrefl, eq_self, o_sub, Nat.sub_zero, Nat.not_lt_zero, ↓ng_d, o_le, o_lt, o_eq, o_add, o_mul, o_cl, o_inT, o_and, n_31, o_shr, o_shl1, o_or, m_lt, m_ge, m_le, m_gt, m_ne, m_ne2, Option.some.injEq, exists_eq_left', true_and, and_true, true_implies, false_implies, implies_true, not_true_eq_false, not_false_eq_true, bI_0, bI_1, bI_01, b01, true_or, or_true, Nat.reduceEqDiff, Bool.not_eq_false, Bool.not_eq_true, Bool.true_eq_false, Bool.false_eq_true, hlt, msk hM2, msr_depths hM2, msk_depths hM2, msl_depths hM2]
        exact main
    exact ⟨_, outer (i + 1) 0 S1 (Nat.zero_add _) (fr_r _ _) (fun j hj => absurd hj (Nat.not_lt_zero _))⟩
  · rw [w_isFact0 hM1 hT1 hx]
    refine ⟨msk hM1, ?_⟩
    rw [w_may0 hM1 (by decide) (by decide) h0]
    have h1 := hX (sI (sI S 87 0 (nI 0)) 87 0 (nI 1)) (mf_t hf (mf_sI _ _ (by decide))) (by rw [pI_sI, if_pos ⟨rfl, rfl⟩]) hx
    exact ⟨fun z => absurd rfl z, fun _ => h1⟩

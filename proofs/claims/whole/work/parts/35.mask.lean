/-! THE REFERENCE: what asks for the solutions -/
theorem mf_frs {A F : List Nat} {S S1 S2 : PS} (h1 : mf A F S S1) (h2 : fr A S1 S2) (h87 : 87 ∉ A) : mf A F S S2 := mf_t h1 (mf_fr h2 h87)
theorem m_solutions {S : PS} {P d : Nat → Nat} {Q : Int32 → PS → Prop} (hM : MShape S) (hp : rP S P) (hw : Pwf P) (hd : rD S 90 d) (hQ : ∀ S', mf [101, 102, 103] [0] S S' → pI S' 87 0 = nI 0 → Q (nI (nF (sK P) d)) S') : wpX12_solutions S 87 Q := by
  have hf : mf [101, 102, 103] [0] S (sI S 87 0 (nI 0)) := mf_sI _ _ (by decide)
  have main : wpX12_solves (sI S 87 0 (nI 0)) 87 (fun r2 S3 => Q r2 S3) := q_solvesA (hf.M hM) (hf.P (by decide) hp) hw (hf.D (by decide) hd) (fun S' h1 _ => hQ S' (mf_frs hf h1 (by decide)) (by rw [h1.I (by decide), pI_sI, if_pos ⟨rfl, rfl⟩]))
  simp (disch := omega) only [wpX12_solutions, c_0, c_1, c_2, c_3, c_4, c_5, c_6, c_7, c_8, c_9, c_10, c_11, c_12, c_14, c_16, c_19, c_20, c_24, c_31, c_32, c_35, c_48, c_57, c_59, c_63, c_97, c_100, c_122, c_127, c_169, c_255, c_600, c_1000, c_32767, Nat.le_refl, Nat.zero_le, Nat.add_zero, Nat.lt_irrefl, eq_self, o_sub, Nat.sub_zero, Nat.not_lt_zero, ↓ng_d, o_le, o_lt, o_eq, o_add, o_mul, o_cl, o_inT, o_and, n_31, o_shr, o_shl1, o_or, m_lt, m_ge, m_le, m_gt, m_ne, m_ne2, Option.some.injEq, exists_eq_left', true_and, and_true, true_implies, false_implies, implies_true, not_true_eq_false, not_false_eq_true, bI_0, bI_1, bI_01, b01, true_or, or_true, Nat.reduceEqDiff, Bool.not_eq_false, Bool.not_eq_true, Bool.true_eq_false, Bool.false_eq_true, msk hM]
  exact main
theorem m_first {S : PS} {P d : Nat → Nat} {x : Int32} {Q : Int32 → PS → Prop} (hM : MShape S) (hp : rP S P) (hw : Pwf P) (hd : rD S 90 d) (hQ : ∀ S' k a, mf [101, 102, 103] [0] S S' → pI S' 87 0 = nI 0 → k < P 0 → x = nI k → Lea (sK P) d a → Q (nI (a k)) S') (hX : (x < nI 0 ∨ nI (P 0) ≤ x) → ∀ S', mf [101, 102, 103] [0] S S' → pI S' 87 0 = nI 1 → Q (nI 0) S') (hX2 : ∀ S' k, mf [101, 102, 103] [0] S S' → pI S' 87 0 = nI 2 → k < P 0 → x = nI k → ¬ Can (sK P) d → Q (nI 0) S') : wpX12_first S 87 x Q := by
  have hP0 := hw.1
  have hf : mf [101, 102, 103] [0] S (sI S 87 0 (nI 0)) := mf_sI _ _ (by decide)
  have h0 : pI (sI S 87 0 (nI 0)) 87 0 = nI 0 := by rw [pI_sI, if_pos ⟨rfl, rfl⟩]
  have hM1 := hf.M hM
  have hp1 := hf.P (by decide) hp
  have hlt := nF_le (sK_wf hw) d
  have n10 : ¬ (1 : Nat) = 0 := by decide
  rcases i_split x (N := P 0) (by omega) with ⟨k, hk, rfl⟩ | hx
  · have main : wpX12_solves (sI S 87 0 (nI 0)) 87 (fun r15 S16 => ((r15 ≤ nI 0 → (wpX12_first_b31 Q S16 87 (nI k) 87 (nI 0))) ∧ (¬ r15 ≤ nI 0 → (wpX12_first_b31 Q S16 87 (nI k) 87 (nI 1))))) := by
      refine q_solvesA hM1 hp1 hw (hf.D (by decide) hd) (fun S' h1 hs => ?_)
      have hf2 := mf_frs hf h1 (by decide)
      have hM2 := hf2.M hM
      have h02 : pI S' 87 0 = nI 0 := by rw [h1.I (by decide)]; exact h0
      refine ⟨fun q => ?_, fun q => ?_⟩
      · rw [o_le (by omega) (by decide)] at q
        have hno : ¬ Can (sK P) d := by rw [← nF_Can hw]; omega
        have h3 : mf [101, 102, 103] [0] S (sI S' 87 0 (nI 2)) := mf_t hf2 (mf_sI _ _ (by decide))
        have h2 := hX2 (sI S' 87 0 (nI 2)) k h3 (by rw [pI_sI, if_pos ⟨rfl, rfl⟩]) hk rfl hno
        unfold wpX12_first_b31
        refine ⟨msk hM2, ?_⟩
        rw [show (2 : Int32) = nI 2 from rfl, w_may0 hM2 (by decide) (by decide) h02]
        exact ⟨fun _ => h2, fun z => absurd rfl z⟩
      · rw [o_le (by omega) (by decide)] at q
        have hcan : Can (sK P) d := Classical.byContradiction (fun z => q (by rw [(nF_Can hw).mpr z]; exact Nat.le_refl _))
        obtain ⟨a, ha, ha5, hr⟩ := hs.1 hcan
        have h2 := hQ S' k a hf2 h02 hk rfl ha
        unfold wpX12_first_b31
        refine ⟨msk hM2, ?_⟩
        rw [w_may1 hM2 h02]
        simp (disch := omega) only [c_0, c_1, c_2, c_3, c_4, c_5, c_6, c_7, c_8, c_9, c_10, c_11, c_12, c_14, c_16, c_19, c_20, c_24, c_31, c_32, c_35, c_48, c_57, c_59, c_63, c_97, c_100, c_122, c_127, c_169, c_255, c_600, c_1000, c_32767, Nat.le_refl, Nat.zero_le, Nat.add_zero, Nat.lt_irrefl, eq_self, o_sub, Nat.sub_zero, Nat.not_lt_zero, ↓ng_d, o_le, o_lt, o_eq, o_add, o_mul, o_cl, o_inT, o_and, n_31, o_shr, o_shl1, o_or, m_lt, m_ge, m_le, m_gt, m_ne, m_ne2, Option.some.injEq, exists_eq_left', true_and, and_true, true_implies, false_implies, implies_true, not_true_eq_false, not_false_eq_true, bI_0, bI_1, bI_01, b01, true_or, or_true, Nat.reduceEqDiff, Bool.not_eq_false, Bool.not_eq_true, Bool.true_eq_false, Bool.false_eq_true, msk hM2, msr_firstOne hM2, msk_firstOne hM2, msl_firstOne hM2, hr k hk]
        exact h2
    unfold wpX12_first
    refine ⟨msk hM, ?_⟩
    rw [show (0 : Int32) = nI 0 from rfl, w_mvar hM1 hp1 hw hk]
    refine ⟨msk hM1, ?_⟩
    rw [w_may1 hM1 h0]
    exact ⟨fun z => absurd z (by decide), fun _ => ⟨msk hM1, main⟩⟩
  · have h3 : mf [101, 102, 103] [0] S (sI (sI S 87 0 (nI 0)) 87 0 (nI 1)) := mf_t hf (mf_sI _ _ (by decide))
    have h2 := hX hx (sI (sI S 87 0 (nI 0)) 87 0 (nI 1)) h3 (by rw [pI_sI, if_pos ⟨rfl, rfl⟩])
    unfold wpX12_first
    refine ⟨msk hM, ?_⟩
    rw [show (0 : Int32) = nI 0 from rfl, w_mvar0 hM1 hp1 hw hx]
    refine ⟨msk hM1, ?_⟩
    rw [show (1 : Int32) = nI 1 from rfl, w_may0 hM1 (by decide) (by decide) h0]
    exact ⟨fun _ => h2, fun z => absurd rfl z⟩
theorem m_possible {S : PS} {P d : Nat → Nat} {x : Int32} {Q : Int32 → PS → Prop} (hM : MShape S) (hp : rP S P) (hw : Pwf P) (hd : rD S 90 d) (hQ : ∀ S' k, mf [101, 102, 103] [0] S S' → pI S' 87 0 = nI 0 → k < P 0 → x = nI k → Q (nI (uU P d k)) S') (hX : (x < nI 0 ∨ nI (P 0) ≤ x) → ∀ S', mf [101, 102, 103] [0] S S' → pI S' 87 0 = nI 1 → Q (nI 0) S') : wpX12_possible S 87 x Q := by
  have hP0 := hw.1
  have hf : mf [101, 102, 103] [0] S (sI S 87 0 (nI 0)) := mf_sI _ _ (by decide)
  have h0 : pI (sI S 87 0 (nI 0)) 87 0 = nI 0 := by rw [pI_sI, if_pos ⟨rfl, rfl⟩]
  have hM1 := hf.M hM
  have hp1 := hf.P (by decide) hp
  have hlt := nF_le (sK_wf hw) d
  have n10 : ¬ (1 : Nat) = 0 := by decide
  rcases i_split x (N := P 0) (by omega) with ⟨k, hk, rfl⟩ | hx
  · have main : wpX12_solves (sI S 87 0 (nI 0)) 87 (fun r8 S9 => ((r8 ≤ nI 0 → (Q (nI 0) S9)) ∧ (¬ r8 ≤ nI 0 → (pK S9 87 = 11 ∧ (∃ o11, pR S9 87 30 = some o11 ∧ (pK S9 o11 = 13 ∧ (vp_in (nI k) (pL S9 o11) ∧ (Q (pI S9 o11 (nI k).toNatClampNeg) S9)))))))) := by
      refine q_solvesA hM1 hp1 hw (hf.D (by decide) hd) (fun S' h1 hs => ?_)
      have hf2 := mf_frs hf h1 (by decide)
      have hM2 := hf2.M hM
      have h02 : pI S' 87 0 = nI 0 := by rw [h1.I (by decide)]; exact h0
      have h2 := hQ S' k hf2 h02 hk rfl
      refine ⟨fun q => ?_, fun q => ?_⟩
      · rw [o_le (by omega) (by decide)] at q
        have hno : ¬ Can (sK P) d := by rw [← nF_Can hw]; omega
        rw [uU_no hno] at h2
        exact h2
      · obtain ⟨U, u1, u2, u3⟩ := hs.2
        rw [← uU_of hk (u2 k (by omega)) (u3 k hk)] at h2
        simp (disch := omega) only [c_0, c_1, c_2, c_3, c_4, c_5, c_6, c_7, c_8, c_9, c_10, c_11, c_12, c_14, c_16, c_19, c_20, c_24, c_31, c_32, c_35, c_48, c_57, c_59, c_63, c_97, c_100, c_122, c_127, c_169, c_255, c_600, c_1000, c_32767, Nat.le_refl, Nat.zero_le, Nat.add_zero, Nat.lt_irrefl, eq_self, o_sub, Nat.sub_zero, Nat.not_lt_zero, ↓ng_d, o_le, o_lt, o_eq, o_add, o_mul, o_cl, o_inT, o_and, n_31, o_shr, o_shl1, o_or, m_lt, m_ge, m_le, m_gt, m_ne, m_ne2, Option.some.injEq, exists_eq_left', true_and, and_true, true_implies, false_implies, implies_true, not_true_eq_false, not_false_eq_true, bI_0, bI_1, bI_01, b01, true_or, or_true, Nat.reduceEqDiff, Bool.not_eq_false, Bool.not_eq_true, Bool.true_eq_false, Bool.false_eq_true, msk hM2, msr_possible hM2, msk_possible hM2, msl_possible hM2, u1 k (by omega)]
        exact h2
    unfold wpX12_possible
    refine ⟨msk hM, ?_⟩
    rw [show (0 : Int32) = nI 0 from rfl, w_mvar hM1 hp1 hw hk]
    refine ⟨msk hM1, ?_⟩
    rw [w_may1 hM1 h0]
    exact ⟨fun _ => ⟨msk hM1, main⟩, fun z => absurd z (by decide)⟩
  · have h3 : mf [101, 102, 103] [0] S (sI (sI S 87 0 (nI 0)) 87 0 (nI 1)) := mf_t hf (mf_sI _ _ (by decide))
    have h2 := hX hx (sI (sI S 87 0 (nI 0)) 87 0 (nI 1)) h3 (by rw [pI_sI, if_pos ⟨rfl, rfl⟩])
    unfold wpX12_possible
    refine ⟨msk hM, ?_⟩
    rw [show (0 : Int32) = nI 0 from rfl, w_mvar0 hM1 hp1 hw hx]
    refine ⟨msk hM1, ?_⟩
    rw [show (1 : Int32) = nI 1 from rfl, w_may0 hM1 (by decide) (by decide) h0]
    exact ⟨fun z => absurd rfl z, fun _ => h2⟩
theorem sN_rest {f : Nat → Nat} {N : Nat} (hN : N ≤ 7) (h : ∀ x, N ≤ x → x < 7 → f x = 0) : sN f 7 = sN f N := by
  have main : ∀ r, N + r ≤ 7 → sN f (N + r) = sN f N := by
    intro r
    induction r with
    | zero => intro _; rfl
    | succ r ih =>
      intro hr
      have h1 := ih (by omega)
      have h2 := h (N + r) (by omega) (by omega)
      show sN f (N + r) + f (N + r) = sN f N
      rw [h1, h2]; rfl
  have := main (7 - N) (by omega)
  rw [show N + (7 - N) = 7 by omega] at this
  exact this
theorem m_overlooked {S : PS} {P d : Nat → Nat} {Q : Int32 → PS → Prop} (hM : MShape S) (hp : rP S P) (hw : Pwf P) (hd : rD S 90 d) (hz : ∀ x, P 0 ≤ x → x < 7 → d x = 0) (hQ : ∀ S', mf [101, 102, 103] [0] S S' → pI S' 87 0 = nI 0 → Q (nI (ovl P d)) S') : wpX12_overlooked S 87 Q := by
  have hP0 := hw.1
  have hf : mf [101, 102, 103] [0] S (sI S 87 0 (nI 0)) := mf_sI _ _ (by decide)
  have h0 : pI (sI S 87 0 (nI 0)) 87 0 = nI 0 := by rw [pI_sI, if_pos ⟨rfl, rfl⟩]
  have hM1 := hf.M hM
  have hlt := nF_le (sK_wf hw) d
  have main : wpX12_solves (sI S 87 0 (nI 0)) 87 (fun r14 S15 => (∃ n9 : Nat, wpX12_overlooked_b14 Q n9 S15 87 r14 (nI 0) (nI 0))) := by
    refine q_solvesA hM1 (hf.P (by decide) hp) hw (hf.D (by decide) hd) (fun S' h1 hs => ?_)
    have hf2 := mf_frs hf h1 (by decide)
    have hM2 := hf2.M hM
    have hp2 := hf2.P (by decide) hp
    have hd2 := hf2.D (by decide) hd
    have h02 : pI S' 87 0 = nI 0 := by rw [h1.I (by decide)]; exact h0
    have h2 := hQ S' hf2 h02
    obtain ⟨U, u1, u2, u3⟩ := hs.2
    have loop : ∀ r x t, x + r = P 0 → t = sN (fun y => pcn 5 (andn (d y) (uU P d y))) x → wpX12_overlooked_b14 Q (r + 1) S' 87 (nI (nF (sK P) d)) (nI t) (nI x) := by
      intro r
      induction r with
      | zero =>
        intro x t hx ht
        have hxe : x = P 0 := by omega
        have hle : P 0 ≤ x := by omega
        have e : t = ovl P d := by
          rw [ht, hxe]
          unfold ovl dsum
          exact (sN_rest hP0 (fun y y1 y2 => by
            show pcn 5 (andn (d y) (uU P d y)) = 0
            rw [hz y y1 y2]
            unfold uU
            rw [if_neg (by omega)]; rfl)).symm
        rw [← e] at h2
        simp (disch := omega) only [wpX12_overlooked_b14, c_0, c_1, c_2, c_3, c_4, c_5, c_6, c_7, c_8, c_9, c_10, c_11, c_12, c_14, c_16, c_19, c_20, c_24, c_31, c_32, c_35, c_48, c_57, c_59, c_63, c_97, c_100, c_122, c_127, c_169, c_255, c_600, c_1000, c_32767, Nat.le_refl, Nat.zero_le, Nat.add_zero, Nat.lt_irrefl, eq_self, o_sub, Nat.sub_zero, Nat.not_lt_zero, ↓ng_d, o_le, o_lt, o_eq, o_add, o_mul, o_cl, o_inT, o_and, n_31, o_shr, o_shl1, o_or, m_lt, m_ge, m_le, m_gt, m_ne, m_ne2, Option.some.injEq, exists_eq_left', true_and, and_true, true_implies, false_implies, implies_true, not_true_eq_false, not_false_eq_true, bI_0, bI_1, bI_01, b01, true_or, or_true, Nat.reduceEqDiff, Bool.not_eq_false, Bool.not_eq_true, Bool.true_eq_false, Bool.false_eq_true, msk hM2, msr_p hM2, msk_p hM2, msl_p hM2, hp2 0 (by decide), hle]
        exact h2
      | succ r ih =>
        intro x t hx ht
        have hle : ¬ P 0 ≤ x := by omega
        have hx7 : x < 7 := by omega
        have hdx := hd.2.2.2 x hx7
        have huu := uU_lt P d x
        have hn := ih (x + 1) (t + pcn 5 (andn (d x) (uU P d x))) (by omega) (by rw [ht]; rfl)
        generalize r + 1 = fu at hn ⊢
        have tail : ∀ t2, t2 = nI (uU P d x) → wpX12_overlooked_b45 (wpX12_overlooked_b14 Q fu) Q S' 87 (nI (nF (sK P) d)) (nI t) (nI x) (nI t) (nI (d x)) t2 := fun t2 e => by
          rw [e]
          unfold wpX12_overlooked_b45
          rw [ng_d, dm_andn _ hdx _ huu]
          refine q_sizeOf (k := 5) (by decide) (dm_andn_lt _ hdx _ huu) ?_
          simp (disch := omega) only [c_0, c_1, c_2, c_3, c_4, c_5, c_6, c_7, c_8, c_9, c_10, c_11, c_12, c_14, c_16, c_19, c_20, c_24, c_31, c_32, c_35, c_48, c_57, c_59, c_63, c_97, c_100, c_122, c_127, c_169, c_255, c_600, c_1000, c_32767, Nat.le_refl, Nat.zero_le, Nat.add_zero, Nat.lt_irrefl, eq_self, o_sub, Nat.sub_zero, Nat.not_lt_zero, ↓ng_d, o_le, o_lt, o_eq, o_add, o_mul, o_cl, o_inT, o_and, n_31, o_shr, o_shl1, o_or, m_lt, m_ge, m_le, m_gt, m_ne, m_ne2, Option.some.injEq, exists_eq_left', true_and, and_true, true_implies, false_implies, implies_true, not_true_eq_false, not_false_eq_true, bI_0, bI_1, bI_01, b01, true_or, or_true, Nat.reduceEqDiff, Bool.not_eq_false, Bool.not_eq_true, Bool.true_eq_false, Bool.false_eq_true]
          exact hn
        by_cases hc : nF (sK P) d = 0
        · have hno : ¬ Can (sK P) d := by rw [← nF_Can hw]; exact hc
          have h3 := tail (nI 0) (by rw [uU_no hno])
          have hle0 : nF (sK P) d ≤ 0 := by omega
          simp (disch := omega) only [wpX12_overlooked_b14, c_0, c_1, c_2, c_3, c_4, c_5, c_6, c_7, c_8, c_9, c_10, c_11, c_12, c_14, c_16, c_19, c_20, c_24, c_31, c_32, c_35, c_48, c_57, c_59, c_63, c_97, c_100, c_122, c_127, c_169, c_255, c_600, c_1000, c_32767, Nat.le_refl, Nat.zero_le, Nat.add_zero, Nat.lt_irrefl, eq_self, o_sub, Nat.sub_zero, Nat.not_lt_zero, ↓ng_d, o_le, o_lt, o_eq, o_add, o_mul, o_cl, o_inT, o_and, n_31, o_shr, o_shl1, o_or, m_lt, m_ge, m_le, m_gt, m_ne, m_ne2, Option.some.injEq, exists_eq_left', true_and, and_true, true_implies, false_implies, implies_true, not_true_eq_false, not_false_eq_true, bI_0, bI_1, bI_01, b01, true_or, or_true, Nat.reduceEqDiff, Bool.not_eq_false, Bool.not_eq_true, Bool.true_eq_false, Bool.false_eq_true, msk hM2, msr_p hM2, msk_p hM2, msl_p hM2, hp2 0 (by decide), hle, msr_domain hM2, hd2.1, hd2.2.1, hd2.2.2.1 x hx7, hle0]
          exact h3
        · have h3 := tail (pI S' 103 x) (by rw [u1 x hx7, uU_of (by omega) (u2 x hx7) (u3 x (by omega))])
          have hle0 : ¬ nF (sK P) d ≤ 0 := by omega
          simp (disch := omega) only [wpX12_overlooked_b14, c_0, c_1, c_2, c_3, c_4, c_5, c_6, c_7, c_8, c_9, c_10, c_11, c_12, c_14, c_16, c_19, c_20, c_24, c_31, c_32, c_35, c_48, c_57, c_59, c_63, c_97, c_100, c_122, c_127, c_169, c_255, c_600, c_1000, c_32767, Nat.le_refl, Nat.zero_le, Nat.add_zero, Nat.lt_irrefl, eq_self, o_sub, Nat.sub_zero, Nat.not_lt_zero, ↓ng_d, o_le, o_lt, o_eq, o_add, o_mul, o_cl, o_inT, o_and, n_31, o_shr, o_shl1, o_or, m_lt, m_ge, m_le, m_gt, m_ne, m_ne2, Option.some.injEq, exists_eq_left', true_and, and_true, true_implies, false_implies, implies_true, not_true_eq_false, not_false_eq_true, bI_0, bI_1, bI_01, b01, true_or, or_true, Nat.reduceEqDiff, Bool.not_eq_false, Bool.not_eq_true, Bool.true_eq_false, Bool.false_eq_true, msk hM2, msr_p hM2, msk_p hM2, msl_p hM2, hp2 0 (by decide), hle, msr_domain hM2, hd2.1, hd2.2.1, hd2.2.2.1 x hx7, hle0, msr_possible hM2, msk_possible hM2, msl_possible hM2]
          exact h3
    exact ⟨_, loop (P 0) 0 0 (Nat.zero_add _) rfl⟩
  simp (disch := omega) only [wpX12_overlooked, c_0, c_1, c_2, c_3, c_4, c_5, c_6, c_7, c_8, c_9, c_10, c_11, c_12, c_14, c_16, c_19, c_20, c_24, c_31, c_32, c_35, c_48, c_57, c_59, c_63, c_97, c_100, c_122, c_127, c_169, c_255, c_600, c_1000, c_32767, Nat.le_refl, Nat.zero_le, Nat.add_zero, Nat.lt_irrefl, eq_self, o_sub, Nat.sub_zero, Nat.not_lt_zero, ↓ng_d, o_le, o_lt, o_eq, o_add, o_mul, o_cl, o_inT, o_and, n_31, o_shr, o_shl1, o_or, m_lt, m_ge, m_le, m_gt, m_ne, m_ne2, Option.some.injEq, exists_eq_left', true_and, and_true, true_implies, false_implies, implies_true, not_true_eq_false, not_false_eq_true, bI_0, bI_1, bI_01, b01, true_or, or_true, Nat.reduceEqDiff, Bool.not_eq_false, Bool.not_eq_true, Bool.true_eq_false, Bool.false_eq_true, msk hM]
  exact main

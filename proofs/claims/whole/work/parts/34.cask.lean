/-! BOTH SIDES: what asks for the solutions -/
theorem w_mvar {S : PS} {P : Nat → Nat} {k : Nat} {Q : Int32 → PS → Prop} (hM : MShape S) (hp : rP S P) (hw : Pwf P) (hk : k < P 0) : wpX12_isVariable S 87 (nI k) Q = Q (nI 1) S := by
  have hP0 := hw.1
  have h1 : 1 ≤ P 0 := by omega
  have hle : ¬ P 0 - 1 < k := by omega
  simp (disch := omega) only [wpX12_isVariable, wpX12_isIn, c_0, c_1, c_2, c_3, c_4, c_5, c_6, c_7, c_8, c_9, c_10, c_11, c_12, c_14, c_16, c_19, c_20, c_24, c_31, c_32, c_35, c_48, c_57, c_59, c_63, c_97, c_100, c_122, c_127, c_169, c_255, c_600, c_1000, c_32767, Nat.le_refl, Nat.zero_le, Nat.add_zero, Nat.lt_irrefl, eq_self, o_sub, Nat.sub_zero, Nat.not_lt_zero, ↓ng_d, o_le, o_lt, o_eq, o_add, o_mul, o_cl, o_inT, o_and, n_31, o_shr, o_shl1, o_or, m_lt, m_ge, m_le, m_gt, m_ne, m_ne2, Option.some.injEq, exists_eq_left', true_and, and_true, true_implies, false_implies, implies_true, not_true_eq_false, not_false_eq_true, bI_0, bI_1, bI_01, b01, true_or, or_true, Nat.reduceEqDiff, Bool.not_eq_false, Bool.not_eq_true, Bool.true_eq_false, Bool.false_eq_true, msk hM, msr_p hM, msk_p hM, msl_p hM, hp 0 (by decide), hle]
theorem w_mvar0 {S : PS} {P : Nat → Nat} {x : Int32} {Q : Int32 → PS → Prop} (hM : MShape S) (hp : rP S P) (hw : Pwf P) (hx : x < nI 0 ∨ nI (P 0) ≤ x) : wpX12_isVariable S 87 x Q = Q (nI 0) S := by
  have hP0 := hw.1
  have key : x < nI 0 ∨ nI (P 0) - nI 1 < x := by
    rcases hx with h | h
    · exact Or.inl h
    · right
      by_cases z : P 0 = 0
      · rw [z]
        rw [z] at h
        have e : nI 0 - nI 1 = ngI := by decide
        rw [e]
        rw [Int32.le_iff_toInt_le, nI_toInt (by decide)] at h
        rw [Int32.lt_iff_toInt_lt]
        have : ngI.toInt = -1 := rfl
        omega
      · rw [o_sub (by omega)]
        rw [Int32.le_iff_toInt_le, nI_toInt (by omega)] at h
        rw [Int32.lt_iff_toInt_lt, nI_toInt (by omega)]
        omega
  have hin : ∀ Q2 : Int32 → PS → Prop, wpX12_isIn S x (nI 0) (nI (P 0) - nI 1) Q2 = Q2 (nI 0) S := fun Q2 => by
    apply propext
    unfold wpX12_isIn
    rw [show (0 : Int32) = nI 0 from rfl]
    constructor
    · rintro ⟨q1, q2⟩
      by_cases h : x < nI 0
      · exact q1 h
      · exact (q2 h).1 (key.resolve_left h)
    · intro q
      exact ⟨fun _ => q, fun h => ⟨fun _ => q, fun z => absurd (key.resolve_left h) z⟩⟩
  apply propext
  unfold wpX12_isVariable
  rw [show (0 : Int32) = nI 0 from rfl, show (1 : Int32) = nI 1 from rfl]
  constructor
  · rintro ⟨_, o, ho, _, _, q⟩
    rw [msr_p hM] at ho
    cases ho
    rw [show (nI 0).toNatClampNeg = 0 from rfl, hp 0 (by decide), hin] at q
    exact q.2
  · intro q
    refine ⟨msk hM, 88, msr_p hM, msk_p hM, by rw [msl_p hM]; exact ((o_inT (show (0 : Nat) < 2147483648 by decide) (show (0 : Nat) < 169 by decide) : vp_in (nI 0) 169 = True)).mpr trivial, ?_⟩
    rw [show (nI 0).toNatClampNeg = 0 from rfl, hp 0 (by decide), hin]
    exact ⟨Or.inl rfl, q⟩
/-- may: what holds lets on, what doesn't lays its code unless one is laid -/
theorem w_may1 {S : PS} {c : Int32} {Q : Int32 → PS → Prop} (hM : MShape S) (h0 : pI S 87 0 = nI 0) : wpX12_may S 87 (nI 1) c Q = Q (nI 1) S := by
  have n10 : ¬ (1 : Nat) = 0 := by decide
  simp (disch := omega) only [wpX12_may, wpX12_may_b16, c_0, c_1, c_2, c_3, c_4, c_5, c_6, c_7, c_8, c_9, c_10, c_11, c_12, c_14, c_16, c_19, c_20, c_24, c_31, c_32, c_35, c_48, c_57, c_59, c_63, c_97, c_100, c_122, c_127, c_169, c_255, c_600, c_1000, c_32767, Nat.le_refl, Nat.zero_le, Nat.add_zero, Nat.lt_irrefl, eq_self, o_sub, Nat.sub_zero, Nat.not_lt_zero, ↓ng_d, o_le, o_lt, o_eq, o_add, o_mul, o_cl, o_inT, o_and, n_31, o_shr, o_shl1, o_or, m_lt, m_ge, m_le, m_gt, m_ne, m_ne2, Option.some.injEq, exists_eq_left', true_and, and_true, true_implies, false_implies, implies_true, not_true_eq_false, not_false_eq_true, bI_0, bI_1, bI_01, b01, true_or, or_true, Nat.reduceEqDiff, Bool.not_eq_false, Bool.not_eq_true, Bool.true_eq_false, Bool.false_eq_true, msk hM, h0]
theorem w_mayx {S : PS} {x c : Int32} {t : Nat} {Q : Int32 → PS → Prop} (hM : MShape S) (ht : 0 < t) (ht2 : t < 2147483648) (h0 : pI S 87 0 = nI t) : wpX12_may S 87 x c Q = Q (nI 0) S := by
  have n : ¬ t = 0 := by omega
  by_cases hx : x = nI 0
  · subst hx
    simp (disch := omega) only [wpX12_may, wpX12_may_b16, c_0, c_1, c_2, c_3, c_4, c_5, c_6, c_7, c_8, c_9, c_10, c_11, c_12, c_14, c_16, c_19, c_20, c_24, c_31, c_32, c_35, c_48, c_57, c_59, c_63, c_97, c_100, c_122, c_127, c_169, c_255, c_600, c_1000, c_32767, Nat.le_refl, Nat.zero_le, Nat.add_zero, Nat.lt_irrefl, eq_self, o_sub, Nat.sub_zero, Nat.not_lt_zero, ↓ng_d, o_le, o_lt, o_eq, o_add, o_mul, o_cl, o_inT, o_and, n_31, o_shr, o_shl1, o_or, m_lt, m_ge, m_le, m_gt, m_ne, m_ne2, Option.some.injEq, exists_eq_left', true_and, and_true, true_implies, false_implies, implies_true, not_true_eq_false, not_false_eq_true, bI_0, bI_1, bI_01, b01, true_or, or_true, Nat.reduceEqDiff, Bool.not_eq_false, Bool.not_eq_true, Bool.true_eq_false, Bool.false_eq_true, msk hM, h0, n]
  · have hx' : (x = (0 : Int32)) = False := propext ⟨fun q => hx q, fun q => q.elim⟩
    simp (disch := omega) only [wpX12_may, wpX12_may_b16, hx', hx, c_0, c_1, c_2, c_3, c_4, c_5, c_6, c_7, c_8, c_9, c_10, c_11, c_12, c_14, c_16, c_19, c_20, c_24, c_31, c_32, c_35, c_48, c_57, c_59, c_63, c_97, c_100, c_122, c_127, c_169, c_255, c_600, c_1000, c_32767, Nat.le_refl, Nat.zero_le, Nat.add_zero, Nat.lt_irrefl, eq_self, o_sub, Nat.sub_zero, Nat.not_lt_zero, ↓ng_d, o_le, o_lt, o_eq, o_add, o_mul, o_cl, o_inT, o_and, n_31, o_shr, o_shl1, o_or, m_lt, m_ge, m_le, m_gt, m_ne, m_ne2, Option.some.injEq, exists_eq_left', true_and, and_true, true_implies, false_implies, implies_true, not_true_eq_false, not_false_eq_true, bI_0, bI_1, bI_01, b01, true_or, or_true, Nat.reduceEqDiff, Bool.not_eq_false, Bool.not_eq_true, Bool.true_eq_false, Bool.false_eq_true, msk hM, h0, n]
theorem w_may0 {S : PS} {t : Nat} {Q : Int32 → PS → Prop} (hM : MShape S) (ht : 0 < t) (ht2 : t < 2147483648) (h0 : pI S 87 0 = nI 0) : wpX12_may S 87 (nI 0) (nI t) Q = Q (nI 0) (sI S 87 0 (nI t)) := by
  have n : ¬ t = 0 := by omega
  have e : pI (sI S 87 0 (nI t)) 87 0 = nI t := by rw [pI_sI, if_pos ⟨rfl, rfl⟩]
  simp (disch := omega) only [wpX12_may, wpX12_may_b16, c_0, c_1, c_2, c_3, c_4, c_5, c_6, c_7, c_8, c_9, c_10, c_11, c_12, c_14, c_16, c_19, c_20, c_24, c_31, c_32, c_35, c_48, c_57, c_59, c_63, c_97, c_100, c_122, c_127, c_169, c_255, c_600, c_1000, c_32767, Nat.le_refl, Nat.zero_le, Nat.add_zero, Nat.lt_irrefl, eq_self, o_sub, Nat.sub_zero, Nat.not_lt_zero, ↓ng_d, o_le, o_lt, o_eq, o_add, o_mul, o_cl, o_inT, o_and, n_31, o_shr, o_shl1, o_or, m_lt, m_ge, m_le, m_gt, m_ne, m_ne2, Option.some.injEq, exists_eq_left', true_and, and_true, true_implies, false_implies, implies_true, not_true_eq_false, not_false_eq_true, bI_0, bI_1, bI_01, b01, true_or, or_true, Nat.reduceEqDiff, Bool.not_eq_false, Bool.not_eq_true, Bool.true_eq_false, Bool.false_eq_true, msk hM, h0, e, pK_sI, n]
theorem mf_0 (S : PS) (v : Int32) : mf [] [0] S (sI S 87 0 v) := ⟨fr_sI _ _ _ (by decide), fun k hk => ⟨by rw [pI_sI, if_neg (fun q => hk (by rw [q.2]; exact List.mem_singleton.mpr rfl))], rfl⟩⟩
/-- the reference's solutions, also of no variable -/
theorem P1_0 {P : Nat → Nat} (hw : Pwf P) (h : P 0 = 0) : P 1 = 0 := by
  apply Classical.byContradiction
  intro q
  have h1 := hw.2.2.2.2.2 0 (by omega)
  have := h1.2.2.2.1 0 h1.2.1
  omega
theorem q_solvesA {S : PS} {P d : Nat → Nat} {Q : Int32 → PS → Prop} (hM : MShape S) (hp : rP S P) (hw : Pwf P) (hd : rD S 90 d) (hQ : ∀ S', fr [101, 102, 103] S S' → Sld S' P d → Q (nI (nF (sK P) d)) S') : wpX12_solves S 87 Q := by
  by_cases hN : P 0 = 0
  · have hP1 := P1_0 hw hN
    have hok : ∀ a, (sK P).2.2 a = true := fun a => sK_ok.mpr (fun c hc => by omega)
    have hno : ∀ k, ¬ k < (sK P).1 := fun k hk => by
      have hk' : k < P 0 := hk
      omega
    have hn1 : nF (sK P) d = 1 := by
      have e : (sK P).1 = 0 := hN
      unfold nF
      rw [e]
      show (if (sK P).2.2 (fun _ => 0) = true then 1 else 0) = 1
      rw [if_pos (hok _)]
    have main : ∀ r x S', x + r = 7 → fr [101, 102, 103] S S' → (∀ y, y < x → pI S' 103 y = nI 0) → wpX12_solves_b2 Q (r + 1) S' 87 (nI x) := by
      intro r
      induction r with
      | zero =>
        intro x S' hx hf h0
        have hM' := hf.M hM
        have hp' := hf.P (by decide) hp
        have hle : 7 ≤ x := by omega
        have h1 := hQ S' hf ⟨fun _ => ⟨fun _ => 0, ⟨⟨fun k hk => absurd hk (hno k), hok _⟩, fun b _ => Or.inl (fun k hk => absurd hk (hno k))⟩, fun _ => (show (0 : Nat) < 5 by decide), fun y hy => by omega⟩, fun _ => 0, fun y hy => h0 y (by omega), fun _ _ => (show (0 : Nat) < 32 by decide), fun x hx => by omega⟩
        rw [hn1] at h1
        simp (disch := omega) only [wpX12_solves_b2, c_0, c_1, c_2, c_3, c_4, c_5, c_6, c_7, c_8, c_9, c_10, c_11, c_12, c_14, c_16, c_19, c_20, c_24, c_31, c_32, c_35, c_48, c_57, c_59, c_63, c_97, c_100, c_122, c_127, c_169, c_255, c_600, c_1000, c_32767, Nat.le_refl, Nat.zero_le, Nat.add_zero, Nat.lt_irrefl, eq_self, o_sub, Nat.sub_zero, Nat.not_lt_zero, ↓ng_d, o_le, o_lt, o_eq, o_add, o_mul, o_cl, o_inT, o_and, n_31, o_shr, o_shl1, o_or, m_lt, m_ge, m_le, m_gt, m_ne, m_ne2, Option.some.injEq, exists_eq_left', true_and, and_true, true_implies, false_implies, implies_true, not_true_eq_false, not_false_eq_true, bI_0, bI_1, bI_01, b01, true_or, or_true, Nat.reduceEqDiff, Bool.not_eq_false, Bool.not_eq_true, Bool.true_eq_false, Bool.false_eq_true, msk hM', msr_p hM', msk_p hM', msl_p hM', hp' 0 (by decide), hle, hN]
        exact h1
      | succ r ih =>
        intro x S' hx hf h0
        have hM' := hf.M hM
        have hx7 : x < 7 := by omega
        have hle : ¬ 7 ≤ x := by omega
        have h1 := ih (x + 1) (sI (sI S' 101 x ngI) 103 x (nI 0)) (by omega) (fr_t hf (fr_t (fr_sI _ _ _ (by decide)) (fr_sI _ _ _ (by decide)))) (fun y hy => by
          rw [pI_sI]
          by_cases e : y = x
          · rw [if_pos ⟨rfl, e⟩]
          · rw [if_neg (fun q => e q.2), pI_sI, if_neg (fun q => by omega)]
            exact h0 y (by omega))
        generalize r + 1 = fu at h1 ⊢
        simp (disch := omega) only [wpX12_solves_b2, c_0, c_1, c_2, c_3, c_4, c_5, c_6, c_7, c_8, c_9, c_10, c_11, c_12, c_14, c_16, c_19, c_20, c_24, c_31, c_32, c_35, c_48, c_57, c_59, c_63, c_97, c_100, c_122, c_127, c_169, c_255, c_600, c_1000, c_32767, Nat.le_refl, Nat.zero_le, Nat.add_zero, Nat.lt_irrefl, eq_self, o_sub, Nat.sub_zero, Nat.not_lt_zero, ↓ng_d, o_le, o_lt, o_eq, o_add, o_mul, o_cl, o_inT, o_and, n_31, o_shr, o_shl1, o_or, m_lt, m_ge, m_le, m_gt, m_ne, m_ne2, Option.some.injEq, exists_eq_left', true_and, and_true, true_implies, false_implies, implies_true, not_true_eq_false, not_false_eq_true, bI_0, bI_1, bI_01, b01, true_or, or_true, Nat.reduceEqDiff, Bool.not_eq_false, Bool.not_eq_true, Bool.true_eq_false, Bool.false_eq_true, msk hM', msr_given hM', msk_given hM', msl_given hM', msr_possible hM', msk_possible hM', msl_possible hM', hle]
        exact h1
    unfold wpX12_solves
    exact ⟨_, main 7 0 S (Nat.zero_add _) (fr_r _ _) (fun y hy => by omega)⟩
  · exact q_solves hM hp hw (by omega) hd hQ
theorem nF_Can {P d : Nat → Nat} (hw : Pwf P) : (nF (sK P) d = 0) = (¬ Can (sK P) d) := by
  have h := nF_pos (sK_wf hw) (d := d)
  apply propext
  constructor
  · intro q z
    have := h.mpr z
    omega
  · intro q
    apply Classical.byContradiction
    intro z
    exact q (h.mp (by omega))
/-- the values in solutions -/
noncomputable def uU (P d : Nat → Nat) (x : Nat) : Nat := if x < P 0 then enc5 (fun v => dB (inS P d x v)) else 0
theorem uU_lt (P d : Nat → Nat) (x : Nat) : uU P d x < 32 := by
  unfold uU
  split
  · exact (enc5_tb _).1
  · decide
theorem uU_tb {P d : Nat → Nat} {x v : Nat} (hx : x < P 0) (hv : v < 5) : (uU P d x).testBit v = true ↔ inS P d x v := by
  unfold uU
  rw [if_pos hx, (enc5_tb _).2 v hv]
  exact dB_t
theorem uU_of {P d : Nat → Nat} {x u : Nat} (hx : x < P 0) (hu : u < 32) (h : ∀ v, v < 5 → (u.testBit v = true ↔ inS P d x v)) : u = uU P d x := dm_ext u hu _ (uU_lt P d x) (fun v hv => by
  cases e : (uU P d x).testBit v
  · cases e2 : u.testBit v
    · rfl
    · rw [(uU_tb hx hv).mpr ((h v hv).mp e2)] at e
      cases e
  · exact (h v hv).mpr ((uU_tb hx hv).mp e))
theorem uU_no {P d : Nat → Nat} {x : Nat} (h : ¬ Can (sK P) d) : uU P d x = 0 := by
  by_cases hx : x < P 0
  · exact (uU_of hx (by decide) (fun v _ => ⟨fun q => by simp at q, fun ⟨b, hb, _⟩ => absurd ⟨b, hb⟩ h⟩)).symm
  · unfold uU
    rw [if_neg hx]
/-- what the bounds have overlooked -/
noncomputable def ovl (P d : Nat → Nat) : Nat := dsum (fun x => andn (d x) (uU P d x))
/-! the class -/
theorem c_solutions {S : PS} {P : Nat → Nat} {pb l : Nat} {σ : St} {Q : Int32 → PS → Prop} (hc : CSh S) (hpb : pR S 0 6 = some pb) (hp : PRep S pb P) (hw : Pwf P) (hT : cT S 6 (P 0) l σ) (hF : FndI S P) (hQ : ∀ S', fr [83] S S' → FndI S' P → Q (nI (nF (sK P) σ.1)) S') : wpX11_solutions S 0 Q := by
  obtain ⟨t1, t2, t3, t4, t5, t6, _⟩ := hT
  have c4 := hc.2.2.2.2.2.1
  have c1 := hc.2.2.1
  have hT6 := hc.2.2.2.2.2.2.2.2.2.2.2.1
  have hK8 : pK S 6 = 8 := hT6.1
  have main : wpX7_find S 83 pb (pk σ.1) (fun S8 => (pK S8 0 = 10 ∧ (∃ o10, pR S8 0 4 = some o10 ∧ (pK S8 o10 = 6 ∧ (Q (pI S8 o10 1) S8))))) := by
    refine q_find hp hw t5 t6 hF (fun S' hf hs => ?_)
    have hc' := hf.CS hc
    have h1 := hQ S' hf (SolR.F t5 hs)
    obtain ⟨L, U, g, _⟩ := hs
    refine ⟨hc'.1, 83, hc'.2.2.2.2.2.1, g.1, ?_⟩
    rw [g.2.1]
    exact h1
  simp (disch := omega) only [wpX11_solutions, c_0, c_1, c_2, c_3, c_4, c_5, c_6, c_7, c_8, c_9, c_10, c_11, c_12, c_14, c_16, c_19, c_20, c_24, c_31, c_32, c_35, c_48, c_57, c_59, c_63, c_97, c_100, c_122, c_127, c_169, c_255, c_600, c_1000, c_32767, Nat.le_refl, Nat.zero_le, Nat.add_zero, Nat.lt_irrefl, eq_self, o_sub, Nat.sub_zero, Nat.not_lt_zero, ↓ng_d, o_le, o_lt, o_eq, o_add, o_mul, o_cl, o_inT, o_and, n_31, o_shr, o_shl1, o_or, m_lt, m_ge, m_le, m_gt, m_ne, m_ne2, Option.some.injEq, exists_eq_left', true_and, and_true, true_implies, false_implies, implies_true, not_true_eq_false, not_false_eq_true, bI_0, bI_1, bI_01, b01, true_or, or_true, Nat.reduceEqDiff, Bool.not_eq_false, Bool.not_eq_true, Bool.true_eq_false, Bool.false_eq_true, hc.1, c4, c1, hpb, hK8, hF.1, t4]
  exact main
theorem c_first {S : PS} {P : Nat → Nat} {pb l : Nat} {σ : St} {x : Int32} {Q : Int32 → PS → Prop} {X : String → PS → Prop} (hc : CSh S) (hpb : pR S 0 6 = some pb) (hp : PRep S pb P) (hw : Pwf P) (hT : cT S 6 (P 0) l σ) (hF : FndI S P) (hQ : ∀ S' k a, fr [83] S S' → FndI S' P → k < P 0 → x = nI k → Lea (sK P) σ.1 a → Q (nI (a k)) S') (hX : (x < nI 0 ∨ nI (P 0) ≤ x) → ∀ n, X "java/lang/IndexOutOfBoundsException" (sSkip S n)) (hX2 : ∀ S' k, fr [83] S S' → FndI S' P → k < P 0 → x = nI k → ¬ Can (sK P) σ.1 → ∀ n, X "java/util/NoSuchElementException" (sSkip S' n)) : wpX11_first S 0 x Q X := by
  have hP0 := hw.1
  obtain ⟨t1, t2, t3, t4, t5, t6, _⟩ := hT
  have c4 := hc.2.2.2.2.2.1
  have c1 := hc.2.2.1
  have hT6 := hc.2.2.2.2.2.2.2.2.2.2.2.1
  have hK8 : pK S 6 = 8 := hT6.1
  rcases i_split x (N := P 0) (by omega) with ⟨k, hk, rfl⟩ | hx
  · have n10 : ¬ (1 : Nat) = 0 := by decide
    have main : wpX7_find S 83 pb (pk σ.1) (fun S11 => (pK S11 0 = 10 ∧ (∃ o13, pR S11 0 4 = some o13 ∧ (pK S11 o13 = 6 ∧ ((¬ (pI S11 o13 1) = nI 0 → (wpX5_leastValueOf S11 (pJ S11 o13 2) (nI k) (fun r15 S16 => (Q r15 S16)))) ∧ ((pI S11 o13 1) = nI 0 → (∀ n, X "java/util/NoSuchElementException" (sSkip S11 n)))))))) := by
      refine q_find hp hw t5 t6 hF (fun S' hf hs => ?_)
      have hc' := hf.CS hc
      have hF' := SolR.F t5 hs
      obtain ⟨L, U, g, gl, _⟩ := hs
      have hlt := nF_le (sK_wf hw) σ.1
      refine ⟨hc'.1, 83, hc'.2.2.2.2.2.1, g.1, fun q => ?_, fun q => ?_⟩
      · rw [g.2.1, o_eq (by omega) (by decide), nF_Can hw] at q
        obtain ⟨a, ha, e⟩ := gl (Classical.byContradiction q)
        rw [g.2.2.1, e]
        have hin : inM (sK P) k = true := inM_t.mpr ⟨k, hk, rfl⟩
        have ho : oneOf (sK P) a k = 2 ^ a k := by unfold oneOf; rw [if_pos hin]
        have ha5 := (ha.1.1 k hk).1
        have ha5' : a k < 5 := ha5
        have hpick : pick5 (dF (2 ^ a k)) = a k := by
          have h1 := pick_in (dm_pow_lt _ ha5') (by have := Nat.two_pow_pos (a k); omega)
          have h2 := dm_pow_tb _ ha5' _ h1.1
          rw [h1.2] at h2
          simpa using h2.symm
        refine q_leastValue (oneOf_wf (fun j hj => (ha.1.1 j hj).1)) (by omega) (by rw [ho]; have := Nat.two_pow_pos (a k); omega) ?_
        rw [ho, hpick]
        exact hQ S' k a hf hF' hk rfl ha
      · rw [g.2.1, o_eq (by omega) (by decide), nF_Can hw] at q
        exact hX2 S' k hf hF' hk rfl q
    unfold wpX11_first
    rw [w_cvar hc hpb hp hw hk]
    simp (disch := omega) only [c_0, c_1, c_2, c_3, c_4, c_5, c_6, c_7, c_8, c_9, c_10, c_11, c_12, c_14, c_16, c_19, c_20, c_24, c_31, c_32, c_35, c_48, c_57, c_59, c_63, c_97, c_100, c_122, c_127, c_169, c_255, c_600, c_1000, c_32767, Nat.le_refl, Nat.zero_le, Nat.add_zero, Nat.lt_irrefl, eq_self, o_sub, Nat.sub_zero, Nat.not_lt_zero, ↓ng_d, o_le, o_lt, o_eq, o_add, o_mul, o_cl, o_inT, o_and, n_31, o_shr, o_shl1, o_or, m_lt, m_ge, m_le, m_gt, m_ne, m_ne2, Option.some.injEq, exists_eq_left', true_and, and_true, true_implies, false_implies, implies_true, not_true_eq_false, not_false_eq_true, bI_0, bI_1, bI_01, b01, true_or, or_true, Nat.reduceEqDiff, Bool.not_eq_false, Bool.not_eq_true, Bool.true_eq_false, Bool.false_eq_true, hc.1, c4, c1, hpb, hK8, hF.1, t4]
    exact main
  · unfold wpX11_first
    rw [w_cvar0 hc hpb hp hx]
    simp (disch := omega) only [c_0, c_1, c_2, c_3, c_4, c_5, c_6, c_7, c_8, c_9, c_10, c_11, c_12, c_14, c_16, c_19, c_20, c_24, c_31, c_32, c_35, c_48, c_57, c_59, c_63, c_97, c_100, c_122, c_127, c_169, c_255, c_600, c_1000, c_32767, Nat.le_refl, Nat.zero_le, Nat.add_zero, Nat.lt_irrefl, eq_self, o_sub, Nat.sub_zero, Nat.not_lt_zero, ↓ng_d, o_le, o_lt, o_eq, o_add, o_mul, o_cl, o_inT, o_and, n_31, o_shr, o_shl1, o_or, m_lt, m_ge, m_le, m_gt, m_ne, m_ne2, Option.some.injEq, exists_eq_left', true_and, and_true, true_implies, false_implies, implies_true, not_true_eq_false, not_false_eq_true, bI_0, bI_1, bI_01, b01, true_or, or_true, Nat.reduceEqDiff, Bool.not_eq_false, Bool.not_eq_true, Bool.true_eq_false, Bool.false_eq_true, hc.1]
    exact hX hx
theorem c_possible {S : PS} {P : Nat → Nat} {pb l : Nat} {σ : St} {x : Int32} {Q : Int32 → PS → Prop} {X : String → PS → Prop} (hc : CSh S) (hpb : pR S 0 6 = some pb) (hp : PRep S pb P) (hw : Pwf P) (hT : cT S 6 (P 0) l σ) (hF : FndI S P) (hQ : ∀ S' k, fr [83] S S' → FndI S' P → k < P 0 → x = nI k → Q (nI (uU P σ.1 k)) S') (hX : (x < nI 0 ∨ nI (P 0) ≤ x) → ∀ n, X "java/lang/IndexOutOfBoundsException" (sSkip S n)) : wpX11_possible S 0 x Q X := by
  have hP0 := hw.1
  obtain ⟨t1, t2, t3, t4, t5, t6, _⟩ := hT
  have c4 := hc.2.2.2.2.2.1
  have c1 := hc.2.2.1
  have hT6 := hc.2.2.2.2.2.2.2.2.2.2.2.1
  have hK8 : pK S 6 = 8 := hT6.1
  rcases i_split x (N := P 0) (by omega) with ⟨k, hk, rfl⟩ | hx
  · have n10 : ¬ (1 : Nat) = 0 := by decide
    have main : wpX7_find S 83 pb (pk σ.1) (fun S11 => (pK S11 0 = 10 ∧ (∃ o13, pR S11 0 4 = some o13 ∧ (pK S11 o13 = 6 ∧ (wpX5_valuesOf S11 (pJ S11 o13 3) (nI k) (fun r15 S16 => (Q r15 S16))))))) := by
      refine q_find hp hw t5 t6 hF (fun S' hf hs => ?_)
      have hc' := hf.CS hc
      have hF' := SolR.F t5 hs
      obtain ⟨L, U, g, _, gu, _⟩ := hs
      refine ⟨hc'.1, 83, hc'.2.2.2.2.2.1, g.1, ?_⟩
      rw [g.2.2.2.1, w_valuesOf g.2.2.2.2.1 (by omega), uU_of hk (g.2.2.2.2.1 k (by omega)) (gu k hk)]
      exact hQ S' k hf hF' hk rfl
    unfold wpX11_possible
    rw [w_cvar hc hpb hp hw hk]
    simp (disch := omega) only [c_0, c_1, c_2, c_3, c_4, c_5, c_6, c_7, c_8, c_9, c_10, c_11, c_12, c_14, c_16, c_19, c_20, c_24, c_31, c_32, c_35, c_48, c_57, c_59, c_63, c_97, c_100, c_122, c_127, c_169, c_255, c_600, c_1000, c_32767, Nat.le_refl, Nat.zero_le, Nat.add_zero, Nat.lt_irrefl, eq_self, o_sub, Nat.sub_zero, Nat.not_lt_zero, ↓ng_d, o_le, o_lt, o_eq, o_add, o_mul, o_cl, o_inT, o_and, n_31, o_shr, o_shl1, o_or, m_lt, m_ge, m_le, m_gt, m_ne, m_ne2, Option.some.injEq, exists_eq_left', true_and, and_true, true_implies, false_implies, implies_true, not_true_eq_false, not_false_eq_true, bI_0, bI_1, bI_01, b01, true_or, or_true, Nat.reduceEqDiff, Bool.not_eq_false, Bool.not_eq_true, Bool.true_eq_false, Bool.false_eq_true, hc.1, c4, c1, hpb, hK8, hF.1, t4]
    exact main
  · unfold wpX11_possible
    rw [w_cvar0 hc hpb hp hx]
    simp (disch := omega) only [c_0, c_1, c_2, c_3, c_4, c_5, c_6, c_7, c_8, c_9, c_10, c_11, c_12, c_14, c_16, c_19, c_20, c_24, c_31, c_32, c_35, c_48, c_57, c_59, c_63, c_97, c_100, c_122, c_127, c_169, c_255, c_600, c_1000, c_32767, Nat.le_refl, Nat.zero_le, Nat.add_zero, Nat.lt_irrefl, eq_self, o_sub, Nat.sub_zero, Nat.not_lt_zero, ↓ng_d, o_le, o_lt, o_eq, o_add, o_mul, o_cl, o_inT, o_and, n_31, o_shr, o_shl1, o_or, m_lt, m_ge, m_le, m_gt, m_ne, m_ne2, Option.some.injEq, exists_eq_left', true_and, and_true, true_implies, false_implies, implies_true, not_true_eq_false, not_false_eq_true, bI_0, bI_1, bI_01, b01, true_or, or_true, Nat.reduceEqDiff, Bool.not_eq_false, Bool.not_eq_true, Bool.true_eq_false, Bool.false_eq_true, hc.1]
    exact hX hx
theorem c_overlooked {S : PS} {P : Nat → Nat} {pb l : Nat} {σ : St} {Q : Int32 → PS → Prop} (hc : CSh S) (hpb : pR S 0 6 = some pb) (hp : PRep S pb P) (hw : Pwf P) (hT : cT S 6 (P 0) l σ) (hF : FndI S P) (hQ : ∀ S', fr [83] S S' → FndI S' P → Q (nI (ovl P σ.1)) S') : wpX11_overlooked S 0 Q := by
  obtain ⟨t1, t2, t3, t4, t5, t6, _⟩ := hT
  have hP0 := hw.1
  have c4 := hc.2.2.2.2.2.1
  have c1 := hc.2.2.1
  have hT6 := hc.2.2.2.2.2.2.2.2.2.2.2.1
  have hK8 : pK S 6 = 8 := hT6.1
  have main : wpX7_find S 83 pb (pk σ.1) (fun S8 => (pK S8 0 = 10 ∧ (∃ o10, pR S8 0 1 = some o10 ∧ (pK S8 o10 = 8 ∧ (∃ o12, pR S8 0 4 = some o12 ∧ (pK S8 o12 = 6 ∧ (wpJ13_bitCount_95d88 S8 ((pJ S8 o10 5) &&& ((pJ S8 o12 3) ^^^ ngL)) (fun r14 S15 => (Q r14 S15))))))))) := by
    refine q_find hp hw t5 t6 hF (fun S' hf hs => ?_)
    have hc' := hf.CS hc
    have h1 := hQ S' hf (SolR.F t5 hs)
    obtain ⟨L, U, g, _, gu, gz⟩ := hs
    refine ⟨hc'.1, 6, hc'.2.2.1, by rw [hf.K]; exact hK8, 83, hc'.2.2.2.2.2.1, g.1, ?_⟩
    rw [w_bcl, hf.J (by decide), t4, g.2.2.2.1, pq_andn t5 g.2.2.2.2.1, bcl_pk (fun x hx => dm_andn_lt _ (t5 x hx) _ (g.2.2.2.2.1 x hx))]
    have e : (fun x => andn (σ.1 x) (U x)) = fun x => andn (σ.1 x) (U x) := rfl
    have e2 : dsum (fun x => andn (σ.1 x) (U x)) = ovl P σ.1 := by
      unfold ovl dsum
      apply sN_cong
      intro x hx
      by_cases q : x < P 0
      · show pcn 5 (andn (σ.1 x) (U x)) = pcn 5 (andn (σ.1 x) (uU P σ.1 x))
        rw [uU_of q (g.2.2.2.2.1 x hx) (gu x q)]
      · show pcn 5 (andn (σ.1 x) (U x)) = pcn 5 (andn (σ.1 x) (uU P σ.1 x))
        rw [gz x (by omega) hx]
        unfold uU
        rw [if_neg q]
    rw [e2]
    exact h1
  simp (disch := omega) only [wpX11_overlooked, c_0, c_1, c_2, c_3, c_4, c_5, c_6, c_7, c_8, c_9, c_10, c_11, c_12, c_14, c_16, c_19, c_20, c_24, c_31, c_32, c_35, c_48, c_57, c_59, c_63, c_97, c_100, c_122, c_127, c_169, c_255, c_600, c_1000, c_32767, Nat.le_refl, Nat.zero_le, Nat.add_zero, Nat.lt_irrefl, eq_self, o_sub, Nat.sub_zero, Nat.not_lt_zero, ↓ng_d, o_le, o_lt, o_eq, o_add, o_mul, o_cl, o_inT, o_and, n_31, o_shr, o_shl1, o_or, m_lt, m_ge, m_le, m_gt, m_ne, m_ne2, Option.some.injEq, exists_eq_left', true_and, and_true, true_implies, false_implies, implies_true, not_true_eq_false, not_false_eq_true, bI_0, bI_1, bI_01, b01, true_or, or_true, Nat.reduceEqDiff, Bool.not_eq_false, Bool.not_eq_true, Bool.true_eq_false, Bool.false_eq_true, hc.1, c4, c1, hpb, hK8, hF.1, t4, ngL_d]
  exact main

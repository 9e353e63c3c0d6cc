/-! THE CLASS: what it found -/
theorem i_split (x : Int32) {N : Nat} (hN : N < 2147483648) : (∃ k, k < N ∧ x = nI k) ∨ (x < nI 0 ∨ nI N ≤ x) := by
  by_cases h : x < nI 0
  · exact Or.inr (Or.inl h)
  · by_cases h2 : nI N ≤ x
    · exact Or.inr (Or.inr h2)
    · left
      have h0 : (0 : Int) ≤ x.toInt := by
        rw [Int32.lt_iff_toInt_lt, nI_toInt (by omega)] at h
        omega
      have h3 : x.toInt < N := by
        rw [Int32.le_iff_toInt_le, nI_toInt hN] at h2
        omega
      refine ⟨x.toInt.toNat, by omega, ?_⟩
      apply Int32.toInt_inj.mp
      rw [nI_toInt (by omega)]
      omega
theorem Ful_cg {κ : Kon} {d e a : Nat → Nat} (h : ∀ k, k < κ.1 → d (κ.2.1 k) = e (κ.2.1 k)) : Ful κ d a ↔ Ful κ e a := by
  constructor
  · rintro ⟨h1, h2⟩
    exact ⟨fun k hk => by rw [← h k hk]; exact h1 k hk, h2⟩
  · rintro ⟨h1, h2⟩
    exact ⟨fun k hk => by rw [h k hk]; exact h1 k hk, h2⟩
theorem nF_cg {κ : Kon} {d e : Nat → Nat} (h : ∀ k, k < κ.1 → d (κ.2.1 k) = e (κ.2.1 k)) : nF κ d = nF κ e := cF_d κ.1 0 _ (fun k _ hk => h k (by omega))
theorem Lea_cg {κ : Kon} {d e a : Nat → Nat} (h : ∀ k, k < κ.1 → d (κ.2.1 k) = e (κ.2.1 k)) (hl : Lea κ d a) : Lea κ e a := ⟨(Ful_cg h).mp hl.1, fun b hb => hl.2 b ((Ful_cg h).mpr hb)⟩
/-- the found object tells the solutions of d -/
def SolR (S : PS) (P d : Nat → Nat) : Prop := ∃ L U, FSt (pk d) S (nF (sK P) d) L U ∧ (Can (sK P) d → ∃ a, Lea (sK P) d a ∧ L = pk (oneOf (sK P) a)) ∧ (∀ x, x < P 0 → ∀ v, v < 5 → ((U x).testBit v = true ↔ inS P d x v)) ∧ ∀ x, P 0 ≤ x → x < 7 → U x = 0
theorem SolR_cg {S : PS} {P d e : Nat → Nat} (hw : Pwf P) (h : ∀ x, x < 7 → d x = e x) (hs : SolR S P d) : SolR S P e := by
  have hP0 := hw.1
  have hk : ∀ k, k < (sK P).1 → d ((sK P).2.1 k) = e ((sK P).2.1 k) := fun k hk => by
    have hk' : k < P 0 := hk
    exact h k (by omega)
  obtain ⟨L, U, h1, h2, h3, h4⟩ := hs
  rw [nF_cg hk, pq_cg h] at h1
  refine ⟨L, U, h1, fun q => ?_, fun x hx v hv => ?_, h4⟩
  · obtain ⟨a, ha, e1⟩ := h2 ((Can_cg hk).mpr q)
    exact ⟨a, Lea_cg hk ha, e1⟩
  · rw [h3 x hx v hv]
    exact ⟨fun ⟨b, hb, q⟩ => ⟨b, (Ful_cg hk).mp hb, q⟩, fun ⟨b, hb, q⟩ => ⟨b, (Ful_cg hk).mpr hb, q⟩⟩
/-- nothing is known, or it is known of some domains -/
def FndI (S : PS) (P : Nat → Nat) : Prop := pK S 83 = 6 ∧ (pI S 83 0 = nI 0 ∨ ∃ d, Dwf d ∧ SolR S P d)
theorem SolR.F {S : PS} {P d : Nat → Nat} (hd : Dwf d) (h : SolR S P d) : FndI S P := ⟨by obtain ⟨L, U, h1, _⟩ := h; exact h1.1, Or.inr ⟨d, hd, h⟩⟩
theorem FSt_fr {A : List Nat} {S S' : PS} {D L : Int64} {cnt : Nat} {U : Nat → Nat} (h : fr A S S') (hA : 83 ∉ A) (hs : FSt D S cnt L U) : FSt D S' cnt L U := by
  obtain ⟨s1, s2, s3, s4, s5, s6, s7⟩ := hs
  exact ⟨by rw [h.K]; exact s1, by rw [h.I hA]; exact s2, by rw [h.J hA]; exact s3, by rw [h.J hA]; exact s4, s5, by rw [h.I hA]; exact s6, by rw [h.J hA]; exact s7⟩
theorem SolR_fr {A : List Nat} {S S' : PS} {P d : Nat → Nat} (h : fr A S S') (hA : 83 ∉ A) (hs : SolR S P d) : SolR S' P d := by
  obtain ⟨L, U, h1, h2⟩ := hs
  exact ⟨L, U, FSt_fr h hA h1, h2⟩
theorem FndI_fr {A : List Nat} {S S' : PS} {P : Nat → Nat} (h : fr A S S') (hA : 83 ∉ A) (hs : FndI S P) : FndI S' P := by
  obtain ⟨h1, h2⟩ := hs
  refine ⟨by rw [h.K]; exact h1, ?_⟩
  rcases h2 with h2 | ⟨d, hd, h2⟩
  · left; rw [h.I hA]; exact h2
  · exact Or.inr ⟨d, hd, SolR_fr h hA h2⟩
theorem q_find {S : PS} {P d : Nat → Nat} {pb : Nat} {Q : PS → Prop} (hp : PRep S pb P) (hw : Pwf P) (hd : Dwf d) (hz : ∀ x, P 0 ≤ x → x < 7 → d x = 0) (hF : FndI S P) (hQ : ∀ S', fr [83] S S' → SolR S' P d → Q S') : wpX7_find S 83 pb (pk d) Q := by
  have hP0 := hw.1
  obtain ⟨hK, hF⟩ := hF
  have hle := nF_le (sK_wf hw) d
  have new : wpX7_find_b17 Q S 83 pb (pk d) := by
    have hf : fr [83] S (sJ (sJ (sI (sJ (sI S 83 0 (nI 1)) 83 4 (pk d)) 83 1 (nI 0)) 83 2 (lN 0)) 83 3 (lN 0)) := fr_t (fr_sI _ _ _ (by decide)) (fr_t (fr_sJ _ _ _ (by decide)) (fr_t (fr_sI _ _ _ (by decide)) (fr_t (fr_sJ _ _ _ (by decide)) (fr_sJ _ _ _ (by decide)))))
    have h1 := q_addFrom (D := pk d) hp hw 9 0 d 0 (lN 0) (fun _ => 0) (sJ (sJ (sI (sJ (sI S 83 0 (nI 1)) 83 4 (pk d)) 83 1 (nI 0)) 83 2 (lN 0)) 83 3 (lN 0)) Q (Nat.zero_le _) (by omega) hd hz (Fre_0 P d) (by omega) hf ⟨hK, by simp [pI_sI, pI_sJ], by simp [pJ_sI, pJ_sJ], by rw [← pq_z]; simp [pJ_sI, pJ_sJ], dz, by simp [pI_sI, pI_sJ], by simp [pJ_sI, pJ_sJ]⟩ (fun S' cnt' L' U' g1 g2 g3 => by
      obtain ⟨f1, f2, f3, f4, f5⟩ := g3
      refine hQ S' g1 ⟨L', U', ?_, fun q => ?_, fun x hx v hv => ?_, f5⟩
      · rw [f1, Nat.zero_add] at g2
        exact g2
      · obtain ⟨a, ha, _, e⟩ := f3 rfl q
        exact ⟨a, ha, e⟩
      · rw [f4 x hx v hv]
        constructor
        · rintro (q | q)
          · simp at q
          · exact q
        · exact Or.inr)
    unfold wpX7_find_b17
    exact ⟨hK, h1⟩
  rcases hF with h0 | ⟨d', hd', hs⟩
  · simp (disch := omega) only [wpX7_find, c_0, c_1, c_2, c_3, c_4, c_5, c_6, c_7, c_8, c_9, c_10, c_11, c_12, c_14, c_16, c_19, c_20, c_24, c_31, c_32, c_35, c_48, c_57, c_59, c_63, c_97, c_100, c_122, c_127, c_169, c_255, c_600, c_1000, c_32767, Nat.le_refl, Nat.zero_le, Nat.add_zero, Nat.lt_irrefl, eq_self, o_sub, Nat.sub_zero, Nat.not_lt_zero, ↓ng_d, o_le, o_lt, o_eq, o_add, o_mul, o_cl, o_inT, o_and, n_31, o_shr, o_shl1, o_or, m_lt, m_ge, m_le, m_gt, m_ne, m_ne2, Option.some.injEq, exists_eq_left', true_and, and_true, true_implies, false_implies, implies_true, not_true_eq_false, not_false_eq_true, bI_0, bI_1, bI_01, b01, true_or, or_true, Nat.reduceEqDiff, Bool.not_eq_false, Bool.not_eq_true, Bool.true_eq_false, Bool.false_eq_true, hK, h0]
    exact new
  · have h1 : pI S 83 0 = nI 1 := by obtain ⟨L, U, g, _⟩ := hs; exact g.2.2.2.2.2.1
    have h4 : pJ S 83 4 = pk d' := by obtain ⟨L, U, g, _⟩ := hs; exact g.2.2.2.2.2.2
    have n10 : ¬ (1 : Nat) = 0 := by decide
    simp (disch := omega) only [wpX7_find, c_0, c_1, c_2, c_3, c_4, c_5, c_6, c_7, c_8, c_9, c_10, c_11, c_12, c_14, c_16, c_19, c_20, c_24, c_31, c_32, c_35, c_48, c_57, c_59, c_63, c_97, c_100, c_122, c_127, c_169, c_255, c_600, c_1000, c_32767, Nat.le_refl, Nat.zero_le, Nat.add_zero, Nat.lt_irrefl, eq_self, o_sub, Nat.sub_zero, Nat.not_lt_zero, ↓ng_d, o_le, o_lt, o_eq, o_add, o_mul, o_cl, o_inT, o_and, n_31, o_shr, o_shl1, o_or, m_lt, m_ge, m_le, m_gt, m_ne, m_ne2, Option.some.injEq, exists_eq_left', true_and, and_true, true_implies, false_implies, implies_true, not_true_eq_false, not_false_eq_true, bI_0, bI_1, bI_01, b01, true_or, or_true, Nat.reduceEqDiff, Bool.not_eq_false, Bool.not_eq_true, Bool.true_eq_false, Bool.false_eq_true, hK, h1, h4]
    refine ⟨fun _ => new, fun q => ?_⟩
    rw [lg_0, pq_inj hd' hd] at q
    exact hQ S (fr_r _ _) (SolR_cg hw q hs)
theorem w_cvar {S : PS} {P : Nat → Nat} {pb k : Nat} {Q : Int32 → PS → Prop} (hc : CSh S) (hpb : pR S 0 6 = some pb) (hp : PRep S pb P) (hw : Pwf P) (hk : k < P 0) : wpX11_isVariable S 0 (nI k) Q = Q (nI 1) S := by
  have hP0 := hw.1
  have g3 := hp.2.2.1
  have g4 := hp.2.2.2.1
  have hle : ¬ P 0 ≤ k := by omega
  simp (disch := omega) only [wpX11_isVariable, c_0, c_1, c_2, c_3, c_4, c_5, c_6, c_7, c_8, c_9, c_10, c_11, c_12, c_14, c_16, c_19, c_20, c_24, c_31, c_32, c_35, c_48, c_57, c_59, c_63, c_97, c_100, c_122, c_127, c_169, c_255, c_600, c_1000, c_32767, Nat.le_refl, Nat.zero_le, Nat.add_zero, Nat.lt_irrefl, eq_self, o_sub, Nat.sub_zero, Nat.not_lt_zero, ↓ng_d, o_le, o_lt, o_eq, o_add, o_mul, o_cl, o_inT, o_and, n_31, o_shr, o_shl1, o_or, m_lt, m_ge, m_le, m_gt, m_ne, m_ne2, Option.some.injEq, exists_eq_left', true_and, and_true, true_implies, false_implies, implies_true, not_true_eq_false, not_false_eq_true, bI_0, bI_1, bI_01, b01, true_or, or_true, Nat.reduceEqDiff, Bool.not_eq_false, Bool.not_eq_true, Bool.true_eq_false, Bool.false_eq_true, hc.1, hpb, g3, g4, hle]
theorem w_cvar0 {S : PS} {P : Nat → Nat} {pb : Nat} {x : Int32} {Q : Int32 → PS → Prop} (hc : CSh S) (hpb : pR S 0 6 = some pb) (hp : PRep S pb P) (hx : x < nI 0 ∨ nI (P 0) ≤ x) : wpX11_isVariable S 0 x Q = Q (nI 0) S := by
  have g3 := hp.2.2.1
  have g4 := hp.2.2.2.1
  apply propext
  unfold wpX11_isVariable
  rw [show (0 : Int32) = nI 0 from rfl]
  constructor
  · rintro ⟨q1, q2⟩
    by_cases h : x < nI 0
    · exact q1 h
    · obtain ⟨_, o, ho, _, q3, _⟩ := q2 h
      rw [hpb] at ho
      cases ho
      rw [g4] at q3
      exact q3 (hx.resolve_left h)
  · intro q
    refine ⟨fun _ => q, fun h => ⟨hc.1, pb, hpb, g3, fun _ => q, fun z => ?_⟩⟩
    rw [g4] at z
    exact absurd (hx.resolve_left h) z
theorem q_leastValue {S : PS} {d : Nat → Nat} {x : Nat} {Q : Int32 → PS → Prop} (hd : Dwf d) (hx : x < 7) (hne : d x ≠ 0) (hQ : Q (nI (pick5 (dF (d x)))) S) : wpX5_leastValueOf S (pk d) (nI x) Q := by
  have hp := pick_in (hd x hx) hne
  have main : ∀ r v, v + r = pick5 (dF (d x)) → wpX5_leastValueOf_b2 Q (r + 1) S (pk d) (nI x) (nI v) := by
    intro r
    induction r with
    | zero =>
      intro v hv
      have hv5 : v < 5 := by omega
      have hb : (d x).testBit v = true := by rw [show v = pick5 (dF (d x)) by omega]; exact hp.2
      have hv' : nI v = nI (pick5 (dF (d x))) := by rw [show v = pick5 (dF (d x)) by omega]
      rw [← hv'] at hQ
      have hle : ¬ 5 ≤ v := by omega
      simp (disch := omega) only [wpX5_leastValueOf_b2, c_0, c_1, c_2, c_3, c_4, c_5, c_6, c_7, c_8, c_9, c_10, c_11, c_12, c_14, c_16, c_19, c_20, c_24, c_31, c_32, c_35, c_48, c_57, c_59, c_63, c_97, c_100, c_122, c_127, c_169, c_255, c_600, c_1000, c_32767, Nat.le_refl, Nat.zero_le, Nat.add_zero, Nat.lt_irrefl, eq_self, o_sub, Nat.sub_zero, Nat.not_lt_zero, ↓ng_d, o_le, o_lt, o_eq, o_add, o_mul, o_cl, o_inT, o_and, n_31, o_shr, o_shl1, o_or, m_lt, m_ge, m_le, m_gt, m_ne, m_ne2, Option.some.injEq, exists_eq_left', true_and, and_true, true_implies, false_implies, implies_true, not_true_eq_false, not_false_eq_true, bI_0, bI_1, bI_01, b01, true_or, or_true, Nat.reduceEqDiff, Bool.not_eq_false, Bool.not_eq_true, Bool.true_eq_false, Bool.false_eq_true, w_has5 hd hx hv5, hb, hle]
      exact hQ
    | succ r ih =>
      intro v hv
      have hv5 : v < 5 := by omega
      have hle : ¬ 5 ≤ v := by omega
      have hb : (d x).testBit v = false := by
        cases e : (d x).testBit v
        · rfl
        · have := (lo1_tb _ (hd x hx) hne).2.2 v hv5 e
          omega
      have hn := ih (v + 1) (by omega)
      generalize r + 1 = fu at hn ⊢
      simp (disch := omega) only [wpX5_leastValueOf_b2, c_0, c_1, c_2, c_3, c_4, c_5, c_6, c_7, c_8, c_9, c_10, c_11, c_12, c_14, c_16, c_19, c_20, c_24, c_31, c_32, c_35, c_48, c_57, c_59, c_63, c_97, c_100, c_122, c_127, c_169, c_255, c_600, c_1000, c_32767, Nat.le_refl, Nat.zero_le, Nat.add_zero, Nat.lt_irrefl, eq_self, o_sub, Nat.sub_zero, Nat.not_lt_zero, ↓ng_d, o_le, o_lt, o_eq, o_add, o_mul, o_cl, o_inT, o_and, n_31, o_shr, o_shl1, o_or, m_lt, m_ge, m_le, m_gt, m_ne, m_ne2, Option.some.injEq, exists_eq_left', true_and, and_true, true_implies, false_implies, implies_true, not_true_eq_false, not_false_eq_true, bI_0, bI_1, bI_01, b01, true_or, or_true, Nat.reduceEqDiff, Bool.not_eq_false, Bool.not_eq_true, Bool.true_eq_false, Bool.false_eq_true, w_has5 hd hx hv5, hb, hle]
      exact hn
  unfold wpX5_leastValueOf
  exact ⟨_, main (pick5 (dF (d x))) 0 (Nat.zero_add _)⟩

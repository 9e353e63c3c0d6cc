/-! THE CLASS: the problem, the view, propagation -/
/-- the object pb holds the problem P -/
def PRep (S : PS) (pb : Nat) (P : Nat → Nat) : Prop := 85 ≤ pb ∧ (pb < 87 ∨ 107 ≤ pb) ∧ pK S pb = 5 ∧ pI S pb 1 = nI (P 0) ∧ pI S pb 2 = nI (P 1) ∧ pJ S pb 3 = pk (fun x => P (2 + x)) ∧ ∃ rw, 85 ≤ rw ∧ (rw < 87 ∨ 107 ≤ rw) ∧ pR S pb 0 = some rw ∧ pK S rw = 16 ∧ pL S rw = 8 ∧ ∀ c, c < P 1 → ∃ o, pR S rw c = some o ∧ 107 ≤ o ∧ KRep S o P c
theorem KRep_fr {A : List Nat} {S S' : PS} {o : Nat} {P : Nat → Nat} {c : Nat} (h : fr A S S') (ho : o ∉ A) (hk : KRep S o P c) : KRep S' o P c := by
  unfold KRep
  simp only [h.I ho, h.J ho, h.K]
  exact hk
theorem PRep_fr {A : List Nat} {S S' : PS} {pb : Nat} {P : Nat → Nat} (h : fr A S S') (hA : ∀ a, a ∈ A → a < 85 ∨ (87 ≤ a ∧ a < 107)) (hp : PRep S pb P) : PRep S' pb P := by
  obtain ⟨g1, g2, g3, g4, g5, g6, rw, r1, r2, r3, r4, r5, r6⟩ := hp
  have n : ∀ a, 85 ≤ a → (a < 87 ∨ 107 ≤ a) → a ∉ A := fun a q1 q2 q => by have := hA a q; omega
  refine ⟨g1, g2, by rw [h.K]; exact g3, by rw [h.I (n pb g1 g2)]; exact g4, by rw [h.I (n pb g1 g2)]; exact g5, by rw [h.J (n pb g1 g2)]; exact g6, rw, r1, r2, by rw [h.R]; exact r3, by rw [h.K]; exact r4, by rw [h.L]; exact r5, fun c hc => ?_⟩
  obtain ⟨o, o1, o2, o3⟩ := r6 c hc
  exact ⟨o, by rw [h.R]; exact o1, o2, KRep_fr h (n o (by omega) (Or.inr o2)) o3⟩
theorem q_constraintAt {S : PS} {pb : Nat} {P : Nat → Nat} {c : Nat} {Q : Option Nat → PS → Prop} (hp : PRep S pb P) (hw : Pwf P) (hc : c < P 1) (hQ : ∀ o, 107 ≤ o → KRep S o P c → Q (some o) S) : wpX6_constraintAt S pb (nI c) Q := by
  obtain ⟨g1, g2, g3, g4, g5, g6, rw, r1, r2, r3, r4, r5, r6⟩ := hp
  obtain ⟨o, o1, o2, o3⟩ := r6 c hc
  have hP1 := hw.2.1
  have e1 : ¬ P 1 ≤ c := by omega
  have e2 : ¬ 8 ≤ c := by omega
  have h1 := hQ o o2 o3
  simp (disch := omega) only [wpX6_constraintAt, c_0, c_1, c_2, c_3, c_4, c_5, c_6, c_7, c_8, c_9, c_10, c_11, c_12, c_14, c_16, c_19, c_20, c_24, c_31, c_32, c_35, c_48, c_57, c_59, c_63, c_97, c_100, c_122, c_127, c_169, c_255, c_600, c_1000, c_32767, Nat.le_refl, Nat.zero_le, Nat.add_zero, Nat.lt_irrefl, eq_self, o_sub, Nat.sub_zero, Nat.not_lt_zero, ↓ng_d, o_le, o_lt, o_eq, o_add, o_mul, o_cl, o_inT, o_and, n_31, o_shr, o_shl1, o_or, m_lt, m_ge, m_le, m_gt, m_ne, m_ne2, Option.some.injEq, exists_eq_left', true_and, and_true, true_implies, false_implies, implies_true, not_true_eq_false, not_false_eq_true, bI_0, bI_1, bI_01, b01, true_or, or_true, Nat.reduceEqDiff, Bool.not_eq_false, Bool.not_eq_true, Bool.true_eq_false, Bool.false_eq_true, g3, g5, r3, r4, r5, e1, e2, o1]
  exact h1
theorem q_constraintAt0 {S : PS} {pb : Nat} {P : Nat → Nat} {c : Int32} {Q : Option Nat → PS → Prop} (hp : PRep S pb P) (hc : c < nI 0 ∨ nI (P 1) ≤ c) (hQ : Q none S) : wpX6_constraintAt S pb c Q := by
  obtain ⟨g1, g2, g3, g4, g5, g6, rw, r1, r2, r3, r4, r5, r6⟩ := hp
  unfold wpX6_constraintAt
  rw [c_0]
  refine ⟨fun _ => hQ, fun q => ⟨g3, fun _ => hQ, fun q2 => ?_⟩⟩
  rw [g5] at q2
  exact absurd (hc.resolve_left q) q2
/-! ===== the learnt sets ===== -/
/-- the solver's rows and objects, apart from the problem's -/
def CSh (S : PS) : Prop := pK S 0 = 10 ∧ pR S 0 0 = some 1 ∧ pR S 0 1 = some 6 ∧ pR S 0 2 = some 44 ∧ pR S 0 3 = some 82 ∧ pR S 0 4 = some 83 ∧ pR S 0 5 = some 84 ∧ pK S 82 = 4 ∧ pK S 83 = 6 ∧ pK S 84 = 14 ∧ pL S 84 = 12 ∧ TSh S 6 ∧ TSh S 44 ∧ pK S 1 = 7 ∧ pR S 1 0 = some 2 ∧ pR S 1 1 = some 3 ∧ pK S 2 = 12 ∧ pL S 2 = 600 ∧ pK S 3 = 13 ∧ pL S 3 = 7
theorem fr.CS {A : List Nat} {S S' : PS} (h : fr A S S') (hs : CSh S) : CSh S' := by
  unfold CSh TSh
  rw [h.2.1, h.2.2.1, h.2.2.2.1]
  exact hs
/-- the kept sets -/
def cSS (S : PS) (ss : List Nat) : Prop := pI S 0 7 = nI ss.length ∧ ss.length ≤ 12 ∧ ∀ i, i < ss.length → pJ S 84 i = pk (sset (ss.getD i 0))
theorem cSS_fr {A : List Nat} {S S' : PS} {ss : List Nat} (h : fr A S S') (h0 : 0 ∉ A) (h84 : 84 ∉ A) (hs : cSS S ss) : cSS S' ss := ⟨by rw [h.I h0]; exact hs.1, hs.2.1, fun i hi => by rw [h.J h84]; exact hs.2.2 i hi⟩
theorem w_setAt {S : PS} {ss : List Nat} {i : Nat} {Q : Int64 → PS → Prop} (hc : CSh S) (hs : cSS S ss) (hi : i < ss.length) : wpX11_setAt S 0 (nI i) Q = Q (pk (sset (ss.getD i 0))) S := by
  have h12 := hs.2.1
  have e1 : ¬ ss.length ≤ i := by omega
  have e2 : ¬ 12 ≤ i := by omega
  simp (disch := omega) only [wpX11_setAt, c_0, c_1, c_2, c_3, c_4, c_5, c_6, c_7, c_8, c_9, c_10, c_11, c_12, c_14, c_16, c_19, c_20, c_24, c_31, c_32, c_35, c_48, c_57, c_59, c_63, c_97, c_100, c_122, c_127, c_169, c_255, c_600, c_1000, c_32767, Nat.le_refl, Nat.zero_le, Nat.add_zero, Nat.lt_irrefl, eq_self, o_sub, Nat.sub_zero, Nat.not_lt_zero, ↓ng_d, o_le, o_lt, o_eq, o_add, o_mul, o_cl, o_inT, o_and, n_31, o_shr, o_shl1, o_or, m_lt, m_ge, m_le, m_gt, m_ne, m_ne2, Option.some.injEq, exists_eq_left', true_and, and_true, true_implies, false_implies, implies_true, not_true_eq_false, not_false_eq_true, bI_0, bI_1, bI_01, b01, true_or, or_true, Nat.reduceEqDiff, Bool.not_eq_false, Bool.not_eq_true, Bool.true_eq_false, Bool.false_eq_true, hc.1, hs.1, hc.2.2.2.2.2.2.1, hc.2.2.2.2.2.2.2.2.2.1, hc.2.2.2.2.2.2.2.2.2.2.1, e1, e2, hs.2.2 i hi]
theorem sset_0 {s x : Nat} : (sset s x = 0) = (dg s x = 0) := by
  unfold sset
  apply propext
  constructor
  · intro h
    apply Classical.byContradiction
    intro q
    rw [if_neg q] at h
    have := Nat.pow_pos (n := dg s x - 1) (show 0 < 2 by decide)
    omega
  · intro h; rw [if_pos h]
theorem ds_s (k : Nat) (f : Nat → Nat) (n : Nat) : ds k f (n + 1) = ds k f n + 2 ^ (k * n) * f n := rfl
theorem ds3_or {m : Nat → Nat} {n : Nat} (hm : ∀ i, i < n → m i < 8) (v : Nat) : ds 3 m n ||| (v * 2 ^ (3 * n)) = ds 3 m n + 2 ^ (3 * n) * v := by
  rw [Nat.or_comm, Nat.mul_comm v, ← Nat.two_pow_add_eq_or_of_lt (ds_lt (k := 3) hm), Nat.add_comm]
/-- part of a view: the first n members of lK s, those below k -/
def vPart (S : PS) (s k : Nat) : Prop := pK S 82 = 4 ∧ pI S 82 1 = nI (cN (lp s) k) ∧ pJ S 82 2 = pk (fun x => if x < k ∧ dg s x ≠ 0 then 31 else 0) ∧ pI S 82 3 = nI (ds 3 (kt (lp s) 7) (cN (lp s) k)) ∧ pJ S 82 4 = pk (sset s)
theorem vP_wf (s k : Nat) : Dwf (fun x => if x < k ∧ dg s x ≠ 0 then 31 else 0) := fun x _ => by
  show (if x < k ∧ dg s x ≠ 0 then 31 else 0) < 32
  split <;> omega
theorem q_show {S : PS} {s : Nat} {Q : PS → Prop} (hK : pK S 82 = 4) (hs : Swf s) (hQ : ∀ S', fr [82] S S' → VRep S' s → Q S') : wpX4_show S 82 (pk (sset s)) Q := by
  have hss := sset_wf hs
  have main : ∀ r k S', k + r = 7 → fr [82] S S' → vPart S' s k → wpX4_show_b11 Q (r + 1) S' 82 (pk (sset s)) (nI k) := by
    intro r
    induction r with
    | zero =>
      intro k S' hk hf hv
      have : k = 7 := by omega
      subst this
      obtain ⟨v1, v2, v3, v4, v5⟩ := hv
      have h1 := hQ S' hf ⟨v1, v2, by
        rw [v3]
        apply pq_cg
        intro x hx
        unfold scp
        rw [inM_lK hx]
        by_cases e : dg s x = 0
        · simp [e]
        · simp [e, hx], v4, v5⟩
      simp (disch := omega) only [wpX4_show_b11, c_0, c_1, c_2, c_3, c_4, c_5, c_6, c_7, c_8, c_9, c_10, c_11, c_12, c_14, c_16, c_19, c_20, c_24, c_31, c_32, c_35, c_48, c_57, c_59, c_63, c_97, c_100, c_122, c_127, c_169, c_255, c_600, c_1000, c_32767, Nat.le_refl, Nat.zero_le, Nat.add_zero, Nat.lt_irrefl, eq_self, o_sub, Nat.sub_zero, Nat.not_lt_zero, ↓ng_d, o_le, o_lt, o_eq, o_add, o_mul, o_cl, o_inT, o_and, n_31, o_shr, o_shl1, o_or, m_lt, m_ge, m_le, m_gt, m_ne, m_ne2, Option.some.injEq, exists_eq_left', true_and, and_true, true_implies, false_implies, implies_true, not_true_eq_false, not_false_eq_true, bI_0, bI_1, bI_01, b01, true_or, or_true, Nat.reduceEqDiff, Bool.not_eq_false, Bool.not_eq_true, Bool.true_eq_false, Bool.false_eq_true]
      exact h1
    | succ r ih =>
      intro k S' hk hf hv
      have e7 : ¬ 7 ≤ k := by omega
      have hk7 : k < 7 := by omega
      have hn := ih (k + 1)
      generalize r + 1 = fu at hn ⊢
      obtain ⟨v1, v2, v3, v4, v5⟩ := hv
      have hsk := hss k hk7
      by_cases e : dg s k = 0
      · have e0 : sset s k = 0 := by rw [sset_0]; exact e
        have hl : lp s k = false := by simp [lp, e]
        have h1 := hn S' (by omega) hf ⟨v1, by rw [cN_s, hl]; exact v2, by
          rw [v3]
          apply pq_cg
          intro x hx
          by_cases q : x = k
          · subst q; simp [e]
          · have : (x < k + 1) = (x < k) := propext ⟨fun _ => by omega, fun _ => by omega⟩
            simp only [this], by rw [cN_s, hl]; exact v4, v5⟩
        simp (disch := omega) only [wpX4_show_b11, c_0, c_1, c_2, c_3, c_4, c_5, c_6, c_7, c_8, c_9, c_10, c_11, c_12, c_14, c_16, c_19, c_20, c_24, c_31, c_32, c_35, c_48, c_57, c_59, c_63, c_97, c_100, c_122, c_127, c_169, c_255, c_600, c_1000, c_32767, Nat.le_refl, Nat.zero_le, Nat.add_zero, Nat.lt_irrefl, eq_self, o_sub, Nat.sub_zero, Nat.not_lt_zero, ↓ng_d, o_le, o_lt, o_eq, o_add, o_mul, o_cl, o_inT, o_and, n_31, o_shr, o_shl1, o_or, m_lt, m_ge, m_le, m_gt, m_ne, m_ne2, Option.some.injEq, exists_eq_left', true_and, and_true, true_implies, false_implies, implies_true, not_true_eq_false, not_false_eq_true, bI_0, bI_1, bI_01, b01, true_or, or_true, Nat.reduceEqDiff, Bool.not_eq_false, Bool.not_eq_true, Bool.true_eq_false, Bool.false_eq_true, e7, w_valuesOf hss hk7, e0]
        exact h1
      · have e0 : ¬ sset s k = 0 := by rw [sset_0]; exact e
        have hl : lp s k = true := by simp [lp, e]
        have hkt : kt (lp s) 7 (cN (lp s) k) = k := kt_of hk7 hl
        have hcn : cN (lp s) k ≤ k := cN_le _ _
        have hm8 : ∀ i, i < cN (lp s) k → kt (lp s) 7 i < 8 := fun i hi => by
          have := (kt_in (p := lp s) (n := 7) (k := i) (Nat.lt_of_lt_of_le hi (cN_mono _ (by omega)))).1
          omega
        have hdl := ds3_lt hm8 (by omega)
        have e71 : ¬ 7 ≤ cN (lp s) k := by omega
        have h4 : ∀ S2 : PS, pK S2 82 = 4 → pC4 S2 82 := fun S2 q => Or.inr (Or.inr (Or.inl q))
        have hpow : k * 2 ^ (3 * cN (lp s) k) < 2 ^ 32 := by
          have : 2 ^ (3 * cN (lp s) k) ≤ 2 ^ 18 := Nat.pow_le_pow_right (by decide) (by omega)
          have : k * 2 ^ (3 * cN (lp s) k) ≤ 7 * 2 ^ 18 := Nat.mul_le_mul (by omega) this
          omega
        have eor := ds3_or hm8 k
        have e31 : 3 * cN (lp s) k < 32 := by omega
        have esc : pk (fun x => if x < k ∧ dg s x ≠ 0 then 31 else 0) ||| pk (sg k 31) = pk (fun x => if x < k + 1 ∧ dg s x ≠ 0 then 31 else 0) := by
          rw [pq_or (vP_wf s k) (sg_wf (by decide))]
          apply pq_cg
          intro x hx
          show (if x < k ∧ dg s x ≠ 0 then 31 else 0) ||| sg k 31 x = if x < k + 1 ∧ dg s x ≠ 0 then 31 else 0
          by_cases q : x = k
          · subst q
            rw [sg_s, if_neg (fun z => Nat.lt_irrefl _ z.1), if_pos ⟨Nat.lt_succ_self _, e⟩]; rfl
          · rw [sg_n q, Nat.or_zero]
            have : (x < k + 1) = (x < k) := propext ⟨fun _ => by omega, fun _ => by omega⟩
            simp only [this]
        simp (disch := omega) only [wpX4_show_b11, wpX1_addVariable, c_0, c_1, c_2, c_3, c_4, c_5, c_6, c_7, c_8, c_9, c_10, c_11, c_12, c_14, c_16, c_19, c_20, c_24, c_31, c_32, c_35, c_48, c_57, c_59, c_63, c_97, c_100, c_122, c_127, c_169, c_255, c_600, c_1000, c_32767, Nat.le_refl, Nat.zero_le, Nat.add_zero, Nat.lt_irrefl, eq_self, o_sub, Nat.sub_zero, Nat.not_lt_zero, ↓ng_d, o_le, o_lt, o_eq, o_add, o_mul, o_cl, o_inT, o_and, n_31, o_shr, o_shl1, o_or, m_lt, m_ge, m_le, m_gt, m_ne, m_ne2, Option.some.injEq, exists_eq_left', true_and, and_true, true_implies, false_implies, implies_true, not_true_eq_false, not_false_eq_true, bI_0, bI_1, bI_01, b01, true_or, or_true, Nat.reduceEqDiff, Bool.not_eq_false, Bool.not_eq_true, Bool.true_eq_false, Bool.false_eq_true, e7, w_valuesOf hss hk7, e0, v1, h4 S' v1, v2, v4, v3, e71, w_allOf hk7, pI_sI, pJ_sI, pK_sI, pK_sJ, pI_sJ, o_shl e31 hpow, eor, esc, h4, and_self, if_true, and_false, false_and, if_false]
        refine ⟨h4 _ v1, hn _ (by omega) ?_ ?_⟩
        · exact fr_t (fr_t (fr_t hf (fr_sI _ _ _ (by decide))) (fr_sJ _ _ _ (by decide))) (fr_sI _ _ _ (by decide))
        · refine ⟨v1, ?_, ?_, ?_, ?_⟩
          · rw [cN_s, hl]; simp [pI_sI, pI_sJ]
          · simp [pJ_sI, pJ_sJ]
          · rw [cN_s, hl]
            simp only [eq_self, if_true, ds_s, hkt]
            simp [pI_sI, pI_sJ]
          · simp [pJ_sI, pJ_sJ, v5]
  have h4 : pC4 S 82 := Or.inr (Or.inr (Or.inl hK))
  unfold wpX4_show wpX1_clearVariables
  refine ⟨hK, h4, _, main 7 0 _ rfl (fr_t (fr_t (fr_t (fr_sJ _ _ _ (by decide)) (fr_sI _ _ _ (by decide))) (fr_sJ _ _ _ (by decide))) (fr_sI _ _ _ (by decide))) ⟨hK, ?_, ?_, ?_, ?_⟩⟩
  · simp [pI_sI, pI_sJ]; rfl
  · simp [pJ_sI, pJ_sJ]; rfl
  · simp [pI_sI, pI_sJ]; rfl
  · simp [pJ_sI, pJ_sJ]

/-! ===== propagation ===== -/
theorem mK_lt {P : Nat → Nat} (hw : Pwf P) {c : Nat} (hc : c < P 1) : ∀ k, k < (cK P c).1 → (cK P c).2.1 k < P 0 := fun k hk => (hw.2.2.2.2.2 c hc).2.2.2.1 k hk
theorem mL_lt {P : Nat → Nat} {s : Nat} (h : ∀ x, P 0 ≤ x → x < 7 → dg s x = 0) : ∀ k, k < (lK s).1 → (lK s).2.1 k < P 0 := fun k hk => by
  obtain ⟨q1, q2, -⟩ := kt_in (p := lp s) (n := 7) (k := k) hk
  show kt (lp s) 7 k < P 0
  apply Classical.byContradiction
  intro q
  exact lp_t.mp q2 (h _ (by omega) q1)
theorem LT_85 {t : Nat} (ht : t + 38 ≤ 85) : ∀ a, a ∈ 82 :: LT t → a < 85 ∨ (87 ≤ a ∧ a < 107) := fun a ha => by
  rcases List.mem_cons.mp ha with q | q
  · omega
  · rw [LT_mem] at q; omega
theorem LT_sub (t : Nat) : ∀ a ∈ LT t, a ∈ 82 :: LT t := fun a ha => List.mem_cons_of_mem _ ha
/-- from S0 to S, the trail from n0 facts to σ -/
def cJ (t N l : Nat) (S0 : PS) (n0 : Nat) (σ : St) (S : PS) : Prop := fr (82 :: LT t) S0 S ∧ cT S t N l σ ∧ cX S0 S t n0 σ.2.length ∧ n0 ≤ σ.2.length
theorem pz0 : pk (sset 0) = lN 0 := by decide +kernel
theorem q_cone {S0 S : PS} {t l n0 pb : Nat} {P : Nat → Nat} {ss : List Nat} {k : Nat} {σ : St} {Q : PS → Prop} (ht : t = 6 ∨ t = 44) (hc0 : CSh S0) (hp0 : PRep S0 pb P) (hw : Pwf P) (hsw : SSw P ss) (hd : Dwf σ.1) (hb : dsum σ.1 + σ.2.length ≤ 35) (hJ : cJ t (P 0) l S0 n0 σ S) (o : Nat) (hco : ∀ S', fr (LT t) S S' → CC S' o (kl P ss k).1) (hkm : ∀ j, j < (kl P ss k).1.1 → (kl P ss k).1.2.1 j < P 0)
    (hQ : ∀ S', cJ t (P 0) l S0 n0 (sw1 (kl P ss k).1 (P 0) (kl P ss k).2.1 l (kl P ss k).2.2 (kl P ss k).1.1 σ) S' → Q S') : wpX11_sweep S t o (kl P ss k).2.1 (pk (sset (kl P ss k).2.2)) Q := by
  obtain ⟨j1, j2, j3, j4⟩ := hJ
  have hts : TSh S t := j1.TS (by rcases ht with rfl | rfl; exact hc0.2.2.2.2.2.2.2.2.2.2.2.1; exact hc0.2.2.2.2.2.2.2.2.2.2.2.2.1)
  refine q_csweep (n0 := σ.2.length) hts hco (kl_wf hw k) hkm hw.1 hd hb (fun S2 h2 => hQ S2 ⟨fr_t j1 (fr_m (LT_sub t) h2.1), h2.2.1, cX_t j4 j3 h2.2.2.1, Nat.le_trans j4 h2.2.2.2⟩) S ⟨fr_r _ _, j2, cX_r _ _ _, Nat.le_refl _⟩
theorem rnd_len {P : Nat → Nat} {ss : List Nat} {l : Nat} {σ : St} (hw : Pwf P) (hd : Dwf σ.1) {k : Nat} (hk : k ≤ P 1 + ss.length) : dsum (rnd P ss l k σ).1 + (rnd P ss l k σ).2.length = dsum σ.1 + σ.2.length ∧ Dwf (rnd P ss l k σ).1 := ⟨(rnd_dn hw hd k hk).2.1, (rnd_dn hw hd k hk).1⟩
theorem q_cp62 {S0 : PS} {t l n0 pb : Nat} {P : Nat → Nat} {ss : List Nat} {σ0 : St} {rd : Nat} {K2 : PS → Nat → Nat → Int32 → Prop} {Q : PS → Prop} (ht : t = 6 ∨ t = 44) (hc0 : CSh S0) (hp0 : PRep S0 pb P) (hw : Pwf P) (hss0 : cSS S0 ss) (hsw : SSw P ss) (hd0 : Dwf σ0.1) (hb : dsum σ0.1 + σ0.2.length ≤ 35) (hrd : rd < 1000)
    (hK : ∀ S, cJ t (P 0) l S0 n0 (rnd P ss l (P 1 + ss.length) σ0) S → ¬ (rnd P ss l (P 1 + ss.length) σ0).2.length = σ0.2.length → K2 S 0 t (nI (rd + 1)))
    (hQ : ∀ S, cJ t (P 0) l S0 n0 (rnd P ss l (P 1 + ss.length) σ0) S → (rnd P ss l (P 1 + ss.length) σ0).2.length = σ0.2.length → Q S) :
    ∀ r i S, i + r = ss.length → cJ t (P 0) l S0 n0 (rnd P ss l (P 1 + i) σ0) S → wpX11_propagate_b62 K2 Q (r + 1) S 0 t (nI rd) (nI σ0.2.length) (nI i) := by
  have h12 := hss0.2.1
  have hA0 : 0 ∉ 82 :: LT t := fun q => by rcases List.mem_cons.mp q with z | z; omega; rw [LT_mem] at z; omega
  have hA84 : 84 ∉ 82 :: LT t := fun q => by rcases List.mem_cons.mp q with z | z; omega; rw [LT_mem] at z; omega
  intro r
  induction r with
  | zero =>
    intro i S hi hJ
    have : i = ss.length := by omega
    subst this
    have hc := hJ.1.CS hc0
    have hs := cSS_fr hJ.1 hA0 hA84 hss0
    have hkt : pK S t = 8 := by rcases ht with rfl | rfl; exact hc.2.2.2.2.2.2.2.2.2.2.2.1.1; exact hc.2.2.2.2.2.2.2.2.2.2.2.2.1.1
    have hl := hJ.2.1.2.1
    have hle := hJ.2.1.2.2.2.2.2.2.1
    have g1 := hK S hJ
    have g2 := hQ S hJ
    simp (disch := omega) only [wpX11_propagate_b62, c_0, c_1, c_2, c_3, c_4, c_5, c_6, c_7, c_8, c_9, c_10, c_11, c_12, c_14, c_16, c_19, c_20, c_24, c_31, c_32, c_35, c_48, c_57, c_59, c_63, c_97, c_100, c_122, c_127, c_169, c_255, c_600, c_1000, c_32767, Nat.le_refl, Nat.zero_le, Nat.add_zero, Nat.lt_irrefl, eq_self, o_sub, Nat.sub_zero, Nat.not_lt_zero, ↓ng_d, o_le, o_lt, o_eq, o_add, o_mul, o_cl, o_inT, o_and, n_31, o_shr, o_shl1, o_or, m_lt, m_ge, m_le, m_gt, m_ne, m_ne2, Option.some.injEq, exists_eq_left', true_and, and_true, true_implies, false_implies, implies_true, not_true_eq_false, not_false_eq_true, bI_0, bI_1, bI_01, b01, true_or, or_true, Nat.reduceEqDiff, Bool.not_eq_false, Bool.not_eq_true, Bool.true_eq_false, Bool.false_eq_true, hc.1, hs.1, hkt, hl]
    exact ⟨g1, g2⟩
  | succ r ih =>
    intro i S hi hJ
    have hil : i < ss.length := by omega
    have hc := hJ.1.CS hc0
    have hs := cSS_fr hJ.1 hA0 hA84 hss0
    have e : ¬ ss.length ≤ i := by omega
    have hn := ih (i + 1)
    generalize r + 1 = fu at hn ⊢
    have hsi := hsw i hil
    have hkl := kl_ge (P := P) (ss := ss) (c := P 1 + i) (by omega)
    rw [show P 1 + i - P 1 = i by omega] at hkl
    have hrl := rnd_len (ss := ss) (l := l) hw hd0 (k := P 1 + i) (by omega)
    simp (disch := omega) only [wpX11_propagate_b62, c_0, c_1, c_2, c_3, c_4, c_5, c_6, c_7, c_8, c_9, c_10, c_11, c_12, c_14, c_16, c_19, c_20, c_24, c_31, c_32, c_35, c_48, c_57, c_59, c_63, c_97, c_100, c_122, c_127, c_169, c_255, c_600, c_1000, c_32767, Nat.le_refl, Nat.zero_le, Nat.add_zero, Nat.lt_irrefl, eq_self, o_sub, Nat.sub_zero, Nat.not_lt_zero, ↓ng_d, o_le, o_lt, o_eq, o_add, o_mul, o_cl, o_inT, o_and, n_31, o_shr, o_shl1, o_or, m_lt, m_ge, m_le, m_gt, m_ne, m_ne2, Option.some.injEq, exists_eq_left', true_and, and_true, true_implies, false_implies, implies_true, not_true_eq_false, not_false_eq_true, bI_0, bI_1, bI_01, b01, true_or, or_true, Nat.reduceEqDiff, Bool.not_eq_false, Bool.not_eq_true, Bool.true_eq_false, Bool.false_eq_true, hc.1, hs.1, e, w_setAt hc hs hil, hc.2.2.2.2.1, hc.2.2.2.2.2.2.2.1]
    refine q_show hc.2.2.2.2.2.2.2.1 hsi.1 (fun S2 f2 v2 => ?_)
    have hc2 := f2.CS hc
    have hJ2 : cJ t (P 0) l S0 n0 (rnd P ss l (P 1 + i) σ0) S2 := by
      obtain ⟨j1, j2, j3, j4⟩ := hJ
      have m82 : ∀ a, a ∈ LT t → a ∉ [82] := fun a ha => by rw [LT_mem] at ha; simp; omega
      refine ⟨fr_t j1 (fr_m (fun a ha => by rw [List.mem_singleton] at ha; rw [ha]; exact List.mem_cons_self) f2), cT_fr f2 m82 j2, cX_fr f2 (fun j hj => m82 _ (LT_mem.mpr (Or.inr (by have := j2.2.2.2.2.2.2.1; omega)))) j4 j3, j4⟩
    refine ⟨hc2.1, 82, hc2.2.2.2.2.1, ?_⟩
    have h1 := q_cone (k := P 1 + i) (Q := fun S13 => wpX11_propagate_b62 K2 Q fu S13 0 t (nI rd) (nI σ0.2.length) (nI (i + 1))) ht hc0 hp0 hw hsw hrl.2 (by omega) hJ2 82 (fun S3 f3 => by
      rw [hkl]
      refine CC_lK ?_ hsi.1
      have n82 : 82 ∉ LT t := fun q => by rw [LT_mem] at q; omega
      obtain ⟨w1, w2, w3, w4, w5⟩ := v2
      exact ⟨by rw [f3.K]; exact w1, by rw [f3.I n82]; exact w2, by rw [f3.J n82]; exact w3, by rw [f3.I n82]; exact w4, by rw [f3.J n82]; exact w5⟩) (by rw [hkl]; exact mL_lt hsi.2) (fun S3 h3 => hn S3 (by omega) h3)
    rw [hkl] at h1
    exact h1
theorem q_cp16 {S0 : PS} {t l n0 pb : Nat} {P : Nat → Nat} {ss : List Nat} {σ0 : St} {rd : Nat} {K2 : PS → Nat → Nat → Int32 → Prop} {Q : PS → Prop} (ht : t = 6 ∨ t = 44) (hc0 : CSh S0) (hpb : pR S0 0 6 = some pb) (hp0 : PRep S0 pb P) (hw : Pwf P) (hss0 : cSS S0 ss) (hsw : SSw P ss) (hd0 : Dwf σ0.1) (hb : dsum σ0.1 + σ0.2.length ≤ 35) (hrd : rd < 1000)
    (hK : ∀ S, cJ t (P 0) l S0 n0 (rnd P ss l (P 1 + ss.length) σ0) S → ¬ (rnd P ss l (P 1 + ss.length) σ0).2.length = σ0.2.length → K2 S 0 t (nI (rd + 1)))
    (hQ : ∀ S, cJ t (P 0) l S0 n0 (rnd P ss l (P 1 + ss.length) σ0) S → (rnd P ss l (P 1 + ss.length) σ0).2.length = σ0.2.length → Q S) :
    ∀ r i S, i + r = P 1 → cJ t (P 0) l S0 n0 (rnd P ss l i σ0) S → wpX11_propagate_b16 K2 Q (r + 1) S 0 t (nI rd) (nI σ0.2.length) (nI i) := by
  have hP1 := hw.2.1
  have ht38 : t + 38 ≤ 85 := by omega
  intro r
  induction r with
  | zero =>
    intro i S hi hJ
    have hi' : P 1 = i := by omega
    have hc := hJ.1.CS hc0
    have hp := PRep_fr hJ.1 (LT_85 ht38) hp0
    have hpb' : pR S 0 6 = some pb := by rw [hJ.1.R]; exact hpb
    have h1 := q_cp62 (rd := rd) (K2 := K2) (Q := Q) ht hc0 hp0 hw hss0 hsw hd0 hb hrd hK hQ ss.length 0 S (Nat.zero_add _) (by rw [Nat.add_zero, hi']; exact hJ)
    have g5 := hp.2.2.2.2.1
    rw [hi'] at g5
    simp (disch := omega) only [wpX11_propagate_b16, c_0, c_1, c_2, c_3, c_4, c_5, c_6, c_7, c_8, c_9, c_10, c_11, c_12, c_14, c_16, c_19, c_20, c_24, c_31, c_32, c_35, c_48, c_57, c_59, c_63, c_97, c_100, c_122, c_127, c_169, c_255, c_600, c_1000, c_32767, Nat.le_refl, Nat.zero_le, Nat.add_zero, Nat.lt_irrefl, eq_self, o_sub, Nat.sub_zero, Nat.not_lt_zero, ↓ng_d, o_le, o_lt, o_eq, o_add, o_mul, o_cl, o_inT, o_and, n_31, o_shr, o_shl1, o_or, m_lt, m_ge, m_le, m_gt, m_ne, m_ne2, Option.some.injEq, exists_eq_left', true_and, and_true, true_implies, false_implies, implies_true, not_true_eq_false, not_false_eq_true, bI_0, bI_1, bI_01, b01, true_or, or_true, Nat.reduceEqDiff, Bool.not_eq_false, Bool.not_eq_true, Bool.true_eq_false, Bool.false_eq_true, hc.1, hpb', hp.2.2.1, g5]
    exact ⟨_, h1⟩
  | succ r ih =>
    intro i S hi hJ
    have hil : i < P 1 := by omega
    have hc := hJ.1.CS hc0
    have hp := PRep_fr hJ.1 (LT_85 ht38) hp0
    have hpb' : pR S 0 6 = some pb := by rw [hJ.1.R]; exact hpb
    have e : ¬ P 1 ≤ i := by omega
    have hn := ih (i + 1)
    generalize r + 1 = fu at hn ⊢
    have hkl := kl_lt (P := P) (ss := ss) (c := i) hil
    have hrl := rnd_len (ss := ss) (l := l) hw hd0 (k := i) (by omega)
    simp (disch := omega) only [wpX11_propagate_b16, c_0, c_1, c_2, c_3, c_4, c_5, c_6, c_7, c_8, c_9, c_10, c_11, c_12, c_14, c_16, c_19, c_20, c_24, c_31, c_32, c_35, c_48, c_57, c_59, c_63, c_97, c_100, c_122, c_127, c_169, c_255, c_600, c_1000, c_32767, Nat.le_refl, Nat.zero_le, Nat.add_zero, Nat.lt_irrefl, eq_self, o_sub, Nat.sub_zero, Nat.not_lt_zero, ↓ng_d, o_le, o_lt, o_eq, o_add, o_mul, o_cl, o_inT, o_and, n_31, o_shr, o_shl1, o_or, m_lt, m_ge, m_le, m_gt, m_ne, m_ne2, Option.some.injEq, exists_eq_left', true_and, and_true, true_implies, false_implies, implies_true, not_true_eq_false, not_false_eq_true, bI_0, bI_1, bI_01, b01, true_or, or_true, Nat.reduceEqDiff, Bool.not_eq_false, Bool.not_eq_true, Bool.true_eq_false, Bool.false_eq_true, hc.1, hpb', hp.2.2.1, hp.2.2.2.2.1, e]
    refine q_constraintAt hp hw hil (fun o ho hko => ⟨fun z => (by cases z), fun o2 z => ?_⟩)
    cases z
    have h1 := q_cone (k := i) (Q := fun S21 => wpX11_propagate_b16 K2 Q fu S21 0 t (nI rd) (nI σ0.2.length) (nI (i + 1))) ht hc0 hp0 hw hsw hrl.2 (by omega) hJ o (fun S3 f3 => by
      rw [hkl]
      exact CC_of (KRep_fr f3 (fun q => by rw [LT_mem] at q; omega) hko) (hw.2.2.2.2.2 i hil) hw.1) (by rw [hkl]; exact mK_lt hw hil) (fun S3 h3 => hn S3 (by omega) h3)
    rw [hkl] at h1
    have h2 : pk (sset 0) = lN 0 := pz0
    rw [h2] at h1
    exact h1
theorem q_propagate {S0 : PS} {t l pb : Nat} {P : Nat → Nat} {ss : List Nat} {σ0 : St} {Q : PS → Prop} (ht : t = 6 ∨ t = 44) (hc0 : CSh S0) (hpb : pR S0 0 6 = some pb) (hp0 : PRep S0 pb P) (hw : Pwf P) (hss0 : cSS S0 ss) (hsw : SSw P ss) (hT : cT S0 t (P 0) l σ0) (hb : dsum σ0.1 + σ0.2.length ≤ 35)
    (hQ : ∀ S, cJ t (P 0) l S0 σ0.2.length (prE P ss l σ0) S → Q S) : wpX11_propagate S0 0 t Q := by
  have hd0 := hT.2.2.2.2.1
  have main : ∀ n σ S rd, rd + n = 36 → Dwf σ.1 → dsum σ.1 + σ.2.length ≤ 35 → cJ t (P 0) l S0 σ0.2.length σ S → prE P ss l σ0 = prp P ss l n σ → wpX11_propagate_b2 Q (n + 1) S 0 t (nI rd) := by
    intro n
    induction n with
    | zero =>
      intro σ S rd hrd hd hb2 hJ he
      have : rd = 36 := by omega
      subst this
      have h1 := hQ S (by rw [he]; exact hJ)
      have e : (35 : Nat) < 36 := by decide
      simp (disch := omega) only [wpX11_propagate_b2, c_0, c_1, c_2, c_3, c_4, c_5, c_6, c_7, c_8, c_9, c_10, c_11, c_12, c_14, c_16, c_19, c_20, c_24, c_31, c_32, c_35, c_48, c_57, c_59, c_63, c_97, c_100, c_122, c_127, c_169, c_255, c_600, c_1000, c_32767, Nat.le_refl, Nat.zero_le, Nat.add_zero, Nat.lt_irrefl, eq_self, o_sub, Nat.sub_zero, Nat.not_lt_zero, ↓ng_d, o_le, o_lt, o_eq, o_add, o_mul, o_cl, o_inT, o_and, n_31, o_shr, o_shl1, o_or, m_lt, m_ge, m_le, m_gt, m_ne, m_ne2, Option.some.injEq, exists_eq_left', true_and, and_true, true_implies, false_implies, implies_true, not_true_eq_false, not_false_eq_true, bI_0, bI_1, bI_01, b01, true_or, or_true, Nat.reduceEqDiff, Bool.not_eq_false, Bool.not_eq_true, Bool.true_eq_false, Bool.false_eq_true, c_35, e]
      exact h1
    | succ n ih =>
      intro σ S rd hrd hd hb2 hJ he
      have e : ¬ 35 < rd := by omega
      have hc := hJ.1.CS hc0
      have hkt : pK S t = 8 := by rcases ht with rfl | rfl; exact hc.2.2.2.2.2.2.2.2.2.2.2.1.1; exact hc.2.2.2.2.2.2.2.2.2.2.2.2.1.1
      have hrl := rnd_len (ss := ss) (l := l) hw hd (k := P 1 + ss.length) (Nat.le_refl _)
      have h3 := q_cp16 (rd := rd) (K2 := wpX11_propagate_b2 Q (n + 1)) (Q := Q) (l := l) (n0 := σ0.2.length) (σ0 := σ) ht hc0 hpb hp0 hw hss0 hsw hd hb2 (by omega)
        (fun S2 hJ2 hne => ih _ S2 (rd + 1) (by omega) hrl.2 (by omega) hJ2 (by
          rw [he]
          show (if (rnd P ss l (P 1 + ss.length) σ).2.length = σ.2.length then _ else _) = _
          rw [if_neg hne]))
        (fun S2 hJ2 heq => hQ S2 (by
          rw [he]
          show cJ t (P 0) l S0 σ0.2.length (if (rnd P ss l (P 1 + ss.length) σ).2.length = σ.2.length then rnd P ss l (P 1 + ss.length) σ else prp P ss l n (rnd P ss l (P 1 + ss.length) σ)) S2
          rw [if_pos heq]
          exact hJ2)) (P 1) 0 S (Nat.zero_add _) hJ
      have hl := hJ.2.1.2.1
      generalize n + 1 = fu at h3 ⊢
      simp (disch := omega) only [wpX11_propagate_b2, c_0, c_1, c_2, c_3, c_4, c_5, c_6, c_7, c_8, c_9, c_10, c_11, c_12, c_14, c_16, c_19, c_20, c_24, c_31, c_32, c_35, c_48, c_57, c_59, c_63, c_97, c_100, c_122, c_127, c_169, c_255, c_600, c_1000, c_32767, Nat.le_refl, Nat.zero_le, Nat.add_zero, Nat.lt_irrefl, eq_self, o_sub, Nat.sub_zero, Nat.not_lt_zero, ↓ng_d, o_le, o_lt, o_eq, o_add, o_mul, o_cl, o_inT, o_and, n_31, o_shr, o_shl1, o_or, m_lt, m_ge, m_le, m_gt, m_ne, m_ne2, Option.some.injEq, exists_eq_left', true_and, and_true, true_implies, false_implies, implies_true, not_true_eq_false, not_false_eq_true, bI_0, bI_1, bI_01, b01, true_or, or_true, Nat.reduceEqDiff, Bool.not_eq_false, Bool.not_eq_true, Bool.true_eq_false, Bool.false_eq_true, e, hkt, hl]
      exact ⟨_, h3⟩
  unfold wpX11_propagate
  exact ⟨_, main 36 σ0 S0 0 rfl hd0 hb ⟨fr_r _ _, hT, cX_r _ _ _, Nat.le_refl _⟩ rfl⟩

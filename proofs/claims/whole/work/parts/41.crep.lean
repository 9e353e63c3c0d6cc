/-! REPORTS: the class -/
/-- what report answers -/
noncomputable def repA (P : Nat → Nat) (l : Nat) (σ : St) (m n : Nat) : Nat → Nat
  | 0 => P 0
  | 1 => P 1
  | 2 => l
  | 3 => σ.2.length
  | 4 => m
  | 5 => if fl (P 0) σ.1 = true then 1 else 0
  | 6 => cN (fun x => decide (pcn 5 (σ.1 x) = 1)) (P 0)
  | _ => n
theorem bI_if (b : Bool) : bI b = nI (if b = true then 1 else 0) := by cases b <;> rfl
theorem lt8 {k : Nat} (h : k < 8) : k = 0 ∨ k = 1 ∨ k = 2 ∨ k = 3 ∨ k = 4 ∨ k = 5 ∨ k = 6 ∨ k = 7 := by omega
theorem lt4 {k : Nat} (h : k < 4) : k = 0 ∨ k = 1 ∨ k = 2 ∨ k = 3 := by omega
theorem w_isFixed {S : PS} {N l x : Nat} {σ : St} {Q : Int32 → PS → Prop} (hc : CSh S) (hT : cT S 6 N l σ) (hx : x < 7) : wpX11_isFixed S 0 (nI x) Q = Q (bI (decide (pcn 5 (σ.1 x) = 1))) S := by
  have t4 := hT.2.2.2.1
  have t5 := hT.2.2.2.2.1
  have hT6 := hc.2.2.2.2.2.2.2.2.2.2.2.1
  have hpc := pcn_le 5 (σ.1 x)
  apply propext
  unfold wpX11_isFixed
  constructor
  · rintro ⟨_, o, ho, _, q⟩
    rw [hc.2.2.1] at ho
    cases ho
    rw [t4, w_valuesOf t5 hx, w_bci, bci_5 _ (t5 x hx), c_1, c_0, o_eq (by omega) (by omega)] at q
    by_cases e : pcn 5 (σ.1 x) = 1
    · rw [decide_eq_true e]
      exact q.2 e
    · rw [decide_eq_false e]
      exact q.1 e
  · intro q
    refine ⟨hc.1, 6, hc.2.2.1, hT6.1, ?_⟩
    rw [t4, w_valuesOf t5 hx, w_bci, bci_5 _ (t5 x hx), c_1, c_0, o_eq (by omega) (by omega)]
    by_cases e : pcn 5 (σ.1 x) = 1
    · rw [decide_eq_true e] at q
      exact ⟨fun z => absurd e z, fun _ => q⟩
    · rw [decide_eq_false e] at q
      exact ⟨fun _ => q, fun z => absurd z e⟩
theorem q_cfixed {S : PS} {P : Nat → Nat} {pb l : Nat} {σ : St} {Q : Int32 → PS → Prop} (hc : CSh S) (hpb : pR S 0 6 = some pb) (hp : PRep S pb P) (hw : Pwf P) (hT : cT S 6 (P 0) l σ) (hQ : Q (nI (cN (fun x => decide (pcn 5 (σ.1 x) = 1)) (P 0))) S) : wpX11_fixedVariables S 0 Q := by
  have hP0 := hw.1
  have g3 := hp.2.2.1
  have g4 := hp.2.2.2.1
  have loop : ∀ r k, k + r = P 0 → wpX11_fixedVariables_b4 Q (r + 1) S 0 (nI (cN (fun x => decide (pcn 5 (σ.1 x) = 1)) k)) (nI k) := by
    intro r
    induction r with
    | zero =>
      intro k hk
      have hle : P 0 ≤ k := by omega
      have e : k = P 0 := by omega
      have h1 := hQ
      rw [← e] at h1
      simp (disch := omega) only [wpX11_fixedVariables_b4, c_0, c_1, c_2, c_3, c_4, c_5, c_6, c_7, c_8, c_9, c_10, c_11, c_12, c_14, c_16, c_19, c_20, c_24, c_31, c_32, c_35, c_48, c_57, c_59, c_63, c_97, c_100, c_122, c_127, c_169, c_255, c_600, c_1000, c_32767, Nat.le_refl, Nat.zero_le, Nat.add_zero, Nat.lt_irrefl, eq_self, o_sub, Nat.sub_zero, Nat.not_lt_zero, ↓ng_d, o_le, o_lt, o_eq, o_add, o_mul, o_cl, o_inT, o_and, n_31, o_shr, o_shl1, o_or, m_lt, m_ge, m_le, m_gt, m_ne, m_ne2, Option.some.injEq, exists_eq_left', true_and, and_true, true_implies, false_implies, implies_true, not_true_eq_false, not_false_eq_true, bI_0, bI_1, bI_01, b01, true_or, or_true, Nat.reduceEqDiff, Bool.not_eq_false, Bool.not_eq_true, Bool.true_eq_false, Bool.false_eq_true, hc.1, hpb, g3, g4, hle]
      exact h1
    | succ r ih =>
      intro k hk
      have hle : ¬ P 0 ≤ k := by omega
      have hn := ih (k + 1) (by omega)
      generalize r + 1 = fu at hn ⊢
      have hcl := cN_le (fun x => decide (pcn 5 (σ.1 x) = 1)) k
      have main : wpX11_isFixed S 0 (nI k) (fun r4 S5 => ((r4 = nI 0 → (wpX11_fixedVariables_b4 Q fu S5 0 (nI (cN (fun x => decide (pcn 5 (σ.1 x) = 1)) k)) (nI k + nI 1))) ∧ (¬ r4 = nI 0 → (wpX11_fixedVariables_b4 Q fu S5 0 (nI (cN (fun x => decide (pcn 5 (σ.1 x) = 1)) k) + nI 1) (nI k + nI 1))))) := by
        rw [w_isFixed hc hT (by omega)]
        simp only [o_add]
        rw [cN_s] at hn
        by_cases e : pcn 5 (σ.1 k) = 1
        · rw [if_pos (decide_eq_true e)] at hn
          rw [decide_eq_true e]
          exact ⟨fun z => absurd z (by decide), fun _ => hn⟩
        · rw [if_neg (fun z => e (of_decide_eq_true z)), Nat.add_zero] at hn
          rw [decide_eq_false e]
          exact ⟨fun _ => hn, fun z => absurd rfl z⟩
      simp (disch := omega) only [wpX11_fixedVariables_b4, c_0, c_1, o_le, hle, hc.1, hpb, g3, g4, eq_self, false_implies, true_and, not_false_eq_true, true_implies, Option.some.injEq, exists_eq_left']
      exact main
  exact ⟨_, loop (P 0) 0 (Nat.zero_add _)⟩
theorem c_report {S : PS} {P : Nat → Nat} {pb l n : Nat} {ss : List Nat} {σ : St} {x : Int32} {Q : Int32 → PS → Prop} {X : String → PS → Prop} (hc : CSh S) (hpb : pR S 0 6 = some pb) (hp : PRep S pb P) (hw : Pwf P) (hT : cT S 6 (P 0) l σ) (hss : cSS S ss) (hn : pI S 0 8 = nI n)
    (hQ : ∀ k, k < 8 → x = nI k → Q (nI (repA P l σ ss.length n k)) S)
    (hX : (x < nI 0 ∨ nI 8 ≤ x) → ∀ n, X "java/lang/IllegalArgumentException" (sSkip S n)) : wpX11_report S 0 x Q X := by
  have hT6 := hc.2.2.2.2.2.2.2.2.2.2.2.1
  have hT' := hT
  obtain ⟨t1, t2, t3, t4, t5, t6, _⟩ := hT'
  unfold wpX11_report
  rw [c_0, c_1, c_2, c_3, c_4, c_5, c_6, c_7]
  refine ⟨fun e => ⟨hc.1, pb, hpb, hp.2.2.1, ?_⟩, fun e => ⟨hc.1, pb, hpb, hp.2.2.1, ?_⟩, fun e => ⟨hc.1, 6, hc.2.2.1, hT6.1, ?_⟩, fun e => ⟨hc.1, 6, hc.2.2.1, hT6.1, ?_⟩, fun e => ⟨hc.1, ?_⟩, fun e => ⟨hc.1, 6, hc.2.2.1, hT6.1, ?_⟩, fun e => ⟨hc.1, ?_⟩, fun e => ⟨hc.1, ?_⟩, fun e => ?_⟩
  · rw [hp.2.2.2.1]
    exact hQ 0 (by decide) e
  · rw [hp.2.2.2.2.1]
    exact hQ 1 (by decide) e
  · rw [t3]
    exact hQ 2 (by decide) e
  · rw [t2]
    exact hQ 3 (by decide) e
  · rw [hss.1]
    exact hQ 4 (by decide) e
  · rw [w_hasFailed hT6 hT]
    have h1 := hQ 5 (by decide) e
    unfold repA at h1
    cases hb : fl (P 0) σ.1
    · rw [hb] at h1
      exact ⟨fun _ => h1, fun z => absurd rfl z⟩
    · rw [hb] at h1
      exact ⟨fun z => absurd z (by decide), fun _ => h1⟩
  · exact q_cfixed hc hpb hp hw hT (hQ 6 (by decide) e)
  · rw [hn]
    exact hQ 7 (by decide) e
  · refine hX ?_
    rcases i_split x (N := 8) (by decide) with ⟨k, hk, ek⟩ | h
    · obtain ⟨n0, n1, n2, n3, n4, n5, n6, n7⟩ := e
      rcases lt8 hk with z | z | z | z | z | z | z | z
      · exact absurd (z ▸ ek) n0
      · exact absurd (z ▸ ek) n1
      · exact absurd (z ▸ ek) n2
      · exact absurd (z ▸ ek) n3
      · exact absurd (z ▸ ek) n4
      · exact absurd (z ▸ ek) n5
      · exact absurd (z ▸ ek) n6
      · exact absurd (z ▸ ek) n7
    · exact h
theorem c_domain {S : PS} {P : Nat → Nat} {pb l : Nat} {σ : St} {x : Int32} {Q : Int32 → PS → Prop} {X : String → PS → Prop} (hc : CSh S) (hpb : pR S 0 6 = some pb) (hp : PRep S pb P) (hw : Pwf P) (hT : cT S 6 (P 0) l σ)
    (hQ : ∀ k, k < P 0 → x = nI k → Q (nI (σ.1 k)) S)
    (hX : (x < nI 0 ∨ nI (P 0) ≤ x) → ∀ n, X "java/lang/IndexOutOfBoundsException" (sSkip S n)) : wpX11_domain S 0 x Q X := by
  have hP0 := hw.1
  have hT6 := hc.2.2.2.2.2.2.2.2.2.2.2.1
  obtain ⟨t1, t2, t3, t4, t5, t6, _⟩ := hT
  unfold wpX11_domain
  rw [c_0]
  refine ⟨hc.1, ?_⟩
  rcases i_split x (N := P 0) (by omega) with ⟨k, hk, rfl⟩ | hx
  · rw [w_cvar hc hpb hp hw hk]
    refine ⟨fun _ => ⟨hc.1, 6, hc.2.2.1, hT6.1, ?_⟩, fun z => absurd z (by decide)⟩
    rw [t4, w_valuesOf t5 (by omega)]
    exact hQ k hk rfl
  · rw [w_cvar0 hc hpb hp hx]
    exact ⟨fun z => absurd rfl z, fun _ => hX hx⟩
def svN (p : Nat → Bool) : Nat → Nat
  | 0 => 0
  | k + 1 => if p k = true then svN p k ||| 2 ^ k else svN p k
theorem svN_tb {p : Nat → Bool} {x : Nat} : ∀ n, (svN p n).testBit x = true ↔ x < n ∧ p x = true := by
  intro n
  induction n with
  | zero =>
    refine ⟨fun h => ?_, fun h => absurd h.1 (Nat.not_lt_zero _)⟩
    unfold svN at h
    rw [Nat.zero_testBit] at h
    cases h
  | succ n ih =>
    unfold svN
    by_cases hb : p n = true
    · rw [if_pos hb, Nat.testBit_or, Bool.or_eq_true, ih, Nat.testBit_two_pow, decide_eq_true_iff]
      refine ⟨fun h => ?_, fun h => ?_⟩
      · rcases h with h | h
        · exact ⟨by omega, h.2⟩
        · rw [← h]
          exact ⟨by omega, hb⟩
      · by_cases e : n = x
        · exact Or.inr e
        · exact Or.inl ⟨by omega, h.2⟩
    · rw [if_neg hb, ih]
      refine ⟨fun h => ⟨by omega, h.2⟩, fun h => ⟨?_, h.2⟩⟩
      have : x ≠ n := fun e => hb (e ▸ h.2)
      omega
theorem svN_lt (p : Nat → Bool) (n : Nat) : svN p n < 2 ^ n := by
  refine Nat.lt_pow_two_of_testBit _ (fun i hi => ?_)
  rw [← Bool.not_eq_true]
  intro h
  have := (svN_tb n).mp h
  omega
theorem svN_st {κ : Kon} (hκ : Kwf κ) : svN (fun x => inM κ x) 7 = stN κ.2.1 κ.1 := by
  apply Nat.eq_of_testBit_eq
  intro i
  have h1 := svN_tb (p := fun x => inM κ x) (x := i) 7
  have h2 := stN_tb (m := κ.2.1) (x := i) κ.1
  have h3 : (svN (fun x => inM κ x) 7).testBit i = true ↔ (stN κ.2.1 κ.1).testBit i = true := by
    rw [h1, h2]
    refine ⟨fun h => inM_t.mp h.2, fun h => ⟨?_, inM_t.mpr h⟩⟩
    obtain ⟨k, hk, e⟩ := h
    rw [← e]
    exact hκ.2.1 k hk
  cases ha : (svN (fun x => inM κ x) 7).testBit i <;> cases hb : (stN κ.2.1 κ.1).testBit i
  · rfl
  · rw [ha, hb] at h3
    exact absurd (h3.mpr rfl) (by decide)
  · rw [ha, hb] at h3
    exact absurd (h3.mp rfl) (by decide)
  · rfl
theorem one_shl31 {v : Nat} (hv : v < 31) : (nI 1 <<< (nI v &&& nI 31)) = nI (2 ^ v) := by rw [o_and31 (by omega), o_shl1 (by omega)]
theorem q_csetOf {S : PS} {o : Nat} {κ : Kon} {Q : Int32 → PS → Prop} (hC : CC S o κ) (hκ : Kwf κ) (hQ : Q (nI (stN κ.2.1 κ.1)) S) : wpX11_setOfVariables S o Q := by
  rw [← svN_st hκ] at hQ
  have loop : ∀ r k, k + r = 7 → wpX11_setOfVariables_b4 Q (r + 1) S o (nI (svN (fun x => inM κ x) k)) (nI k) := by
    intro r
    induction r with
    | zero =>
      intro k hk
      have hle : 7 ≤ k := by omega
      have e : k = 7 := by omega
      have h1 := hQ
      rw [← e] at h1
      simp (disch := omega) only [wpX11_setOfVariables_b4, c_0, c_1, c_2, c_3, c_4, c_5, c_6, c_7, c_8, c_9, c_10, c_11, c_12, c_14, c_16, c_19, c_20, c_24, c_31, c_32, c_35, c_48, c_57, c_59, c_63, c_97, c_100, c_122, c_127, c_169, c_255, c_600, c_1000, c_32767, Nat.le_refl, Nat.zero_le, Nat.add_zero, Nat.lt_irrefl, eq_self, o_sub, Nat.sub_zero, Nat.not_lt_zero, ↓ng_d, o_le, o_lt, o_eq, o_add, o_mul, o_cl, o_inT, o_and, n_31, o_shr, o_shl1, o_or, m_lt, m_ge, m_le, m_gt, m_ne, m_ne2, Option.some.injEq, exists_eq_left', true_and, and_true, true_implies, false_implies, implies_true, not_true_eq_false, not_false_eq_true, bI_0, bI_1, bI_01, b01, true_or, or_true, Nat.reduceEqDiff, Bool.not_eq_false, Bool.not_eq_true, Bool.true_eq_false, Bool.false_eq_true, hle]
      exact h1
    | succ r ih =>
      intro k hk
      have hle : ¬ 7 ≤ k := by omega
      have hn := ih (k + 1) (by omega)
      generalize r + 1 = fu at hn ⊢
      have hlt := svN_lt (fun x => inM κ x) k
      have hsv : svN (fun x => inM κ x) (k + 1) = if inM κ k = true then svN (fun x => inM κ x) k ||| 2 ^ k else svN (fun x => inM κ x) k := rfl
      rw [hsv] at hn
      have main : wpX1_hasVariable S o (nI k) (fun r2 S3 => ((r2 = nI 0 → (wpX11_setOfVariables_b4 Q fu S3 o (nI (svN (fun x => inM κ x) k)) (nI k + nI 1))) ∧ (¬ r2 = nI 0 → (wpX11_setOfVariables_b4 Q fu S3 o (nI (svN (fun x => inM κ x) k) ||| (nI 1 <<< (nI k &&& nI 31))) (nI k + nI 1))))) := by
        rw [w_hasVariable hC.1 hC.2.2.1 (by omega), one_shl31 (by omega), o_or]
        simp only [o_add]
        cases hb : inM κ k
        · rw [hb] at hn
          exact ⟨fun _ => hn, fun z => absurd rfl z⟩
        · rw [hb] at hn
          exact ⟨fun z => absurd z (by decide), fun _ => hn⟩
      simp (disch := omega) only [wpX11_setOfVariables_b4, c_0, c_1, c_7, c_31, o_le, hle, hC.1, eq_self, false_implies, true_and, not_false_eq_true, true_implies]
      exact main
  exact ⟨_, loop 7 0 rfl⟩
theorem q_cfacts {S : PS} {N l : Nat} {σ : St} {r : Int32} {Q : Int32 → PS → Prop} (hc : CSh S) (hT : cT S 6 N l σ) (hQ : Q (nI (cN (fun i => decide ((fG σ.2 i).2.2.1 = r)) σ.2.length)) S) : wpX11_factsWithReason S 0 r Q := by
  have hT6 := hc.2.2.2.2.2.2.2.2.2.2.2.1
  have hT' := hT
  obtain ⟨t1, t2, t3, t4, t5, t6, t7, _⟩ := hT'
  have c1 := hc.2.2.1
  have hK8 : pK S 6 = 8 := hT6.1
  have loop : ∀ q i, i + q = σ.2.length → wpX11_factsWithReason_b4 Q (q + 1) S 0 r (nI (cN (fun i => decide ((fG σ.2 i).2.2.1 = r)) i)) (nI i) := by
    intro q
    induction q with
    | zero =>
      intro i hi
      have hle : σ.2.length ≤ i := by omega
      have e : i = σ.2.length := by omega
      have h1 := hQ
      rw [← e] at h1
      simp (disch := omega) only [wpX11_factsWithReason_b4, c_0, c_1, c_2, c_3, c_4, c_5, c_6, c_7, c_8, c_9, c_10, c_11, c_12, c_14, c_16, c_19, c_20, c_24, c_31, c_32, c_35, c_48, c_57, c_59, c_63, c_97, c_100, c_122, c_127, c_169, c_255, c_600, c_1000, c_32767, Nat.le_refl, Nat.zero_le, Nat.add_zero, Nat.lt_irrefl, eq_self, o_sub, Nat.sub_zero, Nat.not_lt_zero, ↓ng_d, o_le, o_lt, o_eq, o_add, o_mul, o_cl, o_inT, o_and, n_31, o_shr, o_shl1, o_or, m_lt, m_ge, m_le, m_gt, m_ne, m_ne2, Option.some.injEq, exists_eq_left', true_and, and_true, true_implies, false_implies, implies_true, not_true_eq_false, not_false_eq_true, bI_0, bI_1, bI_01, b01, true_or, or_true, Nat.reduceEqDiff, Bool.not_eq_false, Bool.not_eq_true, Bool.true_eq_false, Bool.false_eq_true, hc.1, c1, hK8, t2, hle]
      exact h1
    | succ q ih =>
      intro i hi
      have hle : ¬ σ.2.length ≤ i := by omega
      have hil : i < σ.2.length := by omega
      have hn := ih (i + 1) (by omega)
      generalize q + 1 = fu at hn ⊢
      have main : wpX9_factAt S 6 (nI i) (fun r4 S5 => ((r4 = none → (wpX11_factsWithReason_b4 Q fu S5 0 r (nI (cN (fun i => decide ((fG σ.2 i).2.2.1 = r)) i)) (nI i + nI 1))) ∧ (∀ o6, r4 = some o6 → (pK S5 o6 = 3 ∧ ((¬ (pI S5 o6 2) = r → (wpX11_factsWithReason_b4 Q fu S5 0 r (nI (cN (fun i => decide ((fG σ.2 i).2.2.1 = r)) i)) (nI i + nI 1))) ∧ ((pI S5 o6 2) = r → (wpX11_factsWithReason_b4 Q fu S5 0 r (nI (cN (fun i => decide ((fG σ.2 i).2.2.1 = r)) i) + nI 1) (nI i + nI 1)))))))) := by
        rw [w_factAt hT6 hT hil]
        simp only [o_add]
        refine ⟨fun z => (nomatch z), fun o6 e6 => ?_⟩
        cases e6
        rw [cN_s] at hn
        have hf := (hT.2.2.2.2.2.2.2.2.2 i hil).1.2.2.1
        refine ⟨(hT6.2.2.2.2.2.2.2 i (by omega)).2, ?_⟩
        rw [hf]
        refine ⟨fun z => ?_, fun z => ?_⟩
        · rw [if_neg (fun z2 => z (of_decide_eq_true z2)), Nat.add_zero] at hn
          exact hn
        · rw [if_pos (decide_eq_true z)] at hn
          exact hn
      simp (disch := omega) only [wpX11_factsWithReason_b4, c_0, c_1, o_le, hle, hc.1, c1, hK8, t2, eq_self, false_implies, true_and, not_false_eq_true, true_implies, Option.some.injEq, exists_eq_left']
      exact main
  exact ⟨_, loop _ 0 (Nat.zero_add _)⟩
/-- what constraint answers -/
noncomputable def conA (P : Nat → Nat) (σ : St) (k : Nat) : Nat → Nat
  | 0 => P (9 + 20 * k)
  | 1 => P (9 + 20 * k + 1)
  | 2 => stN (cK P k).2.1 (cK P k).1
  | _ => cN (fun i => decide ((fG σ.2 i).2.2.1 = nI k)) σ.2.length
theorem c_constraint {S : PS} {P : Nat → Nat} {pb l : Nat} {σ : St} {c x : Int32} {Q : Int32 → PS → Prop} {X : String → PS → Prop} (hc : CSh S) (hpb : pR S 0 6 = some pb) (hp : PRep S pb P) (hw : Pwf P) (hT : cT S 6 (P 0) l σ)
    (hQ : ∀ k j, k < P 1 → c = nI k → j < 4 → x = nI j → Q (nI (conA P σ k j)) S)
    (hX : (c < nI 0 ∨ nI (P 1) ≤ c) → ∀ n, X "java/lang/IndexOutOfBoundsException" (sSkip S n))
    (hX2 : ∀ k, k < P 1 → c = nI k → (x < nI 0 ∨ nI 4 ≤ x) → ∀ n, X "java/lang/IllegalArgumentException" (sSkip S n)) : wpX11_constraint S 0 c x Q X := by
  have hP0 := hw.1
  have hP1 := hw.2.1
  unfold wpX11_constraint
  rw [c_0, c_1, c_2, c_3]
  refine ⟨hc.1, pb, hpb, hp.2.2.1, ?_⟩
  rcases i_split c (N := P 1) (by omega) with ⟨k, hk, rfl⟩ | hcn
  · refine q_constraintAt hp hw hk (fun o ho hK => ⟨fun z => (nomatch z), fun o7 e7 => ?_⟩)
    cases e7
    have hC := CC_of hK (hw.2.2.2.2.2 k hk) hw.1
    have hκ := cK_wf (hw.2.2.2.2.2 k hk) hw.1
    refine ⟨fun e => ⟨hC.1, ?_⟩, fun e => ⟨hC.1, ?_⟩, fun e => q_csetOf hC hκ (hQ k 2 hk rfl (by decide) e), fun e => ⟨hc.1, q_cfacts hc hT (hQ k 3 hk rfl (by decide) e)⟩, fun e => hX2 k hk rfl ?_⟩
    · rw [hK.1]
      exact hQ k 0 hk rfl (by decide) e
    · rw [hK.2.1]
      exact hQ k 1 hk rfl (by decide) e
    · rcases i_split x (N := 4) (by decide) with ⟨j, hj, ej⟩ | h
      · obtain ⟨n0, n1, n2, n3⟩ := e
        rcases lt4 hj with z | z | z | z
        · exact absurd (z ▸ ej) n0
        · exact absurd (z ▸ ej) n1
        · exact absurd (z ▸ ej) n2
        · exact absurd (z ▸ ej) n3
      · exact h
  · exact q_constraintAt0 hp hcn ⟨fun _ => hX hcn, fun o7 z => (nomatch z)⟩
/-- what fact answers -/
def facA (f : FT) : Nat → Int32
  | 0 => nI f.1
  | 1 => nI f.2.1
  | 2 => f.2.2.1
  | _ => nI f.2.2.2.1
theorem c_fact {S : PS} {N l : Nat} {σ : St} {c x : Int32} {Q : Int32 → PS → Prop} {X : String → PS → Prop} (hc : CSh S) (hT : cT S 6 N l σ)
    (hQ : ∀ i j, i < σ.2.length → c = nI i → j < 4 → x = nI j → Q (facA (fG σ.2 i) j) S)
    (hX : (c < nI 0 ∨ nI σ.2.length ≤ c) → ∀ n, X "java/lang/IndexOutOfBoundsException" (sSkip S n))
    (hX2 : ∀ i, i < σ.2.length → c = nI i → (x < nI 0 ∨ nI 4 ≤ x) → ∀ n, X "java/lang/IllegalArgumentException" (sSkip S n)) : wpX11_fact S 0 c x Q X := by
  have hT6 := hc.2.2.2.2.2.2.2.2.2.2.2.1
  have t7 := hT.2.2.2.2.2.2.1
  unfold wpX11_fact
  rw [c_0, c_1, c_2, c_3]
  refine ⟨hc.1, 6, hc.2.2.1, hT6.1, ?_⟩
  rcases i_split c (N := σ.2.length) (by omega) with ⟨i, hi, rfl⟩ | hcn
  · rw [w_factAt hT6 hT hi]
    refine ⟨fun z => (nomatch z), fun o6 e6 => ?_⟩
    cases e6
    have hK := (hT6.2.2.2.2.2.2.2 i (by omega)).2
    obtain ⟨f1, f2, f3, f4, _⟩ := (hT.2.2.2.2.2.2.2.2.2 i hi).1
    refine ⟨fun e => ⟨hK, ?_⟩, fun e => ⟨hK, ?_⟩, fun e => ⟨hK, ?_⟩, fun e => ⟨hK, ?_⟩, fun e => hX2 i hi rfl ?_⟩
    · rw [f1]
      exact hQ i 0 hi rfl (by decide) e
    · rw [f2]
      exact hQ i 1 hi rfl (by decide) e
    · rw [f3]
      exact hQ i 2 hi rfl (by decide) e
    · rw [f4]
      exact hQ i 3 hi rfl (by decide) e
    · rcases i_split x (N := 4) (by decide) with ⟨j, hj, ej⟩ | h
      · obtain ⟨n0, n1, n2, n3⟩ := e
        rcases lt4 hj with z | z | z | z
        · exact absurd (z ▸ ej) n0
        · exact absurd (z ▸ ej) n1
        · exact absurd (z ▸ ej) n2
        · exact absurd (z ▸ ej) n3
      · exact h
  · rw [w_factAt0 hT6 hT hcn]
    exact ⟨fun _ => hX hcn, fun o6 z => (nomatch z)⟩
theorem pq_pow {a b y w : Nat} (ha : a < 7) (hb : b < 5) (hy : y < 7) (hw : w < 5) : (pk (sg a (2 ^ b)) = pk (sg y (2 ^ w))) = (a = y ∧ b = w) := by
  apply propext
  rw [pq_inj (sg_wf (dm_pow_lt b hb)) (sg_wf (dm_pow_lt w hw))]
  constructor
  · intro h
    have h1 := h a ha
    rw [sg_s] at h1
    have p1 := Nat.two_pow_pos b
    by_cases e : a = y
    · rw [e, sg_s] at h1
      exact ⟨e, pow_inj5 _ hb _ hw h1⟩
    · rw [sg_n e] at h1
      omega
  · rintro ⟨rfl, rfl⟩ x _
    rfl
theorem c_factOf {S : PS} {P : Nat → Nat} {pb l : Nat} {σ : St} {x v : Int32} {Q : Int32 → PS → Prop} {X : String → PS → Prop} (hc : CSh S) (hpb : pR S 0 6 = some pb) (hp : PRep S pb P) (hw : Pwf P) (hT : cT S 6 (P 0) l σ)
    (hQ : ∀ y w i, y < P 0 → x = nI y → w < 5 → v = nI w → i < σ.2.length → ((fG σ.2 i).1 = y ∧ (fG σ.2 i).2.1 = w) → (∀ j, j < i → ¬ ((fG σ.2 j).1 = y ∧ (fG σ.2 j).2.1 = w)) → Q (nI i) S)
    (hX : (x < nI 0 ∨ nI (P 0) ≤ x) → ∀ n, X "java/lang/IndexOutOfBoundsException" (sSkip S n))
    (hX2 : ∀ y, y < P 0 → x = nI y → (v < nI 0 ∨ nI 5 ≤ v) → ∀ n, X "java/lang/IllegalArgumentException" (sSkip S n))
    (hX3 : ∀ y w, y < P 0 → x = nI y → w < 5 → v = nI w → (∀ j, j < σ.2.length → ¬ ((fG σ.2 j).1 = y ∧ (fG σ.2 j).2.1 = w)) → ∀ n, X "java/util/NoSuchElementException" (sSkip S n)) : wpX11_factOf S 0 x v Q X := by
  have hP0 := hw.1
  have hT6 := hc.2.2.2.2.2.2.2.2.2.2.2.1
  have hT' := hT
  obtain ⟨t1, t2, t3, t4, t5, t6, t7, _⟩ := hT'
  have c1 := hc.2.2.1
  have hK8 : pK S 6 = 8 := hT6.1
  unfold wpX11_factOf
  rw [c_0]
  refine ⟨hc.1, ?_⟩
  rcases i_split x (N := P 0) (by omega) with ⟨y, hy, rfl⟩ | hx
  · rw [w_cvar hc hpb hp hw hy]
    refine ⟨fun _ => ?_, fun z => absurd z (by decide)⟩
    rcases i_split v (N := 5) (by decide) with ⟨w, hw5, rfl⟩ | hv
    · rw [w_isValue1 hw5]
      refine ⟨fun _ => ?_, fun z => absurd z (by decide)⟩
      rw [w_pair (by omega) hw5]
      have loop : ∀ q i, i + q = σ.2.length → (∀ j, j < i → ¬ ((fG σ.2 j).1 = y ∧ (fG σ.2 j).2.1 = w)) → wpX11_factOf_b44 Q X (q + 1) S 0 (nI y) (nI w) (pk (sg y (2 ^ w))) (nI i) := by
        intro q
        induction q with
        | zero =>
          intro i hi hno
          have hle : σ.2.length ≤ i := by omega
          have e : i = σ.2.length := by omega
          rw [e] at hno
          have h1 := hX3 y w hy rfl hw5 rfl hno
          simp (disch := omega) only [wpX11_factOf_b44, c_0, c_1, c_2, c_3, c_4, c_5, c_6, c_7, c_8, c_9, c_10, c_11, c_12, c_14, c_16, c_19, c_20, c_24, c_31, c_32, c_35, c_48, c_57, c_59, c_63, c_97, c_100, c_122, c_127, c_169, c_255, c_600, c_1000, c_32767, Nat.le_refl, Nat.zero_le, Nat.add_zero, Nat.lt_irrefl, eq_self, o_sub, Nat.sub_zero, Nat.not_lt_zero, ↓ng_d, o_le, o_lt, o_eq, o_add, o_mul, o_cl, o_inT, o_and, n_31, o_shr, o_shl1, o_or, m_lt, m_ge, m_le, m_gt, m_ne, m_ne2, Option.some.injEq, exists_eq_left', true_and, and_true, true_implies, false_implies, implies_true, not_true_eq_false, not_false_eq_true, bI_0, bI_1, bI_01, b01, true_or, or_true, Nat.reduceEqDiff, Bool.not_eq_false, Bool.not_eq_true, Bool.true_eq_false, Bool.false_eq_true, hc.1, c1, hK8, t2, hle]
          exact h1
        | succ q ih =>
          intro i hi hno
          have hle : ¬ σ.2.length ≤ i := by omega
          have hil : i < σ.2.length := by omega
          have hn := ih (i + 1) (by omega)
          generalize q + 1 = fu at hn ⊢
          obtain ⟨_, f1, f2, _⟩ := hT.2.2.2.2.2.2.2.2.2 i hil
          have main : wpX9_pairAt S 6 (nI i) (fun r4 S5 => ((¬ (lg_cmp r4 (pk (sg y (2 ^ w)))) = nI 0 → (wpX11_factOf_b44 Q X fu S5 0 (nI y) (nI w) (pk (sg y (2 ^ w))) (nI i + nI 1))) ∧ ((lg_cmp r4 (pk (sg y (2 ^ w)))) = nI 0 → (Q (nI i) S5)))) := by
            rw [w_pairAt hT6 hT hil, lg_0, pq_pow f1 f2 (by omega) hw5]
            simp only [o_add]
            refine ⟨fun z => hn (fun j hj => ?_), fun z => hQ y w i hy rfl hw5 rfl hil z hno⟩
            by_cases e : j = i
            · rw [e]
              exact z
            · exact hno j (by omega)
          simp (disch := omega) only [wpX11_factOf_b44, c_0, c_1, o_le, hle, hc.1, c1, hK8, t2, eq_self, false_implies, true_and, not_false_eq_true, true_implies, Option.some.injEq, exists_eq_left']
          exact main
      exact ⟨_, loop _ 0 (Nat.zero_add _) (fun j hj => absurd hj (Nat.not_lt_zero _))⟩
    · rw [w_isValue0 hv]
      exact ⟨fun z => absurd rfl z, fun _ => hX2 y hy rfl hv⟩
  · rw [w_cvar0 hc hpb hp hx]
    exact ⟨fun z => absurd rfl z, fun _ => hX hx⟩

/-! THE CLASS: its trail -/
def LT (t : Nat) : List Nat := t :: (List.range 35).map (fun i => t + 3 + i)
theorem LT_mem {t a : Nat} : a ∈ LT t ↔ a = t ∨ (t + 3 ≤ a ∧ a < t + 38) := by
  unfold LT
  rw [List.mem_cons, List.mem_map]
  constructor
  · rintro (h | ⟨i, h1, h2⟩)
    · exact Or.inl h
    · rw [List.mem_range] at h1; exact Or.inr (by omega)
  · rintro (h | h)
    · exact Or.inl h
    · exact Or.inr ⟨a - (t + 3), List.mem_range.mpr (by omega), by omega⟩
def TSh (S : PS) (t : Nat) : Prop := pK S t = 8 ∧ pR S t 0 = some (t + 1) ∧ pR S t 1 = some (t + 2) ∧ pK S (t + 1) = 17 ∧ pL S (t + 1) = 35 ∧ pK S (t + 2) = 14 ∧ pL S (t + 2) = 7 ∧ ∀ i, i < 35 → pR S (t + 1) i = some (t + 3 + i) ∧ pK S (t + 3 + i) = 3
theorem fr.TS {A : List Nat} {S S' : PS} {t : Nat} (h : fr A S S') (hs : TSh S t) : TSh S' t := by
  unfold TSh
  rw [h.2.1, h.2.2.1, h.2.2.2.1]
  exact hs
/-- a fact's object -/
def cFa (S : PS) (a : Nat) (f : FT) : Prop := pI S a 0 = nI f.1 ∧ pI S a 1 = nI f.2.1 ∧ pI S a 2 = f.2.2.1 ∧ pI S a 3 = nI f.2.2.2.1 ∧ pJ S a 4 = pk (sset f.2.2.2.2)
/-- a trail's domains, facts and level, for N variables -/
def cT (S : PS) (t N l : Nat) (σ : St) : Prop := pI S t 2 = nI N ∧ pI S t 3 = nI σ.2.length ∧ pI S t 4 = nI l ∧ pJ S t 5 = pk σ.1 ∧ Dwf σ.1 ∧ (∀ x, N ≤ x → x < 7 → σ.1 x = 0) ∧ σ.2.length ≤ 35 ∧ N ≤ 7 ∧ l ≤ 100 ∧ ∀ i, i < σ.2.length → cFa S (t + 3 + i) (fG σ.2 i) ∧ (fG σ.2 i).1 < 7 ∧ (fG σ.2 i).2.1 < 5 ∧ (fG σ.2 i).2.2.2.1 ≤ 100
theorem cT_fr {A : List Nat} {S S' : PS} {t N l : Nat} {σ : St} (h : fr A S S') (ha : ∀ a, a ∈ LT t → a ∉ A) (hc : cT S t N l σ) : cT S' t N l σ := by
  obtain ⟨h1, h2, h3, h4, h5, h6, h7, h8, h9, h10⟩ := hc
  have ht := ha t (LT_mem.mpr (Or.inl rfl))
  refine ⟨by rw [h.I ht]; exact h1, by rw [h.I ht]; exact h2, by rw [h.I ht]; exact h3, by rw [h.J ht]; exact h4, h5, h6, h7, h8, h9, fun i hi => ⟨?_, (h10 i hi).2⟩⟩
  have hti := ha (t + 3 + i) (LT_mem.mpr (Or.inr (by omega)))
  obtain ⟨g1, g2, g3, g4, g5⟩ := (h10 i hi).1
  exact ⟨by rw [h.I hti]; exact g1, by rw [h.I hti]; exact g2, by rw [h.I hti]; exact g3, by rw [h.I hti]; exact g4, by rw [h.J hti]; exact g5⟩
theorem nzs_fl {N : Nat} {d : Nat → Nat} (hN : N ≤ 7) (hz : ∀ x, N ≤ x → x < 7 → d x = 0) : N ≤ nzs d ↔ fl N d = false := by
  have h1 : ∀ n, N ≤ n → n ≤ 7 → cN (fun x => decide (d x ≠ 0)) n = cN (fun x => decide (d x ≠ 0)) N := by
    intro n
    induction n with
    | zero => intro h _; rw [show N = 0 by omega]
    | succ n ih =>
      intro h h7
      by_cases e : N = n + 1
      · rw [e]
      · rw [cN_s, ih (by omega) (by omega), decide_eq_false (fun q => q (hz n (by omega) (by omega)))]
        rfl
  have h2 := cN_full (p := fun x => decide (d x ≠ 0)) (q := fun _ => true) N (fun i _ _ => rfl)
  have h3 : cN (fun _ => true) N = N := by
    have : ∀ n, cN (fun _ => true) n = n := by
      intro n
      induction n with
      | zero => rfl
      | succ n ih => rw [cN_s, ih]; rfl
    exact this N
  have h4 := cN_le (fun x => decide (d x ≠ 0)) N
  unfold nzs
  rw [h1 7 hN (Nat.le_refl _), fl_f]
  rw [h3] at h2
  constructor
  · intro h x hx
    have := (h2.mp (by omega)) x hx rfl
    simpa using this
  · intro h
    have := h2.mpr (fun i hi _ => by simpa using h i hi)
    omega
theorem nzs_le (d : Nat → Nat) : nzs d ≤ 7 := cN_le _ _
theorem w_hasFailed {S : PS} {t N l : Nat} {σ : St} {Q : Int32 → PS → Prop} (hs : TSh S t) (hc : cT S t N l σ) : wpX9_hasFailed S t Q = Q (bI (fl N σ.1)) S := by
  obtain ⟨h1, h2, h3, h4, h5, h6, h7, h8, -⟩ := hc
  have h9 := nzs_fl h8 h6
  have h10 := nzs_le σ.1
  simp (disch := omega) only [wpX9_hasFailed, c_0, c_1, c_2, c_3, c_4, c_5, c_6, c_7, c_8, c_9, c_10, c_11, c_12, c_14, c_16, c_19, c_20, c_24, c_31, c_32, c_35, c_48, c_57, c_59, c_63, c_97, c_100, c_122, c_127, c_169, c_255, c_600, c_1000, c_32767, Nat.le_refl, Nat.zero_le, Nat.add_zero, Nat.lt_irrefl, eq_self, o_sub, Nat.sub_zero, Nat.not_lt_zero, ↓ng_d, o_le, o_lt, o_eq, o_add, o_mul, o_cl, o_inT, o_and, n_31, o_shr, o_shl1, o_or, m_lt, m_ge, m_le, m_gt, m_ne, m_ne2, Option.some.injEq, exists_eq_left', true_and, and_true, true_implies, false_implies, implies_true, not_true_eq_false, not_false_eq_true, bI_0, bI_1, bI_01, b01, true_or, or_true, Nat.reduceEqDiff, Bool.not_eq_false, Bool.not_eq_true, Bool.true_eq_false, Bool.false_eq_true, hs.1, h4, w_variablesIn h5, h1]
  cases hf : fl N σ.1
  · have := h9.mpr hf
    simp only [this, true_implies, not_true_eq_false, false_implies, and_true]
    rfl
  · have : ¬ N ≤ nzs σ.1 := fun q => by rw [h9.mp q] at hf; cases hf
    simp only [this, not_false_eq_true, true_implies, false_implies, true_and]
    rfl
theorem w_factAt {S : PS} {t N l i : Nat} {σ : St} {Q : Option Nat → PS → Prop} (hs : TSh S t) (hc : cT S t N l σ) (hi : i < σ.2.length) : wpX9_factAt S t (nI i) Q = Q (some (t + 3 + i)) S := by
  have h7 := hc.2.2.2.2.2.2.1
  have e1 : ¬ σ.2.length ≤ i := by omega
  have e2 : ¬ 35 ≤ i := by omega
  simp (disch := omega) only [wpX9_factAt, c_0, c_1, c_2, c_3, c_4, c_5, c_6, c_7, c_8, c_9, c_10, c_11, c_12, c_14, c_16, c_19, c_20, c_24, c_31, c_32, c_35, c_48, c_57, c_59, c_63, c_97, c_100, c_122, c_127, c_169, c_255, c_600, c_1000, c_32767, Nat.le_refl, Nat.zero_le, Nat.add_zero, Nat.lt_irrefl, eq_self, o_sub, Nat.sub_zero, Nat.not_lt_zero, ↓ng_d, o_le, o_lt, o_eq, o_add, o_mul, o_cl, o_inT, o_and, n_31, o_shr, o_shl1, o_or, m_lt, m_ge, m_le, m_gt, m_ne, m_ne2, Option.some.injEq, exists_eq_left', true_and, and_true, true_implies, false_implies, implies_true, not_true_eq_false, not_false_eq_true, bI_0, bI_1, bI_01, b01, true_or, or_true, Nat.reduceEqDiff, Bool.not_eq_false, Bool.not_eq_true, Bool.true_eq_false, Bool.false_eq_true, hs.1, hs.2.1, hs.2.2.2.1, hs.2.2.2.2.1, hc.2.1, e1, e2, (hs.2.2.2.2.2.2.2 i (by omega)).1]
theorem w_factAt0 {S : PS} {t N l : Nat} {σ : St} {i : Int32} {Q : Option Nat → PS → Prop} (hs : TSh S t) (hc : cT S t N l σ) (hi : i < nI 0 ∨ nI σ.2.length ≤ i) : wpX9_factAt S t i Q = Q none S := by
  have h7 := hc.2.2.2.2.2.2.1
  unfold wpX9_factAt
  rw [c_0]
  by_cases h : i < nI 0
  · simp only [h, true_implies, not_true_eq_false, false_implies, and_true]
  · have h2 := hi.resolve_left h
    simp only [h, hs.1, hc.2.1, h2, not_false_eq_true, true_implies, not_true_eq_false, false_implies, true_and, and_true]
theorem w_fpair {S : PS} {t N l i : Nat} {σ : St} {Q : Int64 → PS → Prop} (hs : TSh S t) (hc : cT S t N l σ) (hi : i < σ.2.length) : wpX3_pair S (t + 3 + i) Q = Q (pk (sg (fG σ.2 i).1 (2 ^ (fG σ.2 i).2.1))) S := by
  have h7 := hc.2.2.2.2.2.2.1
  obtain ⟨⟨g1, g2, -⟩, g3, g4, -⟩ := hc.2.2.2.2.2.2.2.2.2 i hi
  unfold wpX3_pair
  rw [g1, g2, w_pair g3 g4, (hs.2.2.2.2.2.2.2 i (by omega)).2]
  exact propext ⟨fun q => q.2, fun q => ⟨rfl, q⟩⟩
theorem w_pairAt {S : PS} {t N l i : Nat} {σ : St} {Q : Int64 → PS → Prop} (hs : TSh S t) (hc : cT S t N l σ) (hi : i < σ.2.length) : wpX9_pairAt S t (nI i) Q = Q (pk (sg (fG σ.2 i).1 (2 ^ (fG σ.2 i).2.1))) S := by
  have h7 := hc.2.2.2.2.2.2.1
  unfold wpX9_pairAt
  rw [w_factAt hs hc hi]
  apply propext
  constructor
  · rintro ⟨-, -, q⟩
    have := (q _ rfl).2
    rw [w_fpair hs hc hi] at this
    exact this
  · intro q
    refine ⟨hs.1, fun z => (by cases z), fun o z => ?_⟩
    cases z
    refine ⟨(hs.2.2.2.2.2.2.2 i (by omega)).2, ?_⟩
    rw [w_fpair hs hc hi]
    exact q
/-- the kept explanations: those of the first n facts as they were, the others unset -/
def cX (S0 S : PS) (t n n' : Nat) : Prop := (∀ i, i < n → pJ S (t + 3 + i) 5 = pJ S0 (t + 3 + i) 5) ∧ ∀ i, n ≤ i → i < n' → pJ S (t + 3 + i) 5 = ngL
theorem cX_r (S : PS) (t n : Nat) : cX S S t n n := ⟨fun _ _ => rfl, fun i h1 h2 => by omega⟩
theorem cX_t {S0 S1 S2 : PS} {t n n1 n2 : Nat} (hn : n ≤ n1) (h1 : cX S0 S1 t n n1) (h2 : cX S1 S2 t n1 n2) : cX S0 S2 t n n2 := ⟨fun i hi => (h2.1 i (by omega)).trans (h1.1 i hi), fun i q1 q2 => by
  by_cases e : i < n1
  · rw [h2.1 i e]; exact h1.2 i q1 e
  · exact h2.2 i (by omega) q2⟩
theorem cX_fr {A : List Nat} {S0 S S' : PS} {t n n' : Nat} (hf : fr A S S') (ha : ∀ i, i < n' → t + 3 + i ∉ A) (hn : n ≤ n') (h : cX S0 S t n n') : cX S0 S' t n n' := ⟨fun i hi => by rw [hf.J (ha i (by omega))]; exact h.1 i hi, fun i q1 q2 => by rw [hf.J (ha i q2)]; exact h.2 i q1 q2⟩
theorem clr_and : ∀ d, d < 32 → ∀ v, v < 5 → andn d (2 ^ v) = clr d v := by decide +kernel
theorem andn_0 : ∀ d, d < 32 → andn d 0 = d := by decide +kernel
theorem pq_clr {d : Nat → Nat} (hd : Dwf d) {x v : Nat} (hx : x < 7) (hv : v < 5) : pk d &&& (pk (sg x (2 ^ v)) ^^^ ngL) = pk (ud d x (clr (d x) v)) := by
  rw [pq_andn hd (sg_wf (dm_pow_lt v hv))]
  apply pq_cg
  intro y hy
  by_cases e : y = x
  · subst e; rw [sg_s, ud_s, clr_and _ (hd y hy) v hv]
  · rw [sg_n e, ud_n _ _ e, andn_0 _ (hd y hy)]
theorem ud_wf {d : Nat → Nat} (hd : Dwf d) {x w : Nat} (hw : w < 32) : Dwf (ud d x w) := fun y hy => by
  by_cases e : y = x
  · rw [e, ud_s]; exact hw
  · rw [ud_n _ _ e]; exact hd y hy
theorem q_remove {S : PS} {t N l x v s : Nat} {σ : St} {r : Int32} {L : Int64} {Q : PS → Prop} (hs : TSh S t) (hc : cT S t N l σ) (hn : σ.2.length < 35) (hx : x < N) (hv : v < 5) (hL : L = pk (sset s))
    (hQ : ∀ S', fr (LT t) S S' → cT S' t N l (ud σ.1 x (clr (σ.1 x) v), σ.2 ++ [(x, v, r, l, s)]) → cX S S' t σ.2.length (σ.2.length + 1) → Q S') : wpX9_remove S t (nI x) (nI v) r L Q := by
  subst hL
  obtain ⟨h1, h2, h3, h4, h5, h6, h7, h8, h9, h10⟩ := hc
  have hx7 : x < 7 := by omega
  obtain ⟨n, hne⟩ : ∃ n, n = σ.2.length := ⟨_, rfl⟩
  rw [← hne] at h2 h7 h10 hn hQ
  have s1 := hs.1
  have e1 : ¬ n + 1 ≤ n := by omega
  have e2 : ¬ 35 ≤ n := by omega
  have s8 := hs.2.2.2.2.2.2.2 n hn
  have et : ¬ t + 3 + n = t := by omega
  have et2 : ¬ t = t + 3 + n := by omega
  unfold wpX9_remove
  refine ⟨s1, ?_⟩
  have hfa : ∀ Q2 : Option Nat → PS → Prop, Q2 (some (t + 3 + n)) (sI S t 3 (nI (n + 1))) → wpX9_factAt (sI S t 3 (nI (n + 1))) t (nI n) Q2 := by
    intro Q2 hq
    simp (disch := omega) only [wpX9_factAt, c_0, c_1, c_2, c_3, c_4, c_5, c_6, c_7, c_8, c_9, c_10, c_11, c_12, c_14, c_16, c_19, c_20, c_24, c_31, c_32, c_35, c_48, c_57, c_59, c_63, c_97, c_100, c_122, c_127, c_169, c_255, c_600, c_1000, c_32767, Nat.le_refl, Nat.zero_le, Nat.add_zero, Nat.lt_irrefl, eq_self, o_sub, Nat.sub_zero, Nat.not_lt_zero, ↓ng_d, o_le, o_lt, o_eq, o_add, o_mul, o_cl, o_inT, o_and, n_31, o_shr, o_shl1, o_or, m_lt, m_ge, m_le, m_gt, m_ne, m_ne2, Option.some.injEq, exists_eq_left', true_and, and_true, true_implies, false_implies, implies_true, not_true_eq_false, not_false_eq_true, bI_0, bI_1, bI_01, b01, true_or, or_true, Nat.reduceEqDiff, Bool.not_eq_false, Bool.not_eq_true, Bool.true_eq_false, Bool.false_eq_true, pK_sI, pR_sI, pL_sI, pI_sI, and_self, if_true, hs.1, hs.2.1, hs.2.2.2.1, hs.2.2.2.2.1, e1, e2, s8.1]
    exact hq
  have e3 : pI S t 3 + 1 = nI (n + 1) := by rw [h2, c_1, o_add]
  rw [e3, show pI (sI S t 3 (nI (n + 1))) t 3 = nI (n + 1) from by rw [pI_sI, if_pos ⟨rfl, rfl⟩], show nI (n + 1) - 1 = nI n from by rw [c_1, o_sub (by omega)]; rfl]
  apply hfa
  refine ⟨fun z => (by cases z), fun o z => ?_⟩
  cases z
  refine ⟨s8.2, s1, ?_⟩
  have f1 : ∀ S2 : PS, pK S2 (t + 3 + n) = 3 → pI S2 (t + 3 + n) 0 = nI x → pI S2 (t + 3 + n) 1 = nI v → ∀ Q2 : Int64 → PS → Prop, Q2 (pk (sg x (2 ^ v))) S2 → wpX3_pair S2 (t + 3 + n) Q2 := fun S2 k0 k1 k2 Q2 hq => by
    unfold wpX3_pair
    rw [k1, k2, w_pair hx7 hv]
    exact ⟨k0, hq⟩
  refine f1 _ ?_ ?_ ?_ _ ?_
  · exact s8.2
  · simp only [pI_sI, pI_sJ, true_and, and_true, eq_self, if_true, Nat.reduceEqDiff, if_false, and_false, reduceCtorEq]
  · simp only [pI_sI, pI_sJ, true_and, and_true, eq_self, if_true, Nat.reduceEqDiff, if_false, and_false, reduceCtorEq]
  refine ⟨s1, ?_⟩
  have e5 : ∀ S2 : PS, pJ S2 t 5 = pk σ.1 → pJ S2 t 5 &&& (pk (sg x (2 ^ v)) ^^^ -1) = pk (ud σ.1 x (clr (σ.1 x) v)) := fun S2 k => by rw [k, ngL_d, pq_clr h5 hx7 hv]
  have el : pI (sI (sI (sI (sI S t 3 (nI (n + 1))) (t + 3 + n) 0 (nI x)) (t + 3 + n) 1 (nI v)) (t + 3 + n) 2 r) t 4 = nI l := by
    simp only [pI_sI, et2, false_and, if_false, Nat.reduceEqDiff, and_false, h3]
  rw [e5 _ (by simp only [pJ_sI, pJ_sJ, et2, false_and, if_false, h4]), el]
  refine hQ _ ?_ ?_ ?_
  · have m1 : t + 3 + n ∈ LT t := LT_mem.mpr (Or.inr (by omega))
    have m0 : t ∈ LT t := LT_mem.mpr (Or.inl rfl)
    exact fr_t (fr_t (fr_t (fr_t (fr_t (fr_t (fr_t (fr_sI _ _ _ m0) (fr_sI _ _ _ m1)) (fr_sI _ _ _ m1)) (fr_sI _ _ _ m1)) (fr_sI _ _ _ m1)) (fr_sJ _ _ _ m1)) (fr_sJ _ _ _ m1)) (fr_sJ _ _ _ m0)
  · have hxd := h5 x hx7
    refine ⟨?_, ?_, ?_, ?_, ud_wf h5 (dm_clr_lt _ hxd v hv), fun y hy hy7 => ?_, ?_, h8, h9, fun i hi => ?_⟩
    · simp only [pI_sI, pI_sJ, et2, false_and, if_false, Nat.reduceEqDiff, and_false, h1]
    · simp only [pI_sI, pI_sJ, et2, false_and, if_false, Nat.reduceEqDiff, and_false, and_self, if_true, List.length_append, List.length_singleton, ← hne]
    · simp only [pI_sI, pI_sJ, et2, false_and, if_false, Nat.reduceEqDiff, and_false, h3]
    · simp only [pJ_sJ, and_self, if_true]
    · show ud σ.1 x (clr (σ.1 x) v) y = 0
      rw [ud_n _ _ (by omega)]
      exact h6 y hy hy7
    · rw [List.length_append, List.length_singleton]; omega
    · rw [List.length_append, List.length_singleton, ← hne] at hi
      by_cases e : i = n
      · rw [e, show fG (σ.2 ++ [(x, v, r, l, s)]) n = (x, v, r, l, s) from by rw [hne]; exact fG_new]
        refine ⟨⟨?_, ?_, ?_, ?_, ?_⟩, hx7, hv, h9⟩
        · simp only [pI_sI, pI_sJ, et, false_and, if_false, true_and, Nat.reduceEqDiff, if_true, eq_self]
        · simp only [pI_sI, pI_sJ, et, false_and, if_false, true_and, Nat.reduceEqDiff, if_true, eq_self]
        · simp only [pI_sI, pI_sJ, et, false_and, if_false, true_and, Nat.reduceEqDiff, if_true, eq_self]
        · simp only [pI_sI, pI_sJ, et, false_and, if_false, true_and, Nat.reduceEqDiff, if_true, eq_self]
        · simp only [pJ_sI, pJ_sJ, et, false_and, if_false, true_and, Nat.reduceEqDiff, if_true, eq_self]
      · have hi2 : i < n := by omega
        rw [fG_old (by rw [← hne]; exact hi2)]
        have g := h10 i hi2
        have ei : ¬ t + 3 + i = t + 3 + n := by omega
        have ei2 : ¬ t + 3 + i = t := by omega
        refine ⟨⟨?_, ?_, ?_, ?_, ?_⟩, g.2⟩
        · simp only [pI_sI, pI_sJ, ei, ei2, false_and, if_false]; exact g.1.1
        · simp only [pI_sI, pI_sJ, ei, ei2, false_and, if_false]; exact g.1.2.1
        · simp only [pI_sI, pI_sJ, ei, ei2, false_and, if_false]; exact g.1.2.2.1
        · simp only [pI_sI, pI_sJ, ei, ei2, false_and, if_false]; exact g.1.2.2.2.1
        · simp only [pJ_sI, pJ_sJ, ei, ei2, false_and, if_false]; exact g.1.2.2.2.2
  · refine ⟨fun i hi => ?_, fun i q1 q2 => ?_⟩
    · have ei : ¬ t + 3 + i = t + 3 + n := by omega
      have ei2 : ¬ t + 3 + i = t := by omega
      simp only [pJ_sI, pJ_sJ, ei, ei2, false_and, if_false]
    · have : i = n := by omega
      subst this
      simp only [pJ_sI, pJ_sJ, et, false_and, if_false, true_and, if_true, eq_self]
      rfl
/-! ===== a sweep of one constraint ===== -/
/-- the class's trail has come from σ0 at S0 to σ at S -/
def cI (t N l : Nat) (S0 : PS) (n0 : Nat) (σ : St) (S : PS) : Prop := fr (LT t) S0 S ∧ cT S t N l σ ∧ cX S0 S t n0 σ.2.length ∧ n0 ≤ σ.2.length
theorem q_cs23 {S0 : PS} {t N l o s x kk n0 : Nat} {κ : Kon} {rs : Int32} {σ0 : St} {K3 : PS → Nat → Nat → Int32 → Int64 → Int32 → Prop} {Q : PS → Prop}
    (hs0 : TSh S0 t) (hCC : ∀ S, fr (LT t) S0 S → CC S o κ) (hκ : Kwf κ) (hmem : ∃ k, k < κ.1 ∧ x = κ.2.1 k) (hxN : x < N) (hN : N ≤ 7) (hd0 : Dwf σ0.1) (hb : dsum σ0.1 + σ0.2.length ≤ 35) (hkk : kk < 100)
    (hK : ∀ S, cI t N l S0 n0 (vls κ N rs l s x 5 σ0) S → K3 S t o rs (pk (sset s)) (nI (kk + 1)))
    (hF : ∀ S, cI t N l S0 n0 (vls κ N rs l s x 5 σ0) S → fl N (vls κ N rs l s x 5 σ0).1 = true → Q S) :
    ∀ r v S, v + r = 5 → cI t N l S0 n0 (vls κ N rs l s x v σ0) S → wpX11_sweep_b23 K3 Q (r + 1) S t o rs (pk (sset s)) (nI kk) (nI x) (nI v) := by
  have hx7 : x < 7 := by omega
  have hκ0 : 0 < κ.1 := by obtain ⟨k, hk, -⟩ := hmem; omega
  have hκ7 := hκ.1
  have hdn : ∀ j, j ≤ 5 → Dn (FR κ rs l s) σ0 (vls κ N rs l s x j σ0) := fun j hj => by
    obtain ⟨k, hk, e⟩ := hmem
    rw [e]
    exact vls_dn hκ hk hd0 j hj
  intro r
  induction r with
  | zero =>
    intro v S hv hI
    have : v = 5 := by omega
    subst this
    have h1 := hK S hI
    simp (disch := omega) only [wpX11_sweep_b23, c_0, c_1, c_2, c_3, c_4, c_5, c_6, c_7, c_8, c_9, c_10, c_11, c_12, c_14, c_16, c_19, c_20, c_24, c_31, c_32, c_35, c_48, c_57, c_59, c_63, c_97, c_100, c_122, c_127, c_169, c_255, c_600, c_1000, c_32767, Nat.le_refl, Nat.zero_le, Nat.add_zero, Nat.lt_irrefl, eq_self, o_sub, Nat.sub_zero, Nat.not_lt_zero, ↓ng_d, o_le, o_lt, o_eq, o_add, o_mul, o_cl, o_inT, o_and, n_31, o_shr, o_shl1, o_or, m_lt, m_ge, m_le, m_gt, m_ne, m_ne2, Option.some.injEq, exists_eq_left', true_and, and_true, true_implies, false_implies, implies_true, not_true_eq_false, not_false_eq_true, bI_0, bI_1, bI_01, b01, true_or, or_true, Nat.reduceEqDiff, Bool.not_eq_false, Bool.not_eq_true, Bool.true_eq_false, Bool.false_eq_true]
    exact h1
  | succ r ih =>
    intro v S hv hI
    have e5 : ¬ 5 ≤ v := by omega
    have h5 : v < 5 := by omega
    have hs := hI.1.TS hs0
    have hlen := (hdn v (by omega)).2.1
    obtain ⟨T1, hT1, -⟩ := (hdn v (by omega)).2.2.1
    have hl1 : (vls κ N rs l s x v σ0).2.length = σ0.2.length + T1.length := by rw [hT1, List.length_append]
    have hn := ih (v + 1)
    generalize r + 1 = fu at hn ⊢
    have hvs : vls κ N rs l s x (v + 1) σ0 = stp κ N rs l s x v (vls κ N rs l s x v σ0) := rfl
    have hfl : fl N (vls κ N rs l s x v σ0).1 = true → vls κ N rs l s x 5 σ0 = vls κ N rs l s x v σ0 := fun q => by
      have h9 := vls_up q (5 - v)
      rw [show v + (5 - v) = 5 by omega] at h9
      exact h9
    rw [hvs] at hn
    obtain ⟨σ, hσ⟩ : ∃ σ, σ = vls κ N rs l s x v σ0 := ⟨_, rfl⟩
    rw [← hσ] at hI hn hlen hl1 hvs hfl
    have hc := hI.2.1
    have hDw := hc.2.2.2.2.1
    cases hf : fl N σ.1
    · cases hbit : (σ.1 x).testBit v
      · rw [stp_no (fun q => by have q2 := q.2.1; rw [hbit] at q2; cases q2)] at hn
        have h1 := hn S (by omega) hI
        simp (disch := omega) only [wpX11_sweep_b23, c_0, c_1, c_2, c_3, c_4, c_5, c_6, c_7, c_8, c_9, c_10, c_11, c_12, c_14, c_16, c_19, c_20, c_24, c_31, c_32, c_35, c_48, c_57, c_59, c_63, c_97, c_100, c_122, c_127, c_169, c_255, c_600, c_1000, c_32767, Nat.le_refl, Nat.zero_le, Nat.add_zero, Nat.lt_irrefl, eq_self, o_sub, Nat.sub_zero, Nat.not_lt_zero, ↓ng_d, o_le, o_lt, o_eq, o_add, o_mul, o_cl, o_inT, o_and, n_31, o_shr, o_shl1, o_or, m_lt, m_ge, m_le, m_gt, m_ne, m_ne2, Option.some.injEq, exists_eq_left', true_and, and_true, true_implies, false_implies, implies_true, not_true_eq_false, not_false_eq_true, bI_0, bI_1, bI_01, b01, true_or, or_true, Nat.reduceEqDiff, Bool.not_eq_false, Bool.not_eq_true, Bool.true_eq_false, Bool.false_eq_true, e5, hs.1, w_hasFailed hs hc, hf, hc.2.2.2.1, w_has5 hDw hx7 h5, hbit]
        exact h1
      · have hap := and_pow _ (hDw x hx7) v h5 hbit
        simp (disch := omega) only [wpX11_sweep_b23, c_0, c_1, c_2, c_3, c_4, c_5, c_6, c_7, c_8, c_9, c_10, c_11, c_12, c_14, c_16, c_19, c_20, c_24, c_31, c_32, c_35, c_48, c_57, c_59, c_63, c_97, c_100, c_122, c_127, c_169, c_255, c_600, c_1000, c_32767, Nat.le_refl, Nat.zero_le, Nat.add_zero, Nat.lt_irrefl, eq_self, o_sub, Nat.sub_zero, Nat.not_lt_zero, ↓ng_d, o_le, o_lt, o_eq, o_add, o_mul, o_cl, o_inT, o_and, n_31, o_shr, o_shl1, o_or, m_lt, m_ge, m_le, m_gt, m_ne, m_ne2, Option.some.injEq, exists_eq_left', true_and, and_true, true_implies, false_implies, implies_true, not_true_eq_false, not_false_eq_true, bI_0, bI_1, bI_01, b01, true_or, or_true, Nat.reduceEqDiff, Bool.not_eq_false, Bool.not_eq_true, Bool.true_eq_false, Bool.false_eq_true, e5, hs.1, w_hasFailed hs hc, hf, hc.2.2.2.1, w_has5 hDw hx7 h5, hbit, w_narrowed hDw hx7 h5, hap]
        refine q_least (hCC S hI.1) hκ 9 κ.1 0 _ _ (Nat.zero_add _) (by omega) (ud_wf hDw (dm_pow_lt v h5)) (fun k hk => by omega) hκ0 (fun res hres => ?_)
        have hr0 := Lres_0 hκ hκ0 hres
        by_cases hcan : Can κ (ud σ.1 x (2 ^ v))
        · rw [stp_no (fun q => q.2.2 hcan)] at hn
          have h1 := hn S (by omega) hI
          have hne : ¬ res = lN 0 := fun z => by rw [hr0] at z; exact z hcan
          simp (disch := omega) only [c_0, c_1, c_2, c_3, c_4, c_5, c_6, c_7, c_8, c_9, c_10, c_11, c_12, c_14, c_16, c_19, c_20, c_24, c_31, c_32, c_35, c_48, c_57, c_59, c_63, c_97, c_100, c_122, c_127, c_169, c_255, c_600, c_1000, c_32767, Nat.le_refl, Nat.zero_le, Nat.add_zero, Nat.lt_irrefl, eq_self, o_sub, Nat.sub_zero, Nat.not_lt_zero, ↓ng_d, o_le, o_lt, o_eq, o_add, o_mul, o_cl, o_inT, o_and, n_31, o_shr, o_shl1, o_or, m_lt, m_ge, m_le, m_gt, m_ne, m_ne2, Option.some.injEq, exists_eq_left', true_and, and_true, true_implies, false_implies, implies_true, not_true_eq_false, not_false_eq_true, bI_0, bI_1, bI_01, b01, true_or, or_true, Nat.reduceEqDiff, Bool.not_eq_false, Bool.not_eq_true, Bool.true_eq_false, Bool.false_eq_true, l_0, lg_0, hne]
          exact h1
        · have hgo : gone κ N x v σ.1 := ⟨hf, hbit, hcan⟩
          rw [stp_go hgo] at hn
          have hz : res = lN 0 := by rw [hr0]; exact hcan
          have hds := dsum_clr hDw hx7 h5 hbit
          simp (disch := omega) only [c_0, c_1, c_2, c_3, c_4, c_5, c_6, c_7, c_8, c_9, c_10, c_11, c_12, c_14, c_16, c_19, c_20, c_24, c_31, c_32, c_35, c_48, c_57, c_59, c_63, c_97, c_100, c_122, c_127, c_169, c_255, c_600, c_1000, c_32767, Nat.le_refl, Nat.zero_le, Nat.add_zero, Nat.lt_irrefl, eq_self, o_sub, Nat.sub_zero, Nat.not_lt_zero, ↓ng_d, o_le, o_lt, o_eq, o_add, o_mul, o_cl, o_inT, o_and, n_31, o_shr, o_shl1, o_or, m_lt, m_ge, m_le, m_gt, m_ne, m_ne2, Option.some.injEq, exists_eq_left', true_and, and_true, true_implies, false_implies, implies_true, not_true_eq_false, not_false_eq_true, bI_0, bI_1, bI_01, b01, true_or, or_true, Nat.reduceEqDiff, Bool.not_eq_false, Bool.not_eq_true, Bool.true_eq_false, Bool.false_eq_true, l_0, lg_0, hz, hs.1]
          refine q_remove (s := s) hs hc (by omega) hxN h5 rfl (fun S2 f2 c2 x2 => ?_)
          have h1 := hn S2 (by omega) ⟨fr_t hI.1 f2, c2, ?_, ?_⟩
          · exact h1
          · show cX S0 S2 t n0 (σ.2 ++ [(x, v, rs, l, s)]).length
            rw [List.length_append, List.length_singleton]
            exact cX_t hI.2.2.2 hI.2.2.1 x2
          · show n0 ≤ (σ.2 ++ [(x, v, rs, l, s)]).length
            rw [List.length_append, List.length_singleton]
            have := hI.2.2.2
            omega
    · have h9 := hfl hf
      have h1 := hF S (by rw [h9]; exact hI) (by rw [h9]; exact hf)
      simp (disch := omega) only [wpX11_sweep_b23, c_0, c_1, c_2, c_3, c_4, c_5, c_6, c_7, c_8, c_9, c_10, c_11, c_12, c_14, c_16, c_19, c_20, c_24, c_31, c_32, c_35, c_48, c_57, c_59, c_63, c_97, c_100, c_122, c_127, c_169, c_255, c_600, c_1000, c_32767, Nat.le_refl, Nat.zero_le, Nat.add_zero, Nat.lt_irrefl, eq_self, o_sub, Nat.sub_zero, Nat.not_lt_zero, ↓ng_d, o_le, o_lt, o_eq, o_add, o_mul, o_cl, o_inT, o_and, n_31, o_shr, o_shl1, o_or, m_lt, m_ge, m_le, m_gt, m_ne, m_ne2, Option.some.injEq, exists_eq_left', true_and, and_true, true_implies, false_implies, implies_true, not_true_eq_false, not_false_eq_true, bI_0, bI_1, bI_01, b01, true_or, or_true, Nat.reduceEqDiff, Bool.not_eq_false, Bool.not_eq_true, Bool.true_eq_false, Bool.false_eq_true, e5, hs.1, w_hasFailed hs hc, hf]
      exact h1
theorem q_csweep {S0 : PS} {t N l o s n0 : Nat} {κ : Kon} {rs : Int32} {σ0 : St} {Q : PS → Prop}
    (hs0 : TSh S0 t) (hCC : ∀ S, fr (LT t) S0 S → CC S o κ) (hκ : Kwf κ) (hmN : ∀ k, k < κ.1 → κ.2.1 k < N) (hN : N ≤ 7) (hd0 : Dwf σ0.1) (hb : dsum σ0.1 + σ0.2.length ≤ 35)
    (hQ : ∀ S, cI t N l S0 n0 (sw1 κ N rs l s κ.1 σ0) S → Q S) : ∀ S, cI t N l S0 n0 σ0 S → wpX11_sweep S t o rs (pk (sset s)) Q := by
  have hκ7 := hκ.1
  have hdn : ∀ j, j ≤ κ.1 → Dn (FR κ rs l s) σ0 (sw1 κ N rs l s j σ0) := fun j hj => sw1_dn hκ hd0 j hj
  have main : ∀ r k S, k + r = κ.1 → cI t N l S0 n0 (sw1 κ N rs l s k σ0) S → wpX11_sweep_b3 Q (r + 1) S t o rs (pk (sset s)) (nI k) := by
    intro r
    induction r with
    | zero =>
      intro k S hk hI
      have hk' : κ.1 = k := by omega
      have hC := hCC S hI.1
      rw [hk'] at hQ
      have h1 := hQ S hI
      have hC1 := hC.2.1
      rw [hk'] at hC1
      simp (disch := omega) only [wpX11_sweep_b3, c_0, c_1, c_2, c_3, c_4, c_5, c_6, c_7, c_8, c_9, c_10, c_11, c_12, c_14, c_16, c_19, c_20, c_24, c_31, c_32, c_35, c_48, c_57, c_59, c_63, c_97, c_100, c_122, c_127, c_169, c_255, c_600, c_1000, c_32767, Nat.le_refl, Nat.zero_le, Nat.add_zero, Nat.lt_irrefl, eq_self, o_sub, Nat.sub_zero, Nat.not_lt_zero, ↓ng_d, o_le, o_lt, o_eq, o_add, o_mul, o_cl, o_inT, o_and, n_31, o_shr, o_shl1, o_or, m_lt, m_ge, m_le, m_gt, m_ne, m_ne2, Option.some.injEq, exists_eq_left', true_and, and_true, true_implies, false_implies, implies_true, not_true_eq_false, not_false_eq_true, bI_0, bI_1, bI_01, b01, true_or, or_true, Nat.reduceEqDiff, Bool.not_eq_false, Bool.not_eq_true, Bool.true_eq_false, Bool.false_eq_true, hC.1, hC1]
      exact h1
    | succ r ih =>
      intro k S hk hI
      have hC := hCC S hI.1
      have e : ¬ κ.1 ≤ k := by omega
      have hn := ih (k + 1)
      generalize r + 1 = fu at hn ⊢
      have hd := hdn k (by omega)
      have hsum := hd.2.1
      have h3 := q_cs23 (K3 := wpX11_sweep_b3 Q fu) (Q := Q) (kk := k) (x := κ.2.1 k) (σ0 := sw1 κ N rs l s k σ0) (n0 := n0) hs0 hCC hκ ⟨k, by omega, rfl⟩ (hmN k (by omega)) hN hd.1 (by omega) (by omega)
        (fun S2 hI2 => hn S2 (by omega) hI2)
        (fun S2 hI2 hf2 => by
          have h9 := sw1_up (κ := κ) (N := N) (r := rs) (l := l) (s := s) (σ := σ0) (j := k + 1) hf2 r
          rw [show k + 1 + r = κ.1 by omega] at h9
          exact hQ S2 (by rw [h9]; exact hI2)) 5 0 S rfl hI
      simp (disch := omega) only [wpX11_sweep_b3, c_0, c_1, c_2, c_3, c_4, c_5, c_6, c_7, c_8, c_9, c_10, c_11, c_12, c_14, c_16, c_19, c_20, c_24, c_31, c_32, c_35, c_48, c_57, c_59, c_63, c_97, c_100, c_122, c_127, c_169, c_255, c_600, c_1000, c_32767, Nat.le_refl, Nat.zero_le, Nat.add_zero, Nat.lt_irrefl, eq_self, o_sub, Nat.sub_zero, Nat.not_lt_zero, ↓ng_d, o_le, o_lt, o_eq, o_add, o_mul, o_cl, o_inT, o_and, n_31, o_shr, o_shl1, o_or, m_lt, m_ge, m_le, m_gt, m_ne, m_ne2, Option.some.injEq, exists_eq_left', true_and, and_true, true_implies, false_implies, implies_true, not_true_eq_false, not_false_eq_true, bI_0, bI_1, bI_01, b01, true_or, or_true, Nat.reduceEqDiff, Bool.not_eq_false, Bool.not_eq_true, Bool.true_eq_false, Bool.false_eq_true, hC.1, hC.2.1, e, w_variableAt hC.1 hC.2.2.2.1 hκ]
      exact ⟨_, h3⟩
  intro S hI
  unfold wpX11_sweep
  exact ⟨_, main κ.1 0 S (Nat.zero_add _) hI⟩

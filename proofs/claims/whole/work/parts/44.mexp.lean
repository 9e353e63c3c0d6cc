/-! EXPLANATIONS: the reference -/
theorem vn_0 : vp_nar .boolean (nI 0) = nI 0 := by decide
theorem vn_1 : vp_nar .boolean (nI 1) = nI 1 := by decide
theorem vn_b (b : Bool) : vp_nar .boolean (bI b) = bI b := by cases b <;> decide
theorem v_lt0 : ∀ g, g < 8 → (nI g - nI 1 < nI 0 ↔ g = 0) := by decide +kernel
theorem dg_8 (s x : Nat) : dg s x < 8 := Nat.lt_of_le_of_lt Nat.and_le_right (by decide)
/-- the number before a number -/
def pd : Nat → Int32
  | 0 => ngI
  | m + 1 => nI m
theorem pd_s (m : Nat) : nI m + ngI = pd m := by
  cases m with
  | zero => decide
  | succ m =>
    show nI (m + 1) + ngI = nI m
    rw [← o_add, show ngI = -nI 1 from by decide, ← Int32.sub_eq_add_neg, Int32.add_sub_cancel]
theorem pd_1 (m : Nat) : nI m - nI 1 = pd m := by
  rw [← pd_s m, Int32.sub_eq_add_neg, show -nI 1 = ngI by decide]
theorem q_isAmongC {S : PS} {P : Nat → Nat} {C : Int32} {κ : Kon} {y : Nat} {Q : Int32 → PS → Prop} (hM : MShape S) (hp : rP S P) (hw : Pwf P) (hC : isC P C κ) (hy : y < 7) (hQ : Q (bI (inM κ y)) S) : wpX12_isAmong S 87 C (nI y) Q := by
  rcases hC with ⟨c, hc, rfl, rfl⟩ | ⟨s, hs, h0, rfl, rfl⟩
  · refine q_isAmong hM hp hw hc (fun z hz e hi => ?_) (fun h => ?_)
    · have e2 : y = z := Eq.mp (o_eq (by omega) (by omega)) e
      rw [← e2] at hi
      rw [hi] at hQ
      exact hQ
    · rw [h y hy rfl] at hQ
      exact hQ
  · have hs2 := hs.1
    unfold wpX12_isAmong
    rw [c_0, n_ge h0 (by omega), Int32.neg_neg, w_valueIn (by omega) hy]
    refine ⟨fun z => z.elim, fun _ => ⟨fun z => ?_, fun z => ?_⟩⟩
    · have h1 := (v_lt0 _ (dg_8 s y)).mp z
      rw [inM_lK hy, decide_eq_false (fun q => q h1)] at hQ
      exact hQ
    · have h1 : dg s y ≠ 0 := fun q => z ((v_lt0 _ (dg_8 s y)).mpr q)
      rw [inM_lK hy, decide_eq_true h1] at hQ
      exact hQ
/-- the initial domains without the facts that a row marks -/
def wEf (P : Nat → Nat) (T : List FT) (L : Nat → Bool) : Nat → Nat → Nat
  | 0 => fun x => P (2 + x)
  | k + 1 => if L k = true then ud (wEf P T L k) (fG T k).1 (clr (wEf P T L k (fG T k).1) (fG T k).2.1) else wEf P T L k
theorem wEf_wf {P : Nat → Nat} {T : List FT} {L : Nat → Bool} (hw : Pwf P) (hs : Tsm T) : ∀ k, k ≤ T.length → Dwf (wEf P T L k) := by
  intro k
  induction k with
  | zero => exact fun _ => hw.2.2.1
  | succ k ih =>
    intro hk
    have h1 := ih (by omega)
    have h2 := hs k (by omega)
    unfold wEf
    split
    · exact ud_wf h1 (dm_clr_lt _ (h1 _ h2.1) _ h2.2)
    · exact h1
theorem wEf_tb {P : Nat → Nat} {T : List FT} {L : Nat → Bool} (hw : Pwf P) (hs : Tsm T) {x v : Nat} (hx : x < 7) (hv : v < 5) : ∀ k, k ≤ T.length → ((wEf P T L k x).testBit v = true ↔ (P (2 + x)).testBit v = true ∧ ¬ ∃ j, j < k ∧ L j = true ∧ (fG T j).1 = x ∧ (fG T j).2.1 = v) := by
  intro k
  induction k with
  | zero =>
    intro _
    exact ⟨fun h => ⟨h, fun ⟨j, hj, _⟩ => absurd hj (Nat.not_lt_zero _)⟩, fun h => h.1⟩
  | succ k ih =>
    intro hk
    have h1 := ih (by omega)
    have h2 := hs k (by omega)
    have h3 := wEf_wf (L := L) hw hs k (by omega)
    unfold wEf
    by_cases hL : L k = true
    · rw [if_pos hL]
      by_cases e : x = (fG T k).1
      · subst e
        rw [ud_s, dm_clr_tb _ (h3 _ hx) _ h2.2 _ hv, Bool.and_eq_true, h1, decide_eq_true_iff]
        refine ⟨fun ⟨⟨q1, q2⟩, q3⟩ => ⟨q1, fun ⟨j, hj, z1, z2, z3⟩ => ?_⟩, fun ⟨q1, q2⟩ => ⟨⟨q1, fun ⟨j, hj, z⟩ => q2 ⟨j, by omega, z⟩⟩, fun q3 => q2 ⟨k, by omega, hL, rfl, q3.symm⟩⟩⟩
        by_cases ej : j = k
        · subst ej
          exact q3 z3.symm
        · exact q2 ⟨j, by omega, z1, z2, z3⟩
      · rw [ud_n _ _ e, h1]
        refine ⟨fun ⟨q1, q2⟩ => ⟨q1, fun ⟨j, hj, z1, z2, z3⟩ => ?_⟩, fun ⟨q1, q2⟩ => ⟨q1, fun ⟨j, hj, z⟩ => q2 ⟨j, by omega, z⟩⟩⟩
        have ej : j ≠ k := fun z => e (by rw [← z2, z])
        exact q2 ⟨j, by omega, z1, z2, z3⟩
    · rw [if_neg hL, h1]
      refine ⟨fun ⟨q1, q2⟩ => ⟨q1, fun ⟨j, hj, z1, z2, z3⟩ => ?_⟩, fun ⟨q1, q2⟩ => ⟨q1, fun ⟨j, hj, z⟩ => q2 ⟨j, by omega, z⟩⟩⟩
      have ej : j ≠ k := fun z => hL (by rw [← z]; exact z1)
      exact q2 ⟨j, by omega, z1, z2, z3⟩
theorem wEf_dW {P : Nat → Nat} {T : List FT} {L : Nat → Bool} {i : Nat} {e : Nat → Nat} (hw : Pwf P) (hs : Tsm T) (hi : i ≤ T.length) (he : eSb T i e) (hL : ∀ j, j < T.length → L j = (decide (j < i) && tbF T e j)) : ∀ x, x < 7 → wEf P T L T.length x = dW P e x := by
  intro x hx
  refine dm_ext _ (wEf_wf hw hs _ (Nat.le_refl _) x hx) _ (dW_wf hw he.1 x hx) (fun v hv => ?_)
  have h1 := wEf_tb (L := L) hw hs hx hv T.length (Nat.le_refl _)
  have h2 : (dW P e x).testBit v = true ↔ (P (2 + x)).testBit v = true ∧ ¬ ∃ j, j < T.length ∧ L j = true ∧ (fG T j).1 = x ∧ (fG T j).2.1 = v := by
    unfold dW
    rw [dm_andn_tb _ (hw.2.2.1 x hx) _ (he.1 x hx) _ hv, Bool.and_eq_true]
    refine ⟨fun ⟨q1, q2⟩ => ⟨q1, fun ⟨j, hj, z1, z2, z3⟩ => ?_⟩, fun ⟨q1, q2⟩ => ⟨q1, ?_⟩⟩
    · rw [hL j hj, Bool.and_eq_true] at z1
      have z4 := z1.2
      unfold tbF at z4
      rw [z2, z3] at z4
      rw [z4] at q2
      cases q2
    · cases hb : (e x).testBit v
      · rfl
      · obtain ⟨j, hj, z2, z3⟩ := he.2 x hx v hv hb
        refine absurd ⟨j, by omega, ?_, z2, z3⟩ q2
        rw [hL j (by omega), decide_eq_true hj]
        unfold tbF
        rw [z2, z3, hb]
        rfl
  cases ha : (wEf P T L T.length x).testBit v <;> cases hb : (dW P e x).testBit v
  · rfl
  · exact absurd (h1.mpr (h2.mp hb)) (by rw [ha]; decide)
  · exact absurd (h2.mpr (h1.mp ha)) (by rw [hb]; decide)
  · rfl
theorem rD_cg {S : PS} {a : Nat} {d e : Nat → Nat} (h : rD S a d) (he : ∀ x, x < 7 → d x = e x) : rD S a e := ⟨h.1, h.2.1, fun x hx => by rw [h.2.2.1 x hx, he x hx], fun x hx => by rw [← he x hx]; exact h.2.2.2 x hx⟩
theorem fr.T {A : List Nat} {S S' : PS} {T : List FT} (h : fr A S S') (h87 : 87 ∉ A) (h91 : 91 ∉ A) (hT : rT S T) : rT S' T := ⟨by rw [h.I h87]; exact hT.1, hT.2.1, fun i hi => by rw [h.I h91, h.I h91, h.I h91, h.I h91, h.I h91]; exact hT.2.2 i hi⟩
theorem q_laysWithout {S : PS} {P : Nat → Nat} {T : List FT} {L : Nat → Bool} {Q : PS → Prop} (hM : MShape S) (hp : rP S P) (hw : Pwf P) (hT : rT S T) (hs : Tsm T) (hL : ∀ j, j < T.length → pI S 97 j = bI (L j)) (hQ : ∀ S', fr [98] S S' → rD S' 98 (wEf P T L T.length) → Q S') : wpX12_laysWithout S 87 Q := by
  have t2 := hT.2.1
  have loop2 : ∀ r k S', k + r = T.length → fr [98] S S' → rD S' 98 (wEf P T L k) → wpX12_laysWithout_b30 Q (r + 1) S' 87 (nI k) := by
    intro r
    induction r with
    | zero =>
      intro k S' hk hf hd
      have hM' := hf.M hM
      have hT' := hf.T (by decide) (by decide) hT
      have hle : T.length ≤ k := by omega
      have e : k = T.length := by omega
      rw [e] at hd
      have h1 := hQ S' hf hd
      simp (disch := omega) only [wpX12_laysWithout_b30, c_0, c_1, c_2, c_3, c_4, c_5, c_6, c_7, c_8, c_9, c_10, c_11, c_12, c_14, c_16, c_19, c_20, c_24, c_31, c_32, c_35, c_48, c_57, c_59, c_63, c_97, c_100, c_122, c_127, c_169, c_255, c_600, c_1000, c_32767, Nat.le_refl, Nat.zero_le, Nat.add_zero, Nat.lt_irrefl, eq_self, o_sub, Nat.sub_zero, Nat.not_lt_zero, ↓ng_d, o_le, o_lt, o_eq, o_add, o_mul, o_cl, o_inT, o_and, n_31, o_shr, o_shl1, o_or, m_lt, m_ge, m_le, m_gt, m_ne, m_ne2, Option.some.injEq, exists_eq_left', true_and, and_true, true_implies, false_implies, implies_true, not_true_eq_false, not_false_eq_true, bI_0, bI_1, bI_01, b01, true_or, or_true, Nat.reduceEqDiff, Bool.not_eq_false, Bool.not_eq_true, Bool.true_eq_false, Bool.false_eq_true, msk hM', hT'.1, hle]
      exact h1
    | succ r ih =>
      intro k S' hk hf hd
      have hM' := hf.M hM
      have hT' := hf.T (by decide) (by decide) hT
      have hle : ¬ T.length ≤ k := by omega
      have hkl : k < T.length := by omega
      have h2 := hs k hkl
      obtain ⟨hx, hv⟩ := h2
      have hn := ih (k + 1)
      generalize r + 1 = fu at hn ⊢
      have hrow : pI S' 97 k = bI (L k) := by rw [hf.I (by decide)]; exact hL k hkl
      have f0 := (hT'.2.2 k hkl).1
      have f1 := (hT'.2.2 k hkl).2.1
      have hcl := dm_clr _ (hd.2.2.2 _ hx) _ hv
      have hwE : wEf P T L (k + 1) = if L k = true then ud (wEf P T L k) (fG T k).1 (clr (wEf P T L k (fG T k).1) (fG T k).2.1) else wEf P T L k := rfl
      have main : (L k = false → wpX12_laysWithout_b30 Q fu S' 87 (nI (k + 1))) ∧ (L k = true → wpX12_laysWithout_b30 Q fu (sI S' 98 (fG T k).1 (nI (clr (wEf P T L k (fG T k).1) (fG T k).2.1))) 87 (nI (k + 1))) := by
        refine ⟨fun z => hn S' (by omega) hf ?_, fun z => hn _ (by omega) (fr_t hf (fr_sI _ _ _ (by decide))) ?_⟩
        · rw [hwE, if_neg (by rw [z]; decide)]
          exact hd
        · rw [hwE, if_pos z]
          exact rD_sI hd (dm_clr_lt _ (hd.2.2.2 _ hx) _ hv)
      simp (disch := omega) only [wpX12_laysWithout_b30, c_0, c_1, c_2, c_3, c_4, c_5, c_6, c_7, c_8, c_9, c_10, c_11, c_12, c_14, c_16, c_19, c_20, c_24, c_31, c_32, c_35, c_48, c_57, c_59, c_63, c_97, c_100, c_122, c_127, c_169, c_255, c_600, c_1000, c_32767, Nat.le_refl, Nat.zero_le, Nat.add_zero, Nat.lt_irrefl, eq_self, o_sub, Nat.sub_zero, Nat.not_lt_zero, ↓ng_d, o_le, o_lt, o_eq, o_add, o_mul, o_cl, o_inT, o_and, n_31, o_shr, o_shl1, o_or, m_lt, m_ge, m_le, m_gt, m_ne, m_ne2, Option.some.injEq, exists_eq_left', true_and, and_true, true_implies, false_implies, implies_true, not_true_eq_false, not_false_eq_true, bI_0, bI_1, bI_01, b01, true_or, or_true, Nat.reduceEqDiff, Bool.not_eq_false, Bool.not_eq_true, Bool.true_eq_false, Bool.false_eq_true, msk hM', hT'.1, hle, msr_isLeft hM', msk_isLeft hM', msl_isLeft hM', hrow, msr_without hM', msk_without hM', msl_without hM', msr_facts hM', msk_facts hM', msl_facts hM', f0, f1, hd.2.2.1 _ hx, hcl]
      exact main
  have loop1 : ∀ r x S', x + r = 7 → fr [98] S S' → (∀ y, y < x → pI S' 98 y = nI (P (2 + y))) → wpX12_laysWithout_b2 Q (r + 1) S' 87 (nI x) := by
    intro r
    induction r with
    | zero =>
      intro x S' hx hf hd
      have hle : 7 ≤ x := by omega
      have h1 : ∃ n9 : Nat, wpX12_laysWithout_b30 Q n9 S' 87 (nI 0) := ⟨_, loop2 T.length 0 S' (Nat.zero_add _) hf ⟨msk_without (hf.M hM), msl_without (hf.M hM), fun y hy => hd y (by omega), hw.2.2.1⟩⟩
      simp (disch := omega) only [wpX12_laysWithout_b2, c_0, c_1, c_2, c_3, c_4, c_5, c_6, c_7, c_8, c_9, c_10, c_11, c_12, c_14, c_16, c_19, c_20, c_24, c_31, c_32, c_35, c_48, c_57, c_59, c_63, c_97, c_100, c_122, c_127, c_169, c_255, c_600, c_1000, c_32767, Nat.le_refl, Nat.zero_le, Nat.add_zero, Nat.lt_irrefl, eq_self, o_sub, Nat.sub_zero, Nat.not_lt_zero, ↓ng_d, o_le, o_lt, o_eq, o_add, o_mul, o_cl, o_inT, o_and, n_31, o_shr, o_shl1, o_or, m_lt, m_ge, m_le, m_gt, m_ne, m_ne2, Option.some.injEq, exists_eq_left', true_and, and_true, true_implies, false_implies, implies_true, not_true_eq_false, not_false_eq_true, bI_0, bI_1, bI_01, b01, true_or, or_true, Nat.reduceEqDiff, Bool.not_eq_false, Bool.not_eq_true, Bool.true_eq_false, Bool.false_eq_true, hle]
      exact h1
    | succ r ih =>
      intro x S' hx hf hd
      have hM' := hf.M hM
      have hp' := hf.P (by decide) hp
      have hle : ¬ 7 ≤ x := by omega
      have h1 := ih (x + 1) (sI S' 98 x (nI (P (2 + x)))) (by omega) (fr_t hf (fr_sI _ _ _ (by decide))) (fun y hy => by
        rw [pI_sI]
        by_cases e : y = x
        · rw [if_pos ⟨rfl, e⟩, e]
        · rw [if_neg (fun q => e q.2)]
          exact hd y (by omega))
      generalize r + 1 = fu at h1 ⊢
      simp (disch := omega) only [wpX12_laysWithout_b2, c_0, c_1, c_2, c_3, c_4, c_5, c_6, c_7, c_8, c_9, c_10, c_11, c_12, c_14, c_16, c_19, c_20, c_24, c_31, c_32, c_35, c_48, c_57, c_59, c_63, c_97, c_100, c_122, c_127, c_169, c_255, c_600, c_1000, c_32767, Nat.le_refl, Nat.zero_le, Nat.add_zero, Nat.lt_irrefl, eq_self, o_sub, Nat.sub_zero, Nat.not_lt_zero, ↓ng_d, o_le, o_lt, o_eq, o_add, o_mul, o_cl, o_inT, o_and, n_31, o_shr, o_shl1, o_or, m_lt, m_ge, m_le, m_gt, m_ne, m_ne2, Option.some.injEq, exists_eq_left', true_and, and_true, true_implies, false_implies, implies_true, not_true_eq_false, not_false_eq_true, bI_0, bI_1, bI_01, b01, true_or, or_true, Nat.reduceEqDiff, Bool.not_eq_false, Bool.not_eq_true, Bool.true_eq_false, Bool.false_eq_true, hle, msk hM', msr_without hM', msk_without hM', msl_without hM', msr_p hM', msk_p hM', msl_p hM', hp' (2 + x) (by omega)]
      exact h1
  exact ⟨_, loop1 7 0 S rfl (fr_r _ _) (fun y hy => absurd hy (Nat.not_lt_zero _))⟩
theorem q_ex47 {S : PS} {P : Nat → Nat} {T : List FT} {i : Nat} {C R : Int32} {κ : Kon} {told : Bool} {Q : Int32 → PS → Prop} (hM : MShape S) (hp : rP S P) (hw : Pwf P) (hT : rT S T) (hs : Tsm T) (hi : i < T.length) (hC : told = true → isC P C κ)
    (hQ : ∀ S', fr [96, 97, 98] S S' → (∀ j, j < T.length → pI S' 97 j = bI (told && (decide (j < i) && inM κ (fG T j).1))) → ∃ n9 : Nat, wpX12_explains_b110 Q n9 S' 87 (nI i) R C (bI told) (nI 0) (pd i)) : ∃ n9 : Nat, wpX12_explains_b47 Q n9 S 87 (nI i) R C (bI told) (nI 0) := by
  have t2 := hT.2.1
  have loop : ∀ r k S', k + r = T.length → fr [96, 97, 98] S S' → (∀ j, j < k → pI S' 97 j = bI (told && (decide (j < i) && inM κ (fG T j).1))) → wpX12_explains_b47 Q (r + 1) S' 87 (nI i) R C (bI told) (nI k) := by
    intro r
    induction r with
    | zero =>
      intro k S' hk hf hr
      have hM' := hf.M hM
      have hT' := hf.T (by decide) (by decide) hT
      have hle : T.length ≤ k := by omega
      have h1 := hQ S' hf (fun j hj => hr j (by omega))
      rw [← pd_1] at h1
      unfold wpX12_explains_b47
      rw [c_0, c_1, hT'.1]
      exact ⟨msk hM', fun _ => h1, fun z => absurd (Eq.mpr (o_le (by omega) (by omega)) hle) z⟩
    | succ r ih =>
      intro k S' hk hf hr
      have hM' := hf.M hM
      have hp' := hf.P (by decide) hp
      have hT' := hf.T (by decide) (by decide) hT
      have hle : ¬ T.length ≤ k := by omega
      have hkl : k < T.length := by omega
      have hx := (hs k hkl).1
      have hn : ∀ b : Bool, b = (told && (decide (k < i) && inM κ (fG T k).1)) → wpX12_explains_b47 Q (r + 1) (sI S' 97 k (bI b)) 87 (nI i) R C (bI told) (nI (k + 1)) := fun b hb => ih (k + 1) (sI S' 97 k (bI b)) (by omega) (fr_t hf (fr_sI _ _ _ (by decide))) (fun j hj => by
        rw [pI_sI]
        by_cases e : j = k
        · rw [if_pos ⟨rfl, e⟩, e, hb]
        · rw [if_neg (fun q => e q.2)]
          exact hr j (by omega))
      generalize r + 1 = fu at hn ⊢
      have f0 := (hT'.2.2 k hkl).1
      have iL : vp_in (nI k) (pL S' 97) := by
        rw [msl_isLeft hM', o_inT (by omega) (by omega)]
        trivial
      unfold wpX12_explains_b47
      simp (disch := omega) only [c_0, c_1, c_5, vn_0, vn_1, o_cl, o_mul, o_add, hT'.1]
      refine ⟨msk hM', fun z => absurd (Eq.mp (o_le (by omega) (by omega)) z) hle, fun _ => ⟨97, msr_isLeft hM', fun z => ?_, fun z => ⟨fun z2 => ?_, fun z2 => ?_⟩⟩⟩
      · have ht : told = false := by
          rw [bI_0] at z
          exact z
        have h1 := hn false (by rw [ht]; rfl)
        exact ⟨msk_isLeft hM', iL, h1⟩
      · rw [o_le (by omega) (by omega)] at z2
        have h1 := hn false (by rw [decide_eq_false (show ¬ k < i by omega)]; simp)
        exact ⟨msk_isLeft hM', iL, h1⟩
      · rw [o_le (by omega) (by omega)] at z2
        have ht : told = true := by
          rw [bI_0] at z
          cases told
          · exact absurd rfl z
          · rfl
        refine ⟨91, msr_facts hM', msk_facts hM', ?_, ?_⟩
        · rw [msl_facts hM', o_inT (by omega) (by omega)]
          trivial
        · rw [f0]
          refine q_isAmongC hM' hp' hw (hC ht) hx ?_
          refine ⟨fun z3 => ⟨msk_isLeft hM', iL, ?_⟩, fun z3 => ⟨msk_isLeft hM', iL, ?_⟩⟩
          · rw [bI_0] at z3
            exact hn false (by rw [z3]; simp)
          · rw [bI_0, Bool.not_eq_false] at z3
            exact hn true (by rw [z3, ht, decide_eq_true (show k < i by omega)]; rfl)
  exact ⟨_, loop _ 0 S (Nat.zero_add _) (fr_r _ _) (fun j hj => absurd hj (Nat.not_lt_zero _))⟩
theorem q_ex110 {S : PS} {P : Nat → Nat} {T : List FT} {i : Nat} {C R t4 : Int32} {κ : Kon} {E e0 : Nat → Nat} {Q : Int32 → PS → Prop} (hM : MShape S) (hp : rP S P) (hw : Pwf P) (hT : rT S T) (hk : Tok P T) (hi : i < T.length) (hC : isC P C κ ∨ ∀ k, tbF T e0 k = false) (he0 : eSb T i e0) (hE : exR κ P T (fG T i).1 (fG T i).2.1 i e0 = E)
    (hr0 : ∀ j, j < T.length → pI S 97 j = bI (decide (j < i) && tbF T e0 j))
    (hQ : ∀ S', fr [96, 97, 98] S S' → (∀ j, j < T.length → pI S' 97 j = bI (decide (j < i) && tbF T E j)) → Q (nI (cN (tbF T E) i)) S') : ∃ n9 : Nat, wpX12_explains_b110 Q n9 S 87 (nI i) R C t4 (nI 0) (pd i) := by
  have t2 := hT.2.1
  have hs := Tok_sm hw hk
  have hds := Tds_of hk
  have loop : ∀ m e c S', m ≤ i → fr [96, 97, 98] S S' → eSb T i e → (isC P C κ ∨ ∀ k, tbF T e k = false) → (∀ j, j < T.length → pI S' 97 j = bI (decide (j < i) && tbF T e j)) → c + cN (tbF T e) m = cN (tbF T e) i → exR κ P T (fG T i).1 (fG T i).2.1 m e = E → wpX12_explains_b110 Q (m + 1) S' 87 (nI i) R C t4 (nI c) (pd m) := by
    intro m
    induction m with
    | zero =>
      intro e c S' hm hf he hC2 hr hc hE2
      have e2 : e = E := hE2
      have h1 := hQ S' hf (by rw [← e2]; exact hr)
      rw [← e2, ← hc] at h1
      unfold wpX12_explains_b110
      refine ⟨fun _ => h1, fun z => absurd (show pd 0 < (0 : Int32) by decide) z⟩
    | succ m ih =>
      intro e c S' hm hf he hC2 hr hc hE2
      have hM' := hf.M hM
      have hp' := hf.P (by decide) hp
      have hT' := hf.T (by decide) (by decide) hT
      have hml : m < T.length := by omega
      have hsm := hs m hml
      have hsi := hs i hi
      have hcl := cN_le (tbF T e) i
      have hE3 : exR κ P T (fG T i).1 (fG T i).2.1 m (exS κ P T (fG T i).1 (fG T i).2.1 m e) = E := hE2
      have hn := fun e c S' => ih e c S' (by omega)
      show wpX12_explains_b110 Q (m + 1 + 1) S' 87 (nI i) R C t4 (nI c) (nI m)
      generalize m + 1 = fu at hn ⊢
      have iL : ∀ S2 : PS, MShape S2 → vp_in (nI m) (pL S2 97) := fun S2 h2 => by
        rw [msl_isLeft h2, o_inT (by omega) (by omega)]
        trivial
      have hrm : pI S' 97 m = bI (tbF T e m) := by rw [hr m hml, decide_eq_true (show m < i by omega)]; rfl
      have hlt0 : ¬ nI m < nI 0 := by
        rw [o_lt (by omega) (by omega)]
        omega
      rw [cN_s] at hc
      unfold wpX12_explains_b110
      simp (disch := omega) only [c_0, c_1, c_5, ↓ng_d, vn_0, o_cl, o_mul, o_add, Nat.add_zero, pd_s]
      refine ⟨fun z => absurd z hlt0, fun _ => ⟨msk hM', 97, msr_isLeft hM', msk_isLeft hM', iL S' hM', fun z => ?_, fun z => ?_⟩⟩
      · rw [hrm, bI_0, Bool.not_eq_false] at z
        rw [if_pos z] at hc
        have hC3 : isC P C κ := hC2.resolve_right (fun q => by rw [q m] at z; cases z)
        have he' := clE_S (k := m) he hsm
        have hf1 : fr [96, 97, 98] S (sI S' 97 m (nI 0)) := fr_t hf (fr_sI _ _ _ (by decide))
        have hr1 : ∀ j, j < T.length → pI (sI S' 97 m (nI 0)) 97 j = bI (decide (j < i) && tbF T (clE T e m) j) := fun j hj => by
          rw [pI_sI]
          by_cases ej : j = m
          · rw [if_pos ⟨rfl, ej⟩, ej, clE_tk he.1 hsm, Bool.and_false]
            rfl
          · rw [if_neg (fun q => ej q.2), clE_tb he.1 hsm (hs j hj) (Tds_ne hds hml hj (fun q => ej q.symm))]
            exact hr j hj
        have hM1 := hf1.M hM
        refine ⟨iL S' hM', q_laysWithout hM1 (hf1.P (by decide) hp) hw (hf1.T (by decide) (by decide) hT) hs hr1 (fun S2 hf2 hd2 => ?_)⟩
        have hf12 : fr [96, 97, 98] S S2 := fr_t hf1 (fr_m (by decide) hf2)
        have hM2 := hf12.M hM
        have hT2 := hf12.T (by decide) (by decide) hT
        have hd2' : rD S2 98 (dW P (clE T e m)) := rD_cg hd2 (wEf_dW hw hs (by omega) he' (fun j hj => rfl))
        have g0 := (hT2.2.2 i hi).1
        have g1 := (hT2.2.2 i hi).2.1
        refine ⟨msk hM2, 97, msr_isLeft hM2, 91, msr_facts hM2, msk_facts hM2, ?_, ?_, 98, msr_without hM2, ?_⟩
        · rw [msl_facts hM2, o_inT (by omega) (by omega)]
          trivial
        · rw [msl_facts hM2, o_inT (by omega) (by omega)]
          trivial
        rw [g0, g1]
        refine q_hasSupport hM2 (hf12.P (by decide) hp) hw hd2' (by decide) hsi.1 hsi.2 hC3 (fun S3 hf3 => ?_)
        have hf13 : fr [96, 97, 98] S S3 := fr_t hf12 (fr_m (by decide) hf3)
        have hM3 := hf13.M hM
        have hr3 : ∀ j, j < T.length → pI S3 97 j = bI (decide (j < i) && tbF T (clE T e m) j) := fun j hj => by
          rw [hf3.I (by decide), hf2.I (by decide)]
          exact hr1 j hj
        have hf14 : ∀ b : Bool, fr [96, 97, 98] S (sI S3 97 m (bI b)) := fun b => fr_t hf13 (fr_sI _ _ _ (by decide))
        rw [vn_b]
        refine ⟨msk_isLeft hM3, iL S3 hM3, msk hM3, 97, msr_isLeft hM3, msk_isLeft hM3, iL S3 hM3, ?_⟩
        rw [pI_sI, if_pos ⟨rfl, rfl⟩]
        have k1 := cN_clE (k := m) (n := i) he.1 (fun j hj => hs j (by omega)) (Tds_le hds (by omega)) (by omega) z
        have k2 := cN_clB (k := m) (n := i) he.1 (fun j hj => hs j (by omega)) (Tds_le hds (by omega)) (by omega)
        cases hb : dB (Can κ (ud (dW P (clE T e m)) (fG T i).1 (2 ^ (fG T i).2.1)))
        · have hx : exS κ P T (fG T i).1 (fG T i).2.1 m e = clE T e m := by
            unfold exS
            rw [z, hb]
            rfl
          rw [hx] at hE3
          refine ⟨fun _ => hn (clE T e m) c _ (hf14 false) he' (Or.inl hC3) (fun j hj => ?_) (by omega) hE3, fun z2 => absurd rfl z2⟩
          rw [pI_sI]
          by_cases ej : j = m
          · rw [if_pos ⟨rfl, ej⟩, ej, clE_tk he.1 hsm, Bool.and_false]
          · rw [if_neg (fun q => ej q.2)]
            exact hr3 j hj
        · have hx : exS κ P T (fG T i).1 (fG T i).2.1 m e = e := by
            unfold exS
            rw [z, hb]
            rfl
          rw [hx] at hE3
          refine ⟨fun z2 => absurd z2 (by decide), fun _ => hn e (c + 1) _ (hf14 true) he (Or.inl hC3) (fun j hj => ?_) (by omega) hE3⟩
          rw [pI_sI]
          by_cases ej : j = m
          · rw [if_pos ⟨rfl, ej⟩, ej, z, decide_eq_true (show m < i by omega)]
            rfl
          · rw [if_neg (fun q => ej q.2), ← clE_tb he.1 hsm (hs j hj) (Tds_ne hds hml hj (fun q => ej q.symm))]
            exact hr3 j hj
      · rw [hrm, bI_0] at z
        rw [if_neg (by rw [z]; decide), Nat.add_zero] at hc
        have hx : exS κ P T (fG T i).1 (fG T i).2.1 m e = e := by
          unfold exS
          rw [z]
          rfl
        rw [hx] at hE3
        exact hn e c S' hf he hC2 hr hc hE3
  exact ⟨_, loop i e0 0 S (Nat.le_refl _) (fr_r _ _) he0 hC hr0 (Nat.zero_add _) hE⟩
theorem tbF_0 (T : List FT) (k : Nat) : tbF T (fun _ => 0) k = false := Nat.zero_testBit _
theorem exR_z {κ : Kon} {P : Nat → Nat} {T : List FT} {x v : Nat} : ∀ k, exR κ P T x v k (fun _ => 0) = fun _ => 0 := by
  intro k
  induction k with
  | zero => rfl
  | succ k ih =>
    unfold exR
    have hx : exS κ P T x v k (fun _ => 0) = fun _ => 0 := by
      unfold exS
      rw [tbF_0]
      rfl
    rw [hx]
    exact ih
theorem e0F_row {κ : Kon} {P : Nat → Nat} {T : List FT} {i : Nat} (hw : Pwf P) (hk : Tok P T) (hi : i ≤ T.length) : ∀ j, j < T.length → (decide (j < i) && inM κ (fG T j).1) = (decide (j < i) && tbF T (e0F κ T i) j) := fun j hj => by
  rw [e0F_tb (Tok_sm hw hk) i hi j hj (fun m hm hne => Tds_ne (Tds_of hk) hj hm (fun q => hne q.symm))]
  cases decide (j < i) <;> rfl
theorem q_exT {S : PS} {P : Nat → Nat} {T : List FT} {i : Nat} {C : Int32} {κ : Kon} {Q : Int32 → PS → Prop} (hM : MShape S) (hp : rP S P) (hw : Pwf P) (hT : rT S T) (hk : Tok P T) (hi : i < T.length) (hC : isC P C κ) (hK : exK P (fG T i) = κ) (h0 : ¬ (fG T i).2.2.1 < nI 0)
    (hQ : ∀ S', fr [96, 97, 98] S S' → (∀ j, j < T.length → pI S' 97 j = bI (decide (j < i) && tbF T (exE P T i) j)) → Q (nI (cN (tbF T (exE P T i)) i)) S') : ∃ n9 : Nat, wpX12_explains_b47 Q n9 S 87 (nI i) (fG T i).2.2.1 C (nI 1) (nI 0) := by
  have hs := Tok_sm hw hk
  have hE : exR κ P T (fG T i).1 (fG T i).2.1 i (e0F κ T i) = exE P T i := by
    unfold exE
    rw [if_neg h0, hK]
  refine q_ex47 (told := true) (κ := κ) hM hp hw hT hs hi (fun _ => hC) (fun S' hf hr => ?_)
  exact q_ex110 (hf.M hM) (hf.P (by decide) hp) hw (hf.T (by decide) (by decide) hT) hk hi (Or.inl hC) (e0F_S hs i (by omega)) hE (fun j hj => by rw [hr j hj, Bool.true_and, e0F_row hw hk (by omega) j hj]) (fun S2 hf2 hr2 => hQ S2 (fr_t hf hf2) hr2)
theorem q_explains {S : PS} {P : Nat → Nat} {T : List FT} {i : Nat} {Q : Int32 → PS → Prop} (hM : MShape S) (hp : rP S P) (hw : Pwf P) (hT : rT S T) (hk : Tok P T) (hi : i < T.length)
    (hQ : ∀ S', fr [96, 97, 98] S S' → (∀ j, j < T.length → pI S' 97 j = bI (decide (j < i) && tbF T (exE P T i) j)) → Q (nI (cN (tbF T (exE P T i)) i)) S') : wpX12_explains S 87 (nI i) Q := by
  have t2 := hT.2.1
  have hP1 := hw.2.1
  have hs := Tok_sm hw hk
  have hki := (hk i hi).2.2.2.2
  obtain ⟨f0, f1, f2, f3, f4⟩ := hT.2.2 i hi
  unfold wpX12_explains wpX12_explains_b32
  simp (disch := omega) only [c_0, c_1, c_2, c_4, c_5, c_100, o_cl, o_mul, o_add, f2, f4, msr_facts hM, Option.some.injEq, exists_eq_left', msl_facts hM]
  refine ⟨msk hM, msk_facts hM, ?_, fun z => ⟨fun z2 => ?_, fun z2 => ?_⟩, fun z => ⟨?_, fun z2 => ?_, fun z2 => ?_⟩⟩
  · rw [o_inT (by omega) (by omega)]
    trivial
  · have hE : exR (lK 0) P T (fG T i).1 (fG T i).2.1 i (fun _ => 0) = exE P T i := by
      unfold exE
      rw [if_pos z2, exR_z]
    refine q_ex47 (told := false) (κ := lK 0) hM hp hw hT hs hi (fun q => by cases q) (fun S' hf hr => ?_)
    exact q_ex110 (hf.M hM) (hf.P (by decide) hp) hw (hf.T (by decide) (by decide) hT) hk hi (Or.inr (tbF_0 T)) (eSb_0 T i) hE (fun j hj => by rw [hr j hj, tbF_0, Bool.false_and, Bool.and_false]) (fun S2 hf2 hr2 => hQ S2 (fr_t hf hf2) hr2)
  · rcases hki with ⟨k, k1, k2, k3⟩ | ⟨k1, _⟩ | k1
    · have hK : exK P (fG T i) = cK P k := by
        unfold exK
        rw [if_neg z, k2, o_cl (by omega)]
      exact q_exT hM hp hw hT hk hi (Or.inl ⟨k, k1, k2, rfl⟩) hK z2 hQ
    · exact absurd k1 z
    · exact absurd k1 z2
  · rw [o_inT (by omega) (by omega)]
    trivial
  · rw [z] at z2
    exact absurd z2 (by decide)
  · rcases hki with ⟨k, k1, k2, k3⟩ | ⟨k1, k2, k3, k4⟩ | k1
    · rw [k2, o_eq (by omega) (by omega)] at z
      omega
    · have hK : exK P (fG T i) = lK (fG T i).2.2.2.2 := by
        unfold exK
        rw [if_pos z]
      exact q_exT hM hp hw hT hk hi (Or.inr ⟨(fG T i).2.2.2.2, k2, k3, rfl, rfl⟩) hK z2 hQ
    · exact absurd k1 z2

/-! THE CLASS IS MADE -/
theorem prE_z (σ : St) : prE zP [] 0 σ = σ := prE_stop rfl
/-- what the class's first objects hold -/
def cA (S : PS) : Prop := pK S 0 = 10 ∧ pR S 0 0 = some 1 ∧ pK S 1 = 7 ∧ pR S 1 0 = some 2 ∧ pR S 1 1 = some 3 ∧ pK S 2 = 12 ∧ pL S 2 = 600 ∧ pK S 3 = 13 ∧ pL S 3 = 7 ∧ pI S 1 2 = nI 0 ∧ pI S 1 3 = nI 0 ∧ pI S 1 4 = ngI
theorem cA_o {S S' : PS} {A B : List Nat} {N : Nat} (h : oF A B N S S') (hN : 4 ≤ N) (hA : ∀ a, a ∈ A → 4 ≤ a) (hB : ∀ a, a ∈ B → 4 ≤ a) (hc : cA S) : cA S' := by
  have nA : ∀ a, a < 4 → a ∉ A := fun a ha q => by have := hA a q; omega
  have nB : ∀ a, a < 4 → a ∉ B := fun a ha q => by have := hB a q; omega
  have eK : ∀ a, a < 4 → pK S' a = pK S a := fun a ha => (h.2.1 a (by omega)).1
  have eL : ∀ a, a < 4 → pL S' a = pL S a := fun a ha => (h.2.1 a (by omega)).2
  have eR : ∀ a k, a < 4 → pR S' a k = pR S a k := fun a k ha => h.2.2.1 a (by omega) (nB a ha) k
  have eI : ∀ a k, a < 4 → pI S' a k = pI S a k := fun a k ha => (h.2.2.2 a (by omega) (nA a ha) k).1
  obtain ⟨c1, c2, c3, c4, c5, c6, c7, c8, c9, c10, c11, c12⟩ := hc
  exact ⟨by rw [eK _ (by decide)]; exact c1, by rw [eR _ _ (by decide)]; exact c2, by rw [eK _ (by decide)]; exact c3, by rw [eR _ _ (by decide)]; exact c4, by rw [eR _ _ (by decide)]; exact c5, by rw [eK _ (by decide)]; exact c6, by rw [eL _ (by decide)]; exact c7, by rw [eK _ (by decide)]; exact c8, by rw [eL _ (by decide)]; exact c9, by rw [eI _ _ (by decide)]; exact c10, by rw [eI _ _ (by decide)]; exact c11, by rw [eI _ _ (by decide)]; exact c12⟩
theorem c_initA {S : PS} {Q : PS → Prop} (hN : pN S = 1) (hK : pK S 0 = 10) (hQ : ∀ S', pN S' = 6 → cA S' → Q S') : ∀ a1 S2, a1 = pN S → S2 = sNew S 7 0 → wpX8_init S2 a1 (fun S5 => Q (sR S5 0 0 (some a1))) := by
  intro a1 S2 e1 e2
  subst e1 e2
  unfold wpX8_init wpX6_init
  rw [ng_d, c_0]
  intro b0 T0 f0 g0
  subst f0 g0
  refine ⟨by simp only [pK_sR, pK_sI, pK_sJ, pK_sNew, pL_sR, pL_sI, pL_sJ, pL_sNew, pR_sI, pR_sJ, pR_sR, pR_sNew, pI_sI, pI_sR, pI_sJ, pI_sNew, pJ_sI, pJ_sR, pJ_sJ, pJ_sNew, pN_sR, pN_sI, pN_sJ, pN_sNew, hN, hK, Nat.reduceAdd, Nat.reduceEqDiff, ↓reduceIte, and_true, true_and, and_false, false_and, and_self, if_true, if_false], ?_⟩
  intro b1 T1 f1 g1
  subst f1 g1
  refine ⟨by simp only [pK_sR, pK_sI, pK_sJ, pK_sNew, pL_sR, pL_sI, pL_sJ, pL_sNew, pR_sI, pR_sJ, pR_sR, pR_sNew, pI_sI, pI_sR, pI_sJ, pI_sNew, pJ_sI, pJ_sR, pJ_sJ, pJ_sNew, pN_sR, pN_sI, pN_sJ, pN_sNew, hN, hK, Nat.reduceAdd, Nat.reduceEqDiff, ↓reduceIte, and_true, true_and, and_false, false_and, and_self, if_true, if_false], ?_⟩
  intro b2 T2 f2 g2
  subst f2 g2
  intro b3 T3 f3 g3
  subst f3 g3
  refine ⟨by simp only [pK_sR, pK_sI, pK_sJ, pK_sNew, pL_sR, pL_sI, pL_sJ, pL_sNew, pR_sI, pR_sJ, pR_sR, pR_sNew, pI_sI, pI_sR, pI_sJ, pI_sNew, pJ_sI, pJ_sR, pJ_sJ, pJ_sNew, pN_sR, pN_sI, pN_sJ, pN_sNew, hN, hK, Nat.reduceAdd, Nat.reduceEqDiff, ↓reduceIte, and_true, true_and, and_false, false_and, and_self, if_true, if_false], by simp only [pK_sR, pK_sI, pK_sJ, pK_sNew, pL_sR, pL_sI, pL_sJ, pL_sNew, pR_sI, pR_sJ, pR_sR, pR_sNew, pI_sI, pI_sR, pI_sJ, pI_sNew, pJ_sI, pJ_sR, pJ_sJ, pJ_sNew, pN_sR, pN_sI, pN_sJ, pN_sNew, hN, hK, Nat.reduceAdd, Nat.reduceEqDiff, ↓reduceIte, and_true, true_and, and_false, false_and, and_self, if_true, if_false], ?_⟩
  refine hQ _ ?_ ⟨?_, ?_, ?_, ?_, ?_, ?_, ?_, ?_, ?_, ?_, ?_, ?_⟩
  · simp only [pK_sR, pK_sI, pK_sJ, pK_sNew, pL_sR, pL_sI, pL_sJ, pL_sNew, pR_sI, pR_sJ, pR_sR, pR_sNew, pI_sI, pI_sR, pI_sJ, pI_sNew, pJ_sI, pJ_sR, pJ_sJ, pJ_sNew, pN_sR, pN_sI, pN_sJ, pN_sNew, hN, hK, Nat.reduceAdd, Nat.reduceEqDiff, ↓reduceIte, and_true, true_and, and_false, false_and, and_self, if_true, if_false]
  · simp only [pK_sR, pK_sI, pK_sJ, pK_sNew, pL_sR, pL_sI, pL_sJ, pL_sNew, pR_sI, pR_sJ, pR_sR, pR_sNew, pI_sI, pI_sR, pI_sJ, pI_sNew, pJ_sI, pJ_sR, pJ_sJ, pJ_sNew, pN_sR, pN_sI, pN_sJ, pN_sNew, hN, hK, Nat.reduceAdd, Nat.reduceEqDiff, ↓reduceIte, and_true, true_and, and_false, false_and, and_self, if_true, if_false]
  · simp only [pK_sR, pK_sI, pK_sJ, pK_sNew, pL_sR, pL_sI, pL_sJ, pL_sNew, pR_sI, pR_sJ, pR_sR, pR_sNew, pI_sI, pI_sR, pI_sJ, pI_sNew, pJ_sI, pJ_sR, pJ_sJ, pJ_sNew, pN_sR, pN_sI, pN_sJ, pN_sNew, hN, hK, Nat.reduceAdd, Nat.reduceEqDiff, ↓reduceIte, and_true, true_and, and_false, false_and, and_self, if_true, if_false]
  · simp only [pK_sR, pK_sI, pK_sJ, pK_sNew, pL_sR, pL_sI, pL_sJ, pL_sNew, pR_sI, pR_sJ, pR_sR, pR_sNew, pI_sI, pI_sR, pI_sJ, pI_sNew, pJ_sI, pJ_sR, pJ_sJ, pJ_sNew, pN_sR, pN_sI, pN_sJ, pN_sNew, hN, hK, Nat.reduceAdd, Nat.reduceEqDiff, ↓reduceIte, and_true, true_and, and_false, false_and, and_self, if_true, if_false]
  · simp only [pK_sR, pK_sI, pK_sJ, pK_sNew, pL_sR, pL_sI, pL_sJ, pL_sNew, pR_sI, pR_sJ, pR_sR, pR_sNew, pI_sI, pI_sR, pI_sJ, pI_sNew, pJ_sI, pJ_sR, pJ_sJ, pJ_sNew, pN_sR, pN_sI, pN_sJ, pN_sNew, hN, hK, Nat.reduceAdd, Nat.reduceEqDiff, ↓reduceIte, and_true, true_and, and_false, false_and, and_self, if_true, if_false]
  · simp only [pK_sR, pK_sI, pK_sJ, pK_sNew, pL_sR, pL_sI, pL_sJ, pL_sNew, pR_sI, pR_sJ, pR_sR, pR_sNew, pI_sI, pI_sR, pI_sJ, pI_sNew, pJ_sI, pJ_sR, pJ_sJ, pJ_sNew, pN_sR, pN_sI, pN_sJ, pN_sNew, hN, hK, Nat.reduceAdd, Nat.reduceEqDiff, ↓reduceIte, and_true, true_and, and_false, false_and, and_self, if_true, if_false]
  · simp only [pK_sR, pK_sI, pK_sJ, pK_sNew, pL_sR, pL_sI, pL_sJ, pL_sNew, pR_sI, pR_sJ, pR_sR, pR_sNew, pI_sI, pI_sR, pI_sJ, pI_sNew, pJ_sI, pJ_sR, pJ_sJ, pJ_sNew, pN_sR, pN_sI, pN_sJ, pN_sNew, hN, hK, Nat.reduceAdd, Nat.reduceEqDiff, ↓reduceIte, and_true, true_and, and_false, false_and, and_self, if_true, if_false]
  · simp only [pK_sR, pK_sI, pK_sJ, pK_sNew, pL_sR, pL_sI, pL_sJ, pL_sNew, pR_sI, pR_sJ, pR_sR, pR_sNew, pI_sI, pI_sR, pI_sJ, pI_sNew, pJ_sI, pJ_sR, pJ_sJ, pJ_sNew, pN_sR, pN_sI, pN_sJ, pN_sNew, hN, hK, Nat.reduceAdd, Nat.reduceEqDiff, ↓reduceIte, and_true, true_and, and_false, false_and, and_self, if_true, if_false]
  · simp only [pK_sR, pK_sI, pK_sJ, pK_sNew, pL_sR, pL_sI, pL_sJ, pL_sNew, pR_sI, pR_sJ, pR_sR, pR_sNew, pI_sI, pI_sR, pI_sJ, pI_sNew, pJ_sI, pJ_sR, pJ_sJ, pJ_sNew, pN_sR, pN_sI, pN_sJ, pN_sNew, hN, hK, Nat.reduceAdd, Nat.reduceEqDiff, ↓reduceIte, and_true, true_and, and_false, false_and, and_self, if_true, if_false]
  · simp only [pK_sR, pK_sI, pK_sJ, pK_sNew, pL_sR, pL_sI, pL_sJ, pL_sNew, pR_sI, pR_sJ, pR_sR, pR_sNew, pI_sI, pI_sR, pI_sJ, pI_sNew, pJ_sI, pJ_sR, pJ_sJ, pJ_sNew, pN_sR, pN_sI, pN_sJ, pN_sNew, hN, hK, Nat.reduceAdd, Nat.reduceEqDiff, ↓reduceIte, and_true, true_and, and_false, false_and, and_self, if_true, if_false]
  · simp only [pK_sR, pK_sI, pK_sJ, pK_sNew, pL_sR, pL_sI, pL_sJ, pL_sNew, pR_sI, pR_sJ, pR_sR, pR_sNew, pI_sI, pI_sR, pI_sJ, pI_sNew, pJ_sI, pJ_sR, pJ_sJ, pJ_sNew, pN_sR, pN_sI, pN_sJ, pN_sNew, hN, hK, Nat.reduceAdd, Nat.reduceEqDiff, ↓reduceIte, and_true, true_and, and_false, false_and, and_self, if_true, if_false]
  · simp only [pK_sR, pK_sI, pK_sJ, pK_sNew, pL_sR, pL_sI, pL_sJ, pL_sNew, pR_sI, pR_sJ, pR_sR, pR_sNew, pI_sI, pI_sR, pI_sJ, pI_sNew, pJ_sI, pJ_sR, pJ_sJ, pJ_sNew, pN_sR, pN_sI, pN_sJ, pN_sNew, hN, hK, Nat.reduceAdd, Nat.reduceEqDiff, ↓reduceIte, and_true, true_and, and_false, false_and, and_self, if_true, if_false]
  · simp only [pK_sR, pK_sI, pK_sJ, pK_sNew, pL_sR, pL_sI, pL_sJ, pL_sNew, pR_sI, pR_sJ, pR_sR, pR_sNew, pI_sI, pI_sR, pI_sJ, pI_sNew, pJ_sI, pJ_sR, pJ_sJ, pJ_sNew, pN_sR, pN_sI, pN_sJ, pN_sNew, hN, hK, Nat.reduceAdd, Nat.reduceEqDiff, ↓reduceIte, and_true, true_and, and_false, false_and, and_self, if_true, if_false]

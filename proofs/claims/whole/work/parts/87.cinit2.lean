/-! THE CLASS IS MADE: view, found, sets, problem -/
def cRest (Q : PS → Prop) (Z : PS) : Prop := pK Z 0 = 10 ∧ ∀ a19 S20, a19 = pN Z → S20 = sNew Z 4 0 → wpX4_init S20 a19 (fun S23 => pK S23 0 = 10 ∧ ∀ a25 S26, a25 = pN (sR S23 0 3 (some a19)) → S26 = sNew (sR S23 0 3 (some a19)) 6 0 → wpX7_init S26 a25 (fun S29 => pK S29 0 = 10 ∧ ∀ a31 S32, a31 = pN (sR S29 0 4 (some a25)) → S32 = sNew (sR S29 0 4 (some a25)) 14 12 → pK S32 0 = 10 ∧ ∀ a35 S36, a35 = pN (sR S32 0 5 (some a31)) → S36 = sNew (sR S32 0 5 (some a31)) 5 0 → wpX6_init S36 a35 (fun S39 => pK S39 0 = 10 ∧ Q (sI (sI (sR S39 0 6 (some a35)) 0 7 0) 0 8 0))))
theorem gen_W {Q : PS → Prop} {S : PS} (h : ∀ W, S = W → Q W) : Q S := h S rfl
theorem c_rest {Z : PS} {Q : PS → Prop} (hN : pN Z = 82) (hA : cA Z) (h6 : TSh Z 6) (h44 : TSh Z 44) (r1 : pR Z 0 1 = some 6) (r2 : pR Z 0 2 = some 44) (i2 : pI Z 6 2 = nI 0) (i3 : pI Z 6 3 = nI 0) (i4 : pI Z 6 4 = nI 0) (j5 : pJ Z 6 5 = 0)
    (hQ : ∀ S', pN S' = 87 → CJ S' 85 zP [] [] ((fun x => zP (2 + x)), []) 0 → bPR S' 85 zP → pI S' 1 2 = nI 0 → pI S' 1 3 = nI 0 → pI S' 1 4 = ngI → Q S') :
    cRest Q Z := by
  unfold cRest
  refine ⟨hA.1, ?_⟩
  intro b0 T0 f0 g0
  subst f0 g0
  unfold wpX4_init wpX1_init pC4
  refine ⟨by simp only [pK_sR, pK_sI, pK_sJ, pK_sNew, pL_sR, pL_sI, pL_sJ, pL_sNew, pR_sI, pR_sJ, pR_sR, pR_sNew, pI_sI, pI_sR, pI_sJ, pI_sNew, pJ_sI, pJ_sR, pJ_sJ, pJ_sNew, pN_sR, pN_sI, pN_sJ, pN_sNew, hN, hA.1, Nat.reduceAdd, Nat.reduceEqDiff, ↓reduceIte, and_true, true_and, and_false, false_and, and_self, if_true, if_false, or_true, true_or, false_or, or_false], by simp only [pK_sR, pK_sI, pK_sJ, pK_sNew, pL_sR, pL_sI, pL_sJ, pL_sNew, pR_sI, pR_sJ, pR_sR, pR_sNew, pI_sI, pI_sR, pI_sJ, pI_sNew, pJ_sI, pJ_sR, pJ_sJ, pJ_sNew, pN_sR, pN_sI, pN_sJ, pN_sNew, hN, hA.1, Nat.reduceAdd, Nat.reduceEqDiff, ↓reduceIte, and_true, true_and, and_false, false_and, and_self, if_true, if_false, or_true, true_or, false_or, or_false], by simp only [pK_sR, pK_sI, pK_sJ, pK_sNew, pL_sR, pL_sI, pL_sJ, pL_sNew, pR_sI, pR_sJ, pR_sR, pR_sNew, pI_sI, pI_sR, pI_sJ, pI_sNew, pJ_sI, pJ_sR, pJ_sJ, pJ_sNew, pN_sR, pN_sI, pN_sJ, pN_sNew, hN, hA.1, Nat.reduceAdd, Nat.reduceEqDiff, ↓reduceIte, and_true, true_and, and_false, false_and, and_self, if_true, if_false, or_true, true_or, false_or, or_false], ?_⟩
  intro b1 T1 f1 g1
  subst f1 g1
  unfold wpX7_init
  refine ⟨by simp only [pK_sR, pK_sI, pK_sJ, pK_sNew, pL_sR, pL_sI, pL_sJ, pL_sNew, pR_sI, pR_sJ, pR_sR, pR_sNew, pI_sI, pI_sR, pI_sJ, pI_sNew, pJ_sI, pJ_sR, pJ_sJ, pJ_sNew, pN_sR, pN_sI, pN_sJ, pN_sNew, hN, hA.1, Nat.reduceAdd, Nat.reduceEqDiff, ↓reduceIte, and_true, true_and, and_false, false_and, and_self, if_true, if_false, or_true, true_or, false_or, or_false], by simp only [pK_sR, pK_sI, pK_sJ, pK_sNew, pL_sR, pL_sI, pL_sJ, pL_sNew, pR_sI, pR_sJ, pR_sR, pR_sNew, pI_sI, pI_sR, pI_sJ, pI_sNew, pJ_sI, pJ_sR, pJ_sJ, pJ_sNew, pN_sR, pN_sI, pN_sJ, pN_sNew, hN, hA.1, Nat.reduceAdd, Nat.reduceEqDiff, ↓reduceIte, and_true, true_and, and_false, false_and, and_self, if_true, if_false, or_true, true_or, false_or, or_false], ?_⟩
  intro b2 T2 f2 g2
  subst f2 g2
  refine ⟨by simp only [pK_sR, pK_sI, pK_sJ, pK_sNew, pL_sR, pL_sI, pL_sJ, pL_sNew, pR_sI, pR_sJ, pR_sR, pR_sNew, pI_sI, pI_sR, pI_sJ, pI_sNew, pJ_sI, pJ_sR, pJ_sJ, pJ_sNew, pN_sR, pN_sI, pN_sJ, pN_sNew, hN, hA.1, Nat.reduceAdd, Nat.reduceEqDiff, ↓reduceIte, and_true, true_and, and_false, false_and, and_self, if_true, if_false, or_true, true_or, false_or, or_false], ?_⟩
  intro b3 T3 f3 g3
  subst f3 g3
  unfold wpX6_init
  intro b4 T4 f4 g4
  subst f4 g4
  refine ⟨by simp only [pK_sR, pK_sI, pK_sJ, pK_sNew, pL_sR, pL_sI, pL_sJ, pL_sNew, pR_sI, pR_sJ, pR_sR, pR_sNew, pI_sI, pI_sR, pI_sJ, pI_sNew, pJ_sI, pJ_sR, pJ_sJ, pJ_sNew, pN_sR, pN_sI, pN_sJ, pN_sNew, hN, hA.1, Nat.reduceAdd, Nat.reduceEqDiff, ↓reduceIte, and_true, true_and, and_false, false_and, and_self, if_true, if_false, or_true, true_or, false_or, or_false], by simp only [pK_sR, pK_sI, pK_sJ, pK_sNew, pL_sR, pL_sI, pL_sJ, pL_sNew, pR_sI, pR_sJ, pR_sR, pR_sNew, pI_sI, pI_sR, pI_sJ, pI_sNew, pJ_sI, pJ_sR, pJ_sJ, pJ_sNew, pN_sR, pN_sI, pN_sJ, pN_sNew, hN, hA.1, Nat.reduceAdd, Nat.reduceEqDiff, ↓reduceIte, and_true, true_and, and_false, false_and, and_self, if_true, if_false, or_true, true_or, false_or, or_false], ?_⟩
  simp only [pN_sR, pN_sI, pN_sJ, pN_sNew, hN, Nat.reduceAdd]
  refine gen_W (Q := Q) ?_
  intro W hW
  have eN : pN W = 87 := by rw [← hW]; simp only [pK_sR, pK_sI, pK_sJ, pK_sNew, pL_sR, pL_sI, pL_sJ, pL_sNew, pR_sI, pR_sJ, pR_sR, pR_sNew, pI_sI, pI_sR, pI_sJ, pI_sNew, pJ_sI, pJ_sR, pJ_sJ, pJ_sNew, pN_sR, pN_sI, pN_sJ, pN_sNew, hN, hA.1, Nat.reduceAdd, Nat.reduceEqDiff, ↓reduceIte, and_true, true_and, and_false, false_and, and_self, if_true, if_false, or_true, true_or, false_or, or_false]
  have eK : ∀ a, a < 82 → pK W a = pK Z a := fun a ha => by
    have n2 : a ≠ 82 := by omega
    have n3 : a ≠ 83 := by omega
    have n4 : a ≠ 84 := by omega
    have n5 : a ≠ 85 := by omega
    have n6 : a ≠ 86 := by omega
    rw [← hW]
    simp only [pK_sR, pK_sI, pK_sJ, pK_sNew, pL_sR, pL_sI, pL_sJ, pL_sNew, pR_sI, pR_sJ, pR_sR, pR_sNew, pI_sI, pI_sR, pI_sJ, pI_sNew, pJ_sI, pJ_sR, pJ_sJ, pJ_sNew, pN_sR, pN_sI, pN_sJ, pN_sNew, hN, hA.1, Nat.reduceAdd, Nat.reduceEqDiff, ↓reduceIte, and_true, true_and, and_false, false_and, and_self, if_true, if_false, or_true, true_or, false_or, or_false, n2, n3, n4, n5, n6]
  have eL : ∀ a, a < 82 → pL W a = pL Z a := fun a ha => by
    have n2 : a ≠ 82 := by omega
    have n3 : a ≠ 83 := by omega
    have n4 : a ≠ 84 := by omega
    have n5 : a ≠ 85 := by omega
    have n6 : a ≠ 86 := by omega
    rw [← hW]
    simp only [pK_sR, pK_sI, pK_sJ, pK_sNew, pL_sR, pL_sI, pL_sJ, pL_sNew, pR_sI, pR_sJ, pR_sR, pR_sNew, pI_sI, pI_sR, pI_sJ, pI_sNew, pJ_sI, pJ_sR, pJ_sJ, pJ_sNew, pN_sR, pN_sI, pN_sJ, pN_sNew, hN, hA.1, Nat.reduceAdd, Nat.reduceEqDiff, ↓reduceIte, and_true, true_and, and_false, false_and, and_self, if_true, if_false, or_true, true_or, false_or, or_false, n2, n3, n4, n5, n6]
  have eR : ∀ a k, a < 82 → a ≠ 0 → pR W a k = pR Z a k := fun a k ha n0 => by
    have n2 : a ≠ 82 := by omega
    have n3 : a ≠ 83 := by omega
    have n4 : a ≠ 84 := by omega
    have n5 : a ≠ 85 := by omega
    have n6 : a ≠ 86 := by omega
    rw [← hW]
    simp only [pK_sR, pK_sI, pK_sJ, pK_sNew, pL_sR, pL_sI, pL_sJ, pL_sNew, pR_sI, pR_sJ, pR_sR, pR_sNew, pI_sI, pI_sR, pI_sJ, pI_sNew, pJ_sI, pJ_sR, pJ_sJ, pJ_sNew, pN_sR, pN_sI, pN_sJ, pN_sNew, hN, hA.1, Nat.reduceAdd, Nat.reduceEqDiff, ↓reduceIte, and_true, true_and, and_false, false_and, and_self, if_true, if_false, or_true, true_or, false_or, or_false, n2, n3, n4, n5, n6, n0]
  have eI : ∀ a k, a < 82 → a ≠ 0 → pI W a k = pI Z a k := fun a k ha n0 => by
    have n2 : a ≠ 82 := by omega
    have n3 : a ≠ 83 := by omega
    have n4 : a ≠ 84 := by omega
    have n5 : a ≠ 85 := by omega
    have n6 : a ≠ 86 := by omega
    rw [← hW]
    simp only [pK_sR, pK_sI, pK_sJ, pK_sNew, pL_sR, pL_sI, pL_sJ, pL_sNew, pR_sI, pR_sJ, pR_sR, pR_sNew, pI_sI, pI_sR, pI_sJ, pI_sNew, pJ_sI, pJ_sR, pJ_sJ, pJ_sNew, pN_sR, pN_sI, pN_sJ, pN_sNew, hN, hA.1, Nat.reduceAdd, Nat.reduceEqDiff, ↓reduceIte, and_true, true_and, and_false, false_and, and_self, if_true, if_false, or_true, true_or, false_or, or_false, n2, n3, n4, n5, n6, n0]
  have eJ : ∀ a k, a < 82 → a ≠ 0 → pJ W a k = pJ Z a k := fun a k ha n0 => by
    have n2 : a ≠ 82 := by omega
    have n3 : a ≠ 83 := by omega
    have n4 : a ≠ 84 := by omega
    have n5 : a ≠ 85 := by omega
    have n6 : a ≠ 86 := by omega
    rw [← hW]
    simp only [pK_sR, pK_sI, pK_sJ, pK_sNew, pL_sR, pL_sI, pL_sJ, pL_sNew, pR_sI, pR_sJ, pR_sR, pR_sNew, pI_sI, pI_sR, pI_sJ, pI_sNew, pJ_sI, pJ_sR, pJ_sJ, pJ_sNew, pN_sR, pN_sI, pN_sJ, pN_sNew, hN, hA.1, Nat.reduceAdd, Nat.reduceEqDiff, ↓reduceIte, and_true, true_and, and_false, false_and, and_self, if_true, if_false, or_true, true_or, false_or, or_false, n2, n3, n4, n5, n6, n0]
  have eT : ∀ t, 6 ≤ t → t + 38 ≤ 82 → TSh Z t → TSh W t := fun t h1 h2 hs => by
    obtain ⟨a1, a2, a3, a4, a5, a6, a7, a8⟩ := hs
    exact ⟨by rw [eK _ (by omega)]; exact a1, by rw [eR _ _ (by omega) (by omega)]; exact a2, by rw [eR _ _ (by omega) (by omega)]; exact a3, by rw [eK _ (by omega)]; exact a4, by rw [eL _ (by omega)]; exact a5, by rw [eK _ (by omega)]; exact a6, by rw [eL _ (by omega)]; exact a7, fun i hi => by rw [eR _ _ (by omega) (by omega), eK _ (by omega)]; exact a8 i hi⟩
  have q3 : pR W 0 3 = some 82 := by rw [← hW]; simp only [pK_sR, pK_sI, pK_sJ, pK_sNew, pL_sR, pL_sI, pL_sJ, pL_sNew, pR_sI, pR_sJ, pR_sR, pR_sNew, pI_sI, pI_sR, pI_sJ, pI_sNew, pJ_sI, pJ_sR, pJ_sJ, pJ_sNew, pN_sR, pN_sI, pN_sJ, pN_sNew, hN, hA.1, Nat.reduceAdd, Nat.reduceEqDiff, ↓reduceIte, and_true, true_and, and_false, false_and, and_self, if_true, if_false, or_true, true_or, false_or, or_false]
  have q4 : pR W 0 4 = some 83 := by rw [← hW]; simp only [pK_sR, pK_sI, pK_sJ, pK_sNew, pL_sR, pL_sI, pL_sJ, pL_sNew, pR_sI, pR_sJ, pR_sR, pR_sNew, pI_sI, pI_sR, pI_sJ, pI_sNew, pJ_sI, pJ_sR, pJ_sJ, pJ_sNew, pN_sR, pN_sI, pN_sJ, pN_sNew, hN, hA.1, Nat.reduceAdd, Nat.reduceEqDiff, ↓reduceIte, and_true, true_and, and_false, false_and, and_self, if_true, if_false, or_true, true_or, false_or, or_false]
  have q5 : pR W 0 5 = some 84 := by rw [← hW]; simp only [pK_sR, pK_sI, pK_sJ, pK_sNew, pL_sR, pL_sI, pL_sJ, pL_sNew, pR_sI, pR_sJ, pR_sR, pR_sNew, pI_sI, pI_sR, pI_sJ, pI_sNew, pJ_sI, pJ_sR, pJ_sJ, pJ_sNew, pN_sR, pN_sI, pN_sJ, pN_sNew, hN, hA.1, Nat.reduceAdd, Nat.reduceEqDiff, ↓reduceIte, and_true, true_and, and_false, false_and, and_self, if_true, if_false, or_true, true_or, false_or, or_false]
  have q6 : pR W 0 6 = some 85 := by rw [← hW]; simp only [pK_sR, pK_sI, pK_sJ, pK_sNew, pL_sR, pL_sI, pL_sJ, pL_sNew, pR_sI, pR_sJ, pR_sR, pR_sNew, pI_sI, pI_sR, pI_sJ, pI_sNew, pJ_sI, pJ_sR, pJ_sJ, pJ_sNew, pN_sR, pN_sI, pN_sJ, pN_sNew, hN, hA.1, Nat.reduceAdd, Nat.reduceEqDiff, ↓reduceIte, and_true, true_and, and_false, false_and, and_self, if_true, if_false, or_true, true_or, false_or, or_false]
  have q0 : pR W 0 0 = some 1 := by rw [← hW]; simp only [pK_sR, pK_sI, pK_sJ, pK_sNew, pL_sR, pL_sI, pL_sJ, pL_sNew, pR_sI, pR_sJ, pR_sR, pR_sNew, pI_sI, pI_sR, pI_sJ, pI_sNew, pJ_sI, pJ_sR, pJ_sJ, pJ_sNew, pN_sR, pN_sI, pN_sJ, pN_sNew, hN, hA.1, Nat.reduceAdd, Nat.reduceEqDiff, ↓reduceIte, and_true, true_and, and_false, false_and, and_self, if_true, if_false, or_true, true_or, false_or, or_false, hA.2.1, r1, r2]
  have q1 : pR W 0 1 = some 6 := by rw [← hW]; simp only [pK_sR, pK_sI, pK_sJ, pK_sNew, pL_sR, pL_sI, pL_sJ, pL_sNew, pR_sI, pR_sJ, pR_sR, pR_sNew, pI_sI, pI_sR, pI_sJ, pI_sNew, pJ_sI, pJ_sR, pJ_sJ, pJ_sNew, pN_sR, pN_sI, pN_sJ, pN_sNew, hN, hA.1, Nat.reduceAdd, Nat.reduceEqDiff, ↓reduceIte, and_true, true_and, and_false, false_and, and_self, if_true, if_false, or_true, true_or, false_or, or_false, hA.2.1, r1, r2]
  have q2 : pR W 0 2 = some 44 := by rw [← hW]; simp only [pK_sR, pK_sI, pK_sJ, pK_sNew, pL_sR, pL_sI, pL_sJ, pL_sNew, pR_sI, pR_sJ, pR_sR, pR_sNew, pI_sI, pI_sR, pI_sJ, pI_sNew, pJ_sI, pJ_sR, pJ_sJ, pJ_sNew, pN_sR, pN_sI, pN_sJ, pN_sNew, hN, hA.1, Nat.reduceAdd, Nat.reduceEqDiff, ↓reduceIte, and_true, true_and, and_false, false_and, and_self, if_true, if_false, or_true, true_or, false_or, or_false, hA.2.1, r1, r2]
  have k82 : pK W 82 = 4 := by rw [← hW]; simp only [pK_sR, pK_sI, pK_sJ, pK_sNew, pL_sR, pL_sI, pL_sJ, pL_sNew, pR_sI, pR_sJ, pR_sR, pR_sNew, pI_sI, pI_sR, pI_sJ, pI_sNew, pJ_sI, pJ_sR, pJ_sJ, pJ_sNew, pN_sR, pN_sI, pN_sJ, pN_sNew, hN, hA.1, Nat.reduceAdd, Nat.reduceEqDiff, ↓reduceIte, and_true, true_and, and_false, false_and, and_self, if_true, if_false, or_true, true_or, false_or, or_false]
  have k83 : pK W 83 = 6 := by rw [← hW]; simp only [pK_sR, pK_sI, pK_sJ, pK_sNew, pL_sR, pL_sI, pL_sJ, pL_sNew, pR_sI, pR_sJ, pR_sR, pR_sNew, pI_sI, pI_sR, pI_sJ, pI_sNew, pJ_sI, pJ_sR, pJ_sJ, pJ_sNew, pN_sR, pN_sI, pN_sJ, pN_sNew, hN, hA.1, Nat.reduceAdd, Nat.reduceEqDiff, ↓reduceIte, and_true, true_and, and_false, false_and, and_self, if_true, if_false, or_true, true_or, false_or, or_false]
  have k84 : pK W 84 = 14 := by rw [← hW]; simp only [pK_sR, pK_sI, pK_sJ, pK_sNew, pL_sR, pL_sI, pL_sJ, pL_sNew, pR_sI, pR_sJ, pR_sR, pR_sNew, pI_sI, pI_sR, pI_sJ, pI_sNew, pJ_sI, pJ_sR, pJ_sJ, pJ_sNew, pN_sR, pN_sI, pN_sJ, pN_sNew, hN, hA.1, Nat.reduceAdd, Nat.reduceEqDiff, ↓reduceIte, and_true, true_and, and_false, false_and, and_self, if_true, if_false, or_true, true_or, false_or, or_false]
  have l84 : pL W 84 = 12 := by rw [← hW]; simp only [pK_sR, pK_sI, pK_sJ, pK_sNew, pL_sR, pL_sI, pL_sJ, pL_sNew, pR_sI, pR_sJ, pR_sR, pR_sNew, pI_sI, pI_sR, pI_sJ, pI_sNew, pJ_sI, pJ_sR, pJ_sJ, pJ_sNew, pN_sR, pN_sI, pN_sJ, pN_sNew, hN, hA.1, Nat.reduceAdd, Nat.reduceEqDiff, ↓reduceIte, and_true, true_and, and_false, false_and, and_self, if_true, if_false, or_true, true_or, false_or, or_false]
  have k85 : pK W 85 = 5 := by rw [← hW]; simp only [pK_sR, pK_sI, pK_sJ, pK_sNew, pL_sR, pL_sI, pL_sJ, pL_sNew, pR_sI, pR_sJ, pR_sR, pR_sNew, pI_sI, pI_sR, pI_sJ, pI_sNew, pJ_sI, pJ_sR, pJ_sJ, pJ_sNew, pN_sR, pN_sI, pN_sJ, pN_sNew, hN, hA.1, Nat.reduceAdd, Nat.reduceEqDiff, ↓reduceIte, and_true, true_and, and_false, false_and, and_self, if_true, if_false, or_true, true_or, false_or, or_false]
  have k86 : pK W 86 = 16 := by rw [← hW]; simp only [pK_sR, pK_sI, pK_sJ, pK_sNew, pL_sR, pL_sI, pL_sJ, pL_sNew, pR_sI, pR_sJ, pR_sR, pR_sNew, pI_sI, pI_sR, pI_sJ, pI_sNew, pJ_sI, pJ_sR, pJ_sJ, pJ_sNew, pN_sR, pN_sI, pN_sJ, pN_sNew, hN, hA.1, Nat.reduceAdd, Nat.reduceEqDiff, ↓reduceIte, and_true, true_and, and_false, false_and, and_self, if_true, if_false, or_true, true_or, false_or, or_false]
  have l86 : pL W 86 = 8 := by rw [← hW]; simp only [pK_sR, pK_sI, pK_sJ, pK_sNew, pL_sR, pL_sI, pL_sJ, pL_sNew, pR_sI, pR_sJ, pR_sR, pR_sNew, pI_sI, pI_sR, pI_sJ, pI_sNew, pJ_sI, pJ_sR, pJ_sJ, pJ_sNew, pN_sR, pN_sI, pN_sJ, pN_sNew, hN, hA.1, Nat.reduceAdd, Nat.reduceEqDiff, ↓reduceIte, and_true, true_and, and_false, false_and, and_self, if_true, if_false, or_true, true_or, false_or, or_false]
  have p0 : pR W 85 0 = some 86 := by rw [← hW]; simp only [pK_sR, pK_sI, pK_sJ, pK_sNew, pL_sR, pL_sI, pL_sJ, pL_sNew, pR_sI, pR_sJ, pR_sR, pR_sNew, pI_sI, pI_sR, pI_sJ, pI_sNew, pJ_sI, pJ_sR, pJ_sJ, pJ_sNew, pN_sR, pN_sI, pN_sJ, pN_sNew, hN, hA.1, Nat.reduceAdd, Nat.reduceEqDiff, ↓reduceIte, and_true, true_and, and_false, false_and, and_self, if_true, if_false, or_true, true_or, false_or, or_false]
  have p1 : pI W 85 1 = 0 := by rw [← hW]; simp only [pK_sR, pK_sI, pK_sJ, pK_sNew, pL_sR, pL_sI, pL_sJ, pL_sNew, pR_sI, pR_sJ, pR_sR, pR_sNew, pI_sI, pI_sR, pI_sJ, pI_sNew, pJ_sI, pJ_sR, pJ_sJ, pJ_sNew, pN_sR, pN_sI, pN_sJ, pN_sNew, hN, hA.1, Nat.reduceAdd, Nat.reduceEqDiff, ↓reduceIte, and_true, true_and, and_false, false_and, and_self, if_true, if_false, or_true, true_or, false_or, or_false]
  have p2 : pI W 85 2 = 0 := by rw [← hW]; simp only [pK_sR, pK_sI, pK_sJ, pK_sNew, pL_sR, pL_sI, pL_sJ, pL_sNew, pR_sI, pR_sJ, pR_sR, pR_sNew, pI_sI, pI_sR, pI_sJ, pI_sNew, pJ_sI, pJ_sR, pJ_sJ, pJ_sNew, pN_sR, pN_sI, pN_sJ, pN_sNew, hN, hA.1, Nat.reduceAdd, Nat.reduceEqDiff, ↓reduceIte, and_true, true_and, and_false, false_and, and_self, if_true, if_false, or_true, true_or, false_or, or_false]
  have p3 : pJ W 85 3 = 0 := by rw [← hW]; simp only [pK_sR, pK_sI, pK_sJ, pK_sNew, pL_sR, pL_sI, pL_sJ, pL_sNew, pR_sI, pR_sJ, pR_sR, pR_sNew, pI_sI, pI_sR, pI_sJ, pI_sNew, pJ_sI, pJ_sR, pJ_sJ, pJ_sNew, pN_sR, pN_sI, pN_sJ, pN_sNew, hN, hA.1, Nat.reduceAdd, Nat.reduceEqDiff, ↓reduceIte, and_true, true_and, and_false, false_and, and_self, if_true, if_false, or_true, true_or, false_or, or_false]
  have s7 : pI W 0 7 = 0 := by rw [← hW]; simp only [pK_sR, pK_sI, pK_sJ, pK_sNew, pL_sR, pL_sI, pL_sJ, pL_sNew, pR_sI, pR_sJ, pR_sR, pR_sNew, pI_sI, pI_sR, pI_sJ, pI_sNew, pJ_sI, pJ_sR, pJ_sJ, pJ_sNew, pN_sR, pN_sI, pN_sJ, pN_sNew, hN, hA.1, Nat.reduceAdd, Nat.reduceEqDiff, ↓reduceIte, and_true, true_and, and_false, false_and, and_self, if_true, if_false, or_true, true_or, false_or, or_false]
  have s8 : pI W 0 8 = 0 := by rw [← hW]; simp only [pK_sR, pK_sI, pK_sJ, pK_sNew, pL_sR, pL_sI, pL_sJ, pL_sNew, pR_sI, pR_sJ, pR_sR, pR_sNew, pI_sI, pI_sR, pI_sJ, pI_sNew, pJ_sI, pJ_sR, pJ_sJ, pJ_sNew, pN_sR, pN_sI, pN_sJ, pN_sNew, hN, hA.1, Nat.reduceAdd, Nat.reduceEqDiff, ↓reduceIte, and_true, true_and, and_false, false_and, and_self, if_true, if_false, or_true, true_or, false_or, or_false]
  have f83 : pI W 83 0 = 0 := by rw [← hW]; simp only [pK_sR, pK_sI, pK_sJ, pK_sNew, pL_sR, pL_sI, pL_sJ, pL_sNew, pR_sI, pR_sJ, pR_sR, pR_sNew, pI_sI, pI_sR, pI_sJ, pI_sNew, pJ_sI, pJ_sR, pJ_sJ, pJ_sNew, pN_sR, pN_sI, pN_sJ, pN_sNew, hN, hA.1, Nat.reduceAdd, Nat.reduceEqDiff, ↓reduceIte, and_true, true_and, and_false, false_and, and_self, if_true, if_false, or_true, true_or, false_or, or_false]
  clear hW
  obtain ⟨c1, c2, c3, c4, c5, c6, c7, c8, c9, c10, c11, c12⟩ := hA
  have b : bPR W 85 zP := ⟨by omega, 86, p0, by omega, fun c hc => absurd hc (Nat.not_lt_zero _)⟩
  refine hQ W eN ⟨⟨(eK 0 (by decide)).trans c1, q0, q1, q2, q3, q4, q5, k82, k83, k84, l84, eT 6 (by decide) (by decide) h6, eT 44 (by decide) (by decide) h44, (eK 1 (by decide)).trans c3, (eR 1 0 (by decide) (by decide)).trans c4, (eR 1 1 (by decide) (by decide)).trans c5, (eK 2 (by decide)).trans c6, (eL 2 (by decide)).trans c7, (eK 3 (by decide)).trans c8, (eL 3 (by decide)).trans c9⟩, q6, ⟨Nat.le_refl _, Or.inl (by decide), k85, p1, p2, p3, 86, by decide, Or.inl (by decide), p0, k86, l86, fun c hc => absurd hc (Nat.not_lt_zero _)⟩, ⟨s7, by decide, fun i hi => absurd hi (Nat.not_lt_zero _)⟩, ⟨(eI 6 2 (by decide) (by decide)).trans i2, (eI 6 3 (by decide) (by decide)).trans i3, (eI 6 4 (by decide) (by decide)).trans i4, (eJ 6 5 (by decide) (by decide)).trans j5, fun x _ => by show (0 : Nat) < 32; decide, fun _ _ _ => rfl, by decide, by decide, by decide, fun i hi => absurd hi (Nat.not_lt_zero _)⟩, ⟨k83, Or.inl f83⟩, fun i hi => absurd hi (Nat.not_lt_zero _), s8, fun i hi => absurd hi (Nat.not_lt_zero _)⟩ b ((eI 1 2 (by decide) (by decide)).trans c10) ((eI 1 3 (by decide) (by decide)).trans c11) ((eI 1 4 (by decide) (by decide)).trans c12)
theorem c_init {S : PS} {Q : PS → Prop} (hN : pN S = 1) (hK : pK S 0 = 10)
    (hQ : ∀ S', pN S' = 87 → CJ S' 85 zP [] [] ((fun x => zP (2 + x)), []) 0 → bPR S' 85 zP → pI S' 1 2 = nI 0 → pI S' 1 3 = nI 0 → pI S' 1 4 = ngI → Q S') : wpX11_init S 0 Q := by
  unfold wpX11_init
  exact c_initA (S := S) (Q := fun Z => pK Z 0 = 10 ∧ ∀ a7 S8, a7 = pN Z → S8 = sNew Z 8 0 → wpX9_init S8 a7 (fun S11 => pK S11 0 = 10 ∧ ∀ a13 S14, a13 = pN (sR S11 0 1 (some a7)) → S14 = sNew (sR S11 0 1 (some a7)) 8 0 → wpX9_init S14 a13 (fun S17 => cRest Q (sR S17 0 2 (some a13))))) hN hK (fun Z n0 a0 => c_trails (Q := cRest Q) n0 a0 (fun Z' n' a' t6 t44 r1 r2 i2 i3 i4 j5 => c_rest n' a' t6 t44 r1 r2 i2 i3 i4 j5 hQ))

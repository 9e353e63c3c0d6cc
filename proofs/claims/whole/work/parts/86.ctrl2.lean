/-! THE CLASS IS MADE: both trails -/
theorem c_trails {Z : PS} {Q : PS → Prop} (hN : pN Z = 6) (hA : cA Z)
    (hQ : ∀ S', pN S' = 82 → cA S' → TSh S' 6 → TSh S' 44 → pR S' 0 1 = some 6 → pR S' 0 2 = some 44 → pI S' 6 2 = nI 0 → pI S' 6 3 = nI 0 → pI S' 6 4 = nI 0 → pJ S' 6 5 = 0 → Q S') :
    pK Z 0 = 10 ∧ ∀ a7 S8, a7 = pN Z → S8 = sNew Z 8 0 → wpX9_init S8 a7 (fun S11 => pK S11 0 = 10 ∧ ∀ a13 S14, a13 = pN (sR S11 0 1 (some a7)) → S14 = sNew (sR S11 0 1 (some a7)) 8 0 → wpX9_init S14 a13 (fun S17 => Q (sR S17 0 2 (some a13)))) := by
  have hR : ∀ (S : PS) (k a : Nat), (k = 1 ∨ k = 2) → cA S → cA (sR S 0 k (some a)) := fun S k a hk hc => by
    obtain ⟨c1, c2, c3, c4, c5, c6, c7, c8, c9, c10, c11, c12⟩ := hc
    exact ⟨c1, by rw [pR_sR, if_neg (by omega)]; exact c2, c3, by rw [pR_sR, if_neg (by omega)]; exact c4, by rw [pR_sR, if_neg (by omega)]; exact c5, c6, c7, c8, c9, c10, c11, c12⟩
  have hT : ∀ (S : PS) (t k a : Nat), 6 ≤ t → TSh S t → TSh (sR S 0 k (some a)) t := fun S t k a ht hs => by
    obtain ⟨a1, a2, a3, a4, a5, a6, a7, a8⟩ := hs
    exact ⟨a1, by rw [pR_sR, if_neg (by omega)]; exact a2, by rw [pR_sR, if_neg (by omega)]; exact a3, a4, a5, a6, a7, fun i hi => by rw [pR_sR, if_neg (by omega)]; exact a8 i hi⟩
  refine ⟨hA.1, ?_⟩
  intro a7 S8 e7 e8
  rw [hN] at e7
  rw [e7]
  have hA8 : cA S8 := by
    rw [e8]
    exact cA_o (oF_new (A := []) (B := []) (N := 6) (by omega)) (by decide) (fun a ha => (nomatch ha)) (fun a ha => (nomatch ha)) hA
  refine q_tInit (T := 6) (by rw [e8, pN_sNew, hN]) (by rw [e8, pK_sNew, hN, if_pos rfl]) (fun S11 n11 o11 t11 i2 i3 i4 j5 => ?_)
  have hA11 : cA S11 := cA_o o11 (by decide) (fun a ha => by rw [List.mem_singleton.mp ha]; decide) (fun a ha => by rw [List.mem_singleton.mp ha]; decide) hA8
  refine ⟨hA11.1, ?_⟩
  intro a13 S14 e13 e14
  have e13' : a13 = 44 := by rw [e13, pN_sR, n11]
  rw [e13']
  have n12 : pN (sR S11 0 1 (some 6)) = 44 := by rw [pN_sR, n11]
  have oN : oF [] [] 44 (sR S11 0 1 (some 6)) S14 := by
    rw [e14]
    exact oF_new (by rw [n12]; decide)
  refine q_tInit (T := 44) (by rw [e14, pN_sNew, n12]) (by rw [e14, pK_sNew, n12, if_pos rfl]) (fun S17 n17 o17 t17 _ _ _ _ => ?_)
  have oA : oF [44] [44] 44 (sR S11 0 1 (some 6)) S17 := oF_t (oF_m (A := []) (B := []) (fun a ha => (nomatch ha)) (fun a ha => (nomatch ha)) oN) (oF_dn (by decide) o17)
  have n44 : ∀ a, a < 44 → a ∉ [44] := fun a ha q => by have := List.mem_singleton.mp q; omega
  have t6 : TSh S17 6 := by
    obtain ⟨a1, a2, a3, a4, a5, a6, a7, a8⟩ := hT S11 6 1 6 (by decide) t11
    have eK : ∀ a, a < 44 → pK S17 a = pK (sR S11 0 1 (some 6)) a := fun a ha => (oA.2.1 a ha).1
    have eL : ∀ a, a < 44 → pL S17 a = pL (sR S11 0 1 (some 6)) a := fun a ha => (oA.2.1 a ha).2
    have eR : ∀ a k, a < 44 → pR S17 a k = pR (sR S11 0 1 (some 6)) a k := fun a k ha => oA.2.2.1 a ha (n44 a ha) k
    exact ⟨by rw [eK _ (by decide)]; exact a1, by rw [eR _ _ (by decide)]; exact a2, by rw [eR _ _ (by decide)]; exact a3, by rw [eK _ (by decide)]; exact a4, by rw [eL _ (by decide)]; exact a5, by rw [eK _ (by decide)]; exact a6, by rw [eL _ (by decide)]; exact a7, fun i hi => by rw [eR _ _ (by omega), eK _ (by omega)]; exact a8 i hi⟩
  have eI : ∀ k, pI S17 6 k = pI S11 6 k := fun k => (oA.2.2.2 6 (by decide) (n44 6 (by decide)) k).1
  refine hQ _ (by rw [pN_sR, n17]) (hR _ 2 44 (Or.inr rfl) (cA_o oA (by decide) (fun a ha => by rw [List.mem_singleton.mp ha]; decide) (fun a ha => by rw [List.mem_singleton.mp ha]; decide) (hR S11 1 6 (Or.inl rfl) hA11))) (hT _ 6 2 44 (by decide) t6) (hT _ 44 2 44 (by decide) t17) ?_ ?_ ?_ ?_ ?_ ?_
  · rw [pR_sR, if_neg (fun q => absurd q.2 (by decide)), oA.2.2.1 0 (by decide) (n44 0 (by decide)), pR_sR, if_pos ⟨rfl, rfl⟩]
  · rw [pR_sR, if_pos ⟨rfl, rfl⟩]
  · exact (eI 2).trans i2
  · exact (eI 3).trans i3
  · exact (eI 4).trans i4
  · exact ((oA.2.2.2 6 (by decide) (n44 6 (by decide)) 5).2).trans j5

/-! STATES: where a problem begins, and when others are made -/
theorem VI_0 {P : Nat → Nat} (hw : Pwf P) : VI P [] [] ((fun x => P (2 + x)), []) := by
  refine ⟨hw, fun i hi => absurd hi (Nat.not_lt_zero _), by decide, ⟨fun i hi => absurd hi (Nat.not_lt_zero _), fun x hx => hw.2.2.1 x hx, fun x _ => rfl⟩, fun i hi => absurd hi (Nat.not_lt_zero _), fun i hi => absurd hi (Nat.not_lt_zero _), fun m hm _ => ?_⟩
  have e : m = 0 := Nat.le_zero.mp hm
  rw [e]
  exact fl_f.mpr (fun x hx => hw.2.2.2.1 x hx)
theorem VI_ld {P : Nat → Nat} (hw : Pwf P) : VI P [] [] (prE P [] 0 ((fun x => P (2 + x)), [])) := VI_prE (VI_0 hw)
theorem PRep_oF {A B : List Nat} {N : Nat} {S S' : PS} {pb : Nat} {P : Nat → Nat} (h : oF A B N S S') (hN : N ≤ pN S) (hNN : pN S ≤ N) (hA : ∀ a, a ∈ A → a < 85) (hB : ∀ a, a ∈ B → a < 85) (hp : PRep S pb P) (hb : bPR S pb P) : PRep S' pb P ∧ bPR S' pb P := by
  obtain ⟨g1, g2, g3, g4, g5, g6, rw', r1, r2, r3, r4, r5, r6⟩ := hp
  obtain ⟨b1, rw2, b2, b3, b4⟩ := hb
  rw [r3] at b2
  cases b2
  have nA : ∀ a, 85 ≤ a → a ∉ A := fun a ha q => by have := hA a q; omega
  have nB : ∀ a, 85 ≤ a → a ∉ B := fun a ha q => by have := hB a q; omega
  have hpN := h.1
  refine ⟨⟨g1, g2, by rw [(h.2.1 pb (by omega)).1]; exact g3, by rw [(h.2.2.2 pb (by omega) (nA _ g1) 1).1]; exact g4, by rw [(h.2.2.2 pb (by omega) (nA _ g1) 2).1]; exact g5, by rw [(h.2.2.2 pb (by omega) (nA _ g1) 3).2]; exact g6, rw', r1, r2, by rw [h.2.2.1 pb (by omega) (nB _ g1)]; exact r3, by rw [(h.2.1 rw' (by omega)).1]; exact r4, by rw [(h.2.1 rw' (by omega)).2]; exact r5, fun c hc => ?_⟩, by omega, rw', by rw [h.2.2.1 pb (by omega) (nB _ g1)]; exact r3, by omega, fun c hc o ho => ?_⟩
  · obtain ⟨o, o1, o2, o3⟩ := r6 c hc
    have := b4 c hc o o1
    exact ⟨o, by rw [h.2.2.1 rw' (by omega) (nB _ r1)]; exact o1, o2, KRep_oF h (by omega) (nA _ (by omega)) o3⟩
  · rw [h.2.2.1 rw' (by omega) (nB _ r1)] at ho
    have := b4 c hc o ho
    omega
/-- an error of load leaves the class's state -/
theorem CJ_oF {S S' : PS} {pb : Nat} {P : Nat → Nat} {ss : List Nat} {ds : List (Nat × Nat)} {σ : St} {n : Nat} (h : oF [1, 3] [1] (pN S) S S') (hN : 107 ≤ pN S) (hc' : CSh S') (hb : bPR S pb P) (hJ : CJ S pb P ss ds σ n) : CJ S' pb P ss ds σ n ∧ bPR S' pb P := by
  obtain ⟨hc, hpb, hp, hss, hT, hF, hD, hn, hE⟩ := hJ
  have hP := PRep_oF h (Nat.le_refl _) (Nat.le_refl _) (by decide) (by decide) hp hb
  have nA : ∀ a, a ≠ 1 → a ≠ 3 → a ∉ [1, 3] := fun a h1 h3 q => by
    simp only [List.mem_cons, List.not_mem_nil, or_false] at q
    omega
  have eI : ∀ a k, a < 107 → a ≠ 1 → a ≠ 3 → pI S' a k = pI S a k := fun a k h1 h2 h3 => (h.2.2.2 a (by omega) (nA a h2 h3) k).1
  have eJ : ∀ a k, a < 107 → a ≠ 1 → a ≠ 3 → pJ S' a k = pJ S a k := fun a k h1 h2 h3 => (h.2.2.2 a (by omega) (nA a h2 h3) k).2
  have n1 : (0 : Nat) ∉ [1] := by decide
  refine ⟨⟨hc', by rw [h.2.2.1 0 (by omega) n1]; exact hpb, hP.1, ⟨by rw [eI 0 7 (by decide) (by decide) (by decide)]; exact hss.1, hss.2.1, fun i hi => by rw [eJ 84 i (by decide) (by decide) (by decide)]; exact hss.2.2 i hi⟩, ?_, ?_, fun k hk => by rw [eJ _ _ (by decide) (by decide) (by decide)]; exact hD k hk, by rw [eI 0 8 (by decide) (by decide) (by decide)]; exact hn, fun i hi => ?_⟩, hP.2⟩
  · obtain ⟨h1, h2, h3, h4, h5, h6, h7, h8, h9, h10⟩ := hT
    refine ⟨by rw [eI _ _ (by decide) (by decide) (by decide)]; exact h1, by rw [eI _ _ (by decide) (by decide) (by decide)]; exact h2, by rw [eI _ _ (by decide) (by decide) (by decide)]; exact h3, by rw [eJ _ _ (by decide) (by decide) (by decide)]; exact h4, h5, h6, h7, h8, h9, fun i hi => ?_⟩
    obtain ⟨q1, q2⟩ := h10 i hi
    refine ⟨?_, q2⟩
    unfold cFa
    rw [eI _ _ (by omega) (by omega) (by omega), eI _ _ (by omega) (by omega) (by omega), eI _ _ (by omega) (by omega) (by omega), eI _ _ (by omega) (by omega) (by omega), eJ _ _ (by omega) (by omega) (by omega)]
    exact q1
  · obtain ⟨f1, f2⟩ := hF
    refine ⟨by rw [(h.2.1 83 (by omega)).1]; exact f1, ?_⟩
    rcases f2 with z | ⟨d, hd, L, U, hS, hr⟩
    · exact Or.inl (by rw [eI 83 0 (by decide) (by decide) (by decide)]; exact z)
    · refine Or.inr ⟨d, hd, L, U, ?_, hr⟩
      obtain ⟨s1, s2, s3, s4, s5, s6, s7⟩ := hS
      exact ⟨by rw [(h.2.1 83 (by omega)).1]; exact s1, by rw [eI 83 1 (by decide) (by decide) (by decide)]; exact s2, by rw [eJ 83 2 (by decide) (by decide) (by decide)]; exact s3, by rw [eJ 83 3 (by decide) (by decide) (by decide)]; exact s4, s5, by rw [eI 83 0 (by decide) (by decide) (by decide)]; exact s6, by rw [eJ 83 4 (by decide) (by decide) (by decide)]; exact s7⟩
  · have := hT.2.2.2.2.2.2.1
    rw [eJ _ _ (by omega) (by omega) (by omega)]
    exact hE i hi
/-- objects that were made stay made -/
theorem bPR_X {A : List Nat} {S S' : PS} {pb : Nat} {P : Nat → Nat} (h : frX A S S') (hb : bPR S pb P) : bPR S' pb P := by
  obtain ⟨d, h⟩ := h
  obtain ⟨b1, rw', b2, b3, b4⟩ := hb
  have hN : pN S' = pN S + d := h.N
  have eR : ∀ a k, pR S' a k = pR S a k := fun a k => h.R a k
  refine ⟨by omega, rw', by rw [eR]; exact b2, by omega, fun c hc o ho => ?_⟩
  rw [eR] at ho
  have := b4 c hc o ho
  omega
/-- the law keeps the reference's rows when the class loads -/
theorem oF_M {A B : List Nat} {S S' : PS} (h : oF A B (pN S) S S') (hN : 107 ≤ pN S) (hA : ∀ a, a ∈ A → a < 87) (hB : ∀ a, a ∈ B → a < 87) : ∀ a k, 87 ≤ a → a < 107 → pI S' a k = pI S a k ∧ pJ S' a k = pJ S a k ∧ pR S' a k = pR S a k ∧ pK S' a = pK S a ∧ pL S' a = pL S a := fun a k h1 h2 => by
  have nA : a ∉ A := fun q => by have := hA a q; omega
  have nB : a ∉ B := fun q => by have := hB a q; omega
  exact ⟨(h.2.2.2 a (by omega) nA k).1, (h.2.2.2 a (by omega) nA k).2, h.2.2.1 a (by omega) nB k, (h.2.1 a (by omega)).1, (h.2.1 a (by omega)).2⟩

/-! THE START: both objects and the law's arrays are made -/
theorem TSh_low {S S' : PS} {t : Nat} (h : oF [] [] 87 S S') (ht : t + 38 ≤ 87) (hs : TSh S t) : TSh S' t := by
  have eK : ∀ a, a < 87 → pK S' a = pK S a := fun a ha => (h.2.1 a ha).1
  have eL : ∀ a, a < 87 → pL S' a = pL S a := fun a ha => (h.2.1 a ha).2
  have eR : ∀ a k, a < 87 → pR S' a k = pR S a k := fun a k ha => h.2.2.1 a ha List.not_mem_nil k
  obtain ⟨a1, a2, a3, a4, a5, a6, a7, a8⟩ := hs
  exact ⟨by rw [eK _ (by omega)]; exact a1, by rw [eR _ _ (by omega)]; exact a2, by rw [eR _ _ (by omega)]; exact a3, by rw [eK _ (by omega)]; exact a4, by rw [eL _ (by omega)]; exact a5, by rw [eK _ (by omega)]; exact a6, by rw [eL _ (by omega)]; exact a7, fun i hi => by rw [eR _ _ (by omega), eK _ (by omega)]; exact a8 i hi⟩
theorem CSh_low {S S' : PS} (h : oF [] [] 87 S S') (hc : CSh S) : CSh S' := by
  have eK : ∀ a, a < 87 → pK S' a = pK S a := fun a ha => (h.2.1 a ha).1
  have eL : ∀ a, a < 87 → pL S' a = pL S a := fun a ha => (h.2.1 a ha).2
  have eR : ∀ a k, a < 87 → pR S' a k = pR S a k := fun a k ha => h.2.2.1 a ha List.not_mem_nil k
  obtain ⟨c1, c2, c3, c4, c5, c6, c7, c8, c9, c10, c11, t6, t44, c14, c15, c16, c17, c18, c19, c20⟩ := hc
  exact ⟨(eK _ (by decide)).trans c1, (eR _ _ (by decide)).trans c2, (eR _ _ (by decide)).trans c3, (eR _ _ (by decide)).trans c4, (eR _ _ (by decide)).trans c5, (eR _ _ (by decide)).trans c6, (eR _ _ (by decide)).trans c7, (eK _ (by decide)).trans c8, (eK _ (by decide)).trans c9, (eK _ (by decide)).trans c10, (eL _ (by decide)).trans c11, TSh_low h (by decide) t6, TSh_low h (by decide) t44, (eK _ (by decide)).trans c14, (eR _ _ (by decide)).trans c15, (eR _ _ (by decide)).trans c16, (eK _ (by decide)).trans c17, (eL _ (by decide)).trans c18, (eK _ (by decide)).trans c19, (eL _ (by decide)).trans c20⟩
theorem CJ_low {S S' : PS} {σ : St} {n : Nat} (h : oF [] [] 87 S S') (hN : pN S = 87) (hl : σ.2 = []) (hJ : CJ S 85 zP [] [] σ n) (hb : bPR S 85 zP) : CJ S' 85 zP [] [] σ n ∧ bPR S' 85 zP := by
  obtain ⟨hc, hpb, hp, hss, hT, hF, hD, hn, hE⟩ := hJ
  have eI : ∀ a k, a < 87 → pI S' a k = pI S a k := fun a k ha => (h.2.2.2 a ha List.not_mem_nil k).1
  have eJ : ∀ a k, a < 87 → pJ S' a k = pJ S a k := fun a k ha => (h.2.2.2 a ha List.not_mem_nil k).2
  have eK : ∀ a, a < 87 → pK S' a = pK S a := fun a ha => (h.2.1 a ha).1
  have hP := PRep_oF h (by omega) (by omega) (by decide) (by decide) hp hb
  have h0 : σ.2.length = 0 := by rw [hl]; rfl
  refine ⟨⟨CSh_low h hc, (h.2.2.1 0 (by decide) List.not_mem_nil 6).trans hpb, hP.1, ⟨(eI 0 7 (by decide)).trans hss.1, hss.2.1, fun i hi => absurd hi (Nat.not_lt_zero _)⟩, ?_, ?_, fun k hk => absurd hk (Nat.not_lt_zero _), (eI 0 8 (by decide)).trans hn, fun i hi => absurd hi (by omega)⟩, hP.2⟩
  · obtain ⟨t1, t2, t3, t4, t5, t6, t7, t8, t9, t10⟩ := hT
    exact ⟨(eI 6 2 (by decide)).trans t1, (eI 6 3 (by decide)).trans t2, (eI 6 4 (by decide)).trans t3, (eJ 6 5 (by decide)).trans t4, t5, t6, t7, t8, t9, fun i hi => absurd hi (by omega)⟩
  · obtain ⟨f1, f2⟩ := hF
    refine ⟨(eK 83 (by decide)).trans f1, ?_⟩
    rcases f2 with z | ⟨d, hd, L, U, hS, hr⟩
    · exact Or.inl ((eI 83 0 (by decide)).trans z)
    · refine Or.inr ⟨d, hd, L, U, ?_, hr⟩
      obtain ⟨s1, s2, s3, s4, s5, s6, s7⟩ := hS
      exact ⟨(eK 83 (by decide)).trans s1, (eI 83 1 (by decide)).trans s2, (eJ 83 2 (by decide)).trans s3, (eJ 83 3 (by decide)).trans s4, s5, (eI 83 0 (by decide)).trans s6, (eJ 83 4 (by decide)).trans s7⟩
theorem sM_new {S : PS} {κ l : Nat} (h : 105 ≤ pN S) : sM S (sNew S κ l) := fun a h1 h2 => ⟨by rw [pK_sNew, if_neg (by omega)], by rw [pL_sNew, if_neg (by omega)], fun k => by rw [pR_sNew, if_neg (by omega)], fun k => by rw [pI_sNew, if_neg (by omega)], fun k => by rw [pJ_sNew, if_neg (by omega)]⟩
theorem law_pure {xs : Nat → Int32} {L : Nat} (hL : L ≤ 3072) {Z : PS} (hZ : pN Z = 0) : wpL_law xs L Z := by
  unfold wpL_law
  intro a1 S2 e1 e2
  rw [hZ] at e1
  subst e1
  refine c_init (by rw [e2, pN_sNew, hZ]) (by rw [e2, pK_sNew, hZ, if_pos rfl]) (fun S5 n5 hJ5 hb5 t2 t3 t4 => ?_)
  intro a6 S7 e6 e7
  rw [n5] at e6
  subst e6
  have o7 : oF [] [] 87 S5 S7 := by
    rw [e7]
    exact oF_new (by omega)
  refine m_init (by rw [e7, pN_sNew, n5]) (by rw [e7, pK_sNew, n5, if_pos rfl]) (funext fun k => by rw [e7, pI_sNew, n5, if_pos rfl]) (fun S10 n10 hlow hM u0 u13 u19 u20 => ?_)
  rw [prE_z] at hM
  have n7 : pN S7 = 88 := by rw [e7, pN_sNew, n5]
  have o10 : oF [] [] 87 S7 S10 := ⟨by omega, fun a ha => ⟨(hlow a ha).1, (hlow a ha).2.1⟩, fun a ha _ k => ((hlow a ha).2.2 k).1, fun a ha _ k => ((hlow a ha).2.2 k).2⟩
  intro a11 S12 e11 e12
  rw [n10] at e11
  subst e11
  intro a14 S15 e14 e15
  have n12 : pN S12 = 106 := by rw [e12, pN_sNew, n10]
  rw [n12] at e14
  subst e14
  have o12 : oF [] [] 87 S10 S12 := by
    rw [e12]
    exact oF_new (by omega)
  have o15 : oF [] [] 87 S12 S15 := by
    rw [e15]
    exact oF_new (by omega)
  have o : oF [] [] 87 S5 S15 := oF_t o7 (oF_t o10 (oF_t o12 o15))
  have m12 : sM S10 S12 := by
    rw [e12]
    exact sM_new (by omega)
  have m15 : sM S12 S15 := by
    rw [e15]
    exact sM_new (by omega)
  have hT10 : mTX S10 (fun _ => 0) 0 (nI 0) ngI := ⟨u13, fun i hi => absurd hi (Nat.not_lt_zero _), u19, u20⟩
  have hM15 : jMH S15 zP [] [] ((fun x => zP (2 + x)), []) 0 (fun _ => 0) 0 (nI 0) ngI := jMH_sM m15 (jMH_sM m12 ⟨hM, hT10⟩)
  obtain ⟨hJ15, hb15⟩ := CJ_low (σ := ((fun x => zP (2 + x)), [])) o n5 rfl hJ5 hb5
  have eI : ∀ k, pI S15 1 k = pI S5 1 k := fun k => (o.2.2.2 1 (by decide) List.not_mem_nil k).1
  have hk : jLK S15 := by
    have n15 : pN S15 = 107 := by rw [e15, pN_sNew, n12]
    refine ⟨Nat.le_of_eq n15.symm, ?_, ?_, ?_, ?_⟩
    · rw [e15, pK_sNew, n12, if_neg (by decide), e12, pK_sNew, n10, if_pos rfl]
    · rw [e15, pL_sNew, n12, if_neg (by decide), e12, pL_sNew, n10, if_pos rfl]
    · rw [e15, pK_sNew, n12, if_pos rfl]
    · rw [e15, pL_sNew, n12, if_pos rfl]
  have hI : jLI S15 := ⟨85, zP, [], [], ((fun x => zP (2 + x)), []), 0, (fun _ => 0), 0, nI 0, ngI, hk, ⟨hJ15, ⟨(eI 2).trans t2, by decide, fun i hi => absurd hi (Nat.not_lt_zero _), (eI 3).trans t3, (eI 4).trans t4⟩, hb15⟩, hM15, VI_0 Pwf_0⟩
  exact law_loop hL 513 0 S15 hI (Nat.zero_le _) (by omega)

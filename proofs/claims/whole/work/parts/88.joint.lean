/-! THE JOINT STATE: class, reference and law -/
/-- class's problem and state when others' objects change -/
theorem CJ_frM {A : List Nat} {S S' : PS} {pb : Nat} {P : Nat → Nat} {ss : List Nat} {ds : List (Nat × Nat)} {σ : St} {n : Nat} (h : fr A S S') (hA : ∀ a, a ∈ A → 87 ≤ a ∧ a < 107) (hJ : CJ S pb P ss ds σ n) : CJ S' pb P ss ds σ n := by
  obtain ⟨hc, hpb, hp, hss, hT, hF, hD, hn, hE⟩ := hJ
  have n0 : ∀ a, a < 87 → a ∉ A := fun a ha q => by have := hA a q; omega
  exact ⟨h.CS hc, by rw [h.R]; exact hpb, PRep_fr h (fun a ha => Or.inr (hA a ha)) hp, cSS_fr h (n0 0 (by decide)) (n0 84 (by decide)) hss, cT_fr h (fun a ha => n0 a (by rw [LT_mem] at ha; omega)) hT, FndI_fr h (n0 83 (by decide)) hF, fun k hk => by rw [h.J (n0 _ (by decide))]; exact hD k hk, by rw [h.I (n0 0 (by decide))]; exact hn, cE_fr h hT.2.2.2.2.2.2.1 (fun i hi => n0 _ (by omega)) hE⟩
theorem CJ_fr83 {S S' : PS} {pb : Nat} {P : Nat → Nat} {ss : List Nat} {ds : List (Nat × Nat)} {σ : St} {n : Nat} (h : fr [83] S S') (hF' : FndI S' P) (hJ : CJ S pb P ss ds σ n) : CJ S' pb P ss ds σ n := by
  obtain ⟨hc, hpb, hp, hss, hT, hF, hD, hn, hE⟩ := hJ
  have n0 : ∀ a, a ≠ 83 → a ∉ [83] := fun a ha q => ha (List.mem_singleton.mp q)
  exact ⟨h.CS hc, by rw [h.R]; exact hpb, PRep_fr h (by decide) hp, cSS_fr h (n0 0 (by decide)) (n0 84 (by decide)) hss, cT_fr h (fun a ha => n0 a (by rw [LT_mem] at ha; omega)) hT, hF', fun k hk => by rw [h.J (n0 _ (by decide))]; exact hD k hk, by rw [h.I (n0 0 (by decide))]; exact hn, cE_fr h hT.2.2.2.2.2.2.1 (fun i hi => n0 _ (by omega)) hE⟩
theorem CJ_fr12 {S S' : PS} {pb : Nat} {P : Nat → Nat} {ss : List Nat} {ds : List (Nat × Nat)} {σ : St} {n : Nat} (h : fr [1, 2] S S') (hJ : CJ S pb P ss ds σ n) : CJ S' pb P ss ds σ n := by
  obtain ⟨hc, hpb, hp, hss, hT, hF, hD, hn, hE⟩ := hJ
  have n0 : ∀ a, a ≠ 1 → a ≠ 2 → a ∉ [1, 2] := fun a h1 h2 q => by
    simp only [List.mem_cons, List.not_mem_nil, or_false] at q
    omega
  exact ⟨h.CS hc, by rw [h.R]; exact hpb, PRep_fr h (by decide) hp, cSS_fr h (n0 0 (by decide) (by decide)) (n0 84 (by decide) (by decide)) hss, cT_fr h (fun a ha => n0 a (by rw [LT_mem] at ha; omega) (by rw [LT_mem] at ha; omega)) hT, FndI_fr h (n0 83 (by decide) (by decide)) hF, fun k hk => by rw [h.J (n0 _ (by decide) (by decide))]; exact hD k hk, by rw [h.I (n0 0 (by decide) (by decide))]; exact hn, cE_fr h hT.2.2.2.2.2.2.1 (fun i hi => n0 _ (by omega) (by omega)) hE⟩
theorem CJ_xf {S S' : PS} {pb : Nat} {P : Nat → Nat} {ss : List Nat} {ds : List (Nat × Nat)} {σ : St} {n : Nat} (h : xf S S') (hE' : cE S' P σ.2) (hJ : CJ S pb P ss ds σ n) : CJ S' pb P ss ds σ n := by
  obtain ⟨hc, hpb, hp, hss, hT, hF, hD, hn, hE⟩ := hJ
  obtain ⟨f, f6, ff⟩ := h
  have m0 : 0 ∉ 82 :: LT 6 := fun q => by rw [List.mem_cons, LT_mem] at q; omega
  have m84 : 84 ∉ 82 :: LT 6 := fun q => by rw [List.mem_cons, LT_mem] at q; omega
  have m83 : 83 ∉ 82 :: LT 6 := fun q => by rw [List.mem_cons, LT_mem] at q; omega
  have m8 : 6 + 2 ∉ 82 :: LT 6 := fun q => by rw [List.mem_cons, LT_mem] at q; omega
  have hT' : cT S' 6 (P 0) ds.length σ := by
    obtain ⟨t1, t2, t3, t4, t5, t6, t7, t8, t9, t10⟩ := hT
    refine ⟨(f6 2).1.trans t1, (f6 3).1.trans t2, (f6 4).1.trans t3, (f6 5).2.trans t4, t5, t6, t7, t8, t9, fun i hi => ?_⟩
    obtain ⟨⟨q1, q2, q3, q4, q5⟩, q6⟩ := t10 i hi
    have hi35 : i < 35 := by omega
    exact ⟨⟨((ff i hi35).1 0 (by decide)).trans q1, ((ff i hi35).1 1 (by decide)).trans q2, ((ff i hi35).1 2 (by decide)).trans q3, ((ff i hi35).1 3 (by decide)).trans q4, ((ff i hi35).2 4 (by decide)).trans q5⟩, q6⟩
  exact ⟨f.CS hc, by rw [f.R]; exact hpb, PRep_fr f (LT_85 (by decide)) hp, cSS_fr f m0 m84 hss, hT', FndI_fr f m83 hF, fun k hk => by rw [f.J m8]; exact hD k hk, by rw [f.I m0]; exact hn, hE'⟩
theorem cTX_X {A : List Nat} {S S' : PS} {tx : Nat → Nat} {n : Nat} {ec ep : Int32} (h : frX A S S') (h1 : 1 ∉ A) (h2 : 2 ∉ A) (hx : cTX S tx n ec ep) : cTX S' tx n ec ep := by
  obtain ⟨d, h⟩ := h
  exact cTX_fr h h1 h2 (show cTX (sSkip S d) tx n ec ep from hx)
theorem bPR_fr {A : List Nat} {S S' : PS} {pb : Nat} {P : Nat → Nat} (h : fr A S S') (hb : bPR S pb P) : bPR S' pb P := bPR_X (frX_0 h) hb
theorem RC_12 : 1 ∉ RC ∧ 2 ∉ RC := ⟨fun q => by have := RC_mem.mp q; omega, fun q => by have := RC_mem.mp q; omega⟩
/-- the class's half -/
def jCH (S : PS) (pb : Nat) (P : Nat → Nat) (ss : List Nat) (ds : List (Nat × Nat)) (σ : St) (n : Nat) (tx : Nat → Nat) (m : Nat) (ec ep : Int32) : Prop := CJ S pb P ss ds σ n ∧ cTX S tx m ec ep ∧ bPR S pb P
/-- the reference's half -/
def jMH (S : PS) (P : Nat → Nat) (ss : List Nat) (ds : List (Nat × Nat)) (σ : St) (n : Nat) (tx : Nat → Nat) (m : Nat) (ec ep : Int32) : Prop := MJ S P ss ds σ n ∧ mTX S tx m ec ep
/-- the law's arrays -/
def jLK (S : PS) : Prop := 107 ≤ pN S ∧ pK S 105 = 14 ∧ pL S 105 = 1 ∧ pK S 106 = 18 ∧ pL S 106 = 1
def jLB (S : PS) (pb : Nat) (P : Nat → Nat) (ss : List Nat) (ds : List (Nat × Nat)) (σ : St) (n : Nat) (tx : Nat → Nat) (m : Nat) (ec ep : Int32) : Prop := jLK S ∧ jCH S pb P ss ds σ n tx m ec ep ∧ jMH S P ss ds σ n tx m ec ep ∧ VI P ss ds σ
def jLI (S : PS) : Prop := ∃ pb P ss ds σ n tx m ec ep, jLB S pb P ss ds σ n tx m ec ep
/-- the reference's objects are as they were -/
def sM (S S' : PS) : Prop := ∀ a, 87 ≤ a → a < 105 → pK S' a = pK S a ∧ pL S' a = pL S a ∧ (∀ k, pR S' a k = pR S a k) ∧ (∀ k, pI S' a k = pI S a k) ∧ ∀ k, pJ S' a k = pJ S a k
theorem sM_fr {A : List Nat} {S S' : PS} (h : fr A S S') (hA : ∀ a, a ∈ A → a < 87 ∨ 105 ≤ a) : sM S S' := fun a h1 h2 => by
  have nA : a ∉ A := fun q => by have := hA a q; omega
  exact ⟨h.K a, h.L a, fun k => h.R a k, fun k => h.I nA k, fun k => h.J nA k⟩
theorem sM_X {A : List Nat} {S S' : PS} (h : frX A S S') (hA : ∀ a, a ∈ A → a < 87 ∨ 105 ≤ a) : sM S S' := by
  obtain ⟨d, h⟩ := h
  exact (show sM (sSkip S d) S' from sM_fr h hA)
theorem sM_oF {A B : List Nat} {S S' : PS} (h : oF A B (pN S) S S') (hN : 107 ≤ pN S) (hA : ∀ a, a ∈ A → a < 87) (hB : ∀ a, a ∈ B → a < 87) : sM S S' := fun a h1 h2 => by
  have nA : a ∉ A := fun q => by have := hA a q; omega
  have nB : a ∉ B := fun q => by have := hB a q; omega
  exact ⟨(h.2.1 a (by omega)).1, (h.2.1 a (by omega)).2, fun k => h.2.2.1 a (by omega) nB k, fun k => (h.2.2.2 a (by omega) nA k).1, fun k => (h.2.2.2 a (by omega) nA k).2⟩
theorem MSh_sM {S S' : PS} (h : sM S S') (hM : MShape S) : MShape S' := by
  have r87 : ∀ k, pR S' 87 k = pR S 87 k := (h 87 (by decide) (by decide)).2.2.1
  unfold MShape at hM ⊢
  simp only [r87, (h 87 (by decide) (by decide)).1, (h 87 (by decide) (by decide)).2.1, (h 88 (by decide) (by decide)).1, (h 88 (by decide) (by decide)).2.1, (h 89 (by decide) (by decide)).1, (h 89 (by decide) (by decide)).2.1, (h 90 (by decide) (by decide)).1, (h 90 (by decide) (by decide)).2.1, (h 91 (by decide) (by decide)).1, (h 91 (by decide) (by decide)).2.1, (h 92 (by decide) (by decide)).1, (h 92 (by decide) (by decide)).2.1, (h 93 (by decide) (by decide)).1, (h 93 (by decide) (by decide)).2.1, (h 94 (by decide) (by decide)).1, (h 94 (by decide) (by decide)).2.1, (h 95 (by decide) (by decide)).1, (h 95 (by decide) (by decide)).2.1, (h 96 (by decide) (by decide)).1, (h 96 (by decide) (by decide)).2.1, (h 97 (by decide) (by decide)).1, (h 97 (by decide) (by decide)).2.1, (h 98 (by decide) (by decide)).1, (h 98 (by decide) (by decide)).2.1, (h 99 (by decide) (by decide)).1, (h 99 (by decide) (by decide)).2.1, (h 100 (by decide) (by decide)).1, (h 100 (by decide) (by decide)).2.1, (h 101 (by decide) (by decide)).1, (h 101 (by decide) (by decide)).2.1, (h 102 (by decide) (by decide)).1, (h 102 (by decide) (by decide)).2.1, (h 103 (by decide) (by decide)).1, (h 103 (by decide) (by decide)).2.1, (h 104 (by decide) (by decide)).1, (h 104 (by decide) (by decide)).2.1]
  exact hM
theorem MJ_sM {S S' : PS} {P : Nat → Nat} {ss : List Nat} {ds : List (Nat × Nat)} {σ : St} {n : Nat} (h : sM S S') (hJ : MJ S P ss ds σ n) : MJ S' P ss ds σ n := by
  obtain ⟨hM, hp, hss, hd, hT, hmD, h8, h10, h11⟩ := hJ
  have eI : ∀ a k, 87 ≤ a → a < 105 → pI S' a k = pI S a k := fun a k h1 h2 => (h a h1 h2).2.2.2.1 k
  have e87 : ∀ k, pI S' 87 k = pI S 87 k := fun k => eI 87 k (by decide) (by decide)
  have e91 : ∀ k, pI S' 91 k = pI S 91 k := fun k => eI 91 k (by decide) (by decide)
  have e92 : ∀ k, pI S' 92 k = pI S 92 k := fun k => eI 92 k (by decide) (by decide)
  refine ⟨MSh_sM h hM, fun k hk => by rw [eI 88 k (by decide) (by decide)]; exact hp k hk, ⟨by rw [e87]; exact hss.1, hss.2.1, fun i hi => by rw [eI 93 i (by decide) (by decide)]; exact hss.2.2 i hi⟩, ⟨by rw [(h 90 (by decide) (by decide)).1]; exact hd.1, by rw [(h 90 (by decide) (by decide)).2.1]; exact hd.2.1, fun x hx => by rw [eI 90 x (by decide) (by decide)]; exact hd.2.2.1 x hx, hd.2.2.2⟩, ⟨by rw [e87]; exact hT.1, hT.2.1, fun i hi => by rw [e91, e91, e91, e91, e91]; exact hT.2.2 i hi⟩, fun k hk => by rw [e92, e92]; exact hmD k hk, by rw [e87]; exact h8, by rw [e87]; exact h10, by rw [e87]; exact h11⟩
theorem mTX_sM {S S' : PS} {tx : Nat → Nat} {n : Nat} {ec ep : Int32} (h : sM S S') (hx : mTX S tx n ec ep) : mTX S' tx n ec ep := by
  have eI : ∀ a k, 87 ≤ a → a < 105 → pI S' a k = pI S a k := fun a k h1 h2 => (h a h1 h2).2.2.2.1 k
  exact ⟨by rw [eI 87 13 (by decide) (by decide)]; exact hx.1, fun i hi => by rw [eI 94 i (by decide) (by decide)]; exact hx.2.1 i hi, by rw [eI 87 19 (by decide) (by decide)]; exact hx.2.2.1, by rw [eI 87 20 (by decide) (by decide)]; exact hx.2.2.2⟩
theorem jMH_sM {S S' : PS} {P : Nat → Nat} {ss : List Nat} {ds : List (Nat × Nat)} {σ : St} {n : Nat} {tx : Nat → Nat} {m : Nat} {ec ep : Int32} (h : sM S S') (hM : jMH S P ss ds σ n tx m ec ep) : jMH S' P ss ds σ n tx m ec ep := ⟨MJ_sM h hM.1, mTX_sM h hM.2⟩
theorem jCH_frM {A : List Nat} {S S' : PS} {pb : Nat} {P : Nat → Nat} {ss : List Nat} {ds : List (Nat × Nat)} {σ : St} {n : Nat} {tx : Nat → Nat} {m : Nat} {ec ep : Int32} (h : fr A S S') (hA : ∀ a, a ∈ A → 87 ≤ a ∧ a < 107) (hC : jCH S pb P ss ds σ n tx m ec ep) : jCH S' pb P ss ds σ n tx m ec ep := ⟨CJ_frM h hA hC.1, cTX_fr h (fun q => by have := hA 1 q; omega) (fun q => by have := hA 2 q; omega) hC.2.1, bPR_fr h hC.2.2⟩
theorem jCH_X {S S' : PS} {pb : Nat} {P : Nat → Nat} {ss ss' : List Nat} {ds ds' : List (Nat × Nat)} {σ σ' : St} {n n' : Nat} {tx : Nat → Nat} {m : Nat} {ec ep : Int32} (h : frX RC S S') (hJ : CJ S' pb P ss' ds' σ' n') (hC : jCH S pb P ss ds σ n tx m ec ep) : jCH S' pb P ss' ds' σ' n' tx m ec ep := ⟨hJ, cTX_X h RC_12.1 RC_12.2 hC.2.1, bPR_X h hC.2.2⟩
theorem jLK_fr {A : List Nat} {S S' : PS} (h : fr A S S') (hk : jLK S) : jLK S' := ⟨by rw [h.N]; exact hk.1, by rw [h.K]; exact hk.2.1, by rw [h.L]; exact hk.2.2.1, by rw [h.K]; exact hk.2.2.2.1, by rw [h.L]; exact hk.2.2.2.2⟩
theorem jLK_X {A : List Nat} {S S' : PS} (h : frX A S S') (hk : jLK S) : jLK S' := by
  obtain ⟨d, h⟩ := h
  refine jLK_fr h ⟨?_, hk.2⟩
  have := hk.1
  show 107 ≤ pN S + d
  omega
theorem jLK_oF {A B : List Nat} {S S' : PS} (h : oF A B (pN S) S S') (hk : jLK S) : jLK S' := by
  have h1 := hk.1
  have h2 := h.1
  exact ⟨by omega, by rw [(h.2.1 105 (by omega)).1]; exact hk.2.1, by rw [(h.2.1 105 (by omega)).2]; exact hk.2.2.1, by rw [(h.2.1 106 (by omega)).1]; exact hk.2.2.2.1, by rw [(h.2.1 106 (by omega)).2]; exact hk.2.2.2.2⟩
/-- when only numbers of the class change -/
theorem jLB_c {S S' : PS} {pb : Nat} {P : Nat → Nat} {ss : List Nat} {ds : List (Nat × Nat)} {σ : St} {n : Nat} {tx : Nat → Nat} {m : Nat} {ec ep : Int32} {A : List Nat} (h : fr A S S') (hA : ∀ a, a ∈ A → 3 ≤ a ∧ a < 87) (hJ : CJ S' pb P ss ds σ n) (hB : jLB S pb P ss ds σ n tx m ec ep) : jLB S' pb P ss ds σ n tx m ec ep := ⟨jLK_fr h hB.1, ⟨hJ, cTX_fr h (fun q => by have := hA 1 q; omega) (fun q => by have := hA 2 q; omega) hB.2.1.2.1, bPR_fr h hB.2.1.2.2⟩, jMH_sM (sM_fr h (fun a ha => Or.inl (hA a ha).2)) hB.2.2.1, hB.2.2.2⟩
theorem jLB_83 {S S' : PS} {pb : Nat} {P : Nat → Nat} {ss : List Nat} {ds : List (Nat × Nat)} {σ : St} {n : Nat} {tx : Nat → Nat} {m : Nat} {ec ep : Int32} (h : fr [83] S S') (hF : FndI S' P) (hB : jLB S pb P ss ds σ n tx m ec ep) : jLB S' pb P ss ds σ n tx m ec ep := jLB_c h (by decide) (CJ_fr83 h hF hB.2.1.1) hB
theorem jLB_xf {S S' : PS} {pb : Nat} {P : Nat → Nat} {ss : List Nat} {ds : List (Nat × Nat)} {σ : St} {n : Nat} {tx : Nat → Nat} {m : Nat} {ec ep : Int32} (h : xf S S') (hE : cE S' P σ.2) (hB : jLB S pb P ss ds σ n tx m ec ep) : jLB S' pb P ss ds σ n tx m ec ep := jLB_c h.1 (fun a ha => by rw [List.mem_cons, LT_mem] at ha; omega) (CJ_xf h hE hB.2.1.1) hB
theorem jLB_sk {S : PS} {d : Nat} {pb : Nat} {P : Nat → Nat} {ss : List Nat} {ds : List (Nat × Nat)} {σ : St} {n : Nat} {tx : Nat → Nat} {m : Nat} {ec ep : Int32} (hB : jLB S pb P ss ds σ n tx m ec ep) : jLB (sSkip S d) pb P ss ds σ n tx m ec ep := ⟨jLK_X (A := []) ⟨d, fr_r _ _⟩ hB.1, ⟨hB.2.1.1, hB.2.1.2.1, bPR_X (A := []) ⟨d, fr_r _ _⟩ hB.2.1.2.2⟩, hB.2.2⟩
/-- when the law writes down an answer -/
theorem jLB_put {S : PS} {a c : Nat} {v : Int64} (ha : 105 ≤ a ∧ a < 107) {pb : Nat} {P : Nat → Nat} {ss : List Nat} {ds : List (Nat × Nat)} {σ : St} {n : Nat} {tx : Nat → Nat} {m : Nat} {ec ep : Int32} (hB : jLB S pb P ss ds σ n tx m ec ep) : jLB (sJ S a c v) pb P ss ds σ n tx m ec ep := by
  have f : fr [a] S (sJ S a c v) := fr_sJ _ _ _ (List.mem_singleton.mpr rfl)
  exact ⟨jLK_fr f hB.1, jCH_frM f (fun b hb => by rw [List.mem_singleton.mp hb]; omega) hB.2.1, jMH_sM (sM_fr f (fun b hb => Or.inr (by rw [List.mem_singleton.mp hb]; exact ha.1))) hB.2.2.1, hB.2.2.2⟩
theorem pJ_put (S : PS) (a c : Nat) (v : Int64) : pJ (sJ S a c v) a c = v := by rw [pJ_sJ, if_pos ⟨rfl, rfl⟩]
/-- when the reference has answered a question -/
theorem jLI_q {A F : List Nat} {S S' : PS} (hf : mf A F S S') (hA : ∀ a, a ∈ 87 :: A → a = 87 ∨ 96 ≤ a ∧ a < 105) (hF : ∀ k, k ∈ F → k = 0) {pb : Nat} {P : Nat → Nat} {ss : List Nat} {ds : List (Nat × Nat)} {σ : St} {n : Nat} {tx : Nat → Nat} {m : Nat} {ec ep : Int32} (hB : jLB S pb P ss ds σ n tx m ec ep) : jLI S' := by
  have nA : ∀ a, a ≠ 87 → a < 96 → a ∉ 87 :: A := fun a h1 h2 q => by have := hA a q; omega
  have nF : ∀ k, k ≠ 0 → k ∉ F := fun k h1 q => h1 (hF k q)
  exact ⟨pb, P, ss, ds, σ, n, tx, m, ec, ep, jLK_fr hf.1 hB.1, jCH_frM hf.1 (fun a ha => by have := hA a ha; omega) hB.2.1, ⟨MJ_mf hf ⟨nA 88 (by decide) (by decide), nA 90 (by decide) (by decide), nA 91 (by decide) (by decide), nA 92 (by decide) (by decide), nA 93 (by decide) (by decide)⟩ ⟨nF 7 (by decide), nF 8 (by decide), nF 9 (by decide), nF 10 (by decide), nF 11 (by decide)⟩ hB.2.2.1.1, mTX_mf hf (nA 94 (by decide) (by decide)) ⟨nF 13 (by decide), nF 19 (by decide), nF 20 (by decide)⟩ hB.2.2.1.2⟩, hB.2.2.2⟩

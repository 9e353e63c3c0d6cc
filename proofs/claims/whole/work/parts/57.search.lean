/-! SEARCH and RESTART -/
/-- the variable that a search decides: the first with the fewest values above one; 7: none -/
def bst (d : Nat → Nat) : Nat → Nat
  | 0 => 7
  | k + 1 => if 1 < pcn 5 (d k) ∧ (bst d k = 7 ∨ pcn 5 (d k) < pcn 5 (d (bst d k))) then k else bst d k
theorem bst_lt (d : Nat → Nat) : ∀ n, bst d n = 7 ∨ (bst d n < n ∧ 1 < pcn 5 (d (bst d n))) := by
  intro n
  induction n with
  | zero => exact Or.inl rfl
  | succ n ih =>
    unfold bst
    by_cases e : 1 < pcn 5 (d n) ∧ (bst d n = 7 ∨ pcn 5 (d n) < pcn 5 (d (bst d n)))
    · rw [if_pos e]
      exact Or.inr ⟨Nat.lt_succ_self n, e.1⟩
    · rw [if_neg e]
      rcases ih with h | h
      · exact Or.inl h
      · exact Or.inr ⟨by omega, h.2⟩
/-- as a number of the machine -/
def bsI (b : Nat) : Int32 := if b = 7 then ngI else nI b
theorem bsI_ng {b : Nat} (hb : b ≤ 7) : (bsI b = ngI) = (b = 7) := by
  unfold bsI
  by_cases e : b = 7
  · rw [if_pos e]
    exact propext ⟨fun _ => e, fun _ => rfl⟩
  · rw [if_neg e, m_ne b (by omega)]
    exact propext ⟨fun q => q.elim, fun q => e q⟩
theorem q_cchosen {S : PS} {P : Nat → Nat} {pb l : Nat} {σ : St} {Q : Int32 → PS → Prop} (hc : CSh S) (hpb : pR S 0 6 = some pb) (hp : PRep S pb P) (hw : Pwf P) (hT : cT S 6 (P 0) l σ) (hQ : Q (bsI (bst σ.1 (P 0))) S) : wpX11_variableToDecide S 0 Q := by
  have hP0 := hw.1
  have hT6 := hc.2.2.2.2.2.2.2.2.2.2.2.1
  have t4 := hT.2.2.2.1
  have t5 := hT.2.2.2.2.1
  have loop : ∀ r k, k + r = P 0 → wpX11_variableToDecide_b7 Q (r + 1) S 0 (bsI (bst σ.1 k)) (nI (if bst σ.1 k = 7 then 6 else pcn 5 (σ.1 (bst σ.1 k)))) (nI k) := by
    intro r
    induction r with
    | zero =>
      intro k hk
      have e : k = P 0 := by omega
      subst e
      unfold wpX11_variableToDecide_b7
      refine ⟨hc.1, pb, hpb, hp.2.2.1, ?_⟩
      rw [hp.2.2.2.1]
      exact ⟨fun _ => hQ, fun z => absurd (Eq.mpr (o_le (by omega) (by omega)) (Nat.le_refl _)) z⟩
    | succ r ih =>
      intro k hk
      have hk7 : k < 7 := by omega
      have hn := ih (k + 1) (by omega)
      generalize r + 1 = fu at hn ⊢
      have hpk := pcn_le 5 (σ.1 k)
      have hpb2 := pcn_le 5 (σ.1 (bst σ.1 k))
      have hstep : bst σ.1 (k + 1) = if 1 < pcn 5 (σ.1 k) ∧ (bst σ.1 k = 7 ∨ pcn 5 (σ.1 k) < pcn 5 (σ.1 (bst σ.1 k))) then k else bst σ.1 k := rfl
      rw [hstep] at hn
      have hfw : (if bst σ.1 k = 7 then 6 else pcn 5 (σ.1 (bst σ.1 k))) ≤ 6 := by split <;> omega
      unfold wpX11_variableToDecide_b7
      simp only [c_1, o_add]
      refine ⟨hc.1, pb, hpb, hp.2.2.1, ?_⟩
      rw [hp.2.2.2.1, o_le (by omega) (by omega)]
      refine ⟨fun z => by omega, fun _ => ⟨6, hc.2.2.1, hT6.1, ?_⟩⟩
      rw [t4, w_valuesOf t5 hk7, w_bci, bci_5 _ (t5 k hk7), o_le (by omega) (by omega), o_le (by omega) (by omega)]
      refine ⟨fun z => ?_, fun z => ⟨fun z2 => ?_, fun z2 => ?_⟩⟩
      · rw [if_neg (fun q => by omega)] at hn
        exact hn
      · rw [if_neg (fun q => by
          rcases q.2 with q2 | q2
          · rw [if_pos q2] at z2
            omega
          · by_cases e : bst σ.1 k = 7
            · rw [if_pos e] at z2
              omega
            · rw [if_neg e] at z2
              omega)] at hn
        exact hn
      · have hc1 : 1 < pcn 5 (σ.1 k) ∧ (bst σ.1 k = 7 ∨ pcn 5 (σ.1 k) < pcn 5 (σ.1 (bst σ.1 k))) := by
          refine ⟨by omega, ?_⟩
          by_cases e : bst σ.1 k = 7
          · exact Or.inl e
          · rw [if_neg e] at z2
            exact Or.inr (by omega)
        rw [if_pos hc1] at hn
        unfold bsI at hn
        rw [if_neg (show ¬ k = 7 by omega), if_neg (show ¬ k = 7 by omega)] at hn
        exact hn
  exact ⟨_, loop (P 0) 0 (Nat.zero_add _)⟩
theorem q_mchosen {S : PS} {P d : Nat → Nat} {Q : Int32 → PS → Prop} (hM : MShape S) (hp : rP S P) (hw : Pwf P) (hd : rD S 90 d) (hQ : Q (bsI (bst d (P 0))) S) : wpX12_chosen S 87 Q := by
  have hP0 := hw.1
  have i0 : vp_in (nI 0) (pL S 88) := by
    rw [msl_p hM, o_inT (by decide) (by decide)]
    trivial
  have iD : ∀ k, k < 7 → vp_in (nI k) (pL S 90) := fun k hk => by
    rw [msl_domain hM, o_inT (by omega) (by omega)]
    trivial
  have loop : ∀ r k, k + r = P 0 → wpX12_chosen_b4 Q (r + 1) S 87 (bsI (bst d k)) (nI k) := by
    intro r
    induction r with
    | zero =>
      intro k hk
      have e : k = P 0 := by omega
      subst e
      unfold wpX12_chosen_b4
      rw [c_0]
      refine ⟨msk hM, 88, msr_p hM, msk_p hM, i0, ?_⟩
      rw [o_cl (by decide), hp 0 (by decide)]
      exact ⟨fun _ => hQ, fun z => absurd (Eq.mpr (o_le (by omega) (by omega)) (Nat.le_refl _)) z⟩
    | succ r ih =>
      intro k hk
      have hk7 : k < 7 := by omega
      have hn := ih (k + 1) (by omega)
      generalize r + 1 = fu at hn ⊢
      have hpk := pcn_le 5 (d k)
      have hpb2 := pcn_le 5 (d (bst d k))
      have hbl := bst_lt d k
      have hstep : bst d (k + 1) = if 1 < pcn 5 (d k) ∧ (bst d k = 7 ∨ pcn 5 (d k) < pcn 5 (d (bst d k))) then k else bst d k := rfl
      rw [hstep] at hn
      have take : (1 < pcn 5 (d k) ∧ (bst d k = 7 ∨ pcn 5 (d k) < pcn 5 (d (bst d k)))) → wpX12_chosen_b4 Q fu S 87 (nI k) (nI (k + 1)) := fun q => by
        rw [if_pos q] at hn
        unfold bsI at hn
        rw [if_neg (show ¬ k = 7 by omega)] at hn
        exact hn
      have skip : ¬ (1 < pcn 5 (d k) ∧ (bst d k = 7 ∨ pcn 5 (d k) < pcn 5 (d (bst d k)))) → wpX12_chosen_b4 Q fu S 87 (bsI (bst d k)) (nI (k + 1)) := fun q => by
        rw [if_neg q] at hn
        exact hn
      unfold wpX12_chosen_b4
      simp only [c_0, c_1, ↓ng_d, o_add]
      refine ⟨msk hM, 88, msr_p hM, msk_p hM, i0, ?_⟩
      rw [o_cl (by decide), hp 0 (by decide), o_le (by omega) (by omega)]
      refine ⟨fun z => by omega, fun _ => ⟨90, msr_domain hM, msk_domain hM, iD k hk7, ?_⟩⟩
      rw [o_cl (by omega), hd.2.2.1 k hk7]
      refine q_sizeOf (k := 5) (by decide) (hd.2.2.2 k hk7) ?_
      rw [o_le (by omega) (by omega), bsI_ng (by omega)]
      refine ⟨fun z => skip (fun q => by omega), fun z => ⟨fun z2 => take ⟨by omega, Or.inl z2⟩, fun z2 => ⟨msk hM, 90, msr_domain hM, msk_domain hM, ?_⟩⟩⟩
      have hb7 : bst d k < 7 := by omega
      rw [show bsI (bst d k) = nI (bst d k) by unfold bsI; rw [if_neg z2]]
      refine ⟨iD _ hb7, ?_⟩
      rw [o_cl (by omega), hd.2.2.1 _ hb7]
      refine q_sizeOf (k := 5) (by decide) (hd.2.2.2 _ hb7) ?_
      rw [o_le (by omega) (by omega)]
      refine ⟨fun z3 => ?_, fun z3 => take ⟨by omega, Or.inr (by omega)⟩⟩
      have h1 := skip (fun q => by omega)
      rw [show bsI (bst d k) = nI (bst d k) by unfold bsI; rw [if_neg z2]] at h1
      exact h1
  have h1 := loop (P 0) 0 (Nat.zero_add _)
  unfold wpX12_chosen
  simp only [c_0, ↓ng_d]
  exact ⟨_, h1⟩
/-- a search, step by step: its answer, and what it leaves -/
noncomputable def srch (P : Nat → Nat) (most : Nat) : Nat → Nat → List Nat → List (Nat × Nat) → St → Nat → Int32 × List Nat × List (Nat × Nat) × St × Nat
  | 0, _, ss, ds, σ, n => (nI 0, ss, ds, σ, n)
  | f + 1, made, ss, ds, σ, n =>
    if fl (P 0) σ.1 = true then
      (if ds.length = 0 then (ngI, ss, ds, σ, n) else srch P most f made (lrnS P ss ds σ) (ds.take (ds.length - 1)) (lrnT P ss ds σ) n)
    else if bst σ.1 (P 0) = 7 then (nI 1, ss, ds, σ, n)
    else if made = most then (nI 0, ss, ds, σ, n)
    else srch P most f (made + 1) ss (ds ++ [(bst σ.1 (P 0), pick5 (dF (σ.1 (bst σ.1 (P 0)))))]) (prE P ss (ds.length + 1) (asS (bst σ.1 (P 0)) (pick5 (dF (σ.1 (bst σ.1 (P 0))))) (ds.length + 1) 5 σ)) (n + 1)
theorem bst_ok {P : Nat → Nat} {ss : List Nat} {ds : List (Nat × Nat)} {σ : St} (hV : VI P ss ds σ) (h : ¬ bst σ.1 (P 0) = 7) : bst σ.1 (P 0) < P 0 ∧ 1 < pcn 5 (σ.1 (bst σ.1 (P 0))) ∧ σ.1 (bst σ.1 (P 0)) ≠ 0 ∧ σ.1 (bst σ.1 (P 0)) < 32 ∧ pick5 (dF (σ.1 (bst σ.1 (P 0)))) < 5 ∧ (σ.1 (bst σ.1 (P 0))).testBit (pick5 (dF (σ.1 (bst σ.1 (P 0))))) = true := by
  have h1 := (bst_lt σ.1 (P 0)).resolve_left h
  have hP0 := hV.1.1
  have hd := hV.2.2.2.1.2.1 (bst σ.1 (P 0)) (by omega)
  have hne : σ.1 (bst σ.1 (P 0)) ≠ 0 := fun q => by
    rw [q, pcn_0] at h1
    omega
  have h2 := pick_in hd hne
  exact ⟨h1.1, h1.2, hne, hd, h2.1, h2.2⟩
theorem VI_made {P : Nat → Nat} {ss : List Nat} {ds : List (Nat × Nat)} {σ : St} {x v : Nat} (h : VI P ss ds σ) (hx : x < P 0) (hv : v < 5) (hb : (σ.1 x).testBit v = true) (h2 : 1 < pcn 5 (σ.1 x)) (hnf : fl (P 0) σ.1 = false) : VI P ss (ds ++ [(x, v)]) (prE P ss (ds.length + 1) (asS x v (ds.length + 1) 5 σ)) := by
  have h1 := VI_prE (VI_dec h hx hv hb h2 hnf)
  rw [List.length_append, List.length_singleton] at h1
  exact h1
theorem q_csearch {pb : Nat} {P : Nat → Nat} {most : Nat} {Q : Int32 → PS → Prop} {X : String → PS → Prop} (hmost : most ≤ 100) : ∀ f made step ss ds σ n S, CJ S pb P ss ds σ n → VI P ss ds σ → made ≤ most → 2 * (most - made) + ds.length < f → step + f ≤ 1000 →
    (∀ S', frX RC S S' → CJ S' pb P (srch P most f made ss ds σ n).2.1 (srch P most f made ss ds σ n).2.2.1 (srch P most f made ss ds σ n).2.2.2.1 (srch P most f made ss ds σ n).2.2.2.2 → Q (srch P most f made ss ds σ n).1 S') → wpX11_search_b26 Q X f S 0 (nI most) (nI made) (nI step) := by
  intro f
  induction f with
  | zero => exact fun made step ss ds σ n S _ _ _ h => absurd h (Nat.not_lt_zero _)
  | succ f ih =>
    intro made step ss ds σ n S hJ hV hmm hf hst hQ
    have hJ0 := hJ
    obtain ⟨hc, hpb, hp, hss, hT, hF, hD, hn, hE⟩ := hJ
    have hT6 := hc.2.2.2.2.2.2.2.2.2.2.2.1
    have hl7 := Dok_len hV.1 hV.2.2.2.2.2.1
    have hstep : srch P most (f + 1) made ss ds σ n = if fl (P 0) σ.1 = true then (if ds.length = 0 then (ngI, ss, ds, σ, n) else srch P most f made (lrnS P ss ds σ) (ds.take (ds.length - 1)) (lrnT P ss ds σ) n) else if bst σ.1 (P 0) = 7 then (nI 1, ss, ds, σ, n) else if made = most then (nI 0, ss, ds, σ, n) else srch P most f (made + 1) ss (ds ++ [(bst σ.1 (P 0), pick5 (dF (σ.1 (bst σ.1 (P 0)))))]) (prE P ss (ds.length + 1) (asS (bst σ.1 (P 0)) (pick5 (dF (σ.1 (bst σ.1 (P 0))))) (ds.length + 1) 5 σ)) (n + 1) := rfl
    rw [hstep] at hQ
    have hbl : bst σ.1 (P 0) ≤ 7 := by
      have := bst_lt σ.1 (P 0)
      have := hV.1.1
      omega
    unfold wpX11_search_b26
    simp only [c_0, c_1, c_1000, ↓ng_d, o_add]
    refine ⟨fun z => ?_, fun _ => ⟨hc.1, 6, hc.2.2.1, hT6.1, ?_⟩⟩
    · rw [o_le (by omega) (by omega)] at z
      omega
    · rw [w_hasFailed hT6 hT, bI_0]
      refine ⟨fun z => ⟨hc.1, q_cchosen hc hpb hp hV.1 hT ?_⟩, fun z => ⟨hc.1, 6, hc.2.2.1, hT6.1, ?_⟩⟩
      · rw [if_neg (by rw [z]; decide)] at hQ
        rw [bsI_ng hbl]
        refine ⟨fun z2 => ?_, fun z2 => ?_⟩
        · rw [if_neg z2] at hQ
          obtain ⟨b1, b2, b3, b4, b5, b6⟩ := bst_ok hV z2
          rw [show bsI (bst σ.1 (P 0)) = nI (bst σ.1 (P 0)) by unfold bsI; rw [if_neg z2], o_eq (by omega) (by omega)]
          refine ⟨fun z3 => ⟨hc.1, 6, hc.2.2.1, hT6.1, ?_⟩, fun z3 => ?_⟩
          · rw [if_neg z3] at hQ
            rw [hT.2.2.2.1]
            have hP0 := hV.1.1
            refine q_leastValue hT.2.2.2.2.1 (by omega) b3 ⟨hc.1, ?_⟩
            refine q_makeDecision hJ0 hV b1 b5 b6 b2 z (fun S' hfr hJ' => ?_)
            refine ih _ _ _ _ _ _ _ hJ' (VI_made hV b1 b5 b6 b2 z) (by omega) (by rw [List.length_append, List.length_singleton]; omega) (by omega) (fun S2 hf2 hJ2 => hQ S2 (frX_t (frX_C hfr) hf2) hJ2)
          · rw [if_pos z3] at hQ
            exact hQ S (frX_0 (fr_r _ _)) hJ0
        · rw [if_pos z2] at hQ
          exact hQ S (frX_0 (fr_r _ _)) hJ0
      · rw [Bool.not_eq_false] at z
        rw [if_pos z] at hQ
        rw [hT.2.2.1, o_eq (by omega) (by omega)]
        refine ⟨fun z2 => ?_, fun z2 => ?_⟩
        · rw [if_neg z2] at hQ
          refine q_learnFF hJ0 hV (by omega) (fun S' hfr hJ' => ?_)
          refine ih _ _ _ _ _ _ _ hJ' (VI_lrn hV (by omega)) hmm (by rw [List.length_take]; omega) (by omega) (fun S2 hf2 hJ2 => hQ S2 (frX_t hfr hf2) hJ2)
        · rw [if_pos z2] at hQ
          exact hQ S (frX_0 (fr_r _ _)) hJ0
theorem MJ_n {S : PS} {P : Nat → Nat} {ss : List Nat} {ds : List (Nat × Nat)} {σ : St} {n m : Nat} (hJ : MJ S P ss ds σ n) : MJ (sI S 87 10 (nI m)) P ss ds σ m := by
  obtain ⟨a1, a2, a3, a4, a5, a6, a7, a8, a9⟩ := hJ
  have f : mf [] [10] S (sI S 87 10 (nI m)) := mf_sI _ _ (by decide)
  exact ⟨f.M a1, f.P (by decide) a2, f.S (by decide) (by decide) a3, f.D (by decide) a4, f.T (by decide) (by decide) a5, mDs_fr f.1 (by decide) a6, by rw [f.F (by decide)]; exact a7, by rw [pI_sI, if_pos ⟨rfl, rfl⟩], by rw [f.F (by decide)]; exact a9⟩
theorem q_mdecide {S : PS} {P : Nat → Nat} {ss : List Nat} {ds : List (Nat × Nat)} {σ : St} {n y w : Nat} {Q : Int32 → PS → Prop} (hJ : MJ S P ss ds σ n) (hV : VI P ss ds σ) (hy : y < P 0) (hw5 : w < 5) (hb : (σ.1 y).testBit w = true) (h2 : 1 < pcn 5 (σ.1 y)) (hnf : fl (P 0) σ.1 = false)
    (hQ : ∀ S' r, mf [90, 91, 92, 96] [7, 8, 11] S S' → MJ S' P ss (ds ++ [(y, w)]) (prE P ss (ds.length + 1) (asS y w (ds.length + 1) 5 σ)) n → Q r S') : wpX12_decides S 87 (nI y) (nI w) Q := by
  obtain ⟨hM, hp, hs0, hd, hT, hmD, h8, h10, h11⟩ := hJ
  have hV2 := VI_dec hV hy hw5 hb h2 hnf
  have hl7 := Dok_len hV.1 hV2.2.2.2.2.2.1
  rw [List.length_append, List.length_singleton] at hl7
  exact q_decides (l := ds.length) hM hp hV.1 hd hT hs0 hV.2.1 h8 (by omega) hy hw5 hb (VI_sum hV) hnf (fun S' hf3 hd3 hT3 h83 h113 w0 w1 w2 => hQ S' _ hf3 (MJ_dec hM hp hs0 hmD h10 hf3 hd3 hT3 h83 h113 w0 w1 w2))
theorem q_msearch {P : Nat → Nat} {most : Nat} {Q : Int32 → PS → Prop} (hmost : most ≤ 100) : ∀ f made ss ds σ n S, MJ S P ss ds σ n → VI P ss ds σ → made ≤ most → 2 * (most - made) + ds.length < f →
    (∀ S', mf [90, 91, 92, 93, 96, 104] [7, 8, 9, 10, 11] S S' → MJ S' P (srch P most f made ss ds σ n).2.1 (srch P most f made ss ds σ n).2.2.1 (srch P most f made ss ds σ n).2.2.2.1 (srch P most f made ss ds σ n).2.2.2.2 → Q (srch P most f made ss ds σ n).1 S') → wpX12_search_b24 Q f S 87 (nI most) (nI made) := by
  intro f
  induction f with
  | zero => exact fun made ss ds σ n S _ _ _ h => absurd h (Nat.not_lt_zero _)
  | succ f ih =>
    intro made ss ds σ n S hJ hV hmm hf hQ
    have hJ0 := hJ
    obtain ⟨hM, hp, hs0, hd, hT, hmD, h8, h10, h11⟩ := hJ
    have hl7 := Dok_len hV.1 hV.2.2.2.2.2.1
    have hP0 := hV.1.1
    have hstep : srch P most (f + 1) made ss ds σ n = if fl (P 0) σ.1 = true then (if ds.length = 0 then (ngI, ss, ds, σ, n) else srch P most f made (lrnS P ss ds σ) (ds.take (ds.length - 1)) (lrnT P ss ds σ) n) else if bst σ.1 (P 0) = 7 then (nI 1, ss, ds, σ, n) else if made = most then (nI 0, ss, ds, σ, n) else srch P most f (made + 1) ss (ds ++ [(bst σ.1 (P 0), pick5 (dF (σ.1 (bst σ.1 (P 0)))))]) (prE P ss (ds.length + 1) (asS (bst σ.1 (P 0)) (pick5 (dF (σ.1 (bst σ.1 (P 0))))) (ds.length + 1) 5 σ)) (n + 1) := rfl
    rw [hstep] at hQ
    have hself : mf [90, 91, 92, 93, 96, 104] [7, 8, 9, 10, 11] S S := ⟨fr_r _ _, fun _ _ => ⟨rfl, rfl⟩⟩
    have hbl : bst σ.1 (P 0) ≤ 7 := by
      have := bst_lt σ.1 (P 0)
      omega
    unfold wpX12_search_b24
    simp only [c_0, c_1, ↓ng_d, o_add]
    rw [h11, h8, bI_0, o_eq (a := ds.length) (b := 0) (by omega) (by decide), o_eq (a := made) (b := most) (by omega) (by omega)]
    refine ⟨msk hM, fun z => q_mchosen hM hp hV.1 hd ?_, fun z => ?_⟩
    · rw [if_neg (by rw [z]; decide)] at hQ
      rw [bsI_ng hbl]
      refine ⟨fun z2 => ?_, fun z2 => ?_⟩
      · rw [if_neg z2] at hQ
        obtain ⟨b1, b2, b3, b4, b5, b6⟩ := bst_ok hV z2
        rw [show bsI (bst σ.1 (P 0)) = nI (bst σ.1 (P 0)) by unfold bsI; rw [if_neg z2]]
        refine ⟨fun z3 => ⟨msk hM, 90, msr_domain hM, msk_domain hM, ?_, ?_⟩, fun z3 => ?_⟩
        · rw [msl_domain hM, o_inT (by omega) (by omega)]
          trivial
        · rw [if_neg z3] at hQ
          rw [h10, o_add, o_cl (by omega)]
          have hJ1 : MJ (sI S 87 10 (nI (n + 1))) P ss ds σ (n + 1) := MJ_n hJ0
          rw [hJ1.2.2.2.1.2.2.1 _ (by omega)]
          refine q_onlyOf b4 b3 ⟨msk hJ1.1, ?_⟩
          refine q_mdecide hJ1 hV b1 b5 b6 b2 z (fun S' r hf2 hJ2 => ?_)
          have f3 : mf [90, 91, 92, 93, 96, 104] [7, 8, 9, 10, 11] S S' := mf_t (mf_sI _ _ (by decide)) (mf_w hf2 (by decide) (by decide))
          refine ih _ _ _ _ _ _ hJ2 (VI_made hV b1 b5 b6 b2 z) (by omega) (by rw [List.length_append, List.length_singleton]; omega) (fun S2 hf4 hJ4 => hQ S2 (mf_t f3 hf4) hJ4)
        · rw [if_pos z3] at hQ
          exact hQ S hself hJ0
      · rw [if_pos z2] at hQ
        exact hQ S hself hJ0
    · rw [Bool.not_eq_false] at z
      rw [if_pos z] at hQ
      refine ⟨fun z2 => ?_, fun z2 => ?_⟩
      · rw [if_neg z2] at hQ
        refine q_learns hJ0 hV (by omega) (fun S' hf2 hJ2 => ?_)
        refine ih _ _ _ _ _ _ hJ2 (VI_lrn hV (by omega)) hmm (by rw [List.length_take]; omega) (fun S2 hf4 hJ4 => hQ S2 (mf_t (mf_w hf2 (by decide) (by decide)) hf4) hJ4)
      · rw [if_pos z2] at hQ
        exact hQ S hself hJ0
theorem c_search {S : PS} {pb : Nat} {P : Nat → Nat} {ss : List Nat} {ds : List (Nat × Nat)} {σ : St} {n : Nat} {x : Int32} {Q : Int32 → PS → Prop} {X : String → PS → Prop} (hJ : CJ S pb P ss ds σ n) (hV : VI P ss ds σ)
    (hQ : ∀ S' k, frX RC S S' → 0 < k → k < 101 → x = nI k → CJ S' pb P (srch P k 300 0 ss ds σ n).2.1 (srch P k 300 0 ss ds σ n).2.2.1 (srch P k 300 0 ss ds σ n).2.2.2.1 (srch P k 300 0 ss ds σ n).2.2.2.2 → Q (srch P k 300 0 ss ds σ n).1 S')
    (hX : (x < nI 1 ∨ nI 101 ≤ x) → ∀ n, X "java/lang/IllegalArgumentException" (sSkip S n)) : wpX11_search S 0 x Q X := by
  have hl7 := Dok_len hV.1 hV.2.2.2.2.2.1
  unfold wpX11_search wpX11_search_b11
  rw [c_0, c_1, c_100]
  refine ⟨fun z => hX (Or.inl z), fun z0 => ⟨fun z => ?_, fun z => hX (Or.inr ?_)⟩⟩
  · rcases i_split x (N := 101) (by decide) with ⟨k, hk, rfl⟩ | hx
    · rw [o_lt (by omega) (by omega)] at z0
      exact ⟨300, q_csearch (most := k) (by omega) 300 0 0 ss ds σ n S hJ hV (Nat.zero_le _) (by omega) (by decide) (fun S' hf hJ' => hQ S' k hf (by omega) hk rfl hJ')⟩
    · rw [Int32.le_iff_toInt_le] at z
      rw [Int32.lt_iff_toInt_lt] at z0
      rw [Int32.lt_iff_toInt_lt, Int32.le_iff_toInt_le] at hx
      have e0 : (nI 0).toInt = 0 := rfl
      have e1 : (nI 1).toInt = 1 := rfl
      have e2 : (nI 100).toInt = 100 := rfl
      have e3 : (nI 101).toInt = 101 := rfl
      omega
  · rw [Int32.le_iff_toInt_le] at z ⊢
    have e2 : (nI 100).toInt = 100 := rfl
    have e3 : (nI 101).toInt = 101 := rfl
    omega
theorem m_search {S : PS} {P : Nat → Nat} {ss : List Nat} {ds : List (Nat × Nat)} {σ : St} {n : Nat} {x : Int32} {Q : Int32 → PS → Prop} (hJ : MJ S P ss ds σ n) (hV : VI P ss ds σ)
    (hQ : ∀ S' k, mf [90, 91, 92, 93, 96, 104] [0, 7, 8, 9, 10, 11] S S' → pI S' 87 0 = nI 0 → 0 < k → k < 101 → x = nI k → MJ S' P (srch P k 300 0 ss ds σ n).2.1 (srch P k 300 0 ss ds σ n).2.2.1 (srch P k 300 0 ss ds σ n).2.2.2.1 (srch P k 300 0 ss ds σ n).2.2.2.2 → Q (srch P k 300 0 ss ds σ n).1 S')
    (hX : ∀ S', mf [] [0] S S' → pI S' 87 0 = nI 1 → (x < nI 1 ∨ nI 101 ≤ x) → Q (nI 0) S') : wpX12_search S 87 x Q := by
  have hl7 := Dok_len hV.1 hV.2.2.2.2.2.1
  have hf : mf [] [0] S (sI S 87 0 (nI 0)) := mf_sI _ _ (by decide)
  have h0 : pI (sI S 87 0 (nI 0)) 87 0 = nI 0 := by rw [pI_sI, if_pos ⟨rfl, rfl⟩]
  have hJ1 := MJ_mf hf (by decide) (by decide) hJ
  have hM1 := hJ1.1
  have f1 := mf_t hf (mf_sI (A := []) (F := [0]) (k := 0) (sI S 87 0 (nI 0)) (nI 1) (by decide))
  have g1 : pI (sI (sI S 87 0 (nI 0)) 87 0 (nI 1)) 87 0 = nI 1 := by rw [pI_sI, if_pos ⟨rfl, rfl⟩]
  unfold wpX12_search
  rw [c_0, c_1, c_100]
  refine ⟨msk hJ.1, ?_⟩
  unfold wpX12_isIn
  rw [c_0, c_1]
  have bad : (x < nI 1 ∨ nI 101 ≤ x) → pK (sI S 87 0 (nI 0)) 87 = 11 ∧ wpX12_may (sI S 87 0 (nI 0)) 87 (nI 0) (nI 1) (fun r19 S20 => (¬ r19 = nI 0 → ∃ n9 : Nat, wpX12_search_b24 Q n9 S20 87 x (nI 0)) ∧ (r19 = nI 0 → Q (nI 0) S20)) := fun h => by
    refine ⟨msk hM1, ?_⟩
    rw [w_may0 hM1 (by decide) (by decide) h0]
    exact ⟨fun z => absurd rfl z, fun _ => hX _ f1 g1 h⟩
  refine ⟨fun z => bad (Or.inl z), fun z0 => ⟨fun z => bad (Or.inr ?_), fun z => ⟨msk hM1, ?_⟩⟩⟩
  · rw [Int32.lt_iff_toInt_lt] at z
    rw [Int32.le_iff_toInt_le]
    have e2 : (nI 100).toInt = 100 := rfl
    have e3 : (nI 101).toInt = 101 := rfl
    omega
  · rw [w_may1 hM1 h0]
    refine ⟨fun _ => ?_, fun z2 => absurd z2 (by decide)⟩
    rcases i_split x (N := 101) (by decide) with ⟨k, hk, rfl⟩ | hx
    · rw [o_lt (by omega) (by omega)] at z0
      exact ⟨300, q_msearch (most := k) (by omega) 300 0 ss ds σ n _ hJ1 hV (Nat.zero_le _) (by omega) (fun S' hf2 hJ' => hQ S' k (mf_t (mf_w hf (by decide) (by decide)) (mf_w hf2 (by decide) (by decide))) (by rw [hf2.F (by decide)]; exact h0) (by omega) hk rfl hJ')⟩
    · rw [Int32.lt_iff_toInt_lt] at z z0
      rw [Int32.lt_iff_toInt_lt, Int32.le_iff_toInt_le] at hx
      have e0 : (nI 0).toInt = 0 := rfl
      have e1 : (nI 1).toInt = 1 := rfl
      have e2 : (nI 100).toInt = 100 := rfl
      have e3 : (nI 101).toInt = 101 := rfl
      omega

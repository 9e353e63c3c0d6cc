/-! THE LAW'S CALLS: those that change the state -/
theorem VI_srch {P : Nat → Nat} {most : Nat} : ∀ f made ss ds σ n, VI P ss ds σ → VI P (srch P most f made ss ds σ n).2.1 (srch P most f made ss ds σ n).2.2.1 (srch P most f made ss ds σ n).2.2.2.1 := by
  intro f
  induction f with
  | zero => exact fun _ _ _ _ _ h => h
  | succ f ih =>
    intro made ss ds σ n hV
    have hstep : srch P most (f + 1) made ss ds σ n = if fl (P 0) σ.1 = true then (if ds.length = 0 then (ngI, ss, ds, σ, n) else srch P most f made (lrnS P ss ds σ) (ds.take (ds.length - 1)) (lrnT P ss ds σ) n) else if bst σ.1 (P 0) = 7 then (nI 1, ss, ds, σ, n) else if made = most then (nI 0, ss, ds, σ, n) else srch P most f (made + 1) ss (ds ++ [(bst σ.1 (P 0), pick5 (dF (σ.1 (bst σ.1 (P 0)))))]) (prE P ss (ds.length + 1) (asS (bst σ.1 (P 0)) (pick5 (dF (σ.1 (bst σ.1 (P 0))))) (ds.length + 1) 5 σ)) (n + 1) := rfl
    rw [hstep]
    by_cases z : fl (P 0) σ.1 = true
    · rw [if_pos z]
      by_cases z2 : ds.length = 0
      · rw [if_pos z2]
        exact hV
      · rw [if_neg z2]
        exact ih _ _ _ _ _ (VI_lrn hV (by omega))
    · rw [if_neg z]
      by_cases z2 : bst σ.1 (P 0) = 7
      · rw [if_pos z2]
        exact hV
      · rw [if_neg z2]
        by_cases z3 : made = most
        · rw [if_pos z3]
          exact hV
        · rw [if_neg z3]
          obtain ⟨b1, b2, b3, b4, b5, b6⟩ := bst_ok hV z2
          exact ih _ _ _ _ _ (VI_made hV b1 b5 b6 b2 (Bool.eq_false_iff.mpr z))
theorem RC_87 : ∀ a, a ∈ RC → a < 87 ∨ 105 ≤ a := fun a ha => Or.inl (by have := RC_mem.mp ha; omega)
theorem jAN2 {Q : Int32 → PS → Prop} {r : Int32} {S : PS} {pb : Nat} {P' : Nat → Nat} {ss' : List Nat} {ds' : List (Nat × Nat)} {σ' : St} {n' : Nat} {tx' : Nat → Nat} {m' : Nat} {ec' ep' : Int32} {P : Nat → Nat} {ss : List Nat} {ds : List (Nat × Nat)} {σ : St} {n : Nat} {tx : Nat → Nat} {m : Nat} {ec ep : Int32} (hk : jLK S) (hC : jCH S pb P' ss' ds' σ' n' tx' m' ec' ep') (hM : jMH S P ss ds σ n tx m ec ep) (h : ∀ S3, jLK S3 → jCH S3 pb P' ss' ds' σ' n' tx' m' ec' ep' → jMH S3 P ss ds σ n tx m ec ep → pJ S3 105 ((0 : Int32)).toNatClampNeg = r.toInt64 → Q (0 : Int32) S3) : pK S 105 = 14 ∧ (vp_in (0 : Int32) (pL S 105) ∧ Q (0 : Int32) (sJ S 105 ((0 : Int32)).toNatClampNeg (r.toInt64))) := by
  have f : fr [105] S (sJ S 105 ((0 : Int32)).toNatClampNeg (r.toInt64)) := fr_sJ _ _ _ (List.mem_singleton.mpr rfl)
  exact ⟨hk.2.1, l_in hk.2.2.1, h _ (jLK_fr f hk) (jCH_frM f (by decide) hC) (jMH_sM (sM_fr f (by decide)) hM) (pJ_put _ _ _ _)⟩
theorem jLI_e {A F : List Nat} {S S' : PS} {pb : Nat} {P' : Nat → Nat} {ss' : List Nat} {ds' : List (Nat × Nat)} {σ' : St} {n' : Nat} {tx' : Nat → Nat} {m' : Nat} {ec' ep' : Int32} (hf : mf A F S S') (hA : ∀ a, a ∈ 87 :: A → 87 ≤ a ∧ a < 105) (hk : jLK S) (hC : jCH S pb P' ss' ds' σ' n' tx' m' ec' ep') (hJ : MJ S' P' ss' ds' σ' n') (hx : mTX S' tx' m' ec' ep') (hV : VI P' ss' ds' σ') : jLI S' := ⟨pb, P', ss', ds', σ', n', tx', m', ec', ep', jLK_fr hf.1 hk, jCH_frM hf.1 (fun a ha => by have := hA a ha; omega) hC, ⟨hJ, hx⟩, hV⟩
theorem jE_ok {A F : List Nat} {K : PS → Prop} {r : Int32} {S S' : PS} {pb : Nat} {P' : Nat → Nat} {ss' : List Nat} {ds' : List (Nat × Nat)} {σ' : St} {n' : Nat} {tx' : Nat → Nat} {m' : Nat} {ec' ep' : Int32} (hf : mf A F S S') (hA : ∀ a, a ∈ 87 :: A → 87 ≤ a ∧ a < 105) (hk : jLK S) (hC : jCH S pb P' ss' ds' σ' n' tx' m' ec' ep') (hJ : MJ S' P' ss' ds' σ' n') (hx : mTX S' tx' m' ec' ep') (hV : VI P' ss' ds' σ') (hv : pJ S 105 ((0 : Int32)).toNatClampNeg = r.toInt64) (h0 : pI S' 87 0 = nI 0) (hK : ∀ S', jLI S' → K S') : jRE K (0 : Int32) r S' := by
  have h5 : 105 ∉ 87 :: A := fun q => by have := hA 105 q; omega
  exact jRE_ok hJ.1 (jLK_fr hf.1 hk) h0 (by rw [hf.1.J h5]; exact hv) (hK _ (jLI_e hf hA hk hC hJ hx hV))
theorem dOK_eq {P : Nat → Nat} {σ : St} {x v : Int32} {y w y' w' : Nat} (hw : Pwf P) (h : dOK P σ x v y w) (h' : dOK P σ x v y' w') : y = y' ∧ w = w' := by
  have h0 := hw.1
  obtain ⟨a, b, c, d, e⟩ := h
  obtain ⟨a', b', c', d', e'⟩ := h'
  exact ⟨eq_k b b' (by omega) (by omega), eq_k d d' (by omega) (by omega)⟩
theorem dOK_no {P : Nat → Nat} {σ : St} {x v : Int32} {y w y' : Nat} (hw : Pwf P) (h : dOK P σ x v y w) (hy : y' < P 0) (hx : x = nI y') (hn : noD σ v y') : False := by
  have h0 := hw.1
  obtain ⟨a, b, c, d, e⟩ := h
  have ey : y = y' := eq_k b hx (by omega) (by omega)
  subst ey
  have := hn w c d
  rw [e] at this
  exact Bool.noConfusion this
theorem fl_no {b : Bool} (h : b = true) (h' : b = false) : False := by
  rw [h] at h'
  exact Bool.noConfusion h'
theorem L_decide {K : PS → Prop} {S : PS} {x v : Int32} {V0 : Prop} {V1 : Prop} (v0 : V0) (v1 : V1) (hL : jLI S) (hK : ∀ S', jLI S' → K S') : wpL_decide S 0 x v 105 (fun r2 S3 => V0 ∧ V1 ∧ pK S3 87 = 11 ∧ wpX12_decide S3 87 x v (fun r6 S7 => jRE K r2 r6 S7)) := by
  obtain ⟨pb, P, ss, ds, σ, n, tx, m, ec, ep, hB⟩ := hL
  have hV := hB.2.2.2
  have hw := hV.1
  have hJ := hB.2.1.1
  obtain ⟨hc, hpb, hp, hss, hT, hF, hD, hn, hE⟩ := hJ
  have hJ := hB.2.1.1
  have hP0 : P 0 ≤ 7 := hw.1
  have hP1 : P 1 ≤ 8 := hw.2.1
  have hl35 : σ.2.length ≤ 35 := hT.2.2.2.2.2.2.1
  unfold wpL_decide
  refine ⟨hc.1, c_decide hJ hV (fun S1 y w hf1 hok h2 hfl hJ1 => ?_) (fun h d => ?_) (fun y hy e hno d => ?_) (fun y w hok hor d => ?_)⟩
  · have hk1 := jLK_X (frX_C hf1) hB.1
    have hC1 := jCH_X (frX_C hf1) hJ1 hB.2.1
    have hM1 := jMH_sM (sM_X (frX_C hf1) RC_87) hB.2.2.1
    refine jAN2 (Q := (fun r2 S3 => V0 ∧ V1 ∧ pK S3 87 = 11 ∧ wpX12_decide S3 87 x v (fun r6 S7 => jRE K r2 r6 S7))) hk1 hC1 hM1 (fun S3 hk3 hC3 hM3 hv => ⟨v0, v1, hM3.1.1.1, ?_⟩)
    refine m_decide hM3.1 hV (fun S' y' w' hf q0 hok' h2' hfl' hJ' => ?_) (fun S' hf q0 ho => ?_) (fun S' y' hf q0 hy' e' hno' => ?_) (fun S' y' w' hf q0 hok' hor' => ?_)
    · obtain ⟨ey, ew⟩ := dOK_eq hw hok hok'
      subst ey
      subst ew
      exact jE_ok hf (by decide) hk3 hC3 hJ' (mTX_mf hf (by decide) (by decide) hM3.2) (VI_made hV hok.1 hok.2.2.1 hok.2.2.2.2 h2 hfl) hv q0 hK
    · exact False.elim (no_out hok.2.1 hok.1 (by omega) ho)
    · exact False.elim (dOK_no hw hok hy' e' hno')
    · obtain ⟨ey, ew⟩ := dOK_eq hw hok hok'
      subst ey
      subst ew
      exact False.elim (hor'.elim (fun q => by omega) (fun q => fl_no q hfl))
  · have hB3 := jLB_sk (d := d) hB
    have hM3 := hB3.2.2.1
    refine Or.inl (⟨rfl, v0, v1, hM3.1.1.1, ?_⟩)
    refine m_decide hM3.1 hV (fun S' y' w' hf q0 hok' h2' hfl' hJ' => ?_) (fun S' hf q0 ho => ?_) (fun S' y' hf q0 hy' e' hno' => ?_) (fun S' y' w' hf q0 hok' hor' => ?_)
    · exact False.elim (no_out hok'.2.1 hok'.1 (by omega) h)
    · exact jQ_ex hf (by decide) (by decide) hB3 (by decide) (by decide) q0 rfl hK
    · exact False.elim (no_out e' hy' (by omega) h)
    · exact False.elim (no_out hok'.2.1 hok'.1 (by omega) h)
  · have hB3 := jLB_sk (d := d) hB
    have hM3 := hB3.2.2.1
    refine Or.inr (Or.inl (⟨rfl, v0, v1, hM3.1.1.1, ?_⟩))
    refine m_decide hM3.1 hV (fun S' y' w' hf q0 hok' h2' hfl' hJ' => ?_) (fun S' hf q0 ho => ?_) (fun S' y' hf q0 hy' e' hno' => ?_) (fun S' y' w' hf q0 hok' hor' => ?_)
    · exact False.elim (dOK_no hw hok' hy e hno)
    · exact False.elim (no_out e hy (by omega) ho)
    · exact jQ_ex hf (by decide) (by decide) hB3 (by decide) (by decide) q0 rfl hK
    · exact False.elim (dOK_no hw hok' hy e hno)
  · have hB3 := jLB_sk (d := d) hB
    have hM3 := hB3.2.2.1
    refine Or.inr (Or.inr (⟨rfl, v0, v1, hM3.1.1.1, ?_⟩))
    refine m_decide hM3.1 hV (fun S' y' w' hf q0 hok' h2' hfl' hJ' => ?_) (fun S' hf q0 ho => ?_) (fun S' y' hf q0 hy' e' hno' => ?_) (fun S' y' w' hf q0 hok' hor' => ?_)
    · obtain ⟨ey, ew⟩ := dOK_eq hw hok hok'
      subst ey
      subst ew
      exact False.elim (hor.elim (fun q => by omega) (fun q => fl_no q hfl'))
    · exact False.elim (no_out hok.2.1 hok.1 (by omega) ho)
    · exact False.elim (dOK_no hw hok hy' e' hno')
    · exact jQ_ex hf (by decide) (by decide) hB3 (by decide) (by decide) q0 rfl hK
theorem L_probe {K : PS → Prop} {S : PS} {x v : Int32} {V0 : Prop} {V1 : Prop} (v0 : V0) (v1 : V1) (hL : jLI S) (hK : ∀ S', jLI S' → K S') : wpL_probe S 0 x v 105 (fun r2 S3 => V0 ∧ V1 ∧ pK S3 87 = 11 ∧ wpX12_probe S3 87 x v (fun r6 S7 => jRE K r2 r6 S7)) := by
  obtain ⟨pb, P, ss, ds, σ, n, tx, m, ec, ep, hB⟩ := hL
  have hV := hB.2.2.2
  have hw := hV.1
  have hJ := hB.2.1.1
  obtain ⟨hc, hpb, hp, hss, hT, hF, hD, hn, hE⟩ := hJ
  have hJ := hB.2.1.1
  have hP0 : P 0 ≤ 7 := hw.1
  have hP1 : P 1 ≤ 8 := hw.2.1
  have hl35 : σ.2.length ≤ 35 := hT.2.2.2.2.2.2.1
  unfold wpL_probe
  refine ⟨hc.1, c_probe hJ hV (fun S1 y w hf1 hok h2 hfl hJ1 => ?_) (fun h d => ?_) (fun y hy e hno d => ?_) (fun y w hok hor d => ?_)⟩
  · have hk1 := jLK_X (frX_C hf1) hB.1
    have hC1 := jCH_X (frX_C hf1) hJ1 hB.2.1
    have hM1 := jMH_sM (sM_X (frX_C hf1) RC_87) hB.2.2.1
    refine jAN2 (Q := (fun r2 S3 => V0 ∧ V1 ∧ pK S3 87 = 11 ∧ wpX12_probe S3 87 x v (fun r6 S7 => jRE K r2 r6 S7))) hk1 hC1 hM1 (fun S3 hk3 hC3 hM3 hv => ⟨v0, v1, hM3.1.1.1, ?_⟩)
    refine m_probe hM3.1 hV (fun S' y' w' hf q0 hok' h2' hfl' hJ' => ?_) (fun S' hf q0 ho => ?_) (fun S' y' hf q0 hy' e' hno' => ?_) (fun S' y' w' hf q0 hok' hor' => ?_)
    · obtain ⟨ey, ew⟩ := dOK_eq hw hok hok'
      subst ey
      subst ew
      exact jE_ok hf (by decide) hk3 hC3 hJ' (mTX_mf hf (by decide) (by decide) hM3.2) (hV) hv q0 hK
    · exact False.elim (no_out hok.2.1 hok.1 (by omega) ho)
    · exact False.elim (dOK_no hw hok hy' e' hno')
    · obtain ⟨ey, ew⟩ := dOK_eq hw hok hok'
      subst ey
      subst ew
      exact False.elim (hor'.elim (fun q => by omega) (fun q => fl_no q hfl))
  · have hB3 := jLB_sk (d := d) hB
    have hM3 := hB3.2.2.1
    refine Or.inl (⟨rfl, v0, v1, hM3.1.1.1, ?_⟩)
    refine m_probe hM3.1 hV (fun S' y' w' hf q0 hok' h2' hfl' hJ' => ?_) (fun S' hf q0 ho => ?_) (fun S' y' hf q0 hy' e' hno' => ?_) (fun S' y' w' hf q0 hok' hor' => ?_)
    · exact False.elim (no_out hok'.2.1 hok'.1 (by omega) h)
    · exact jQ_ex hf (by decide) (by decide) hB3 (by decide) (by decide) q0 rfl hK
    · exact False.elim (no_out e' hy' (by omega) h)
    · exact False.elim (no_out hok'.2.1 hok'.1 (by omega) h)
  · have hB3 := jLB_sk (d := d) hB
    have hM3 := hB3.2.2.1
    refine Or.inr (Or.inl (⟨rfl, v0, v1, hM3.1.1.1, ?_⟩))
    refine m_probe hM3.1 hV (fun S' y' w' hf q0 hok' h2' hfl' hJ' => ?_) (fun S' hf q0 ho => ?_) (fun S' y' hf q0 hy' e' hno' => ?_) (fun S' y' w' hf q0 hok' hor' => ?_)
    · exact False.elim (dOK_no hw hok' hy e hno)
    · exact False.elim (no_out e hy (by omega) ho)
    · exact jQ_ex hf (by decide) (by decide) hB3 (by decide) (by decide) q0 rfl hK
    · exact False.elim (dOK_no hw hok' hy e hno)
  · have hB3 := jLB_sk (d := d) hB
    have hM3 := hB3.2.2.1
    refine Or.inr (Or.inr (⟨rfl, v0, v1, hM3.1.1.1, ?_⟩))
    refine m_probe hM3.1 hV (fun S' y' w' hf q0 hok' h2' hfl' hJ' => ?_) (fun S' hf q0 ho => ?_) (fun S' y' hf q0 hy' e' hno' => ?_) (fun S' y' w' hf q0 hok' hor' => ?_)
    · obtain ⟨ey, ew⟩ := dOK_eq hw hok hok'
      subst ey
      subst ew
      exact False.elim (hor.elim (fun q => by omega) (fun q => fl_no q hfl'))
    · exact False.elim (no_out hok.2.1 hok.1 (by omega) ho)
    · exact False.elim (dOK_no hw hok hy' e' hno')
    · exact jQ_ex hf (by decide) (by decide) hB3 (by decide) (by decide) q0 rfl hK
theorem L_forbid {K : PS → Prop} {S : PS} {x v : Int32} {V0 : Prop} {V1 : Prop} (v0 : V0) (v1 : V1) (hL : jLI S) (hK : ∀ S', jLI S' → K S') : wpL_forbid S 0 x v 105 (fun r2 S3 => V0 ∧ V1 ∧ pK S3 87 = 11 ∧ wpX12_forbid S3 87 x v (fun r6 S7 => jRE K r2 r6 S7)) := by
  obtain ⟨pb, P, ss, ds, σ, n, tx, m, ec, ep, hB⟩ := hL
  have hV := hB.2.2.2
  have hw := hV.1
  have hJ := hB.2.1.1
  obtain ⟨hc, hpb, hp, hss, hT, hF, hD, hn, hE⟩ := hJ
  have hJ := hB.2.1.1
  have hP0 : P 0 ≤ 7 := hw.1
  have hP1 : P 1 ≤ 8 := hw.2.1
  have hl35 : σ.2.length ≤ 35 := hT.2.2.2.2.2.2.1
  unfold wpL_forbid
  refine ⟨hc.1, c_forbid hJ hV (fun S1 y w hf1 hok hz hfl hJ1 => ?_) (fun h d => ?_) (fun y hy e hno d => ?_) (fun y w hok hor d => ?_)⟩
  · have hk1 := jLK_X (frX_C hf1) hB.1
    have hC1 := jCH_X (frX_C hf1) hJ1 hB.2.1
    have hM1 := jMH_sM (sM_X (frX_C hf1) RC_87) hB.2.2.1
    refine jAN2 (Q := (fun r2 S3 => V0 ∧ V1 ∧ pK S3 87 = 11 ∧ wpX12_forbid S3 87 x v (fun r6 S7 => jRE K r2 r6 S7))) hk1 hC1 hM1 (fun S3 hk3 hC3 hM3 hv => ⟨v0, v1, hM3.1.1.1, ?_⟩)
    refine m_forbid hM3.1 hV (fun S' y' w' hf q0 hok' hz' hfl' hJ' => ?_) (fun S' hf q0 ho => ?_) (fun S' y' hf q0 hy' e' hno' => ?_) (fun S' y' w' hf q0 hok' hor' => ?_)
    · obtain ⟨ey, ew⟩ := dOK_eq hw hok hok'
      subst ey
      subst ew
      have hVp := VI_prE (VI_fb hV hz hok.1 hok.2.2.1 hok.2.2.2.2)
      rw [hz] at hVp
      exact jE_ok hf (by decide) hk3 hC3 hJ' (mTX_mf hf (by decide) (by decide) hM3.2) (hVp) hv q0 hK
    · exact False.elim (no_out hok.2.1 hok.1 (by omega) ho)
    · exact False.elim (dOK_no hw hok hy' e' hno')
    · obtain ⟨ey, ew⟩ := dOK_eq hw hok hok'
      subst ey
      subst ew
      exact False.elim (hor'.elim (fun q => by omega) (fun q => fl_no q hfl))
  · have hB3 := jLB_sk (d := d) hB
    have hM3 := hB3.2.2.1
    refine Or.inl (⟨rfl, v0, v1, hM3.1.1.1, ?_⟩)
    refine m_forbid hM3.1 hV (fun S' y' w' hf q0 hok' hz' hfl' hJ' => ?_) (fun S' hf q0 ho => ?_) (fun S' y' hf q0 hy' e' hno' => ?_) (fun S' y' w' hf q0 hok' hor' => ?_)
    · exact False.elim (no_out hok'.2.1 hok'.1 (by omega) h)
    · exact jQ_ex hf (by decide) (by decide) hB3 (by decide) (by decide) q0 rfl hK
    · exact False.elim (no_out e' hy' (by omega) h)
    · exact False.elim (no_out hok'.2.1 hok'.1 (by omega) h)
  · have hB3 := jLB_sk (d := d) hB
    have hM3 := hB3.2.2.1
    refine Or.inr (Or.inl (⟨rfl, v0, v1, hM3.1.1.1, ?_⟩))
    refine m_forbid hM3.1 hV (fun S' y' w' hf q0 hok' hz' hfl' hJ' => ?_) (fun S' hf q0 ho => ?_) (fun S' y' hf q0 hy' e' hno' => ?_) (fun S' y' w' hf q0 hok' hor' => ?_)
    · exact False.elim (dOK_no hw hok' hy e hno)
    · exact False.elim (no_out e hy (by omega) ho)
    · exact jQ_ex hf (by decide) (by decide) hB3 (by decide) (by decide) q0 rfl hK
    · exact False.elim (dOK_no hw hok' hy e hno)
  · have hB3 := jLB_sk (d := d) hB
    have hM3 := hB3.2.2.1
    refine Or.inr (Or.inr (⟨rfl, v0, v1, hM3.1.1.1, ?_⟩))
    refine m_forbid hM3.1 hV (fun S' y' w' hf q0 hok' hz' hfl' hJ' => ?_) (fun S' hf q0 ho => ?_) (fun S' y' hf q0 hy' e' hno' => ?_) (fun S' y' w' hf q0 hok' hor' => ?_)
    · obtain ⟨ey, ew⟩ := dOK_eq hw hok hok'
      subst ey
      subst ew
      exact False.elim (hor.elim (fun q => by omega) (fun q => fl_no q hfl'))
    · exact False.elim (no_out hok.2.1 hok.1 (by omega) ho)
    · exact False.elim (dOK_no hw hok hy' e' hno')
    · exact jQ_ex hf (by decide) (by decide) hB3 (by decide) (by decide) q0 rfl hK
theorem L_back {K : PS → Prop} {S : PS} (hL : jLI S) (hK : ∀ S', jLI S' → K S') : wpL_back S 0 105 (fun r2 S3 => pK S3 87 = 11 ∧ wpX12_back S3 87 (fun r6 S7 => jRE K r2 r6 S7)) := by
  obtain ⟨pb, P, ss, ds, σ, n, tx, m, ec, ep, hB⟩ := hL
  have hV := hB.2.2.2
  have hw := hV.1
  have hJ := hB.2.1.1
  obtain ⟨hc, hpb, hp, hss, hT, hF, hD, hn, hE⟩ := hJ
  have hJ := hB.2.1.1
  have hP0 : P 0 ≤ 7 := hw.1
  have hP1 : P 1 ≤ 8 := hw.2.1
  have hl35 : σ.2.length ≤ 35 := hT.2.2.2.2.2.2.1
  unfold wpL_back
  refine ⟨hc.1, c_back hJ hV (fun S1 hf1 h0 hJ1 => ?_) (fun h d => ?_)⟩
  · have hk1 := jLK_X (frX_C hf1) hB.1
    have hC1 := jCH_X (frX_C hf1) hJ1 hB.2.1
    have hM1 := jMH_sM (sM_X (frX_C hf1) RC_87) hB.2.2.1
    refine jAN2 (Q := (fun r2 S3 => pK S3 87 = 11 ∧ wpX12_back S3 87 (fun r6 S7 => jRE K r2 r6 S7))) hk1 hC1 hM1 (fun S3 hk3 hC3 hM3 hv => ⟨hM3.1.1.1, ?_⟩)
    refine m_back hM3.1 hV (fun S' hf q0 h0' hJ' => ?_) (fun S' hf q0 ho => ?_)
    · exact jE_ok hf (by decide) hk3 hC3 hJ' (mTX_mf hf (by decide) (by decide) hM3.2) ((VI_back hV h0).1) hv q0 hK
    · exact False.elim ((by omega : False))
  · have hB3 := jLB_sk (d := d) hB
    have hM3 := hB3.2.2.1
    refine ⟨rfl, hM3.1.1.1, ?_⟩
    refine m_back hM3.1 hV (fun S' hf q0 h0' hJ' => ?_) (fun S' hf q0 ho => ?_)
    · exact False.elim ((by omega : False))
    · exact jQ_ex hf (by decide) (by decide) hB3 (by decide) (by decide) q0 rfl hK
theorem L_learn {K : PS → Prop} {S : PS} (hL : jLI S) (hK : ∀ S', jLI S' → K S') : wpL_learn S 0 105 (fun r2 S3 => pK S3 87 = 11 ∧ wpX12_learn S3 87 (fun r6 S7 => jRE K r2 r6 S7)) := by
  obtain ⟨pb, P, ss, ds, σ, n, tx, m, ec, ep, hB⟩ := hL
  have hV := hB.2.2.2
  have hw := hV.1
  have hJ := hB.2.1.1
  obtain ⟨hc, hpb, hp, hss, hT, hF, hD, hn, hE⟩ := hJ
  have hJ := hB.2.1.1
  have hP0 : P 0 ≤ 7 := hw.1
  have hP1 : P 1 ≤ 8 := hw.2.1
  have hl35 : σ.2.length ≤ 35 := hT.2.2.2.2.2.2.1
  unfold wpL_learn
  refine ⟨hc.1, c_learn hJ hV (fun S1 hf1 h0 hfl hJ1 => ?_) (fun h d => ?_)⟩
  · have hk1 := jLK_X hf1 hB.1
    have hC1 := jCH_X hf1 hJ1 hB.2.1
    have hM1 := jMH_sM (sM_X hf1 RC_87) hB.2.2.1
    refine jAN2 (Q := (fun r2 S3 => pK S3 87 = 11 ∧ wpX12_learn S3 87 (fun r6 S7 => jRE K r2 r6 S7))) hk1 hC1 hM1 (fun S3 hk3 hC3 hM3 hv => ⟨hM3.1.1.1, ?_⟩)
    refine m_learn hM3.1 hV (fun S' hf q0 h0' hfl' hJ' => ?_) (fun S' hf q0 ho => ?_)
    · exact jE_ok hf (by decide) hk3 hC3 hJ' (mTX_mf hf (by decide) (by decide) hM3.2) (VI_lrn hV h0) hv q0 hK
    · exact False.elim (ho.elim (fun q => by omega) (fun q => fl_no hfl q))
  · have hB3 := jLB_sk (d := d) hB
    have hM3 := hB3.2.2.1
    refine ⟨rfl, hM3.1.1.1, ?_⟩
    refine m_learn hM3.1 hV (fun S' hf q0 h0' hfl' hJ' => ?_) (fun S' hf q0 ho => ?_)
    · exact False.elim (h.elim (fun q => by omega) (fun q => fl_no hfl' q))
    · exact jQ_ex hf (by decide) (by decide) hB3 (by decide) (by decide) q0 rfl hK
theorem no_out1 {x : Int32} {k : Nat} (h : x = nI k) (h0 : 0 < k) (hk : k < 101) (ho : x < nI 1 ∨ nI 101 ≤ x) : False := by
  rw [h, o_lt (by omega) (by omega), o_le (by omega) (by omega)] at ho
  omega
theorem L_search {K : PS → Prop} {S : PS} {x : Int32} {V0 : Prop} (v0 : V0) (hL : jLI S) (hK : ∀ S', jLI S' → K S') : wpL_search S 0 x 105 (fun r2 S3 => V0 ∧ pK S3 87 = 11 ∧ wpX12_search S3 87 x (fun r6 S7 => jRE K r2 r6 S7)) := by
  obtain ⟨pb, P, ss, ds, σ, n, tx, m, ec, ep, hB⟩ := hL
  have hV := hB.2.2.2
  have hw := hV.1
  have hJ := hB.2.1.1
  obtain ⟨hc, hpb, hp, hss, hT, hF, hD, hn, hE⟩ := hJ
  have hJ := hB.2.1.1
  have hP0 : P 0 ≤ 7 := hw.1
  have hP1 : P 1 ≤ 8 := hw.2.1
  have hl35 : σ.2.length ≤ 35 := hT.2.2.2.2.2.2.1
  unfold wpL_search
  refine ⟨hc.1, c_search hJ hV (fun S1 k hf1 h0 hk e hJ1 => ?_) (fun h d => ?_)⟩
  · have hk1 := jLK_X hf1 hB.1
    have hC1 := jCH_X hf1 hJ1 hB.2.1
    have hM1 := jMH_sM (sM_X hf1 RC_87) hB.2.2.1
    refine jAN2 (Q := (fun r2 S3 => V0 ∧ pK S3 87 = 11 ∧ wpX12_search S3 87 x (fun r6 S7 => jRE K r2 r6 S7))) hk1 hC1 hM1 (fun S3 hk3 hC3 hM3 hv => ⟨v0, hM3.1.1.1, ?_⟩)
    refine m_search hM3.1 hV (fun S' k' hf q0 h0' hk' e' hJ' => ?_) (fun S' hf q0 ho => ?_)
    · have ee : k = k' := eq_k e e' (by omega) (by omega)
      subst ee
      exact jE_ok hf (by decide) hk3 hC3 hJ' (mTX_mf hf (by decide) (by decide) hM3.2) (VI_srch 300 0 ss ds σ n hV) hv q0 hK
    · exact False.elim (no_out1 e h0 hk ho)
  · have hB3 := jLB_sk (d := d) hB
    have hM3 := hB3.2.2.1
    refine ⟨rfl, v0, hM3.1.1.1, ?_⟩
    refine m_search hM3.1 hV (fun S' k' hf q0 h0' hk' e' hJ' => ?_) (fun S' hf q0 ho => ?_)
    · exact False.elim (no_out1 e' h0' hk' h)
    · exact jQ_ex hf (by decide) (by decide) hB3 (by decide) (by decide) q0 rfl hK
theorem L_append {K : PS → Prop} {S : PS} {a b c d e : Int32} {V0 : Prop} {V1 : Prop} {V2 : Prop} {V3 : Prop} {V4 : Prop} (v0 : V0) (v1 : V1) (v2 : V2) (v3 : V3) (v4 : V4) (hL : jLI S) (hK : ∀ S', jLI S' → K S') : wpL_append S 0 a b c d e 105 (fun r2 S3 => V0 ∧ V1 ∧ V2 ∧ V3 ∧ V4 ∧ pK S3 87 = 11 ∧ wpX12_append S3 87 a b c d e (fun r6 S7 => jRE K r2 r6 S7)) := by
  obtain ⟨pb, P, ss, ds, σ, n, tx, m, ec, ep, hB⟩ := hL
  have hV := hB.2.2.2
  have hw := hV.1
  have hJ := hB.2.1.1
  obtain ⟨hc, hpb, hp, hss, hT, hF, hD, hn, hE⟩ := hJ
  have hJ := hB.2.1.1
  have h600 : m ≤ 600 := hB.2.1.2.1.2.1
  have hP0 : P 0 ≤ 7 := hw.1
  have hP1 : P 1 ≤ 8 := hw.2.1
  have hl35 : σ.2.length ≤ 35 := hT.2.2.2.2.2.2.1
  unfold wpL_append
  refine ⟨hc.1, c_append hc hB.2.1.2.1 (fun S1 hf1 hn1 hx1 => ?_) (fun h d => ?_)⟩
  · have hk1 := jLK_fr hf1 hB.1
    have hC1 : jCH S1 pb P ss ds σ n (apT tx m (w5 a b c d e)) (m + 20) ec ep := ⟨CJ_fr12 hf1 hJ, hx1, bPR_fr hf1 hB.2.1.2.2⟩
    have hM1 := jMH_sM (sM_fr hf1 (by decide)) hB.2.2.1
    refine jAN2 (Q := (fun r2 S3 => V0 ∧ V1 ∧ V2 ∧ V3 ∧ V4 ∧ pK S3 87 = 11 ∧ wpX12_append S3 87 a b c d e (fun r6 S7 => jRE K r2 r6 S7))) hk1 hC1 hM1 (fun S3 hk3 hC3 hM3 hv => ⟨v0, v1, v2, v3, v4, hM3.1.1.1, ?_⟩)
    refine m_append hM3.1.1 h600 hM3.2 (fun S' hf q0 hn1' hx1' => ?_) (fun S' hf q0 ho => ?_)
    · exact jE_ok hf (by decide) hk3 hC3 (MJ_mf hf (by decide) (by decide) hM3.1) (hx1') (hV) hv q0 hK
    · exact False.elim ((by omega : False))
  · have hB3 := jLB_sk (d := d) hB
    have hM3 := hB3.2.2.1
    refine ⟨rfl, v0, v1, v2, v3, v4, hM3.1.1.1, ?_⟩
    refine m_append hM3.1.1 h600 hM3.2 (fun S' hf q0 hn1' hx1' => ?_) (fun S' hf q0 ho => ?_)
    · exact False.elim ((by omega : False))
    · exact jQ_ex hf (by decide) (by decide) hB3 (by decide) (by decide) q0 rfl hK
theorem L_truncate {K : PS → Prop} {S : PS} {x : Int32} {V0 : Prop} (v0 : V0) (hL : jLI S) (hK : ∀ S', jLI S' → K S') : wpL_truncate S 0 x 105 (fun r2 S3 => V0 ∧ pK S3 87 = 11 ∧ wpX12_truncate S3 87 x (fun r6 S7 => jRE K r2 r6 S7)) := by
  obtain ⟨pb, P, ss, ds, σ, n, tx, m, ec, ep, hB⟩ := hL
  have hV := hB.2.2.2
  have hw := hV.1
  have hJ := hB.2.1.1
  obtain ⟨hc, hpb, hp, hss, hT, hF, hD, hn, hE⟩ := hJ
  have hJ := hB.2.1.1
  have h600 : m ≤ 600 := hB.2.1.2.1.2.1
  have hP0 : P 0 ≤ 7 := hw.1
  have hP1 : P 1 ≤ 8 := hw.2.1
  have hl35 : σ.2.length ≤ 35 := hT.2.2.2.2.2.2.1
  unfold wpL_truncate
  refine ⟨hc.1, c_truncate hc hB.2.1.2.1 (fun S1 k hf1 hk e hx1 => ?_) (fun h d => ?_)⟩
  · have hf2 : fr [1, 2] S S1 := fr_m (by decide) hf1
    have hk1 := jLK_fr hf2 hB.1
    have hC1 : jCH S1 pb P ss ds σ n tx k ec ep := ⟨CJ_fr12 hf2 hJ, hx1, bPR_fr hf2 hB.2.1.2.2⟩
    have hM1 := jMH_sM (sM_fr hf2 (by decide)) hB.2.2.1
    refine jAN2 (Q := (fun r2 S3 => V0 ∧ pK S3 87 = 11 ∧ wpX12_truncate S3 87 x (fun r6 S7 => jRE K r2 r6 S7))) hk1 hC1 hM1 (fun S3 hk3 hC3 hM3 hv => ⟨v0, hM3.1.1.1, ?_⟩)
    refine m_truncate hM3.1.1 h600 hM3.2 (fun S' k' hf q0 hk' e' hx1' => ?_) (fun S' hf q0 ho => ?_)
    · have ee : k = k' := eq_k e e' (by omega) (by omega)
      subst ee
      exact jE_ok hf (by decide) hk3 hC3 (MJ_mf hf (by decide) (by decide) hM3.1) (hx1') (hV) hv q0 hK
    · exact False.elim (no_out e (Nat.lt_succ_of_le hk) (by omega) ho)
  · have hB3 := jLB_sk (d := d) hB
    have hM3 := hB3.2.2.1
    refine ⟨rfl, v0, hM3.1.1.1, ?_⟩
    refine m_truncate hM3.1.1 h600 hM3.2 (fun S' k' hf q0 hk' e' hx1' => ?_) (fun S' hf q0 ho => ?_)
    · exact False.elim (no_out e' (Nat.lt_succ_of_le hk') (by omega) h)
    · exact jQ_ex hf (by decide) (by decide) hB3 (by decide) (by decide) q0 rfl hK
theorem L_restart {K : PS → Prop} {S : PS} (hL : jLI S) (hK : ∀ S', jLI S' → K S') : pK S 0 = 10 ∧ wpX11_restart S 0 (fun r2 S3 => pK S3 87 = 11 ∧ wpX12_restart S3 87 (fun r5 S6 => (r2 = r5 → K S6) ∧ (¬ r2 = r5 → False))) := by
  obtain ⟨pb, P, ss, ds, σ, n, tx, m, ec, ep, hB⟩ := hL
  have hV := hB.2.2.2
  have hw := hV.1
  have hJ := hB.2.1.1
  obtain ⟨hc, hpb, hp, hss, hT, hF, hD, hn, hE⟩ := hJ
  have hJ := hB.2.1.1
  have hP0 : P 0 ≤ 7 := hw.1
  have hP1 : P 1 ≤ 8 := hw.2.1
  have hl35 : σ.2.length ≤ 35 := hT.2.2.2.2.2.2.1
  refine ⟨hc.1, c_restart hJ hV (fun S1 hf1 hJ1 => ?_)⟩
  have hk1 := jLK_X (frX_C hf1) hB.1
  have hC1 := jCH_X (frX_C hf1) hJ1 hB.2.1
  have hM1 := jMH_sM (sM_X (frX_C hf1) RC_87) hB.2.2.1
  have hVr := (VI_rs ds.length ds σ (VI_ss hV (ss' := []) (fun i hi => absurd hi (Nat.not_lt_zero _)) (by decide)) (Nat.le_refl _)).1
  exact ⟨hM1.1.1.1, m_restart hM1.1 hV (fun S' hf q0 hJ' => ⟨fun _ => hK _ (jLI_e hf (by decide) hk1 hC1 hJ' (mTX_mf hf (by decide) (by decide) hM1.2) hVr), fun q => absurd rfl q⟩)⟩
theorem L_load {K : PS → Prop} {S : PS} (hL : jLI S) (hK : ∀ S', jLI S' → K S') : wpL_load S 0 105 (fun r2 S3 => pK S3 87 = 11 ∧ wpX12_load S3 87 (fun r6 S7 => jRE K r2 r6 S7)) := by
  obtain ⟨pb, P, ss, ds, σ, n, tx, m, ec, ep, hB⟩ := hL
  have hV := hB.2.2.2
  have hw := hV.1
  have hJ := hB.2.1.1
  obtain ⟨hc, hpb, hp, hss, hT, hF, hD, hn, hE⟩ := hJ
  have hJ := hB.2.1.1
  have hP0 : P 0 ≤ 7 := hw.1
  have hP1 : P 1 ≤ 8 := hw.2.1
  have hl35 : σ.2.length ≤ 35 := hT.2.2.2.2.2.2.1
  have hx := hB.2.1.2.1
  have hN := hB.1.1
  unfold wpL_load
  refine ⟨hc.1, c_load hc ⟨hx.1, hx.2.1, hx.2.2.1⟩ hN (fun S1 c1 e1 hr ho hc1 t1 t2 t3 d => ?_) (fun S1 pb1 P1 p1 hr ho hw1 hJ1 hb1 t1 t2 t3 => ?_)⟩
  · obtain ⟨hJ1, hb1⟩ := CJ_oF ho hN hc1 hB.2.1.2.2 hJ
    have hk1 := jLK_X (A := []) ⟨d, fr_r _ _⟩ (jLK_oF ho hB.1)
    have hM1 := jMH_sM (sM_oF ho hN (by decide) (by decide)) hB.2.2.1
    have hM3 : jMH (sSkip S1 d) P ss ds σ n tx m ec ep := hM1
    have hC3 : jCH (sSkip S1 d) pb P ss ds σ n tx 0 (nI c1) (nI e1) := ⟨hJ1, ⟨t1, by decide, fun i hi => absurd hi (Nat.not_lt_zero _), t2, t3⟩, bPR_X (A := []) ⟨d, fr_r _ _⟩ hb1⟩
    refine ⟨rfl, hM3.1.1.1, m_load hM3.1.1 hM3.2.1 hx.2.1 (fun i hi => ⟨hM3.2.2.1 i hi, (hx.2.2.1 i hi).2⟩) (fun S' c2 e2 hr' hf q0 u1 u2 u3 => ?_) (fun S' P2 p2 hr' hf hw2 hJ' q0 u1 u2 u3 => ?_)⟩
    · rw [hr] at hr'
      have q1 : c1 = c2 := congrArg Prod.fst (Sum.inl.inj hr')
      have q2 : e1 = e2 := congrArg Prod.snd (Sum.inl.inj hr')
      subst q1
      subst q2
      have hJ' : MJ S' P ss ds σ n := MJ_mf hf (by decide) (by decide) hM3.1
      exact jRE_ex hJ'.1 (by decide) (by decide) q0 rfl (hK _ (jLI_e hf (by decide) hk1 hC3 hJ' ⟨u1, fun i hi => absurd hi (Nat.not_lt_zero _), u2, u3⟩ hV))
    · rw [hr] at hr'
      exact (er_ok hr').elim
  · have hk1 := jLK_oF ho hB.1
    have hM1 := jMH_sM (sM_oF ho hN (fun a ha => by have := List.mem_range.mp ha; omega) (by decide)) hB.2.2.1
    have hC1 : jCH S1 pb1 P1 [] [] (prE P1 [] 0 (fun x => P1 (2 + x), [])) 0 tx 0 (nI 0) ngI := ⟨hJ1, ⟨t1, by decide, fun i hi => absurd hi (Nat.not_lt_zero _), t2, t3⟩, hb1⟩
    refine jAN2 (Q := (fun r2 S3 => pK S3 87 = 11 ∧ wpX12_load S3 87 (fun r6 S7 => jRE K r2 r6 S7))) hk1 hC1 hM1 (fun S3 hk3 hC3 hM3 hv => ⟨hM3.1.1.1, m_load hM3.1.1 hM3.2.1 hx.2.1 (fun i hi => ⟨hM3.2.2.1 i hi, (hx.2.2.1 i hi).2⟩) (fun S' c2 e2 hr' hf q0 u1 u2 u3 => ?_) (fun S' P2 p2 hr' hf hw2 hJ' q0 u1 u2 u3 => ?_)⟩)
    · rw [hr] at hr'
      exact (ok_er hr').elim
    · rw [hr] at hr'
      have q1 : P1 = P2 := congrArg Prod.fst (Sum.inr.inj hr')
      subst q1
      exact jE_ok hf (by decide) hk3 hC3 hJ' ⟨u1, fun i hi => absurd hi (Nat.not_lt_zero _), u2, u3⟩ (VI_ld hw1) hv q0 hK

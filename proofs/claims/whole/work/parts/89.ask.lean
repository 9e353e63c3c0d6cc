/-! THE LAW'S CALLS: ends -/
theorem no_out {x : Int32} {k N : Nat} (h : x = nI k) (hk : k < N) (hN : N < 100000) (ho : x < nI 0 ∨ nI N ≤ x) : False := by
  rw [h, o_lt (by omega) (by omega), o_le (by omega) (by omega)] at ho
  omega
theorem eq_k {x : Int32} {k j : Nat} (h : x = nI k) (hj : x = nI j) (hk : k < 100000) (hjj : j < 100000) : k = j := by
  rw [h, o_eq (by omega) (by omega)] at hj
  exact hj
theorem l_in {S : PS} {a : Nat} (h : pL S a = 1) : vp_in (0 : Int32) (pL S a) := by
  rw [h, c_0, o_inT (by decide) (by decide)]
  trivial
def jRE (K : PS → Prop) (r2 r6 : Int32) (S7 : PS) : Prop := pK S7 87 = 11 ∧ wpX12_thrown S7 87 (fun r9 S10 => (r9 = r2 → (¬ r2 = 0 → K S10) ∧ (r2 = 0 → (pK S10 105 = 14 ∧ (vp_in (0 : Int32) (pL S10 105) ∧ (((lg_cmp (pJ S10 105 ((0 : Int32)).toNatClampNeg) (r6.toInt64)) = 0 → K S10) ∧ (¬ (lg_cmp (pJ S10 105 ((0 : Int32)).toNatClampNeg) (r6.toInt64)) = 0 → False)))))) ∧ (¬ r9 = r2 → False))
theorem jRE_ok {K : PS → Prop} {r6 : Int32} {S7 : PS} (hM : MShape S7) (hk : jLK S7) (h0 : pI S7 87 0 = nI 0) (hv : pJ S7 105 ((0 : Int32)).toNatClampNeg = r6.toInt64) (hK : K S7) : jRE K (0 : Int32) r6 S7 := by
  unfold jRE wpX12_thrown
  refine ⟨hM.1, hM.1, fun _ => ⟨fun q => absurd rfl q, fun _ => ⟨hk.2.1, l_in hk.2.2.1, fun _ => hK, fun q => absurd ((lg_cmp_eq _ _).mpr hv) q⟩⟩, fun q => absurd h0 q⟩
theorem jRE_ex {K : PS → Prop} {r2 r6 : Int32} {S7 : PS} {t : Nat} (hM : MShape S7) (ht : 0 < t) (ht2 : t < 10) (h0 : pI S7 87 0 = nI t) (hr : r2 = nI t) (hK : K S7) : jRE K r2 r6 S7 := by
  have hne : ¬ r2 = 0 := fun q => by
    rw [hr, c_0, o_eq (by omega) (by decide)] at q
    omega
  unfold jRE wpX12_thrown
  refine ⟨hM.1, hM.1, fun _ => ⟨fun _ => hK, fun q => absurd q hne⟩, fun q => absurd (h0.trans hr.symm) q⟩
theorem jAN {Q : Int32 → PS → Prop} {r : Int32} {S : PS} {pb : Nat} {P : Nat → Nat} {ss : List Nat} {ds : List (Nat × Nat)} {σ : St} {n : Nat} {tx : Nat → Nat} {m : Nat} {ec ep : Int32} (hB : jLB S pb P ss ds σ n tx m ec ep) (h : ∀ S3, jLB S3 pb P ss ds σ n tx m ec ep → pJ S3 105 ((0 : Int32)).toNatClampNeg = r.toInt64 → Q (0 : Int32) S3) : pK S 105 = 14 ∧ (vp_in (0 : Int32) (pL S 105) ∧ Q (0 : Int32) (sJ S 105 ((0 : Int32)).toNatClampNeg (r.toInt64))) := ⟨hB.1.2.1, l_in hB.1.2.2.1, h _ (jLB_put (by decide) hB) (pJ_put _ _ _ _)⟩
theorem jQ_ok {A F : List Nat} {K : PS → Prop} {r : Int32} {S S' : PS} {pb : Nat} {P : Nat → Nat} {ss : List Nat} {ds : List (Nat × Nat)} {σ : St} {n : Nat} {tx : Nat → Nat} {m : Nat} {ec ep : Int32} (hf : mf A F S S') (hA : ∀ a, a ∈ 87 :: A → a = 87 ∨ 96 ≤ a ∧ a < 105) (hF : ∀ k, k ∈ F → k = 0) (hB : jLB S pb P ss ds σ n tx m ec ep) (hv : pJ S 105 ((0 : Int32)).toNatClampNeg = r.toInt64) (h0 : pI S' 87 0 = nI 0) (hK : ∀ S', jLI S' → K S') : jRE K (0 : Int32) r S' := by
  have h5 : 105 ∉ 87 :: A := fun q => by have := hA 105 q; omega
  exact jRE_ok (hf.M hB.2.2.1.1.1) (jLK_fr hf.1 hB.1) h0 (by rw [hf.1.J h5]; exact hv) (hK _ (jLI_q hf hA hF hB))
theorem jQ_ex {A F : List Nat} {K : PS → Prop} {r2 r : Int32} {S S' : PS} {t : Nat} {pb : Nat} {P : Nat → Nat} {ss : List Nat} {ds : List (Nat × Nat)} {σ : St} {n : Nat} {tx : Nat → Nat} {m : Nat} {ec ep : Int32} (hf : mf A F S S') (hA : ∀ a, a ∈ 87 :: A → a = 87 ∨ 96 ≤ a ∧ a < 105) (hF : ∀ k, k ∈ F → k = 0) (hB : jLB S pb P ss ds σ n tx m ec ep) (ht : 0 < t) (ht2 : t < 10) (h0 : pI S' 87 0 = nI t) (hr : r2 = nI t) (hK : ∀ S', jLI S' → K S') : jRE K r2 r S' := jRE_ex (hf.M hB.2.2.1.1.1) ht ht2 h0 hr (hK _ (jLI_q hf hA hF hB))
theorem L_domain {K : PS → Prop} {S : PS} {x : Int32} {V0 : Prop} (v0 : V0) (hL : jLI S) (hK : ∀ S', jLI S' → K S') : wpL_domain S 0 x 105 (fun r2 S3 => V0 ∧ pK S3 87 = 11 ∧ wpX12_domain S3 87 x (fun r6 S7 => jRE K r2 r6 S7)) := by
  obtain ⟨pb, P, ss, ds, σ, n, tx, m, ec, ep, hB⟩ := hL
  have hV := hB.2.2.2
  have hw := hV.1
  have hJ := hB.2.1.1
  obtain ⟨hc, hpb, hp, hss, hT, hF, hD, hn, hE⟩ := hJ
  have hJ := hB.2.1.1
  have hP0 : P 0 ≤ 7 := hw.1
  have hP1 : P 1 ≤ 8 := hw.2.1
  have hl35 : σ.2.length ≤ 35 := hT.2.2.2.2.2.2.1
  unfold wpL_domain
  refine ⟨hc.1, c_domain hc hpb hp hw hT (fun k hk e => ?_) (fun h d => ?_)⟩
  · refine jAN (Q := (fun r2 S3 => V0 ∧ pK S3 87 = 11 ∧ wpX12_domain S3 87 x (fun r6 S7 => jRE K r2 r6 S7))) (hB) (fun S3 hB3 hv => ⟨v0, hB3.2.2.1.1.1.1, ?_⟩)
    obtain ⟨gM, gp, gss, gd, gT, gD, g8, g10, g11⟩ := hB3.2.2.1.1
    refine m_domain gM gp hw gd (fun S' k' hf q0 b e' => ?_) (fun S' hf q0 ho => ?_)
    · have ee : k = k' := eq_k e e' (by omega) (by omega)
      subst ee
      exact jQ_ok hf (by decide) (by decide) hB3 hv q0 hK
    · exact False.elim (no_out e hk (by omega) ho)
  · have hB3 := jLB_sk (d := d) (hB)
    refine ⟨rfl, v0, hB3.2.2.1.1.1.1, ?_⟩
    obtain ⟨gM, gp, gss, gd, gT, gD, g8, g10, g11⟩ := hB3.2.2.1.1
    refine m_domain gM gp hw gd (fun S' k' hf q0 b e' => ?_) (fun S' hf q0 ho => ?_)
    · exact False.elim (no_out e' b (by omega) h)
    · exact jQ_ex hf (by decide) (by decide) hB3 (by decide) (by decide) q0 rfl hK
theorem L_report {K : PS → Prop} {S : PS} {x : Int32} {V0 : Prop} (v0 : V0) (hL : jLI S) (hK : ∀ S', jLI S' → K S') : wpL_report S 0 x 105 (fun r2 S3 => V0 ∧ pK S3 87 = 11 ∧ wpX12_report S3 87 x (fun r6 S7 => jRE K r2 r6 S7)) := by
  obtain ⟨pb, P, ss, ds, σ, n, tx, m, ec, ep, hB⟩ := hL
  have hV := hB.2.2.2
  have hw := hV.1
  have hJ := hB.2.1.1
  obtain ⟨hc, hpb, hp, hss, hT, hF, hD, hn, hE⟩ := hJ
  have hJ := hB.2.1.1
  have hP0 : P 0 ≤ 7 := hw.1
  have hP1 : P 1 ≤ 8 := hw.2.1
  have hl35 : σ.2.length ≤ 35 := hT.2.2.2.2.2.2.1
  unfold wpL_report
  refine ⟨hc.1, c_report hc hpb hp hw hT hss hn (fun k hk e => ?_) (fun h d => ?_)⟩
  · refine jAN (Q := (fun r2 S3 => V0 ∧ pK S3 87 = 11 ∧ wpX12_report S3 87 x (fun r6 S7 => jRE K r2 r6 S7))) (hB) (fun S3 hB3 hv => ⟨v0, hB3.2.2.1.1.1.1, ?_⟩)
    obtain ⟨gM, gp, gss, gd, gT, gD, g8, g10, g11⟩ := hB3.2.2.1.1
    refine m_report gM gp hw gd gT gss g8 g10 g11 (fun S' k' hf q0 b e' => ?_) (fun S' hf q0 ho => ?_)
    · have ee : k = k' := eq_k e e' (by omega) (by omega)
      subst ee
      exact jQ_ok hf (by decide) (by decide) hB3 hv q0 hK
    · exact False.elim (no_out e hk (by omega) ho)
  · have hB3 := jLB_sk (d := d) (hB)
    refine ⟨rfl, v0, hB3.2.2.1.1.1.1, ?_⟩
    obtain ⟨gM, gp, gss, gd, gT, gD, g8, g10, g11⟩ := hB3.2.2.1.1
    refine m_report gM gp hw gd gT gss g8 g10 g11 (fun S' k' hf q0 b e' => ?_) (fun S' hf q0 ho => ?_)
    · exact False.elim (no_out e' b (by omega) h)
    · exact jQ_ex hf (by decide) (by decide) hB3 (by decide) (by decide) q0 rfl hK
theorem L_constraint {K : PS → Prop} {S : PS} {c x : Int32} {V0 : Prop} {V1 : Prop} (v0 : V0) (v1 : V1) (hL : jLI S) (hK : ∀ S', jLI S' → K S') : wpL_constraint S 0 c x 105 (fun r2 S3 => V0 ∧ V1 ∧ pK S3 87 = 11 ∧ wpX12_constraint_ S3 87 c x (fun r6 S7 => jRE K r2 r6 S7)) := by
  obtain ⟨pb, P, ss, ds, σ, n, tx, m, ec, ep, hB⟩ := hL
  have hV := hB.2.2.2
  have hw := hV.1
  have hJ := hB.2.1.1
  obtain ⟨hc, hpb, hp, hss, hT, hF, hD, hn, hE⟩ := hJ
  have hJ := hB.2.1.1
  have hP0 : P 0 ≤ 7 := hw.1
  have hP1 : P 1 ≤ 8 := hw.2.1
  have hl35 : σ.2.length ≤ 35 := hT.2.2.2.2.2.2.1
  unfold wpL_constraint
  refine ⟨hc.1, c_constraint hc hpb hp hw hT (fun k j hk e hj e2 => ?_) (fun h d => ?_) (fun k hk e h d => ?_)⟩
  · refine jAN (Q := (fun r2 S3 => V0 ∧ V1 ∧ pK S3 87 = 11 ∧ wpX12_constraint_ S3 87 c x (fun r6 S7 => jRE K r2 r6 S7))) (hB) (fun S3 hB3 hv => ⟨v0, v1, hB3.2.2.1.1.1.1, ?_⟩)
    obtain ⟨gM, gp, gss, gd, gT, gD, g8, g10, g11⟩ := hB3.2.2.1.1
    refine m_constraint gM gp hw gT (fun S' k' j' hf q0 b1 e' b2 e2' => ?_) (fun S' hf q0 ho => ?_) (fun S' k' hf q0 b1 e' ho => ?_)
    · have ee : k = k' := eq_k e e' (by omega) (by omega)
      subst ee
      have ee : j = j' := eq_k e2 e2' (by omega) (by omega)
      subst ee
      exact jQ_ok hf (by decide) (by decide) hB3 hv q0 hK
    · exact False.elim (no_out e hk (by omega) ho)
    · exact False.elim (no_out e2 hj (by omega) ho)
  · have hB3 := jLB_sk (d := d) (hB)
    refine Or.inl (⟨rfl, v0, v1, hB3.2.2.1.1.1.1, ?_⟩)
    obtain ⟨gM, gp, gss, gd, gT, gD, g8, g10, g11⟩ := hB3.2.2.1.1
    refine m_constraint gM gp hw gT (fun S' k' j' hf q0 b1 e' b2 e2' => ?_) (fun S' hf q0 ho => ?_) (fun S' k' hf q0 b1 e' ho => ?_)
    · exact False.elim (no_out e' b1 (by omega) h)
    · exact jQ_ex hf (by decide) (by decide) hB3 (by decide) (by decide) q0 rfl hK
    · exact False.elim (no_out e' b1 (by omega) h)
  · have hB3 := jLB_sk (d := d) (hB)
    refine Or.inr (⟨rfl, v0, v1, hB3.2.2.1.1.1.1, ?_⟩)
    obtain ⟨gM, gp, gss, gd, gT, gD, g8, g10, g11⟩ := hB3.2.2.1.1
    refine m_constraint gM gp hw gT (fun S' k' j' hf q0 b1 e' b2 e2' => ?_) (fun S' hf q0 ho => ?_) (fun S' k' hf q0 b1 e' ho => ?_)
    · exact False.elim (no_out e2' b2 (by omega) h)
    · exact False.elim (no_out e hk (by omega) ho)
    · exact jQ_ex hf (by decide) (by decide) hB3 (by decide) (by decide) q0 rfl hK
theorem L_fact {K : PS → Prop} {S : PS} {c x : Int32} {V0 : Prop} {V1 : Prop} (v0 : V0) (v1 : V1) (hL : jLI S) (hK : ∀ S', jLI S' → K S') : wpL_fact S 0 c x 105 (fun r2 S3 => V0 ∧ V1 ∧ pK S3 87 = 11 ∧ wpX12_fact S3 87 c x (fun r6 S7 => jRE K r2 r6 S7)) := by
  obtain ⟨pb, P, ss, ds, σ, n, tx, m, ec, ep, hB⟩ := hL
  have hV := hB.2.2.2
  have hw := hV.1
  have hJ := hB.2.1.1
  obtain ⟨hc, hpb, hp, hss, hT, hF, hD, hn, hE⟩ := hJ
  have hJ := hB.2.1.1
  have hP0 : P 0 ≤ 7 := hw.1
  have hP1 : P 1 ≤ 8 := hw.2.1
  have hl35 : σ.2.length ≤ 35 := hT.2.2.2.2.2.2.1
  unfold wpL_fact
  refine ⟨hc.1, c_fact hc hT (fun k j hk e hj e2 => ?_) (fun h d => ?_) (fun k hk e h d => ?_)⟩
  · refine jAN (Q := (fun r2 S3 => V0 ∧ V1 ∧ pK S3 87 = 11 ∧ wpX12_fact S3 87 c x (fun r6 S7 => jRE K r2 r6 S7))) (hB) (fun S3 hB3 hv => ⟨v0, v1, hB3.2.2.1.1.1.1, ?_⟩)
    obtain ⟨gM, gp, gss, gd, gT, gD, g8, g10, g11⟩ := hB3.2.2.1.1
    refine m_fact gM gT (fun S' k' j' hf q0 b1 e' b2 e2' => ?_) (fun S' hf q0 ho => ?_) (fun S' k' hf q0 b1 e' ho => ?_)
    · have ee : k = k' := eq_k e e' (by omega) (by omega)
      subst ee
      have ee : j = j' := eq_k e2 e2' (by omega) (by omega)
      subst ee
      exact jQ_ok hf (by decide) (by decide) hB3 hv q0 hK
    · exact False.elim (no_out e hk (by omega) ho)
    · exact False.elim (no_out e2 hj (by omega) ho)
  · have hB3 := jLB_sk (d := d) (hB)
    refine Or.inl (⟨rfl, v0, v1, hB3.2.2.1.1.1.1, ?_⟩)
    obtain ⟨gM, gp, gss, gd, gT, gD, g8, g10, g11⟩ := hB3.2.2.1.1
    refine m_fact gM gT (fun S' k' j' hf q0 b1 e' b2 e2' => ?_) (fun S' hf q0 ho => ?_) (fun S' k' hf q0 b1 e' ho => ?_)
    · exact False.elim (no_out e' b1 (by omega) h)
    · exact jQ_ex hf (by decide) (by decide) hB3 (by decide) (by decide) q0 rfl hK
    · exact False.elim (no_out e' b1 (by omega) h)
  · have hB3 := jLB_sk (d := d) (hB)
    refine Or.inr (⟨rfl, v0, v1, hB3.2.2.1.1.1.1, ?_⟩)
    obtain ⟨gM, gp, gss, gd, gT, gD, g8, g10, g11⟩ := hB3.2.2.1.1
    refine m_fact gM gT (fun S' k' j' hf q0 b1 e' b2 e2' => ?_) (fun S' hf q0 ho => ?_) (fun S' k' hf q0 b1 e' ho => ?_)
    · exact False.elim (no_out e2' b2 (by omega) h)
    · exact False.elim (no_out e hk (by omega) ho)
    · exact jQ_ex hf (by decide) (by decide) hB3 (by decide) (by decide) q0 rfl hK
theorem L_factOf {K : PS → Prop} {S : PS} {x v : Int32} {V0 : Prop} {V1 : Prop} (v0 : V0) (v1 : V1) (hL : jLI S) (hK : ∀ S', jLI S' → K S') : wpL_factOf S 0 x v 105 (fun r2 S3 => V0 ∧ V1 ∧ pK S3 87 = 11 ∧ wpX12_factOf S3 87 x v (fun r6 S7 => jRE K r2 r6 S7)) := by
  obtain ⟨pb, P, ss, ds, σ, n, tx, m, ec, ep, hB⟩ := hL
  have hV := hB.2.2.2
  have hw := hV.1
  have hJ := hB.2.1.1
  obtain ⟨hc, hpb, hp, hss, hT, hF, hD, hn, hE⟩ := hJ
  have hJ := hB.2.1.1
  have hP0 : P 0 ≤ 7 := hw.1
  have hP1 : P 1 ≤ 8 := hw.2.1
  have hl35 : σ.2.length ≤ 35 := hT.2.2.2.2.2.2.1
  have hsm : Tsm σ.2 := fun i hi => ⟨(hT.2.2.2.2.2.2.2.2.2 i hi).2.1, (hT.2.2.2.2.2.2.2.2.2 i hi).2.2.1⟩
  unfold wpL_factOf
  refine ⟨hc.1, c_factOf hc hpb hp hw hT (fun y w i hk e hj e2 hi hg hm => ?_) (fun h d => ?_) (fun y hk e h d => ?_) (fun y w hk e hj e2 hm d => ?_)⟩
  · refine jAN (Q := (fun r2 S3 => V0 ∧ V1 ∧ pK S3 87 = 11 ∧ wpX12_factOf S3 87 x v (fun r6 S7 => jRE K r2 r6 S7))) (hB) (fun S3 hB3 hv => ⟨v0, v1, hB3.2.2.1.1.1.1, ?_⟩)
    obtain ⟨gM, gp, gss, gd, gT, gD, g8, g10, g11⟩ := hB3.2.2.1.1
    refine m_factOf gM gp hw gT hsm (fun S' y' w' i' hf q0 b1 e' b2 e2' hi' hg' hm' => ?_) (fun S' hf q0 ho => ?_) (fun S' y' hf q0 b1 e' ho => ?_) (fun S' y' w' hf q0 b1 e' b2 e2' hm' => ?_)
    · have ee : y = y' := eq_k e e' (by omega) (by omega)
      subst ee
      have ee : w = w' := eq_k e2 e2' (by omega) (by omega)
      subst ee
      have ei : i = i' := by
        rcases Nat.lt_trichotomy i i' with q | q | q
        · exact absurd hg (hm' i q)
        · exact q
        · exact absurd hg' (hm i' q)
      subst ei
      exact jQ_ok hf (by decide) (by decide) hB3 hv q0 hK
    · exact False.elim (no_out e hk (by omega) ho)
    · exact False.elim (no_out e2 hj (by omega) ho)
    · have ee : y = y' := eq_k e e' (by omega) (by omega)
      subst ee
      have ee : w = w' := eq_k e2 e2' (by omega) (by omega)
      subst ee
      exact False.elim (absurd hg (hm' i hi))
  · have hB3 := jLB_sk (d := d) (hB)
    refine Or.inl (⟨rfl, v0, v1, hB3.2.2.1.1.1.1, ?_⟩)
    obtain ⟨gM, gp, gss, gd, gT, gD, g8, g10, g11⟩ := hB3.2.2.1.1
    refine m_factOf gM gp hw gT hsm (fun S' y' w' i' hf q0 b1 e' b2 e2' hi' hg' hm' => ?_) (fun S' hf q0 ho => ?_) (fun S' y' hf q0 b1 e' ho => ?_) (fun S' y' w' hf q0 b1 e' b2 e2' hm' => ?_)
    · exact False.elim (no_out e' b1 (by omega) h)
    · exact jQ_ex hf (by decide) (by decide) hB3 (by decide) (by decide) q0 rfl hK
    · exact False.elim (no_out e' b1 (by omega) h)
    · exact False.elim (no_out e' b1 (by omega) h)
  · have hB3 := jLB_sk (d := d) (hB)
    refine Or.inr (Or.inl (⟨rfl, v0, v1, hB3.2.2.1.1.1.1, ?_⟩))
    obtain ⟨gM, gp, gss, gd, gT, gD, g8, g10, g11⟩ := hB3.2.2.1.1
    refine m_factOf gM gp hw gT hsm (fun S' y' w' i' hf q0 b1 e' b2 e2' hi' hg' hm' => ?_) (fun S' hf q0 ho => ?_) (fun S' y' hf q0 b1 e' ho => ?_) (fun S' y' w' hf q0 b1 e' b2 e2' hm' => ?_)
    · exact False.elim (no_out e2' b2 (by omega) h)
    · exact False.elim (no_out e hk (by omega) ho)
    · exact jQ_ex hf (by decide) (by decide) hB3 (by decide) (by decide) q0 rfl hK
    · exact False.elim (no_out e2' b2 (by omega) h)
  · have hB3 := jLB_sk (d := d) (hB)
    refine Or.inr (Or.inr (⟨rfl, v0, v1, hB3.2.2.1.1.1.1, ?_⟩))
    obtain ⟨gM, gp, gss, gd, gT, gD, g8, g10, g11⟩ := hB3.2.2.1.1
    refine m_factOf gM gp hw gT hsm (fun S' y' w' i' hf q0 b1 e' b2 e2' hi' hg' hm' => ?_) (fun S' hf q0 ho => ?_) (fun S' y' hf q0 b1 e' ho => ?_) (fun S' y' w' hf q0 b1 e' b2 e2' hm' => ?_)
    · have ee : y = y' := eq_k e e' (by omega) (by omega)
      subst ee
      have ee : w = w' := eq_k e2 e2' (by omega) (by omega)
      subst ee
      exact False.elim (absurd hg' (hm i' hi'))
    · exact False.elim (no_out e hk (by omega) ho)
    · exact False.elim (no_out e2 hj (by omega) ho)
    · exact jQ_ex hf (by decide) (by decide) hB3 (by decide) (by decide) q0 rfl hK
theorem L_explanationSize {K : PS → Prop} {S : PS} {x : Int32} {V0 : Prop} (v0 : V0) (hL : jLI S) (hK : ∀ S', jLI S' → K S') : wpL_explanationSize S 0 x 105 (fun r2 S3 => V0 ∧ pK S3 87 = 11 ∧ wpX12_explanationSize S3 87 x (fun r6 S7 => jRE K r2 r6 S7)) := by
  obtain ⟨pb, P, ss, ds, σ, n, tx, m, ec, ep, hB⟩ := hL
  have hV := hB.2.2.2
  have hw := hV.1
  have hJ := hB.2.1.1
  obtain ⟨hc, hpb, hp, hss, hT, hF, hD, hn, hE⟩ := hJ
  have hJ := hB.2.1.1
  have hP0 : P 0 ≤ 7 := hw.1
  have hP1 : P 1 ≤ 8 := hw.2.1
  have hl35 : σ.2.length ≤ 35 := hT.2.2.2.2.2.2.1
  have hk := hV.2.2.2.1.1
  unfold wpL_explanationSize
  refine ⟨hc.1, c_explanationSize hc hpb hp hw hT hk hE (fun S1 i hx hE1 hi e => ?_) (fun h d => ?_)⟩
  · refine jAN (Q := (fun r2 S3 => V0 ∧ pK S3 87 = 11 ∧ wpX12_explanationSize S3 87 x (fun r6 S7 => jRE K r2 r6 S7))) (jLB_xf hx hE1 hB) (fun S3 hB3 hv => ⟨v0, hB3.2.2.1.1.1.1, ?_⟩)
    obtain ⟨gM, gp, gss, gd, gT, gD, g8, g10, g11⟩ := hB3.2.2.1.1
    refine m_explanationSize gM gp hw gT hk (fun S' i' hf q0 hi' e' => ?_) (fun S' hf q0 ho => ?_)
    · have ee : i = i' := eq_k e e' (by omega) (by omega)
      subst ee
      exact jQ_ok hf (by decide) (by decide) hB3 hv q0 hK
    · exact False.elim (no_out e hi (by omega) ho)
  · have hB3 := jLB_sk (d := d) (hB)
    refine ⟨rfl, v0, hB3.2.2.1.1.1.1, ?_⟩
    obtain ⟨gM, gp, gss, gd, gT, gD, g8, g10, g11⟩ := hB3.2.2.1.1
    refine m_explanationSize gM gp hw gT hk (fun S' i' hf q0 hi' e' => ?_) (fun S' hf q0 ho => ?_)
    · exact False.elim (no_out e' hi' (by omega) h)
    · exact jQ_ex hf (by decide) (by decide) hB3 (by decide) (by decide) q0 rfl hK
theorem L_depth {K : PS → Prop} {S : PS} {x : Int32} {V0 : Prop} (v0 : V0) (hL : jLI S) (hK : ∀ S', jLI S' → K S') : wpL_depth S 0 x 105 (fun r2 S3 => V0 ∧ pK S3 87 = 11 ∧ wpX12_depth S3 87 x (fun r6 S7 => jRE K r2 r6 S7)) := by
  obtain ⟨pb, P, ss, ds, σ, n, tx, m, ec, ep, hB⟩ := hL
  have hV := hB.2.2.2
  have hw := hV.1
  have hJ := hB.2.1.1
  obtain ⟨hc, hpb, hp, hss, hT, hF, hD, hn, hE⟩ := hJ
  have hJ := hB.2.1.1
  have hP0 : P 0 ≤ 7 := hw.1
  have hP1 : P 1 ≤ 8 := hw.2.1
  have hl35 : σ.2.length ≤ 35 := hT.2.2.2.2.2.2.1
  have hk := hV.2.2.2.1.1
  unfold wpL_depth
  refine ⟨hc.1, c_depth hc hpb hp hw hT hk hE (fun S1 i hx hE1 hi e => ?_) (fun h d => ?_)⟩
  · refine jAN (Q := (fun r2 S3 => V0 ∧ pK S3 87 = 11 ∧ wpX12_depth S3 87 x (fun r6 S7 => jRE K r2 r6 S7))) (jLB_xf hx hE1 hB) (fun S3 hB3 hv => ⟨v0, hB3.2.2.1.1.1.1, ?_⟩)
    obtain ⟨gM, gp, gss, gd, gT, gD, g8, g10, g11⟩ := hB3.2.2.1.1
    refine m_depth gM gp hw gT hk (fun S' i' hf q0 hi' e' => ?_) (fun S' hf q0 ho => ?_)
    · have ee : i = i' := eq_k e e' (by omega) (by omega)
      subst ee
      exact jQ_ok hf (by decide) (by decide) hB3 hv q0 hK
    · exact False.elim (no_out e hi (by omega) ho)
  · have hB3 := jLB_sk (d := d) (hB)
    refine ⟨rfl, v0, hB3.2.2.1.1.1.1, ?_⟩
    obtain ⟨gM, gp, gss, gd, gT, gD, g8, g10, g11⟩ := hB3.2.2.1.1
    refine m_depth gM gp hw gT hk (fun S' i' hf q0 hi' e' => ?_) (fun S' hf q0 ho => ?_)
    · exact False.elim (no_out e' hi' (by omega) h)
    · exact jQ_ex hf (by decide) (by decide) hB3 (by decide) (by decide) q0 rfl hK
theorem L_explained {K : PS → Prop} {S : PS} {x y : Int32} {V0 : Prop} {V1 : Prop} (v0 : V0) (v1 : V1) (hL : jLI S) (hK : ∀ S', jLI S' → K S') : wpL_explained S 0 x y 105 (fun r2 S3 => V0 ∧ V1 ∧ pK S3 87 = 11 ∧ wpX12_explained S3 87 x y (fun r6 S7 => jRE K r2 r6 S7)) := by
  obtain ⟨pb, P, ss, ds, σ, n, tx, m, ec, ep, hB⟩ := hL
  have hV := hB.2.2.2
  have hw := hV.1
  have hJ := hB.2.1.1
  obtain ⟨hc, hpb, hp, hss, hT, hF, hD, hn, hE⟩ := hJ
  have hJ := hB.2.1.1
  have hP0 : P 0 ≤ 7 := hw.1
  have hP1 : P 1 ≤ 8 := hw.2.1
  have hl35 : σ.2.length ≤ 35 := hT.2.2.2.2.2.2.1
  have hk := hV.2.2.2.1.1
  unfold wpL_explained
  refine ⟨hc.1, c_explained hc hpb hp hw hT hk hE (fun S1 i k j hx hE1 hi e e2 hj hb hn1 => ?_) (fun h d => ?_) (fun S1 i hx hE1 hi e h d => ?_)⟩
  · refine jAN (Q := (fun r2 S3 => V0 ∧ V1 ∧ pK S3 87 = 11 ∧ wpX12_explained S3 87 x y (fun r6 S7 => jRE K r2 r6 S7))) (jLB_xf hx hE1 hB) (fun S3 hB3 hv => ⟨v0, v1, hB3.2.2.1.1.1.1, ?_⟩)
    obtain ⟨gM, gp, gss, gd, gT, gD, g8, g10, g11⟩ := hB3.2.2.1.1
    refine m_explained gM gp hw gT hk (fun S' i' k' j' hf q0 hi' e' hk' e2' hj' hb' hn1' => ?_) (fun S' hf q0 ho => ?_) (fun S' i' hf q0 hi' e' ho => ?_)
    · have ee : i = i' := eq_k e e' (by omega) (by omega)
      subst ee
      have l1 := cN_le (tbF σ.2 (exE P σ.2 i)) j
      have l2 := cN_le (tbF σ.2 (exE P σ.2 i)) i
      have ek : k = k' := eq_k e2 e2' (by omega) (by omega)
      have ej : j = j' := by
        rcases Nat.lt_trichotomy j j' with q | q | q
        · have := cN_lt q hb
          omega
        · exact q
        · have := cN_lt q hb'
          omega
      subst ej
      exact jQ_ok hf (by decide) (by decide) hB3 hv q0 hK
    · exact False.elim (no_out e hi (by omega) ho)
    · have ee : i = i' := eq_k e e' (by omega) (by omega)
      subst ee
      have l2 := cN_le (tbF σ.2 (exE P σ.2 i)) i
      have l3 := cN_lt hj hb
      exact False.elim (no_out e2 (by omega) (by omega) ho)
  · have hB3 := jLB_sk (d := d) (hB)
    refine ⟨rfl, v0, v1, hB3.2.2.1.1.1.1, ?_⟩
    obtain ⟨gM, gp, gss, gd, gT, gD, g8, g10, g11⟩ := hB3.2.2.1.1
    refine m_explained gM gp hw gT hk (fun S' i' k' j' hf q0 hi' e' hk' e2' hj' hb' hn1' => ?_) (fun S' hf q0 ho => ?_) (fun S' i' hf q0 hi' e' ho => ?_)
    · exact False.elim (no_out e' hi' (by omega) h)
    · exact jQ_ex hf (by decide) (by decide) hB3 (by decide) (by decide) q0 rfl hK
    · exact False.elim (no_out e' hi' (by omega) h)
  · have hB3 := jLB_sk (d := d) (jLB_xf hx hE1 hB)
    refine ⟨rfl, v0, v1, hB3.2.2.1.1.1.1, ?_⟩
    obtain ⟨gM, gp, gss, gd, gT, gD, g8, g10, g11⟩ := hB3.2.2.1.1
    refine m_explained gM gp hw gT hk (fun S' i' k' j' hf q0 hi' e' hk' e2' hj' hb' hn1' => ?_) (fun S' hf q0 ho => ?_) (fun S' i' hf q0 hi' e' ho => ?_)
    · have ee : i = i' := eq_k e e' (by omega) (by omega)
      subst ee
      have l2 := cN_le (tbF σ.2 (exE P σ.2 i)) i
      exact False.elim (no_out e2' hk' (by omega) h)
    · exact False.elim (no_out e hi (by omega) ho)
    · exact jQ_ex hf (by decide) (by decide) hB3 (by decide) (by decide) q0 rfl hK
theorem isM_no {P : Nat → Nat} {c x : Int32} {k y : Nat} (hw : Pwf P) (h : isM P c x k y) (hn : noM P c x) : False := by
  have h0 := hw.1
  obtain ⟨a, b, d, e, f⟩ := h
  have := hn k y a b (by omega) e
  rw [f] at this
  exact Bool.noConfusion this
theorem isM_eq {P : Nat → Nat} {c x : Int32} {k y k' y' : Nat} (hw : Pwf P) (h : isM P c x k y) (h' : isM P c x k' y') : k = k' ∧ y = y' := by
  have h0 := hw.1
  have h1 := hw.2.1
  obtain ⟨a, b, d, e, f⟩ := h
  obtain ⟨a', b', d', e', f'⟩ := h'
  exact ⟨eq_k b b' (by omega) (by omega), eq_k e e' (by omega) (by omega)⟩
theorem L_support {K : PS → Prop} {S : PS} {c x v y : Int32} {V0 : Prop} {V1 : Prop} {V2 : Prop} {V3 : Prop} (v0 : V0) (v1 : V1) (v2 : V2) (v3 : V3) (hL : jLI S) (hK : ∀ S', jLI S' → K S') : wpL_support S 0 c x v y 105 (fun r2 S3 => V0 ∧ V1 ∧ V2 ∧ V3 ∧ pK S3 87 = 11 ∧ wpX12_support S3 87 c x v y (fun r6 S7 => jRE K r2 r6 S7)) := by
  obtain ⟨pb, P, ss, ds, σ, n, tx, m, ec, ep, hB⟩ := hL
  have hV := hB.2.2.2
  have hw := hV.1
  have hJ := hB.2.1.1
  obtain ⟨hc, hpb, hp, hss, hT, hF, hD, hn, hE⟩ := hJ
  have hJ := hB.2.1.1
  have hP0 : P 0 ≤ 7 := hw.1
  have hP1 : P 1 ≤ 8 := hw.2.1
  have hl35 : σ.2.length ≤ 35 := hT.2.2.2.2.2.2.1
  unfold wpL_support
  refine ⟨hc.1, c_support hc hpb hp hw hT (fun k i w j a h1 h2 hj e2 hs hl => ?_) (fun h d => ?_) (fun k i j h1 h2 h d => ?_) (fun k i w j h1 h2 hj e2 hs d => ?_)⟩
  · refine jAN (Q := (fun r2 S3 => V0 ∧ V1 ∧ V2 ∧ V3 ∧ pK S3 87 = 11 ∧ wpX12_support S3 87 c x v y (fun r6 S7 => jRE K r2 r6 S7))) (hB) (fun S3 hB3 hv => ⟨v0, v1, v2, v3, hB3.2.2.1.1.1.1, ?_⟩)
    obtain ⟨gM, gp, gss, gd, gT, gD, g8, g10, g11⟩ := hB3.2.2.1.1
    refine m_support gM gp hw gd (fun S' k' i' w' j' a' hf q0 h1' h2' hj' e2' hs' hl' => ?_) (fun S' hf q0 ho => ?_) (fun S' k' i' j' hf q0 h1' h2' ho => ?_) (fun S' k' i' j' w' hf q0 h1' h2' hj' e2' hs' => ?_)
    · obtain ⟨ek, ey⟩ := isM_eq hw h1 h1'
      subst ek
      subst ey
      obtain ⟨_, ej⟩ := isM_eq hw h2 h2'
      subst ej
      have ee : w = w' := eq_k e2 e2' (by omega) (by omega)
      subst ee
      obtain ⟨z, z1, z2⟩ := inM_t.mp h2.2.2.2.2
      have ea := Lea_uq hl hl' z z1
      rw [z2] at ea
      rw [ea] at hv
      exact jQ_ok hf (by decide) (by decide) hB3 hv q0 hK
    · exact False.elim (ho.elim (fun q => isM_no hw h1 q) (fun q => isM_no hw h2 q))
    · exact False.elim (no_out e2 hj (by omega) ho)
    · obtain ⟨ek, ey⟩ := isM_eq hw h1 h1'
      subst ek
      subst ey
      obtain ⟨_, ej⟩ := isM_eq hw h2 h2'
      subst ej
      have ee : w = w' := eq_k e2 e2' (by omega) (by omega)
      subst ee
      exact False.elim (absurd hs hs')
  · have hB3 := jLB_sk (d := d) (hB)
    refine Or.inl (⟨rfl, v0, v1, v2, v3, hB3.2.2.1.1.1.1, ?_⟩)
    obtain ⟨gM, gp, gss, gd, gT, gD, g8, g10, g11⟩ := hB3.2.2.1.1
    refine m_support gM gp hw gd (fun S' k' i' w' j' a' hf q0 h1' h2' hj' e2' hs' hl' => ?_) (fun S' hf q0 ho => ?_) (fun S' k' i' j' hf q0 h1' h2' ho => ?_) (fun S' k' i' j' w' hf q0 h1' h2' hj' e2' hs' => ?_)
    · exact False.elim (h.elim (fun q => isM_no hw h1' q) (fun q => isM_no hw h2' q))
    · exact jQ_ex hf (by decide) (by decide) hB3 (by decide) (by decide) q0 rfl hK
    · exact False.elim (h.elim (fun q => isM_no hw h1' q) (fun q => isM_no hw h2' q))
    · exact False.elim (h.elim (fun q => isM_no hw h1' q) (fun q => isM_no hw h2' q))
  · have hB3 := jLB_sk (d := d) (hB)
    refine Or.inr (Or.inl (⟨rfl, v0, v1, v2, v3, hB3.2.2.1.1.1.1, ?_⟩))
    obtain ⟨gM, gp, gss, gd, gT, gD, g8, g10, g11⟩ := hB3.2.2.1.1
    refine m_support gM gp hw gd (fun S' k' i' w' j' a' hf q0 h1' h2' hj' e2' hs' hl' => ?_) (fun S' hf q0 ho => ?_) (fun S' k' i' j' hf q0 h1' h2' ho => ?_) (fun S' k' i' j' w' hf q0 h1' h2' hj' e2' hs' => ?_)
    · exact False.elim (no_out e2' hj' (by omega) h)
    · exact False.elim (ho.elim (fun q => isM_no hw h1 q) (fun q => isM_no hw h2 q))
    · exact jQ_ex hf (by decide) (by decide) hB3 (by decide) (by decide) q0 rfl hK
    · exact False.elim (no_out e2' hj' (by omega) h)
  · have hB3 := jLB_sk (d := d) (hB)
    refine Or.inr (Or.inr (⟨rfl, v0, v1, v2, v3, hB3.2.2.1.1.1.1, ?_⟩))
    obtain ⟨gM, gp, gss, gd, gT, gD, g8, g10, g11⟩ := hB3.2.2.1.1
    refine m_support gM gp hw gd (fun S' k' i' w' j' a' hf q0 h1' h2' hj' e2' hs' hl' => ?_) (fun S' hf q0 ho => ?_) (fun S' k' i' j' hf q0 h1' h2' ho => ?_) (fun S' k' i' j' w' hf q0 h1' h2' hj' e2' hs' => ?_)
    · obtain ⟨ek, ey⟩ := isM_eq hw h1 h1'
      subst ek
      subst ey
      obtain ⟨_, ej⟩ := isM_eq hw h2 h2'
      subst ej
      have ee : w = w' := eq_k e2 e2' (by omega) (by omega)
      subst ee
      exact False.elim (absurd hs' hs)
    · exact False.elim (ho.elim (fun q => isM_no hw h1 q) (fun q => isM_no hw h2 q))
    · exact False.elim (no_out e2 hj (by omega) ho)
    · exact jQ_ex hf (by decide) (by decide) hB3 (by decide) (by decide) q0 rfl hK
theorem L_watchers {K : PS → Prop} {S : PS} {x v : Int32} {V0 : Prop} {V1 : Prop} (v0 : V0) (v1 : V1) (hL : jLI S) (hK : ∀ S', jLI S' → K S') : wpL_watchers S 0 x v 105 (fun r2 S3 => V0 ∧ V1 ∧ pK S3 87 = 11 ∧ wpX12_watchers S3 87 x v (fun r6 S7 => jRE K r2 r6 S7)) := by
  obtain ⟨pb, P, ss, ds, σ, n, tx, m, ec, ep, hB⟩ := hL
  have hV := hB.2.2.2
  have hw := hV.1
  have hJ := hB.2.1.1
  obtain ⟨hc, hpb, hp, hss, hT, hF, hD, hn, hE⟩ := hJ
  have hJ := hB.2.1.1
  have hP0 : P 0 ≤ 7 := hw.1
  have hP1 : P 1 ≤ 8 := hw.2.1
  have hl35 : σ.2.length ≤ 35 := hT.2.2.2.2.2.2.1
  unfold wpL_watchers
  refine ⟨hc.1, c_watchers hc hpb hp hw hT (fun y w hk e hj e2 => ?_) (fun h d => ?_) (fun y hk e h d => ?_)⟩
  · refine jAN (Q := (fun r2 S3 => V0 ∧ V1 ∧ pK S3 87 = 11 ∧ wpX12_watchers S3 87 x v (fun r6 S7 => jRE K r2 r6 S7))) (hB) (fun S3 hB3 hv => ⟨v0, v1, hB3.2.2.1.1.1.1, ?_⟩)
    obtain ⟨gM, gp, gss, gd, gT, gD, g8, g10, g11⟩ := hB3.2.2.1.1
    refine m_watchers gM gp hw gd (fun S' y' w' hf q0 b1 e' b2 e2' => ?_) (fun ho S' hf q0 => ?_) (fun S' y' hf q0 b1 e' ho => ?_)
    · have ee : y = y' := eq_k e e' (by omega) (by omega)
      subst ee
      have ee : w = w' := eq_k e2 e2' (by omega) (by omega)
      subst ee
      exact jQ_ok hf (by decide) (by decide) hB3 hv q0 hK
    · exact False.elim (no_out e hk (by omega) ho)
    · exact False.elim (no_out e2 hj (by omega) ho)
  · have hB3 := jLB_sk (d := d) (hB)
    refine Or.inl (⟨rfl, v0, v1, hB3.2.2.1.1.1.1, ?_⟩)
    obtain ⟨gM, gp, gss, gd, gT, gD, g8, g10, g11⟩ := hB3.2.2.1.1
    refine m_watchers gM gp hw gd (fun S' y' w' hf q0 b1 e' b2 e2' => ?_) (fun ho S' hf q0 => ?_) (fun S' y' hf q0 b1 e' ho => ?_)
    · exact False.elim (no_out e' b1 (by omega) h)
    · exact jQ_ex hf (by decide) (by decide) hB3 (by decide) (by decide) q0 rfl hK
    · exact False.elim (no_out e' b1 (by omega) h)
  · have hB3 := jLB_sk (d := d) (hB)
    refine Or.inr (⟨rfl, v0, v1, hB3.2.2.1.1.1.1, ?_⟩)
    obtain ⟨gM, gp, gss, gd, gT, gD, g8, g10, g11⟩ := hB3.2.2.1.1
    refine m_watchers gM gp hw gd (fun S' y' w' hf q0 b1 e' b2 e2' => ?_) (fun ho S' hf q0 => ?_) (fun S' y' hf q0 b1 e' ho => ?_)
    · exact False.elim (no_out e2' b2 (by omega) h)
    · exact False.elim (no_out e hk (by omega) ho)
    · exact jQ_ex hf (by decide) (by decide) hB3 (by decide) (by decide) q0 rfl hK
theorem L_tuples {K : PS → Prop} {S : PS} {c : Int32} {V0 : Prop} (v0 : V0) (hL : jLI S) (hK : ∀ S', jLI S' → K S') : wpL_tuples S 0 c 105 (fun r2 S3 => V0 ∧ pK S3 87 = 11 ∧ wpX12_tuples S3 87 c (fun r6 S7 => jRE K r2 r6 S7)) := by
  obtain ⟨pb, P, ss, ds, σ, n, tx, m, ec, ep, hB⟩ := hL
  have hV := hB.2.2.2
  have hw := hV.1
  have hJ := hB.2.1.1
  obtain ⟨hc, hpb, hp, hss, hT, hF, hD, hn, hE⟩ := hJ
  have hJ := hB.2.1.1
  have hP0 : P 0 ≤ 7 := hw.1
  have hP1 : P 1 ≤ 8 := hw.2.1
  have hl35 : σ.2.length ≤ 35 := hT.2.2.2.2.2.2.1
  unfold wpL_tuples
  refine ⟨hc.1, c_tuples hc hpb hp hw hT (fun k hk e => ?_) (fun h d => ?_)⟩
  · refine jAN (Q := (fun r2 S3 => V0 ∧ pK S3 87 = 11 ∧ wpX12_tuples S3 87 c (fun r6 S7 => jRE K r2 r6 S7))) (hB) (fun S3 hB3 hv => ⟨v0, hB3.2.2.1.1.1.1, ?_⟩)
    obtain ⟨gM, gp, gss, gd, gT, gD, g8, g10, g11⟩ := hB3.2.2.1.1
    refine m_tuples gM gp hw gd (fun S' k' hf q0 b e' => ?_) (fun S' hf q0 ho => ?_)
    · have ee : k = k' := eq_k e e' (by omega) (by omega)
      subst ee
      exact jQ_ok hf (by decide) (by decide) hB3 hv q0 hK
    · exact False.elim (no_out e hk (by omega) ho)
  · have hB3 := jLB_sk (d := d) (hB)
    refine ⟨rfl, v0, hB3.2.2.1.1.1.1, ?_⟩
    obtain ⟨gM, gp, gss, gd, gT, gD, g8, g10, g11⟩ := hB3.2.2.1.1
    refine m_tuples gM gp hw gd (fun S' k' hf q0 b e' => ?_) (fun S' hf q0 ho => ?_)
    · exact False.elim (no_out e' b (by omega) h)
    · exact jQ_ex hf (by decide) (by decide) hB3 (by decide) (by decide) q0 rfl hK
theorem L_first {K : PS → Prop} {S : PS} {x : Int32} {V0 : Prop} (v0 : V0) (hL : jLI S) (hK : ∀ S', jLI S' → K S') : wpL_first S 0 x 105 (fun r2 S3 => V0 ∧ pK S3 87 = 11 ∧ wpX12_first S3 87 x (fun r6 S7 => jRE K r2 r6 S7)) := by
  obtain ⟨pb, P, ss, ds, σ, n, tx, m, ec, ep, hB⟩ := hL
  have hV := hB.2.2.2
  have hw := hV.1
  have hJ := hB.2.1.1
  obtain ⟨hc, hpb, hp, hss, hT, hF, hD, hn, hE⟩ := hJ
  have hJ := hB.2.1.1
  have hP0 : P 0 ≤ 7 := hw.1
  have hP1 : P 1 ≤ 8 := hw.2.1
  have hl35 : σ.2.length ≤ 35 := hT.2.2.2.2.2.2.1
  unfold wpL_first
  refine ⟨hc.1, c_first hc hpb hp hw hT hF (fun S1 k a hf1 hF1 hk e hl => ?_) (fun h d => ?_) (fun S1 k hf1 hF1 hk e hcn d => ?_)⟩
  · refine jAN (Q := (fun r2 S3 => V0 ∧ pK S3 87 = 11 ∧ wpX12_first S3 87 x (fun r6 S7 => jRE K r2 r6 S7))) (jLB_83 hf1 hF1 hB) (fun S3 hB3 hv => ⟨v0, hB3.2.2.1.1.1.1, ?_⟩)
    obtain ⟨gM, gp, gss, gd, gT, gD, g8, g10, g11⟩ := hB3.2.2.1.1
    refine m_first gM gp hw gd (fun S' k' a' hf q0 b e' hl' => ?_) (fun ho S' hf q0 => ?_) (fun S' k' hf q0 b e' hcn' => ?_)
    · have ee : k = k' := eq_k e e' (by omega) (by omega)
      subst ee
      have ea : a k = a' k := Lea_uq hl hl' k hk
      rw [ea] at hv
      exact jQ_ok hf (by decide) (by decide) hB3 hv q0 hK
    · exact False.elim (no_out e hk (by omega) ho)
    · exact False.elim (absurd ⟨a, hl.1⟩ hcn')
  · have hB3 := jLB_sk (d := d) (hB)
    refine Or.inl (⟨rfl, v0, hB3.2.2.1.1.1.1, ?_⟩)
    obtain ⟨gM, gp, gss, gd, gT, gD, g8, g10, g11⟩ := hB3.2.2.1.1
    refine m_first gM gp hw gd (fun S' k' a' hf q0 b e' hl' => ?_) (fun ho S' hf q0 => ?_) (fun S' k' hf q0 b e' hcn' => ?_)
    · exact False.elim (no_out e' b (by omega) h)
    · exact jQ_ex hf (by decide) (by decide) hB3 (by decide) (by decide) q0 rfl hK
    · exact False.elim (no_out e' b (by omega) h)
  · have hB3 := jLB_sk (d := d) (jLB_83 hf1 hF1 hB)
    refine Or.inr (⟨rfl, v0, hB3.2.2.1.1.1.1, ?_⟩)
    obtain ⟨gM, gp, gss, gd, gT, gD, g8, g10, g11⟩ := hB3.2.2.1.1
    refine m_first gM gp hw gd (fun S' k' a' hf q0 b e' hl' => ?_) (fun ho S' hf q0 => ?_) (fun S' k' hf q0 b e' hcn' => ?_)
    · exact False.elim (absurd ⟨a', hl'.1⟩ hcn)
    · exact False.elim (no_out e hk (by omega) ho)
    · exact jQ_ex hf (by decide) (by decide) hB3 (by decide) (by decide) q0 rfl hK
theorem L_possible {K : PS → Prop} {S : PS} {x : Int32} {V0 : Prop} (v0 : V0) (hL : jLI S) (hK : ∀ S', jLI S' → K S') : wpL_possible S 0 x 105 (fun r2 S3 => V0 ∧ pK S3 87 = 11 ∧ wpX12_possible S3 87 x (fun r6 S7 => jRE K r2 r6 S7)) := by
  obtain ⟨pb, P, ss, ds, σ, n, tx, m, ec, ep, hB⟩ := hL
  have hV := hB.2.2.2
  have hw := hV.1
  have hJ := hB.2.1.1
  obtain ⟨hc, hpb, hp, hss, hT, hF, hD, hn, hE⟩ := hJ
  have hJ := hB.2.1.1
  have hP0 : P 0 ≤ 7 := hw.1
  have hP1 : P 1 ≤ 8 := hw.2.1
  have hl35 : σ.2.length ≤ 35 := hT.2.2.2.2.2.2.1
  unfold wpL_possible
  refine ⟨hc.1, c_possible hc hpb hp hw hT hF (fun S1 k hf1 hF1 hk e => ?_) (fun h d => ?_)⟩
  · refine jAN (Q := (fun r2 S3 => V0 ∧ pK S3 87 = 11 ∧ wpX12_possible S3 87 x (fun r6 S7 => jRE K r2 r6 S7))) (jLB_83 hf1 hF1 hB) (fun S3 hB3 hv => ⟨v0, hB3.2.2.1.1.1.1, ?_⟩)
    obtain ⟨gM, gp, gss, gd, gT, gD, g8, g10, g11⟩ := hB3.2.2.1.1
    refine m_possible gM gp hw gd (fun S' k' hf q0 b e' => ?_) (fun ho S' hf q0 => ?_)
    · have ee : k = k' := eq_k e e' (by omega) (by omega)
      subst ee
      exact jQ_ok hf (by decide) (by decide) hB3 hv q0 hK
    · exact False.elim (no_out e hk (by omega) ho)
  · have hB3 := jLB_sk (d := d) (hB)
    refine ⟨rfl, v0, hB3.2.2.1.1.1.1, ?_⟩
    obtain ⟨gM, gp, gss, gd, gT, gD, g8, g10, g11⟩ := hB3.2.2.1.1
    refine m_possible gM gp hw gd (fun S' k' hf q0 b e' => ?_) (fun ho S' hf q0 => ?_)
    · exact False.elim (no_out e' b (by omega) h)
    · exact jQ_ex hf (by decide) (by decide) hB3 (by decide) (by decide) q0 rfl hK
theorem L_decision {K : PS → Prop} {S : PS} {x : Int32} {V0 : Prop} (v0 : V0) (hL : jLI S) (hK : ∀ S', jLI S' → K S') : wpL_decision S 0 x 105 (fun r2 S3 => V0 ∧ pK S3 87 = 11 ∧ wpX12_decision S3 87 x (fun r6 S7 => jRE K r2 r6 S7)) := by
  obtain ⟨pb, P, ss, ds, σ, n, tx, m, ec, ep, hB⟩ := hL
  have hV := hB.2.2.2
  have hw := hV.1
  have hJ := hB.2.1.1
  obtain ⟨hc, hpb, hp, hss, hT, hF, hD, hn, hE⟩ := hJ
  have hJ := hB.2.1.1
  have hP0 : P 0 ≤ 7 := hw.1
  have hP1 : P 1 ≤ 8 := hw.2.1
  have hl35 : σ.2.length ≤ 35 := hT.2.2.2.2.2.2.1
  have hds : ds.length ≤ 7 := by
    exact Dok_len hw hV.2.2.2.2.2.1
  unfold wpL_decision
  refine ⟨hc.1, c_decision hJ hV (fun k hk e => ?_) (fun h d => ?_)⟩
  · refine jAN (Q := (fun r2 S3 => V0 ∧ pK S3 87 = 11 ∧ wpX12_decision S3 87 x (fun r6 S7 => jRE K r2 r6 S7))) (hB) (fun S3 hB3 hv => ⟨v0, hB3.2.2.1.1.1.1, ?_⟩)
    obtain ⟨gM, gp, gss, gd, gT, gD, g8, g10, g11⟩ := hB3.2.2.1.1
    refine m_decision hB3.2.2.1.1 hV (fun S' k' hf q0 b e' => ?_) (fun S' hf q0 ho => ?_)
    · have ee : k = k' := eq_k e e' (by omega) (by omega)
      subst ee
      exact jQ_ok hf (by decide) (by decide) hB3 hv q0 hK
    · exact False.elim (no_out e hk (by omega) ho)
  · have hB3 := jLB_sk (d := d) (hB)
    refine ⟨rfl, v0, hB3.2.2.1.1.1.1, ?_⟩
    obtain ⟨gM, gp, gss, gd, gT, gD, g8, g10, g11⟩ := hB3.2.2.1.1
    refine m_decision hB3.2.2.1.1 hV (fun S' k' hf q0 b e' => ?_) (fun S' hf q0 ho => ?_)
    · exact False.elim (no_out e' b (by omega) h)
    · exact jQ_ex hf (by decide) (by decide) hB3 (by decide) (by decide) q0 rfl hK
theorem L_learnt {K : PS → Prop} {S : PS} {x y : Int32} {V0 : Prop} {V1 : Prop} (v0 : V0) (v1 : V1) (hL : jLI S) (hK : ∀ S', jLI S' → K S') : wpL_learnt S 0 x y 105 (fun r2 S3 => V0 ∧ V1 ∧ pK S3 87 = 11 ∧ wpX12_learnt S3 87 x y (fun r6 S7 => jRE K r2 r6 S7)) := by
  obtain ⟨pb, P, ss, ds, σ, n, tx, m, ec, ep, hB⟩ := hL
  have hV := hB.2.2.2
  have hw := hV.1
  have hJ := hB.2.1.1
  obtain ⟨hc, hpb, hp, hss, hT, hF, hD, hn, hE⟩ := hJ
  have hJ := hB.2.1.1
  have hP0 : P 0 ≤ 7 := hw.1
  have hP1 : P 1 ≤ 8 := hw.2.1
  have hl35 : σ.2.length ≤ 35 := hT.2.2.2.2.2.2.1
  have h12 : ss.length ≤ 12 := hV.2.2.1
  unfold wpL_learnt
  refine ⟨hc.1, c_learnt hJ hV (fun i k hi e hk e2 => ?_) (fun h d => ?_) (fun i hi e h d => ?_)⟩
  · refine jAN (Q := (fun r2 S3 => V0 ∧ V1 ∧ pK S3 87 = 11 ∧ wpX12_learnt S3 87 x y (fun r6 S7 => jRE K r2 r6 S7))) (hB) (fun S3 hB3 hv => ⟨v0, v1, hB3.2.2.1.1.1.1, ?_⟩)
    obtain ⟨gM, gp, gss, gd, gT, gD, g8, g10, g11⟩ := hB3.2.2.1.1
    refine m_learnt hB3.2.2.1.1 hV (fun S' i' k' hf q0 hi' e' hk' e2' => ?_) (fun S' hf q0 ho => ?_) (fun S' i' hf q0 hi' e' ho => ?_)
    · have ee : i = i' := eq_k e e' (by omega) (by omega)
      subst ee
      have l2 := cN_le (lp (ss.getD i 0)) 7
      have ek : k = k' := eq_k e2 e2' (by omega) (by omega)
      subst ek
      exact jQ_ok hf (by decide) (by decide) hB3 hv q0 hK
    · exact False.elim (no_out e hi (by omega) ho)
    · have ee : i = i' := eq_k e e' (by omega) (by omega)
      subst ee
      have l2 := cN_le (lp (ss.getD i 0)) 7
      exact False.elim (no_out e2 hk (by omega) ho)
  · have hB3 := jLB_sk (d := d) (hB)
    refine ⟨rfl, v0, v1, hB3.2.2.1.1.1.1, ?_⟩
    obtain ⟨gM, gp, gss, gd, gT, gD, g8, g10, g11⟩ := hB3.2.2.1.1
    refine m_learnt hB3.2.2.1.1 hV (fun S' i' k' hf q0 hi' e' hk' e2' => ?_) (fun S' hf q0 ho => ?_) (fun S' i' hf q0 hi' e' ho => ?_)
    · exact False.elim (no_out e' hi' (by omega) h)
    · exact jQ_ex hf (by decide) (by decide) hB3 (by decide) (by decide) q0 rfl hK
    · exact False.elim (no_out e' hi' (by omega) h)
  · have hB3 := jLB_sk (d := d) (hB)
    refine ⟨rfl, v0, v1, hB3.2.2.1.1.1.1, ?_⟩
    obtain ⟨gM, gp, gss, gd, gT, gD, g8, g10, g11⟩ := hB3.2.2.1.1
    refine m_learnt hB3.2.2.1.1 hV (fun S' i' k' hf q0 hi' e' hk' e2' => ?_) (fun S' hf q0 ho => ?_) (fun S' i' hf q0 hi' e' ho => ?_)
    · have ee : i = i' := eq_k e e' (by omega) (by omega)
      subst ee
      have l2 := cN_le (lp (ss.getD i 0)) 7
      exact False.elim (no_out e2' hk' (by omega) h)
    · exact False.elim (no_out e hi (by omega) ho)
    · exact jQ_ex hf (by decide) (by decide) hB3 (by decide) (by decide) q0 rfl hK
def jREB (K : PS → Prop) (r2 r10 : Int32) (S7 : PS) : Prop := pK S7 87 = 11 ∧ wpX12_thrown S7 87 (fun r9 S10 => (r9 = r2 → (¬ r2 = 0 → K S10) ∧ (r2 = 0 → (pK S10 105 = 14 ∧ (vp_in (0 : Int32) (pL S10 105) ∧ ((r10 = 0 → (((lg_cmp (pJ S10 105 ((0 : Int32)).toNatClampNeg) (0 : Int64)) = 0 → K S10) ∧ (¬ (lg_cmp (pJ S10 105 ((0 : Int32)).toNatClampNeg) (0 : Int64)) = 0 → False))) ∧ (¬ r10 = 0 → (((lg_cmp (pJ S10 105 ((0 : Int32)).toNatClampNeg) (1 : Int64)) = 0 → K S10) ∧ (¬ (lg_cmp (pJ S10 105 ((0 : Int32)).toNatClampNeg) (1 : Int64)) = 0 → False)))))))) ∧ (¬ r9 = r2 → False))
theorem bI_t0 : ¬ bI true = 0 := fun z => by
  have z' : nI 1 = nI 0 := z
  rw [o_eq (by decide) (by decide)] at z'
  exact absurd z' (by decide)
theorem jREB_ok {K : PS → Prop} {b : Bool} {S7 : PS} (hM : MShape S7) (hk : jLK S7) (h0 : pI S7 87 0 = nI 0) (hv : pJ S7 105 ((0 : Int32)).toNatClampNeg = if b = true then (1 : Int64) else 0) (hK : K S7) : jREB K (0 : Int32) (bI b) S7 := by
  unfold jREB wpX12_thrown
  refine ⟨hM.1, hM.1, fun _ => ⟨fun q => absurd rfl q, fun _ => ⟨hk.2.1, l_in hk.2.2.1, ?_⟩⟩, fun q => absurd h0 q⟩
  cases b with
  | false => exact ⟨fun _ => ⟨fun _ => hK, fun q => absurd ((lg_cmp_eq _ _).mpr hv) q⟩, fun z => absurd rfl z⟩
  | true => exact ⟨fun z => absurd z bI_t0, fun _ => ⟨fun _ => hK, fun q => absurd ((lg_cmp_eq _ _).mpr hv) q⟩⟩
theorem jREB_ex {K : PS → Prop} {r2 r6 : Int32} {S7 : PS} {t : Nat} (hM : MShape S7) (ht : 0 < t) (ht2 : t < 10) (h0 : pI S7 87 0 = nI t) (hr : r2 = nI t) (hK : K S7) : jREB K r2 r6 S7 := by
  have hne : ¬ r2 = 0 := fun q => by
    rw [hr, c_0, o_eq (by omega) (by decide)] at q
    omega
  unfold jREB wpX12_thrown
  refine ⟨hM.1, hM.1, fun _ => ⟨fun _ => hK, fun q => absurd q hne⟩, fun q => absurd (h0.trans hr.symm) q⟩
theorem jANB {Q : Int32 → PS → Prop} {b : Bool} {S : PS} {pb : Nat} {P : Nat → Nat} {ss : List Nat} {ds : List (Nat × Nat)} {σ : St} {n : Nat} {tx : Nat → Nat} {m : Nat} {ec ep : Int32} (hB : jLB S pb P ss ds σ n tx m ec ep) (h : ∀ S3, jLB S3 pb P ss ds σ n tx m ec ep → (pJ S3 105 ((0 : Int32)).toNatClampNeg = if b = true then (1 : Int64) else 0) → Q (0 : Int32) S3) : (bI b = 0 → (pK S 105 = 14 ∧ (vp_in (0 : Int32) (pL S 105) ∧ Q (0 : Int32) (sJ S 105 ((0 : Int32)).toNatClampNeg (0 : Int64))))) ∧ (¬ bI b = 0 → (pK S 105 = 14 ∧ (vp_in (0 : Int32) (pL S 105) ∧ Q (0 : Int32) (sJ S 105 ((0 : Int32)).toNatClampNeg (1 : Int64))))) := by
  cases b with
  | false => exact ⟨fun _ => ⟨hB.1.2.1, l_in hB.1.2.2.1, h _ (jLB_put (by decide) hB) (pJ_put _ _ _ _)⟩, fun z => absurd rfl z⟩
  | true => exact ⟨fun z => absurd z bI_t0, fun _ => ⟨hB.1.2.1, l_in hB.1.2.2.1, h _ (jLB_put (by decide) hB) (pJ_put _ _ _ _)⟩⟩
theorem jQB_ok {A F : List Nat} {K : PS → Prop} {b : Bool} {S S' : PS} {pb : Nat} {P : Nat → Nat} {ss : List Nat} {ds : List (Nat × Nat)} {σ : St} {n : Nat} {tx : Nat → Nat} {m : Nat} {ec ep : Int32} (hf : mf A F S S') (hA : ∀ a, a ∈ 87 :: A → a = 87 ∨ 96 ≤ a ∧ a < 105) (hF : ∀ k, k ∈ F → k = 0) (hB : jLB S pb P ss ds σ n tx m ec ep) (hv : pJ S 105 ((0 : Int32)).toNatClampNeg = if b = true then (1 : Int64) else 0) (h0 : pI S' 87 0 = nI 0) (hK : ∀ S', jLI S' → K S') : jREB K (0 : Int32) (bI b) S' := by
  have h5 : 105 ∉ 87 :: A := fun q => by have := hA 105 q; omega
  exact jREB_ok (hf.M hB.2.2.1.1.1) (jLK_fr hf.1 hB.1) h0 (by rw [hf.1.J h5]; exact hv) (hK _ (jLI_q hf hA hF hB))
theorem jQB_ex {A F : List Nat} {K : PS → Prop} {r2 r : Int32} {S S' : PS} {t : Nat} {pb : Nat} {P : Nat → Nat} {ss : List Nat} {ds : List (Nat × Nat)} {σ : St} {n : Nat} {tx : Nat → Nat} {m : Nat} {ec ep : Int32} (hf : mf A F S S') (hA : ∀ a, a ∈ 87 :: A → a = 87 ∨ 96 ≤ a ∧ a < 105) (hF : ∀ k, k ∈ F → k = 0) (hB : jLB S pb P ss ds σ n tx m ec ep) (ht : 0 < t) (ht2 : t < 10) (h0 : pI S' 87 0 = nI t) (hr : r2 = nI t) (hK : ∀ S', jLI S' → K S') : jREB K r2 r S' := jREB_ex (hf.M hB.2.2.1.1.1) ht ht2 h0 hr (hK _ (jLI_q hf hA hF hB))
def jRED (K : PS → Prop) (r2 : Int32) (r6 : UInt64) (S7 : PS) : Prop := pK S7 87 = 11 ∧ wpX12_thrown S7 87 (fun r9 S10 => (r9 = r2 → (¬ r2 = 0 → K S10) ∧ (r2 = 0 → (pK S10 106 = 18 ∧ (vp_in (0 : Int32) (pL S10 106) ∧ (((Op.cmpValue (FP.dcmp (pJ S10 106 ((0 : Int32)).toNatClampNeg).toUInt64 r6) .l) = 0 → K S10) ∧ (¬ (Op.cmpValue (FP.dcmp (pJ S10 106 ((0 : Int32)).toNatClampNeg).toUInt64 r6) .l) = 0 → (vp_in (0 : Int32) (pL S10 106) ∧ (vp_in (0 : Int32) (pL S10 106) ∧ (((Op.cmpValue (FP.dcmp (pJ S10 106 ((0 : Int32)).toNatClampNeg).toUInt64 (pJ S10 106 ((0 : Int32)).toNatClampNeg).toUInt64) .l) = 0 → False) ∧ (¬ (Op.cmpValue (FP.dcmp (pJ S10 106 ((0 : Int32)).toNatClampNeg).toUInt64 (pJ S10 106 ((0 : Int32)).toNatClampNeg).toUInt64) .l) = 0 → ((¬ (Op.cmpValue (FP.dcmp r6 r6) .l) = 0 → K S10) ∧ ((Op.cmpValue (FP.dcmp r6 r6) .l) = 0 → False)))))))))))) ∧ (¬ r9 = r2 → False))
theorem jRED_ok {K : PS → Prop} {r6 : UInt64} {S7 : PS} (hM : MShape S7) (hk : jLK S7) (h0 : pI S7 87 0 = nI 0) (hv : pJ S7 106 ((0 : Int32)).toNatClampNeg = r6.toInt64) (hK : K S7) : jRED K (0 : Int32) r6 S7 := by
  have e : (pJ S7 106 ((0 : Int32)).toNatClampNeg).toUInt64 = r6 := by rw [hv]; rfl
  unfold jRED wpX12_thrown
  refine ⟨hM.1, hM.1, fun _ => ⟨fun q => absurd rfl q, fun _ => ⟨hk.2.2.2.1, l_in hk.2.2.2.2, ?_⟩⟩, fun q => absurd h0 q⟩
  rw [e]
  exact ⟨fun _ => hK, fun z => ⟨l_in hk.2.2.2.2, l_in hk.2.2.2.2, fun z2 => z z2, fun z2 => ⟨fun _ => hK, fun z3 => z2 z3⟩⟩⟩
theorem jRED_ex {K : PS → Prop} {r2 : Int32} {r6 : UInt64} {S7 : PS} {t : Nat} (hM : MShape S7) (ht : 0 < t) (ht2 : t < 10) (h0 : pI S7 87 0 = nI t) (hr : r2 = nI t) (hK : K S7) : jRED K r2 r6 S7 := by
  have hne : ¬ r2 = 0 := fun q => by
    rw [hr, c_0, o_eq (by omega) (by decide)] at q
    omega
  unfold jRED wpX12_thrown
  refine ⟨hM.1, hM.1, fun _ => ⟨fun _ => hK, fun q => absurd q hne⟩, fun q => absurd (h0.trans hr.symm) q⟩
theorem jAND {Q : Int32 → PS → Prop} {r : UInt64} {S : PS} {pb : Nat} {P : Nat → Nat} {ss : List Nat} {ds : List (Nat × Nat)} {σ : St} {n : Nat} {tx : Nat → Nat} {m : Nat} {ec ep : Int32} (hB : jLB S pb P ss ds σ n tx m ec ep) (h : ∀ S3, jLB S3 pb P ss ds σ n tx m ec ep → pJ S3 106 ((0 : Int32)).toNatClampNeg = r.toInt64 → Q (0 : Int32) S3) : pK S 106 = 18 ∧ (vp_in (0 : Int32) (pL S 106) ∧ Q (0 : Int32) (sJ S 106 ((0 : Int32)).toNatClampNeg (r).toInt64)) := ⟨hB.1.2.2.2.1, l_in hB.1.2.2.2.2, h _ (jLB_put (by decide) hB) (pJ_put _ _ _ _)⟩
theorem jQD_ok {A F : List Nat} {K : PS → Prop} {r : UInt64} {S S' : PS} {pb : Nat} {P : Nat → Nat} {ss : List Nat} {ds : List (Nat × Nat)} {σ : St} {n : Nat} {tx : Nat → Nat} {m : Nat} {ec ep : Int32} (hf : mf A F S S') (hA : ∀ a, a ∈ 87 :: A → a = 87 ∨ 96 ≤ a ∧ a < 105) (hF : ∀ k, k ∈ F → k = 0) (hB : jLB S pb P ss ds σ n tx m ec ep) (hv : pJ S 106 ((0 : Int32)).toNatClampNeg = r.toInt64) (h0 : pI S' 87 0 = nI 0) (hK : ∀ S', jLI S' → K S') : jRED K (0 : Int32) r S' := by
  have h5 : 106 ∉ 87 :: A := fun q => by have := hA 106 q; omega
  exact jRED_ok (hf.M hB.2.2.1.1.1) (jLK_fr hf.1 hB.1) h0 (by rw [hf.1.J h5]; exact hv) (hK _ (jLI_q hf hA hF hB))
theorem jQD_ex {A F : List Nat} {K : PS → Prop} {r2 : Int32} {r : UInt64} {S S' : PS} {t : Nat} {pb : Nat} {P : Nat → Nat} {ss : List Nat} {ds : List (Nat × Nat)} {σ : St} {n : Nat} {tx : Nat → Nat} {m : Nat} {ec ep : Int32} (hf : mf A F S S') (hA : ∀ a, a ∈ 87 :: A → a = 87 ∨ 96 ≤ a ∧ a < 105) (hF : ∀ k, k ∈ F → k = 0) (hB : jLB S pb P ss ds σ n tx m ec ep) (ht : 0 < t) (ht2 : t < 10) (h0 : pI S' 87 0 = nI t) (hr : r2 = nI t) (hK : ∀ S', jLI S' → K S') : jRED K r2 r S' := jRED_ex (hf.M hB.2.2.1.1.1) ht ht2 h0 hr (hK _ (jLI_q hf hA hF hB))
theorem L_isSupported {K : PS → Prop} {S : PS} {c x v : Int32} {V0 : Prop} {V1 : Prop} {V2 : Prop} (v0 : V0) (v1 : V1) (v2 : V2) (hL : jLI S) (hK : ∀ S', jLI S' → K S') : wpL_isSupported S 0 c x v 105 (fun r2 S3 => V0 ∧ V1 ∧ V2 ∧ pK S3 87 = 11 ∧ wpX12_isSupported S3 87 c x v (fun r6 S7 => jREB K r2 r6 S7)) := by
  obtain ⟨pb, P, ss, ds, σ, n, tx, m, ec, ep, hB⟩ := hL
  have hV := hB.2.2.2
  have hw := hV.1
  have hJ := hB.2.1.1
  obtain ⟨hc, hpb, hp, hss, hT, hF, hD, hn, hE⟩ := hJ
  have hJ := hB.2.1.1
  have hP0 : P 0 ≤ 7 := hw.1
  have hP1 : P 1 ≤ 8 := hw.2.1
  have hl35 : σ.2.length ≤ 35 := hT.2.2.2.2.2.2.1
  unfold wpL_isSupported
  refine ⟨hc.1, c_isSupported hc hpb hp hw hT (fun k y w h1 hj e2 => ?_) (fun h d => ?_) (fun k y h1 h d => ?_)⟩
  · refine jANB (Q := (fun r2 S3 => V0 ∧ V1 ∧ V2 ∧ pK S3 87 = 11 ∧ wpX12_isSupported S3 87 c x v (fun r6 S7 => jREB K r2 r6 S7))) (hB) (fun S3 hB3 hv => ⟨v0, v1, v2, hB3.2.2.1.1.1.1, ?_⟩)
    obtain ⟨gM, gp, gss, gd, gT, gD, g8, g10, g11⟩ := hB3.2.2.1.1
    refine m_isSupported gM gp hw gd (fun S' k' y' w' hf q0 h1' hj' e2' => ?_) (fun S' hf q0 ho => ?_) (fun S' k' y' hf q0 h1' ho => ?_)
    · obtain ⟨ek, ey⟩ := isM_eq hw h1 h1'
      subst ek
      subst ey
      have ee : w = w' := eq_k e2 e2' (by omega) (by omega)
      subst ee
      exact jQB_ok hf (by decide) (by decide) hB3 hv q0 hK
    · exact False.elim (isM_no hw h1 ho)
    · exact False.elim (no_out e2 hj (by omega) ho)
  · have hB3 := jLB_sk (d := d) (hB)
    refine Or.inl (⟨rfl, v0, v1, v2, hB3.2.2.1.1.1.1, ?_⟩)
    obtain ⟨gM, gp, gss, gd, gT, gD, g8, g10, g11⟩ := hB3.2.2.1.1
    refine m_isSupported gM gp hw gd (fun S' k' y' w' hf q0 h1' hj' e2' => ?_) (fun S' hf q0 ho => ?_) (fun S' k' y' hf q0 h1' ho => ?_)
    · exact False.elim (isM_no hw h1' h)
    · exact jQB_ex hf (by decide) (by decide) hB3 (by decide) (by decide) q0 rfl hK
    · exact False.elim (isM_no hw h1' h)
  · have hB3 := jLB_sk (d := d) (hB)
    refine Or.inr (⟨rfl, v0, v1, v2, hB3.2.2.1.1.1.1, ?_⟩)
    obtain ⟨gM, gp, gss, gd, gT, gD, g8, g10, g11⟩ := hB3.2.2.1.1
    refine m_isSupported gM gp hw gd (fun S' k' y' w' hf q0 h1' hj' e2' => ?_) (fun S' hf q0 ho => ?_) (fun S' k' y' hf q0 h1' ho => ?_)
    · exact False.elim (no_out e2' hj' (by omega) h)
    · exact False.elim (isM_no hw h1 ho)
    · exact jQB_ex hf (by decide) (by decide) hB3 (by decide) (by decide) q0 rfl hK
theorem L_tightness {K : PS → Prop} {S : PS} {c : Int32} {V0 : Prop} (v0 : V0) (hL : jLI S) (hK : ∀ S', jLI S' → K S') : wpL_tightness S 0 c 106 (fun r2 S3 => V0 ∧ pK S3 87 = 11 ∧ wpX12_tightness S3 87 c (fun r6 S7 => jRED K r2 r6 S7)) := by
  obtain ⟨pb, P, ss, ds, σ, n, tx, m, ec, ep, hB⟩ := hL
  have hV := hB.2.2.2
  have hw := hV.1
  have hJ := hB.2.1.1
  obtain ⟨hc, hpb, hp, hss, hT, hF, hD, hn, hE⟩ := hJ
  have hJ := hB.2.1.1
  have hP0 : P 0 ≤ 7 := hw.1
  have hP1 : P 1 ≤ 8 := hw.2.1
  have hl35 : σ.2.length ≤ 35 := hT.2.2.2.2.2.2.1
  unfold wpL_tightness
  refine ⟨hc.1, c_tightness hc hpb hp hw hT (fun k hk e hz => ?_) (fun h d => ?_) (fun k hk e hz d => ?_)⟩
  · refine jAND (Q := (fun r2 S3 => V0 ∧ pK S3 87 = 11 ∧ wpX12_tightness S3 87 c (fun r6 S7 => jRED K r2 r6 S7))) (hB) (fun S3 hB3 hv => ⟨v0, hB3.2.2.1.1.1.1, ?_⟩)
    obtain ⟨gM, gp, gss, gd, gT, gD, g8, g10, g11⟩ := hB3.2.2.1.1
    refine m_tightness gM gp hw gd (fun S' k' hf q0 b e' hz' => ?_) (fun S' hf q0 ho => ?_) (fun S' k' hf q0 b e' hz' => ?_)
    · have ee : k = k' := eq_k e e' (by omega) (by omega)
      subst ee
      exact jQD_ok hf (by decide) (by decide) hB3 hv q0 hK
    · exact False.elim (no_out e hk (by omega) ho)
    · have ee : k = k' := eq_k e e' (by omega) (by omega)
      subst ee
      exact False.elim (hz hz')
  · have hB3 := jLB_sk (d := d) (hB)
    refine Or.inl (⟨rfl, v0, hB3.2.2.1.1.1.1, ?_⟩)
    obtain ⟨gM, gp, gss, gd, gT, gD, g8, g10, g11⟩ := hB3.2.2.1.1
    refine m_tightness gM gp hw gd (fun S' k' hf q0 b e' hz' => ?_) (fun S' hf q0 ho => ?_) (fun S' k' hf q0 b e' hz' => ?_)
    · exact False.elim (no_out e' b (by omega) h)
    · exact jQD_ex hf (by decide) (by decide) hB3 (by decide) (by decide) q0 rfl hK
    · exact False.elim (no_out e' b (by omega) h)
  · have hB3 := jLB_sk (d := d) (hB)
    refine Or.inr (⟨rfl, v0, hB3.2.2.1.1.1.1, ?_⟩)
    obtain ⟨gM, gp, gss, gd, gT, gD, g8, g10, g11⟩ := hB3.2.2.1.1
    refine m_tightness gM gp hw gd (fun S' k' hf q0 b e' hz' => ?_) (fun S' hf q0 ho => ?_) (fun S' k' hf q0 b e' hz' => ?_)
    · have ee : k = k' := eq_k e e' (by omega) (by omega)
      subst ee
      exact False.elim (hz' hz)
    · exact False.elim (no_out e hk (by omega) ho)
    · exact jQD_ex hf (by decide) (by decide) hB3 (by decide) (by decide) q0 rfl hK
theorem L_solutions {K : PS → Prop} {S : PS} (hL : jLI S) (hK : ∀ S', jLI S' → K S') : pK S 0 = 10 ∧ wpX11_solutions S 0 (fun r2 S3 => pK S3 87 = 11 ∧ wpX12_solutions S3 87 (fun r5 S6 => (r2 = r5 → K S6) ∧ (¬ r2 = r5 → False))) := by
  obtain ⟨pb, P, ss, ds, σ, n, tx, m, ec, ep, hB⟩ := hL
  have hV := hB.2.2.2
  have hw := hV.1
  have hJ := hB.2.1.1
  obtain ⟨hc, hpb, hp, hss, hT, hF, hD, hn, hE⟩ := hJ
  have hJ := hB.2.1.1
  have hP0 : P 0 ≤ 7 := hw.1
  have hP1 : P 1 ≤ 8 := hw.2.1
  have hl35 : σ.2.length ≤ 35 := hT.2.2.2.2.2.2.1
  refine ⟨hc.1, c_solutions hc hpb hp hw hT hF (fun S1 hf1 hF1 => ?_)⟩
  have hB3 := jLB_83 hf1 hF1 hB
  obtain ⟨gM, gp, gss, gd, gT, gD, g8, g10, g11⟩ := hB3.2.2.1.1
  exact ⟨gM.1, m_solutions gM gp hw gd (fun S' hf q0 => ⟨fun _ => hK _ (jLI_q hf (by decide) (by decide) hB3), fun q => absurd rfl q⟩)⟩
theorem L_overlooked {K : PS → Prop} {S : PS} (hL : jLI S) (hK : ∀ S', jLI S' → K S') : pK S 0 = 10 ∧ wpX11_overlooked S 0 (fun r2 S3 => pK S3 87 = 11 ∧ wpX12_overlooked S3 87 (fun r5 S6 => (r2 = r5 → K S6) ∧ (¬ r2 = r5 → False))) := by
  obtain ⟨pb, P, ss, ds, σ, n, tx, m, ec, ep, hB⟩ := hL
  have hV := hB.2.2.2
  have hw := hV.1
  have hJ := hB.2.1.1
  obtain ⟨hc, hpb, hp, hss, hT, hF, hD, hn, hE⟩ := hJ
  have hJ := hB.2.1.1
  have hP0 : P 0 ≤ 7 := hw.1
  have hP1 : P 1 ≤ 8 := hw.2.1
  have hl35 : σ.2.length ≤ 35 := hT.2.2.2.2.2.2.1
  refine ⟨hc.1, c_overlooked hc hpb hp hw hT hF (fun S1 hf1 hF1 => ?_)⟩
  have hB3 := jLB_83 hf1 hF1 hB
  obtain ⟨gM, gp, gss, gd, gT, gD, g8, g10, g11⟩ := hB3.2.2.1.1
  exact ⟨gM.1, m_overlooked gM gp hw gd hT.2.2.2.2.2.1 (fun S' hf q0 => ⟨fun _ => hK _ (jLI_q hf (by decide) (by decide) hB3), fun q => absurd rfl q⟩)⟩
theorem L_errorCode {K : PS → Prop} {S : PS} (hL : jLI S) (hK : ∀ S', jLI S' → K S') : pK S 0 = 10 ∧ wpX11_errorCode S 0 (fun r2 S3 => pK S3 87 = 11 ∧ wpX12_errorCode S3 87 (fun r5 S6 => (r2 = r5 → K S6) ∧ (¬ r2 = r5 → False))) := by
  obtain ⟨pb, P, ss, ds, σ, n, tx, m, ec, ep, hB⟩ := hL
  have hV := hB.2.2.2
  have hw := hV.1
  have hJ := hB.2.1.1
  obtain ⟨hc, hpb, hp, hss, hT, hF, hD, hn, hE⟩ := hJ
  have hJ := hB.2.1.1
  have hP0 : P 0 ≤ 7 := hw.1
  have hP1 : P 1 ≤ 8 := hw.2.1
  have hl35 : σ.2.length ≤ 35 := hT.2.2.2.2.2.2.1
  refine ⟨hc.1, c_errorCode hc hB.2.1.2.1 ⟨hB.2.2.1.1.1.1, m_errorCode hB.2.2.1.1.1 hB.2.2.1.2 (fun S' hf q0 => ⟨fun _ => hK _ (jLI_q hf (by decide) (by decide) hB), fun q => absurd rfl q⟩)⟩⟩
theorem L_errorPosition {K : PS → Prop} {S : PS} (hL : jLI S) (hK : ∀ S', jLI S' → K S') : pK S 0 = 10 ∧ wpX11_errorPosition S 0 (fun r2 S3 => pK S3 87 = 11 ∧ wpX12_errorPosition S3 87 (fun r5 S6 => (r2 = r5 → K S6) ∧ (¬ r2 = r5 → False))) := by
  obtain ⟨pb, P, ss, ds, σ, n, tx, m, ec, ep, hB⟩ := hL
  have hV := hB.2.2.2
  have hw := hV.1
  have hJ := hB.2.1.1
  obtain ⟨hc, hpb, hp, hss, hT, hF, hD, hn, hE⟩ := hJ
  have hJ := hB.2.1.1
  have hP0 : P 0 ≤ 7 := hw.1
  have hP1 : P 1 ≤ 8 := hw.2.1
  have hl35 : σ.2.length ≤ 35 := hT.2.2.2.2.2.2.1
  refine ⟨hc.1, c_errorPosition hc hB.2.1.2.1 ⟨hB.2.2.1.1.1.1, m_errorPosition hB.2.2.1.1.1 hB.2.2.1.2 (fun S' hf q0 => ⟨fun _ => hK _ (jLI_q hf (by decide) (by decide) hB), fun q => absurd rfl q⟩)⟩⟩

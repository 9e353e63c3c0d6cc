/-! THE REFERENCE: decide, back, decision, probe, forbid -/
theorem prE_ge {P : Nat → Nat} {ss : List Nat} {l : Nat} (σ : St) : σ.2.length ≤ (prE P ss l σ).2.length := prE_ap (P := P) (ss := ss) (l := l) σ (fun τ => σ.2.length ≤ τ.2.length) (fun τ f h _ _ => by
  show σ.2.length ≤ (τ.2 ++ [f]).length
  rw [List.length_append]
  omega) (Nat.le_refl _)
theorem MJ_dec {S S' : PS} {P : Nat → Nat} {ss : List Nat} {ds : List (Nat × Nat)} {σ' : St} {n y w : Nat} (hM : MShape S) (hp : rP S P) (hs0 : rSS S ss) (hmD : mDs S ds) (h10 : pI S 87 10 = nI n) (hf : mf [90, 91, 92, 96] [7, 8, 11] S S') (hd : rD S' 90 σ'.1) (hT : rT S' σ'.2) (h8 : pI S' 87 8 = nI (ds.length + 1)) (h11 : pI S' 87 11 = bI (fl (P 0) σ'.1)) (w0 : pI S' 92 (2 * ds.length) = nI y) (w1 : pI S' 92 (2 * ds.length + 1) = nI w) (w2 : ∀ k, k < 2 * ds.length → pI S' 92 k = pI S 92 k) : MJ S' P ss (ds ++ [(y, w)]) σ' n := by
  refine ⟨hf.M hM, hf.P (by decide) hp, hf.S (by decide) (by decide) hs0, hd, hT, fun k hk => ?_, by rw [List.length_append, List.length_singleton]; exact h8, by rw [hf.F (by decide)]; exact h10, h11⟩
  rw [List.length_append, List.length_singleton] at hk
  by_cases e : k = ds.length
  · subst e
    rw [dG_new]
    exact ⟨w0, w1⟩
  · rw [dG_old (show k < ds.length by omega), w2 _ (by omega), w2 _ (by omega)]
    exact hmD k (by omega)
theorem m_decide {S : PS} {P : Nat → Nat} {ss : List Nat} {ds : List (Nat × Nat)} {σ : St} {n : Nat} {x v : Int32} {Q : Int32 → PS → Prop} (hJ : MJ S P ss ds σ n) (hV : VI P ss ds σ)
    (hQ : ∀ S' y w, mf [90, 91, 92, 96] [0, 7, 8, 10, 11] S S' → pI S' 87 0 = nI 0 → dOK P σ x v y w → 1 < pcn 5 (σ.1 y) → fl (P 0) σ.1 = false → MJ S' P ss (ds ++ [(y, w)]) (prE P ss (ds.length + 1) (asS y w (ds.length + 1) 5 σ)) (n + 1) → Q (nI ((prE P ss (ds.length + 1) (asS y w (ds.length + 1) 5 σ)).2.length - σ.2.length)) S')
    (hX1 : ∀ S', mf [] [0] S S' → pI S' 87 0 = nI 1 → (x < nI 0 ∨ nI (P 0) ≤ x) → Q (nI 0) S')
    (hX2 : ∀ S' y, mf [] [0] S S' → pI S' 87 0 = nI 2 → y < P 0 → x = nI y → noD σ v y → Q (nI 0) S')
    (hX3 : ∀ S' y w, mf [] [0] S S' → pI S' 87 0 = nI 3 → dOK P σ x v y w → (pcn 5 (σ.1 y) ≤ 1 ∨ fl (P 0) σ.1 = true) → Q (nI 0) S') : wpX12_decide S 87 x v Q := by
  obtain ⟨hM, hp, hs0, hd, hT, hmD, h8, h10, h11⟩ := hJ
  have hw := hV.1
  have hP0 := hw.1
  have hf : mf [] [0] S (sI S 87 0 (nI 0)) := mf_sI _ _ (by decide)
  have h0 : pI (sI S 87 0 (nI 0)) 87 0 = nI 0 := by rw [pI_sI, if_pos ⟨rfl, rfl⟩]
  have hM1 := hf.M hM
  have herr : ∀ c : Nat, mf [] [0] S (sI (sI S 87 0 (nI 0)) 87 0 (nI c)) ∧ pI (sI (sI S 87 0 (nI 0)) 87 0 (nI c)) 87 0 = nI c := fun c => ⟨mf_t hf (mf_sI _ _ (by decide)), by rw [pI_sI, if_pos ⟨rfl, rfl⟩]⟩
  unfold wpX12_decide
  rw [c_0, c_1]
  refine ⟨msk hM, q_mayDecide hM1 (hf.P (by decide) hp) hw (hf.D (by decide) hd) h0 (by rw [hf.F (by decide)]; exact h11) (fun y w hok h2 hnf => ⟨fun _ => ⟨msk hM1, ?_⟩, fun z => absurd z (by decide)⟩) (fun hx => ⟨fun z => absurd rfl z, fun _ => hX1 _ (herr 1).1 (herr 1).2 hx⟩) (fun y hy ex hno => ⟨fun z => absurd rfl z, fun _ => hX2 _ y (herr 2).1 (herr 2).2 hy ex hno⟩) (fun y w hok hor => ⟨fun z => absurd rfl z, fun _ => hX3 _ y w (herr 3).1 (herr 3).2 hok hor⟩)⟩
  obtain ⟨hy, ex, hw5, ev, hb⟩ := hok
  have hV2 := VI_dec hV hy hw5 hb h2 hnf
  have hl7 := Dok_len hw hV2.2.2.2.2.2.1
  rw [List.length_append, List.length_singleton] at hl7
  have h10' : pI (sI S 87 0 (nI 0)) 87 10 = nI n := by rw [hf.F (by decide)]; exact h10
  rw [h10', o_add]
  have f2 : mf [] [0, 10] S (sI (sI S 87 0 (nI 0)) 87 10 (nI (n + 1))) := mf_t (mf_sI _ _ (by decide)) (mf_sI _ _ (by decide))
  subst ex
  subst ev
  refine q_decides (l := ds.length) (f2.M hM) (f2.P (by decide) hp) hw (f2.D (by decide) hd) (f2.T (by decide) (by decide) hT) (f2.S (by decide) (by decide) hs0) hV.2.1 (by rw [f2.F (by decide)]; exact h8) (by omega) hy hw5 hb (VI_sum hV) hnf (fun S' hf3 hd3 hT3 h83 h113 w0 w1 w2 => ?_)
  refine hQ S' y w (mf_t (mf_w f2 (by decide) (by decide)) (mf_w hf3 (by decide) (by decide))) (by rw [hf3.F (by decide), pI_sI, if_neg (fun q => absurd q.2 (by decide)), pI_sI, if_pos ⟨rfl, rfl⟩]) ⟨hy, rfl, hw5, rfl, hb⟩ h2 hnf (MJ_dec (f2.M hM) (f2.P (by decide) hp) (f2.S (by decide) (by decide) hs0) (mDs_fr f2.1 (by decide) hmD) (by rw [pI_sI, if_pos ⟨rfl, rfl⟩]) hf3 hd3 hT3 h83 h113 w0 w1 w2)
theorem m_back {S : PS} {P : Nat → Nat} {ss : List Nat} {ds : List (Nat × Nat)} {σ : St} {n : Nat} {Q : Int32 → PS → Prop} (hJ : MJ S P ss ds σ n) (hV : VI P ss ds σ)
    (hQ : ∀ S', mf [90] [0, 7, 8, 11] S S' → pI S' 87 0 = nI 0 → 0 < ds.length → MJ S' P ss (ds.take (ds.length - 1)) (dI P (tkB σ.2 ds.length), tkB σ.2 ds.length) n → Q (nI (σ.2.length - bkN σ.2 ds.length σ.2.length)) S')
    (hX : ∀ S', mf [] [0] S S' → pI S' 87 0 = nI 1 → ds.length = 0 → Q (nI 0) S') : wpX12_back S 87 Q := by
  have hJ0 := hJ
  obtain ⟨hM, hp, hs0, hd, hT, hmD, h8, h10, h11⟩ := hJ
  have hw := hV.1
  have hl7 := Dok_len hw hV.2.2.2.2.2.1
  have hf : mf [] [0] S (sI S 87 0 (nI 0)) := mf_sI _ _ (by decide)
  have h0 : pI (sI S 87 0 (nI 0)) 87 0 = nI 0 := by rw [pI_sI, if_pos ⟨rfl, rfl⟩]
  have hM1 := hf.M hM
  have h8' : pI (sI S 87 0 (nI 0)) 87 8 = nI ds.length := by rw [hf.F (by decide)]; exact h8
  unfold wpX12_back wpX12_back_b18
  rw [c_0, c_1, h8', o_le (by omega) (by omega), w_may0 hM1 (by decide) (by decide) h0, w_may1 hM1 h0]
  refine ⟨msk hM, fun z => ⟨msk hM1, fun _ => ?_, fun z2 => absurd rfl z2⟩, fun z => ⟨msk hM1, fun z2 => absurd z2 (by decide), fun _ => ⟨msk hM1, ?_⟩⟩⟩
  · exact hX _ (mf_t hf (mf_sI _ _ (by decide))) (by rw [pI_sI, if_pos ⟨rfl, rfl⟩]) (by omega)
  · refine q_takesBack hM1 hw (hf.D (by decide) hd) (hf.T (by decide) (by decide) hT) hV.2.2.2.1 hV.2.2.2.2.1 (by omega) hl7 h8' (fun S' hf2 hd2 hT2 h82 h112 => ?_)
    have hb := (VI_back hV (by omega)).2
    have hlen : (ds.take (ds.length - 1)).length = ds.length - 1 := by
      rw [List.length_take]
      exact Nat.min_eq_left (by omega)
    have f3 : mf [90] [0, 7, 8, 11] S S' := mf_t (mf_w hf (by decide) (by decide)) (mf_w hf2 (by decide) (by decide))
    refine hQ S' f3 (by rw [hf2.F (by decide)]; exact h0) (by omega) ⟨f3.M hM, f3.P (by decide) hp, f3.S (by decide) (by decide) hs0, hd2, hT2, fun k hk => ?_, by rw [hlen]; exact h82, by rw [f3.F (by decide)]; exact h10, by rw [hb]; exact h112⟩
    rw [hlen] at hk
    rw [dG_take hk, f3.1.I (by decide), f3.1.I (by decide)]
    exact hmD k (by omega)
theorem m_decision {S : PS} {P : Nat → Nat} {ss : List Nat} {ds : List (Nat × Nat)} {σ : St} {n : Nat} {x : Int32} {Q : Int32 → PS → Prop} (hJ : MJ S P ss ds σ n) (hV : VI P ss ds σ)
    (hQ : ∀ S' k, mf [] [0] S S' → pI S' 87 0 = nI 0 → k < ds.length → x = nI k → Q (nI (10 * (dG ds k).1 + (dG ds k).2)) S')
    (hX : ∀ S', mf [] [0] S S' → pI S' 87 0 = nI 1 → (x < nI 0 ∨ nI ds.length ≤ x) → Q (nI 0) S') : wpX12_decision S 87 x Q := by
  obtain ⟨hM, hp, hs0, hd, hT, hmD, h8, h10, h11⟩ := hJ
  have hw := hV.1
  have hl7 := Dok_len hw hV.2.2.2.2.2.1
  have hf : mf [] [0] S (sI S 87 0 (nI 0)) := mf_sI _ _ (by decide)
  have h0 : pI (sI S 87 0 (nI 0)) 87 0 = nI 0 := by rw [pI_sI, if_pos ⟨rfl, rfl⟩]
  have hM1 := hf.M hM
  have h8' : pI (sI S 87 0 (nI 0)) 87 8 = nI ds.length := by rw [hf.F (by decide)]; exact h8
  unfold wpX12_decision
  rw [c_0, c_1, c_2, show (10 : Int32) = nI 10 from rfl, h8']
  refine ⟨msk hM, ?_⟩
  rcases i_split x (N := ds.length) (by omega) with ⟨k, hk, rfl⟩ | hx
  · rw [w_inL hk (by omega)]
    refine ⟨msk hM1, ?_⟩
    rw [w_may1 hM1 h0, o_mul, o_add, o_cl (by omega), o_cl (by omega)]
    have hm := mDs_fr hf.1 (by decide) hmD k hk
    refine ⟨fun z => absurd z (by decide), fun _ => ⟨msk hM1, 92, msr_decs hM1, msk_decs hM1, ?_, ?_, ?_⟩⟩
    · rw [msl_decs hM1, o_inT (by omega) (by omega)]
      trivial
    · rw [msl_decs hM1, o_inT (by omega) (by omega)]
      trivial
    · rw [hm.1, hm.2, o_mul, o_add]
      exact hQ _ k hf h0 hk rfl
  · rw [w_inL0 (by omega) hx]
    refine ⟨msk hM1, ?_⟩
    rw [w_may0 hM1 (by decide) (by decide) h0]
    exact ⟨fun _ => hX _ (mf_t hf (mf_sI _ _ (by decide))) (by rw [pI_sI, if_pos ⟨rfl, rfl⟩]) hx, fun z => absurd rfl z⟩
/-- what a decision's facts are, after those before -/
theorem pre_app {P : Nat → Nat} {ss : List Nat} {σ σ' : St} {l : Nat} {R : FT → Prop} (hR : ∀ f, R f → f.2.2.2.1 = l + 1) (ha : Ap R σ σ') : σ.2.length ≤ σ'.2.length ∧ σ'.2.take σ.2.length = σ.2 ∧ ∀ i, σ.2.length ≤ i → i < σ'.2.length → (fG σ'.2 i).2.2.2.1 = l + 1 := by
  refine ha (fun τ => σ.2.length ≤ τ.2.length ∧ τ.2.take σ.2.length = σ.2 ∧ ∀ i, σ.2.length ≤ i → i < τ.2.length → (fG τ.2 i).2.2.2.1 = l + 1) (fun τ f h hf _ => ?_) ⟨Nat.le_refl _, List.take_length, fun i h1 h2 => absurd h2 (by omega)⟩
  obtain ⟨g1, g2, g3⟩ := h
  have hlen : (τ.2 ++ [f]).length = τ.2.length + 1 := by rw [List.length_append, List.length_singleton]
  refine ⟨by show σ.2.length ≤ (τ.2 ++ [f]).length; omega, ?_, fun i h1 h2 => ?_⟩
  · show (τ.2 ++ [f]).take σ.2.length = σ.2
    rw [List.take_append_of_le_length g1]
    exact g2
  · replace h2 : i < (τ.2 ++ [f]).length := h2
    show (fG (τ.2 ++ [f]) i).2.2.2.1 = l + 1
    by_cases e : i = τ.2.length
    · subst e
      rw [fG_new]
      exact hR f hf
    · rw [fG_old (show i < τ.2.length by omega)]
      exact g3 i h1 (by omega)
theorem tkB_pre {σ σ' : St} {l : Nat} (hLv : Lv σ.2 l) (hLv' : Lv σ'.2 (l + 1)) (h1 : σ.2.length ≤ σ'.2.length) (h2 : σ'.2.take σ.2.length = σ.2) (h3 : ∀ i, σ.2.length ≤ i → i < σ'.2.length → (fG σ'.2 i).2.2.2.1 = l + 1) : bkN σ'.2 (l + 1) σ'.2.length = σ.2.length ∧ tkB σ'.2 (l + 1) = σ.2 := by
  have hlo := bkN_lo hLv' (l := l + 1) σ'.2.length (Nat.le_refl _)
  have hhi := bkN_hi (T := σ'.2) (l := l + 1) σ'.2.length
  have hle := bkN_le (T := σ'.2) (l := l + 1) σ'.2.length
  have e : bkN σ'.2 (l + 1) σ'.2.length = σ.2.length := by
    rcases Nat.lt_trichotomy (bkN σ'.2 (l + 1) σ'.2.length) σ.2.length with q | q | q
    · have h4 := hhi _ (Nat.le_refl _) (by omega)
      have h5 : fG σ'.2 (bkN σ'.2 (l + 1) σ'.2.length) = fG σ.2 (bkN σ'.2 (l + 1) σ'.2.length) := by
        have h6 := fG_take (T := σ'.2) q
        rw [h2] at h6
        exact h6.symm
      rw [h5] at h4
      have := (hLv _ q).1
      omega
    · exact q
    · have h4 := hlo σ.2.length q
      rw [h3 _ (Nat.le_refl _) (by omega)] at h4
      omega
  refine ⟨e, ?_⟩
  unfold tkB
  rw [e]
  exact h2
theorem dec_pre {P : Nat → Nat} {ss : List Nat} {σ : St} {x v l : Nat} (hw : Pwf P) (hs : SSw P ss) : σ.2.length ≤ (prE P ss (l + 1) (asS x v (l + 1) 5 σ)).2.length ∧ (prE P ss (l + 1) (asS x v (l + 1) 5 σ)).2.take σ.2.length = σ.2 ∧ ∀ i, σ.2.length ≤ i → i < (prE P ss (l + 1) (asS x v (l + 1) 5 σ)).2.length → (fG (prE P ss (l + 1) (asS x v (l + 1) 5 σ)).2 i).2.2.2.1 = l + 1 :=
  pre_app (P := P) (ss := ss) (R := fun f => f.2.2.2.1 = l + 1) (fun _ h => h) (Ap_t (Ap_m (fun f hf => by
    obtain ⟨u, _, e⟩ := hf
    rw [e]) (asS_ap 5 (Nat.le_refl _))) (Ap_m (fun f hf => (FP1_R hw hs hf).2.2.2) (prE_ap _)))
theorem m_probe {S : PS} {P : Nat → Nat} {ss : List Nat} {ds : List (Nat × Nat)} {σ : St} {n : Nat} {x v : Int32} {Q : Int32 → PS → Prop} (hJ : MJ S P ss ds σ n) (hV : VI P ss ds σ)
    (hQ : ∀ S' y w, mf [90, 91, 92, 96] [0, 7, 8, 11] S S' → pI S' 87 0 = nI 0 → dOK P σ x v y w → 1 < pcn 5 (σ.1 y) → fl (P 0) σ.1 = false → MJ S' P ss ds σ n → Q (if fl (P 0) (prE P ss (ds.length + 1) (asS y w (ds.length + 1) 5 σ)).1 = true then ngI else nI ((prE P ss (ds.length + 1) (asS y w (ds.length + 1) 5 σ)).2.length - σ.2.length)) S')
    (hX1 : ∀ S', mf [] [0] S S' → pI S' 87 0 = nI 1 → (x < nI 0 ∨ nI (P 0) ≤ x) → Q (nI 0) S')
    (hX2 : ∀ S' y, mf [] [0] S S' → pI S' 87 0 = nI 2 → y < P 0 → x = nI y → noD σ v y → Q (nI 0) S')
    (hX3 : ∀ S' y w, mf [] [0] S S' → pI S' 87 0 = nI 3 → dOK P σ x v y w → (pcn 5 (σ.1 y) ≤ 1 ∨ fl (P 0) σ.1 = true) → Q (nI 0) S') : wpX12_probe S 87 x v Q := by
  obtain ⟨hM, hp, hs0, hd, hT, hmD, h8, h10, h11⟩ := hJ
  have hw := hV.1
  have hP0 := hw.1
  have hf : mf [] [0] S (sI S 87 0 (nI 0)) := mf_sI _ _ (by decide)
  have h0 : pI (sI S 87 0 (nI 0)) 87 0 = nI 0 := by rw [pI_sI, if_pos ⟨rfl, rfl⟩]
  have hM1 := hf.M hM
  have herr : ∀ c : Nat, mf [] [0] S (sI (sI S 87 0 (nI 0)) 87 0 (nI c)) ∧ pI (sI (sI S 87 0 (nI 0)) 87 0 (nI c)) 87 0 = nI c := fun c => ⟨mf_t hf (mf_sI _ _ (by decide)), by rw [pI_sI, if_pos ⟨rfl, rfl⟩]⟩
  unfold wpX12_probe
  simp only [c_0, ↓ng_d]
  refine ⟨msk hM, q_mayDecide hM1 (hf.P (by decide) hp) hw (hf.D (by decide) hd) h0 (by rw [hf.F (by decide)]; exact h11) (fun y w hok h2 hnf => ⟨fun _ => ⟨msk hM1, ?_⟩, fun z => absurd z (by decide)⟩) (fun hx => ⟨fun z => absurd rfl z, fun _ => hX1 _ (herr 1).1 (herr 1).2 hx⟩) (fun y hy ex hno => ⟨fun z => absurd rfl z, fun _ => hX2 _ y (herr 2).1 (herr 2).2 hy ex hno⟩) (fun y w hok hor => ⟨fun z => absurd rfl z, fun _ => hX3 _ y w (herr 3).1 (herr 3).2 hok hor⟩)⟩
  obtain ⟨hy, ex, hw5, ev, hb⟩ := hok
  have hV2 := VI_dec hV hy hw5 hb h2 hnf
  have hl7 := Dok_len hw hV2.2.2.2.2.2.1
  have hV3 : VI P ss (ds ++ [(y, w)]) (prE P ss (ds ++ [(y, w)]).length (asS y w (ds.length + 1) 5 σ)) := VI_prE hV2
  have hlen1 : (ds ++ [(y, w)]).length = ds.length + 1 := by rw [List.length_append, List.length_singleton]
  rw [hlen1] at hV3 hl7
  have hLv3 := hV3.2.2.2.2.1
  rw [hlen1] at hLv3
  subst ex
  subst ev
  have hT1 := hf.T (by decide) (by decide) hT
  have hd1 := hf.D (by decide) hd
  refine q_decides (l := ds.length) hM1 (hf.P (by decide) hp) hw hd1 hT1 (hf.S (by decide) (by decide) hs0) hV.2.1 (by rw [hf.F (by decide)]; exact h8) (by omega) hy hw5 hb (VI_sum hV) hnf (fun S2 hf2 hd2 hT2 h82 h112 w0 w1 w2 => ?_)
  have f3 : mf [90, 91, 92, 96] [0, 7, 8, 11] S S2 := mf_t (mf_w hf (by decide) (by decide)) (mf_w hf2 (by decide) (by decide))
  have hM2 := f3.M hM
  refine ⟨msk hM2, q_takesBack hM2 hw hd2 hT2 hV3.2.2.2.1 hLv3 (Nat.succ_pos _) hl7 h82 (fun S3 hf3 hd3 hT3 h83 h113 => ?_)⟩
  obtain ⟨p1, p2, p3⟩ := dec_pre (σ := σ) (x := y) (v := w) (l := ds.length) hw hV.2.1
  obtain ⟨k1, k2⟩ := tkB_pre hV.2.2.2.2.1 hLv3 p1 p2 p3
  rw [k2] at hd3 hT3
  rw [k1, h112, bI_0]
  have f4 : mf [90, 91, 92, 96] [0, 7, 8, 11] S S3 := mf_t f3 (mf_w hf3 (by decide) (by decide))
  have hJ3 : MJ S3 P ss ds σ n := by
    refine ⟨f4.M hM, f4.P (by decide) hp, f4.S (by decide) (by decide) hs0, rD_cg hd3 (fun z hz => (hV.2.2.2.1.2.2 z hz).symm), hT3, fun k hk => ?_, h83, by rw [f4.F (by decide)]; exact h10, by rw [hnf]; exact h113⟩
    rw [hf3.1.I (by decide), hf3.1.I (by decide), w2 _ (by omega), w2 _ (by omega)]
    exact mDs_fr hf.1 (by decide) hmD k hk
  have h1 := hQ S3 y w f4 (by rw [hf3.F (by decide), hf2.F (by decide)]; exact h0) ⟨hy, rfl, hw5, rfl, hb⟩ h2 hnf hJ3
  refine ⟨fun z => ?_, fun z => ?_⟩
  · rw [if_neg (by rw [z]; decide)] at h1
    exact h1
  · rw [if_pos (by rw [← Bool.not_eq_false]; exact z)] at h1
    exact h1
/-- what is forbidden -/
def fbS (x v : Nat) (σ : St) : St := (ud σ.1 x (clr (σ.1 x) v), σ.2 ++ [(x, v, ngI + ngI, 0, 0)])
theorem VI_fb {P : Nat → Nat} {ss : List Nat} {ds : List (Nat × Nat)} {σ : St} {x v : Nat} (h : VI P ss ds σ) (h0 : ds.length = 0) (hx : x < P 0) (hv : v < 5) (hb : (σ.1 x).testBit v = true) : VI P ss ds (fbS x v σ) :=
  VI_ap (R := fun f => f = (x, v, ngI + ngI, 0, 0)) (fun f hf => by
    subst hf
    exact ⟨hx, hv, Or.inr (Or.inr (by show ngI + ngI < nI 0; decide)), h0.symm⟩) (Ap_1 (f := (x, v, ngI + ngI, 0, 0)) rfl hb) h
theorem m_forbid {S : PS} {P : Nat → Nat} {ss : List Nat} {ds : List (Nat × Nat)} {σ : St} {n : Nat} {x v : Int32} {Q : Int32 → PS → Prop} (hJ : MJ S P ss ds σ n) (hV : VI P ss ds σ)
    (hQ : ∀ S' y w, mf [90, 91, 96] [0, 7, 11] S S' → pI S' 87 0 = nI 0 → dOK P σ x v y w → ds.length = 0 → fl (P 0) σ.1 = false → MJ S' P ss ds (prE P ss 0 (fbS y w σ)) n → Q (nI ((prE P ss 0 (fbS y w σ)).2.length - σ.2.length)) S')
    (hX1 : ∀ S', mf [] [0] S S' → pI S' 87 0 = nI 1 → (x < nI 0 ∨ nI (P 0) ≤ x) → Q (nI 0) S')
    (hX2 : ∀ S' y, mf [] [0] S S' → pI S' 87 0 = nI 2 → y < P 0 → x = nI y → noD σ v y → Q (nI 0) S')
    (hX3 : ∀ S' y w, mf [] [0] S S' → pI S' 87 0 = nI 3 → dOK P σ x v y w → (0 < ds.length ∨ fl (P 0) σ.1 = true) → Q (nI 0) S') : wpX12_forbid S 87 x v Q := by
  have hJ0 := hJ
  obtain ⟨hM, hp, hs0, hd, hT, hmD, h8, h10, h11⟩ := hJ
  have hw := hV.1
  have hP0 := hw.1
  have t2 := hT.2.1
  have hl7 := Dok_len hw hV.2.2.2.2.2.1
  have hf : mf [] [0] S (sI S 87 0 (nI 0)) := mf_sI _ _ (by decide)
  have h0 : pI (sI S 87 0 (nI 0)) 87 0 = nI 0 := by rw [pI_sI, if_pos ⟨rfl, rfl⟩]
  have hM1 := hf.M hM
  have hp1 := hf.P (by decide) hp
  have hd1 := hf.D (by decide) hd
  have hT1 := hf.T (by decide) (by decide) hT
  have h81 : pI (sI S 87 0 (nI 0)) 87 8 = nI ds.length := by rw [hf.F (by decide)]; exact h8
  have h111 : pI (sI S 87 0 (nI 0)) 87 11 = bI (fl (P 0) σ.1) := by rw [hf.F (by decide)]; exact h11
  have herr : ∀ c : Nat, mf [] [0] S (sI (sI S 87 0 (nI 0)) 87 0 (nI c)) ∧ pI (sI (sI S 87 0 (nI 0)) 87 0 (nI c)) 87 0 = nI c := fun c => ⟨mf_t hf (mf_sI _ _ (by decide)), by rw [pI_sI, if_pos ⟨rfl, rfl⟩]⟩
  unfold wpX12_forbid wpX12_forbid_b51 wpX12_forbid_b52 wpX12_forbid_b111 wpX12_forbid_b116
  simp only [c_0, c_1, c_2, c_3, c_31, ↓ng_2, ↓ng_d]
  refine ⟨msk hM, ?_⟩
  rcases i_split x (N := P 0) (by omega) with ⟨y, hy, rfl⟩ | hx
  · have hy7 : y < 7 := by omega
    rw [w_mvar hM1 hp1 hw hy]
    refine ⟨msk hM1, ?_⟩
    rw [w_may1 hM1 h0]
    refine ⟨fun z => absurd z (by decide), fun _ => ⟨msk hM1, q_misValue hM1 hd1 hy7 (fun w hw5 ev hb => ⟨msk hM1, ?_⟩) (fun hno => ⟨msk hM1, ?_⟩)⟩⟩
    · subst ev
      have hok : dOK P σ (nI y) (nI w) y w := ⟨hy, rfl, hw5, rfl, hb⟩
      rw [w_may1 hM1 h0]
      refine ⟨fun z => absurd z (by decide), fun _ => ⟨msk hM1, ?_⟩⟩
      rw [h81, h111, o_eq (by omega) (by omega), bI_0, w_may0 hM1 (by decide) (by decide) h0, w_may1 hM1 h0]
      refine ⟨fun z => ⟨msk hM1, fun z2 => absurd rfl z2, fun _ => hX3 _ y w (herr 3).1 (herr 3).2 hok (Or.inl (by omega))⟩, fun z => ⟨fun z2 => ⟨msk hM1, fun z3 => absurd rfl z3, fun _ => hX3 _ y w (herr 3).1 (herr 3).2 hok (Or.inr (by rw [← Bool.not_eq_false]; exact z2))⟩, fun hnf => ⟨msk hM1, fun _ => ?_, fun z3 => absurd z3 (by decide)⟩⟩⟩
      have hdy := hd.2.2.2 y hy7
      have hpos := dsum_pos hd.2.2.2 hy7 hw5 hb
      have hsum := VI_sum hV
      have hV2 := VI_fb hV z hy hw5 hb
      have hV3 : VI P ss ds (prE P ss ds.length (fbS y w σ)) := VI_prE hV2
      have iD : vp_in (nI y) (pL (sI S 87 0 (nI 0)) 90) := by
        rw [msl_domain hM1, o_inT (by omega) (by omega)]
        trivial
      rw [o_cl (by omega), one_shl31 (by omega), hT1.1]
      refine ⟨msk hM1, 90, msr_domain hM1, msk_domain hM1, iD, iD, ?_⟩
      rw [hd1.2.2.1 y hy7, dm_clr _ hdy _ hw5]
      have f2 : mf [90] [0] S (sI (sI S 87 0 (nI 0)) 90 y (nI (clr (σ.1 y) w))) := mf_t (mf_sI _ _ (by decide)) (mf_row _ _ _ (by decide) (by decide))
      have hM2 := f2.M hM
      have hd2 : rD (sI (sI S 87 0 (nI 0)) 90 y (nI (clr (σ.1 y) w))) 90 (fbS y w σ).1 := rD_sI hd1 (dm_clr_lt _ hdy _ hw5)
      have hT2 : rT (sI (sI S 87 0 (nI 0)) 90 y (nI (clr (σ.1 y) w))) σ.2 := f2.T (by decide) (by decide) hT
      refine q_lays (l := 0) hM2 hT2 (by omega) (by rw [f2.F (by decide), h8, z]) (fun S3 hf3 hT3 => ?_)
      have f3 : mf [90, 91, 96] [0, 7, 11] S S3 := mf_t (mf_w f2 (by decide) (by decide)) (mf_w hf3 (by decide) (by decide))
      have hM3 := f3.M hM
      have hd3 : rD S3 90 (fbS y w σ).1 := hf3.D (by decide) hd2
      have hro : pI S3 90 y = nI (clr (σ.1 y) w) := by
        rw [hd3.2.2.1 y hy7]
        show nI (ud σ.1 y (clr (σ.1 y) w) y) = _
        rw [ud_s]
      have hclt := dm_clr_lt _ hdy _ hw5
      have hge : σ.2.length ≤ (prE P ss 0 (fbS y w σ)).2.length := by
        have h1 := prE_ge (P := P) (ss := ss) (l := 0) (fbS y w σ)
        have h2 : (fbS y w σ).2.length = σ.2.length + 1 := by
          show (σ.2 ++ [_]).length = _
          rw [List.length_append, List.length_singleton]
        omega
      have fin : ∀ S4 b, mf [90, 91, 96] [0, 7, 11] S S4 → pI S4 87 0 = nI 0 → rD S4 90 (prE P ss 0 (fbS y w σ)).1 → rT S4 (prE P ss 0 (fbS y w σ)).2 → fl (P 0) (prE P ss 0 (fbS y w σ)).1 = b → pK S4 87 = 11 ∧ (bI b = nI 0 ∨ bI b = nI 1) ∧ pK S4 87 = 11 ∧ wpX12_factsFrom (sI S4 87 11 (bI b)) 87 (nI σ.2.length) (fun r4 S5 => Q r4 S5) := fun S4 b hf4 h04 hd4 hT4 hbb => by
        have hM4 := hf4.M hM
        have f5 : mf [90, 91, 96] [0, 7, 11] S (sI S4 87 11 (bI b)) := mf_t hf4 (mf_sI _ _ (by decide))
        have g5 : mf [] [11] S4 (sI S4 87 11 (bI b)) := mf_sI _ _ (by decide)
        refine ⟨msk hM4, by rw [bI_01]; trivial, msk hM4, ?_⟩
        unfold wpX12_factsFrom
        rw [g5.F (by decide), hT4.1, o_sub hge]
        refine ⟨msk (g5.M hM4), hQ _ y w f5 (by rw [g5.F (by decide)]; exact h04) hok z hnf ⟨f5.M hM, f5.P (by decide) hp, f5.S (by decide) (by decide) hs0, g5.D (by decide) hd4, g5.T (by decide) (by decide) hT4, mDs_fr f5.1 (by decide) hmD, by rw [f5.F (by decide)]; exact h8, by rw [f5.F (by decide)]; exact h10, by rw [pI_sI, if_pos ⟨rfl, rfl⟩, hbb]⟩⟩
      have h03 : pI S3 87 0 = nI 0 := by
        rw [hf3.F (by decide)]
        show pI (sI (sI S 87 0 (nI 0)) 90 y (nI (clr (σ.1 y) w))) 87 0 = nI 0
        rw [pI_sI, if_neg (fun q => absurd q.1 (by decide))]
        exact h0
      have hl2 : pI (sI S 87 0 (nI 0)) 87 7 = nI σ.2.length := hT1.1
      refine ⟨msk hM3, 90, msr_domain hM3, msk_domain hM3, ?_, ?_⟩
      · rw [msl_domain hM3, o_inT (by omega) (by omega)]
        trivial
      · rw [hro, o_eq (by omega) (by omega)]
        refine ⟨fun z2 => ?_, fun z2 => ?_⟩
        · have hfl : fl (P 0) (fbS y w σ).1 = true := fl_t.mpr ⟨y, hy, by
            show ud σ.1 y (clr (σ.1 y) w) y = 0
            rw [ud_s]
            exact z2⟩
          have e1 : prE P ss 0 (fbS y w σ) = fbS y w σ := prE_fl hfl
          have h9 := fin S3 true f3 h03 (by rw [e1]; exact hd3) (by rw [e1]; exact hT3) (by rw [e1]; exact hfl)
          exact ⟨h9.1, Or.inr trivial, h9.2.2⟩
        · have hfl : fl (P 0) (fbS y w σ).1 = false := by
            refine fl_f.mpr (fun u hu => ?_)
            show ud σ.1 y (clr (σ.1 y) w) u ≠ 0
            by_cases e : u = y
            · rw [e, ud_s]
              exact z2
            · rw [ud_n _ _ e]
              exact fl_f.mp hnf u hu
          refine q_sweeps (re := true) (a := 90) (A := [90, 91, 96]) (F := [7]) (ss := ss) (l := 0) (σ0 := fbS y w σ) SwH_t hM3 (f3.P (by decide) hp) hw (by rw [f3.F (by decide), h8, z]) (f3.S (by decide) (by decide) hs0) hV.2.1 hd3.2.2.2 (VI_sum hV2) hfl ⟨⟨fr_r _ _, fun _ _ => ⟨rfl, rfl⟩⟩, hd3, fun _ => hT3⟩ (fun S4 hI4 => ?_)
          have f4 : mf [90, 91, 96] [0, 7, 11] S S4 := mf_t f3 (mf_w hI4.1 (by decide) (by decide))
          have h04 : pI S4 87 0 = nI 0 := by rw [hI4.1.F (by decide)]; exact h03
          rw [bI_0]
          refine ⟨fun z3 => ?_, fun z3 => ?_⟩
          · have hff : fl (P 0) (prE P ss 0 (fbS y w σ)).1 = false := by
              cases hc : fl (P 0) (prE P ss 0 (fbS y w σ)).1
              · rfl
              · rw [hc] at z3
                exact absurd rfl z3
            have h9 := fin S4 false f4 h04 hI4.2.1 (hI4.2.2 rfl) hff
            exact ⟨h9.1, Or.inl trivial, h9.2.2⟩
          · have hff : fl (P 0) (prE P ss 0 (fbS y w σ)).1 = true := by
              cases hc : fl (P 0) (prE P ss 0 (fbS y w σ)).1
              · rw [hc] at z3
                cases z3
              · rfl
            have h9 := fin S4 true f4 h04 hI4.2.1 (hI4.2.2 rfl) hff
            exact ⟨h9.1, Or.inr trivial, h9.2.2⟩
    · rw [w_may0 hM1 (by decide) (by decide) h0]
      exact ⟨fun _ => hX2 _ y (herr 2).1 (herr 2).2 hy rfl hno, fun z => absurd rfl z⟩
  · rw [w_mvar0 hM1 hp1 hw hx]
    refine ⟨msk hM1, ?_⟩
    rw [w_may0 hM1 (by decide) (by decide) h0]
    exact ⟨fun _ => hX1 _ (herr 1).1 (herr 1).2 hx, fun z => absurd rfl z⟩

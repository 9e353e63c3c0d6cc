/-! RESTART -/
/-- all decisions taken back -/
def rsS (P : Nat → Nat) : Nat → List (Nat × Nat) → St → List (Nat × Nat) × St
  | 0, ds, σ => (ds, σ)
  | k + 1, ds, σ => rsS P k (ds.take (ds.length - 1)) (dI P (tkB σ.2 ds.length), tkB σ.2 ds.length)
theorem VI_rs {P : Nat → Nat} {ss : List Nat} : ∀ k ds σ, VI P ss ds σ → k ≤ ds.length → VI P ss (rsS P k ds σ).1 (rsS P k ds σ).2 ∧ (rsS P k ds σ).1.length = ds.length - k := by
  intro k
  induction k with
  | zero => exact fun ds σ h _ => ⟨h, rfl⟩
  | succ k ih =>
    intro ds σ h hk
    have hlen : (ds.take (ds.length - 1)).length = ds.length - 1 := by
      rw [List.length_take]
      exact Nat.min_eq_left (by omega)
    have h1 := ih (ds.take (ds.length - 1)) (dI P (tkB σ.2 ds.length), tkB σ.2 ds.length) (VI_back h (by omega)).1 (by omega)
    refine ⟨h1.1, ?_⟩
    show (rsS P k (ds.take (ds.length - 1)) (dI P (tkB σ.2 ds.length), tkB σ.2 ds.length)).1.length = _
    rw [h1.2, hlen]
    omega
theorem q_cback {S : PS} {pb : Nat} {P : Nat → Nat} {ss : List Nat} {ds : List (Nat × Nat)} {σ : St} {n : Nat} {Q : Int32 → PS → Prop} (hJ : CJ S pb P ss ds σ n) (hV : VI P ss ds σ) (h0 : 0 < ds.length)
    (hQ : ∀ S' r, frC S S' → CJ S' pb P ss (ds.take (ds.length - 1)) (dI P (tkB σ.2 ds.length), tkB σ.2 ds.length) n → Q r S') : wpX9_takeBack S 6 Q := by
  have h1 := c_back (Q := Q) (X := fun _ _ => False) hJ hV (fun S' hf _ hJ' => hQ S' _ hf hJ') (fun z => absurd z (by omega))
  obtain ⟨hc, hpb, hp, hss, hT, hF, hD, hn, hE⟩ := hJ
  have hl7 := Dok_len hV.1 hV.2.2.2.2.2.1
  unfold wpX11_back at h1
  obtain ⟨_, o, ho, _, h2, _⟩ := h1
  rw [hc.2.2.1] at ho
  cases ho
  rw [hT.2.2.1, c_0, o_eq (by omega) (by omega)] at h2
  exact h2 (by omega)
theorem c_restart {S : PS} {pb : Nat} {P : Nat → Nat} {ss : List Nat} {ds : List (Nat × Nat)} {σ : St} {n : Nat} {Q : Int32 → PS → Prop} (hJ : CJ S pb P ss ds σ n) (hV : VI P ss ds σ)
    (hQ : ∀ S', frC S S' → CJ S' pb P [] (rsS P ds.length ds σ).1 (rsS P ds.length ds σ).2 n → Q (nI ds.length) S') : wpX11_restart S 0 Q := by
  have hl7 := Dok_len hV.1 hV.2.2.2.2.2.1
  have loop : ∀ k i es τ S', i + k = ds.length → es.length = k → frC S S' → CJ S' pb P ss es τ n → VI P ss es τ → rsS P k es τ = rsS P ds.length ds σ → wpX11_restart_b10 Q (k + 1) S' 0 (nI ds.length) (nI i) := by
    intro k
    induction k with
    | zero =>
      intro i es τ S' hi hl hf hJ' hV' he
      have e2 : (es, τ) = rsS P ds.length ds σ := he
      obtain ⟨hc, hpb, hp, hss, hT, hF, hD, hn, hE⟩ := hJ'
      have f1 : fr [0] S' (sI S' 0 7 (nI 0)) := fr_sI _ _ _ (by decide)
      have h1 := hQ (sI S' 0 7 (nI 0)) (fr_t hf (frC_of f1 (by decide))) (by
        rw [← e2]
        exact ⟨f1.CS hc, by rw [f1.R]; exact hpb, PRep_fr f1 (by decide) hp, ⟨by rw [pI_sI, if_pos ⟨rfl, rfl⟩]; rfl, by decide, fun i hi => absurd hi (Nat.not_lt_zero _)⟩, cT_fr f1 (fun a ha q => by rw [LT_mem] at ha; rw [List.mem_singleton] at q; omega) hT, FndI_fr f1 (by decide) hF, cD_fr f1 (by decide) hD, by rw [pI_sI, if_neg (fun q => absurd q.2 (by decide))]; exact hn, cE_fr f1 hT.2.2.2.2.2.2.1 (fun i hi q => by rw [List.mem_singleton] at q; omega) hE⟩)
      have e3 : i = ds.length := by omega
      rw [e3]
      unfold wpX11_restart_b10
      rw [c_0]
      exact ⟨fun _ => ⟨hc.1, h1⟩, fun z => absurd (Eq.mpr (o_le (by omega) (by omega)) (Nat.le_refl _)) z⟩
    | succ k ih =>
      intro i es τ S' hi hl hf hJ' hV' he
      have hJ0 := hJ'
      obtain ⟨hc, hpb, hp, hss, hT, hF, hD, hn, hE⟩ := hJ'
      have hT6 := hc.2.2.2.2.2.2.2.2.2.2.2.1
      have hnx := ih (i + 1)
      generalize k + 1 = fu at hnx ⊢
      unfold wpX11_restart_b10
      simp only [c_0, c_1, o_add]
      refine ⟨fun z => ?_, fun _ => ⟨hc.1, 6, hc.2.2.1, hT6.1, ?_⟩⟩
      · rw [o_le (by omega) (by omega)] at z
        omega
      · refine q_cback hJ0 hV' (by omega) (fun S2 r hf2 hJ2 => ?_)
        exact hnx _ _ S2 (by omega) (by rw [List.length_take]; omega) (fr_t hf hf2) hJ2 (VI_back hV' (by omega)).1 he
  have h1 := loop ds.length 0 ds σ S (Nat.zero_add _) rfl (fr_r _ _) hJ hV rfl
  obtain ⟨hc, hpb, hp, hss, hT, hF, hD, hn, hE⟩ := hJ
  have hT6 := hc.2.2.2.2.2.2.2.2.2.2.2.1
  unfold wpX11_restart
  rw [c_0]
  refine ⟨hc.1, 6, hc.2.2.1, hT6.1, ?_⟩
  rw [hT.2.2.1]
  exact ⟨_, h1⟩
theorem q_mback {S : PS} {P : Nat → Nat} {ss : List Nat} {ds : List (Nat × Nat)} {σ : St} {n : Nat} {Q : Int32 → PS → Prop} (hJ : MJ S P ss ds σ n) (hV : VI P ss ds σ) (h0 : 0 < ds.length)
    (hQ : ∀ S' r, mf [90] [7, 8, 11] S S' → MJ S' P ss (ds.take (ds.length - 1)) (dI P (tkB σ.2 ds.length), tkB σ.2 ds.length) n → Q r S') : wpX12_takesBack S 87 Q := by
  obtain ⟨hM, hp, hs0, hd, hT, hmD, h8, h10, h11⟩ := hJ
  have hl7 := Dok_len hV.1 hV.2.2.2.2.2.1
  refine q_takesBack hM hV.1 hd hT hV.2.2.2.1 hV.2.2.2.2.1 h0 hl7 h8 (fun S' hf2 hd2 hT2 h82 h112 => ?_)
  have hb := (VI_back hV h0).2
  have hlen : (ds.take (ds.length - 1)).length = ds.length - 1 := by
    rw [List.length_take]
    exact Nat.min_eq_left (by omega)
  refine hQ S' _ hf2 ⟨hf2.M hM, hf2.P (by decide) hp, hf2.S (by decide) (by decide) hs0, hd2, hT2, fun k hk => ?_, by rw [hlen]; exact h82, by rw [hf2.F (by decide)]; exact h10, by rw [hb]; exact h112⟩
  rw [hlen] at hk
  rw [dG_take hk, hf2.1.I (by decide), hf2.1.I (by decide)]
  exact hmD k (by omega)
theorem m_restart {S : PS} {P : Nat → Nat} {ss : List Nat} {ds : List (Nat × Nat)} {σ : St} {n : Nat} {Q : Int32 → PS → Prop} (hJ : MJ S P ss ds σ n) (hV : VI P ss ds σ)
    (hQ : ∀ S', mf [90] [0, 7, 8, 9, 11] S S' → pI S' 87 0 = nI 0 → MJ S' P [] (rsS P ds.length ds σ).1 (rsS P ds.length ds σ).2 n → Q (nI ds.length) S') : wpX12_restart S 87 Q := by
  have hl7 := Dok_len hV.1 hV.2.2.2.2.2.1
  have hf : mf [] [0] S (sI S 87 0 (nI 0)) := mf_sI _ _ (by decide)
  have h0 : pI (sI S 87 0 (nI 0)) 87 0 = nI 0 := by rw [pI_sI, if_pos ⟨rfl, rfl⟩]
  have hJ1 := MJ_mf hf (by decide) (by decide) hJ
  have loop : ∀ k es τ S', es.length = k → k ≤ 7 → mf [90] [7, 8, 11] (sI S 87 0 (nI 0)) S' → MJ S' P ss es τ n → VI P ss es τ → rsS P k es τ = rsS P ds.length ds σ → wpX12_restart_b10 Q (k + 1) S' 87 (nI ds.length) := by
    intro k
    induction k with
    | zero =>
      intro es τ S' hl _ hf2 hJ' hV' he
      have e2 : (es, τ) = rsS P ds.length ds σ := he
      obtain ⟨hM, hp, hs0, hd, hT, hmD, h8, h10, h11⟩ := hJ'
      have f1 : mf [] [9] S' (sI S' 87 9 (nI 0)) := mf_sI _ _ (by decide)
      have h1 := hQ (sI S' 87 9 (nI 0)) (mf_t (mf_w hf (by decide) (by decide)) (mf_t (mf_w hf2 (by decide) (by decide)) (mf_w f1 (by decide) (by decide)))) (by rw [f1.F (by decide), hf2.F (by decide)]; exact h0) (by
        rw [← e2]
        exact ⟨f1.M hM, f1.P (by decide) hp, ⟨by rw [pI_sI, if_pos ⟨rfl, rfl⟩]; rfl, by decide, fun i hi => absurd hi (Nat.not_lt_zero _)⟩, f1.D (by decide) hd, f1.T (by decide) (by decide) hT, mDs_fr f1.1 (by decide) hmD, by rw [f1.F (by decide)]; exact h8, by rw [f1.F (by decide)]; exact h10, by rw [f1.F (by decide)]; exact h11⟩)
      unfold wpX12_restart_b10
      rw [c_0, h8, hl]
      exact ⟨msk hM, fun _ => h1, fun z => absurd (Eq.mpr (o_le (by decide) (by decide)) (Nat.le_refl 0)) z⟩
    | succ k ih =>
      intro es τ S' hl hk7 hf2 hJ' hV' he
      have h8 := hJ'.2.2.2.2.2.2.1
      have hM := hJ'.1
      have hnx := ih
      generalize hfu : k + 1 = fu at hnx ⊢
      unfold wpX12_restart_b10
      rw [c_0, h8, hl]
      refine ⟨msk hM, fun z => ?_, fun _ => ?_⟩
      · rw [o_le (by omega) (by decide)] at z
        omega
      · refine q_mback hJ' hV' (by omega) (fun S2 r hf3 hJ2 => ?_)
        exact hnx _ _ S2 (by rw [List.length_take]; omega) (by omega) (mf_t hf2 hf3) hJ2 (VI_back hV' (by omega)).1 he
  have h1 := loop ds.length ds σ _ rfl hl7 ⟨fr_r _ _, fun _ _ => ⟨rfl, rfl⟩⟩ hJ1 hV rfl
  have h8 := hJ1.2.2.2.2.2.2.1
  unfold wpX12_restart
  rw [c_0, h8]
  exact ⟨msk hJ.1, _, h1⟩

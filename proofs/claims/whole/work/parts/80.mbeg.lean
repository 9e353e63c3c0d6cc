/-! THE REFERENCE: load -/
theorem q_begins {S : PS} {P : Nat → Nat} {Q : PS → Prop} (hM : MShape S) (hw : Pwf P) (h89 : ∀ k, k < 169 → pI S 89 k = nI (P k))
    (hQ : ∀ S', mf [88, 90, 91, 96] [7, 8, 9, 10, 11] S S' → MJ S' P [] [] (prE P [] 0 (fun x => P (2 + x), [])) 0 → Q S') : wpX12_begins S 87 Q := by
  have hd : Dwf (fun x => P (2 + x)) := fun x hx => hw.2.2.1 x hx
  have b29 : ∀ r i S', 7 - i = r → i ≤ 7 → mf [88, 90] [] S S' → rP S' P → (∀ x, x < i → pI S' 90 x = nI (P (2 + x))) → wpX12_begins_b29 Q (r + 1) S' 87 (nI i) := by
    intro r
    induction r with
    | zero =>
      intro i S' hr hi hf hp hx
      have hM' := hf.M hM
      have ei : i = 7 := by omega
      unfold wpX12_begins_b29
      rw [c_0, c_1, c_7, o_le (by decide) (by omega)]
      refine ⟨fun _ => ⟨msk hM', 90, msr_domain hM', ?_⟩, fun z => absurd (show 7 ≤ i by omega) z⟩
      generalize hZ : sI (sI (sI (sI (sI S' 87 7 (nI 0)) 87 8 (nI 0)) 87 9 (nI 0)) 87 10 (nI 0)) 87 11 (nI 0) = Z
      have fZ : mf [] [7, 8, 9, 10, 11] S' Z := by
        rw [← hZ]
        exact mf_t (mf_t (mf_t (mf_t (mf_sI _ _ (by decide)) (mf_sI _ _ (by decide))) (mf_sI _ _ (by decide))) (mf_sI _ _ (by decide))) (mf_sI _ _ (by decide))
      have iZ : ∀ k, 7 ≤ k → k ≤ 11 → pI Z 87 k = nI 0 := fun k h1 h2 => by
        rw [← hZ, pI_sI, pI_sI, pI_sI, pI_sI, pI_sI]
        have : k = 7 ∨ k = 8 ∨ k = 9 ∨ k = 10 ∨ k = 11 := by omega
        rcases this with e | e | e | e | e <;> subst e <;> rfl
      have hMZ := fZ.M hM'
      have hpZ := fZ.P (by decide) hp
      have hdZ : rD Z 90 (fun x => P (2 + x)) := ⟨msk_domain hMZ, msl_domain hMZ, fun x hx7 => by rw [fZ.1.I (by decide)]; exact hx x (by omega), hd⟩
      have hTZ : rT Z [] := ⟨iZ 7 (by decide) (by decide), by decide, fun i hi => absurd hi (Nat.not_lt_zero _)⟩
      have hsZ : rSS Z [] := ⟨iZ 9 (by decide) (by decide), by decide, fun i hi => absurd hi (Nat.not_lt_zero _)⟩
      have hfl : fl (P 0) (fun x => P (2 + x)) = false := fl_f.mpr (fun x hx0 => hw.2.2.2.1 x hx0)
      refine q_sweeps (re := true) (a := 90) (A := [90, 91, 96]) (F := [7]) (ss := []) (l := 0) (σ0 := (fun x => P (2 + x), [])) SwH_t hMZ hpZ hw (iZ 8 (by decide) (by decide)) hsZ (fun i hi => absurd hi (Nat.not_lt_zero _)) hd (dsum_le _) hfl ⟨mf_r _ _ _, hdZ, fun _ => hTZ⟩ (fun S3 hI3 => ?_)
      obtain ⟨f3, hd3, hT3⟩ := hI3
      have hM3 := f3.M hMZ
      have fA : mf [88, 90, 91, 96] [7, 8, 9, 10, 11] S S3 := mf_t (mf_w hf (by decide) (by decide)) (mf_t (mf_w fZ (by decide) (by decide)) (mf_w f3 (by decide) (by decide)))
      have fin : ∀ b, fl (P 0) (prE P [] 0 (fun x => P (2 + x), [])).1 = b → MJ (sI S3 87 11 (bI b)) P [] [] (prE P [] 0 (fun x => P (2 + x), [])) 0 := fun b hb => by
        have f4 : mf [] [11] S3 (sI S3 87 11 (bI b)) := mf_sI _ _ (by decide)
        exact ⟨f4.M hM3, f4.P (by decide) (f3.P (by decide) hpZ), f4.S (by decide) (by decide) (f3.S (by decide) (by decide) hsZ), f4.D (by decide) hd3, f4.T (by decide) (by decide) (hT3 rfl), fun k hk => absurd hk (Nat.not_lt_zero _), by rw [f4.F (by decide), f3.F (by decide)]; exact iZ 8 (by decide) (by decide), by rw [f4.F (by decide), f3.F (by decide)]; exact iZ 10 (by decide) (by decide), by rw [pI_sI, if_pos ⟨rfl, rfl⟩, hb]⟩
      have hq : ∀ v, mf [88, 90, 91, 96] [7, 8, 9, 10, 11] S (sI S3 87 11 v) := fun v => mf_t fA (mf_sI _ _ (by decide))
      rw [bI_0]
      refine ⟨fun z => ⟨msk hM3, hQ _ (hq _) (fin false ?_)⟩, fun z => ⟨msk hM3, hQ _ (hq _) (fin true ?_)⟩⟩
      · cases e : fl (P 0) (prE P [] 0 (fun x => P (2 + x), [])).1
        · rfl
        · exact absurd (by rw [e]; rfl) z
      · cases e : fl (P 0) (prE P [] 0 (fun x => P (2 + x), [])).1
        · rw [e] at z
          cases z
        · rfl
    | succ r ih =>
      intro i S' hr hi hf hp hx
      have hM' := hf.M hM
      have hnx := ih (i + 1)
      generalize r + 1 = fu at hnx ⊢
      unfold wpX12_begins_b29
      rw [c_0, c_1, c_2, c_7, o_le (by decide) (by omega)]
      refine ⟨fun z => absurd z (by omega), fun _ => ⟨msk hM', 90, msr_domain hM', 88, msr_p hM', msk_p hM', ?_⟩⟩
      rw [msl_p hM', msl_domain hM', o_add, o_add, o_inT (by omega) (by omega), o_inT (by omega) (by omega), o_cl (by omega), o_cl (by omega), hp _ (by omega)]
      refine ⟨trivial, msk_domain hM', trivial, hnx _ (by omega) (by omega) (mf_t hf (mf_row _ _ _ (by decide) (by decide))) (fun k hk => by rw [pI_sI, if_neg (fun q => absurd q.1 (by decide))]; exact hp k hk) (fun x hx2 => ?_)⟩
      rw [pI_sI]
      by_cases e : x = i
      · rw [if_pos ⟨rfl, e⟩, e]
      · rw [if_neg (fun q => e q.2)]
        exact hx x (by omega)
  have b2 : ∀ r i S', 169 - i = r → i ≤ 169 → mf [88, 90] [] S S' → (∀ x, x < i → pI S' 88 x = nI (P x)) → wpX12_begins_b2 Q (r + 1) S' 87 (nI i) := by
    intro r
    induction r with
    | zero =>
      intro i S' hr hi hf hx
      unfold wpX12_begins_b2
      rw [c_0, c_169, o_le (by decide) (by omega)]
      exact ⟨fun _ => ⟨_, b29 _ 0 S' rfl (by decide) hf (fun k hk => hx k (by omega)) (fun x hx0 => absurd hx0 (Nat.not_lt_zero _))⟩, fun z => absurd (show 169 ≤ i by omega) z⟩
    | succ r ih =>
      intro i S' hr hi hf hx
      have hM' := hf.M hM
      have hnx := ih (i + 1)
      generalize r + 1 = fu at hnx ⊢
      unfold wpX12_begins_b2
      rw [c_0, c_1, c_169, o_le (by decide) (by omega)]
      refine ⟨fun z => absurd z (by omega), fun _ => ⟨msk hM', 88, msr_p hM', 89, msr_told hM', msk_told hM', ?_⟩⟩
      rw [msl_told hM', msl_p hM', o_add, o_inT (by omega) (by omega), o_cl (by omega), hf.1.I (by decide), h89 i (by omega)]
      refine ⟨trivial, msk_p hM', trivial, hnx _ (by omega) (by omega) (mf_t hf (mf_row _ _ _ (by decide) (by decide))) (fun x hx2 => ?_)⟩
      rw [pI_sI]
      by_cases e : x = i
      · rw [if_pos ⟨rfl, e⟩, e]
      · rw [if_neg (fun q => e q.2)]
        exact hx x (by omega)
  unfold wpX12_begins
  exact ⟨_, b2 _ 0 S rfl (by omega) (mf_r _ _ _) (fun x hx0 => absurd hx0 (Nat.not_lt_zero _))⟩

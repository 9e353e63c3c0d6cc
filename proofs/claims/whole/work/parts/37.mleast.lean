/-! SUPPORT: the reference's least one -/
theorem rD_sI {S : PS} {a x w : Nat} {d : Nat → Nat} (h : rD S a d) (hw : w < 32) : rD (sI S a x (nI w)) a (ud d x w) := ⟨h.1, h.2.1, fun y hy => by
  rw [pI_sI]
  by_cases e : y = x
  · rw [if_pos ⟨rfl, e⟩, e, ud_s]
  · rw [if_neg (fun q => e q.2), ud_n _ _ e]; exact h.2.2.1 y hy, ud_wf h.2.2.2 hw⟩
theorem Can_w {κ : Kon} {e : Nat → Nat} (hκ : Kwf κ) (he : Dwf e) {k : Nat} (hk : k < κ.1) (h : Can κ e) : ∃ w, w < 5 ∧ (e (κ.2.1 k)).testBit w = true ∧ Can κ (ud e (κ.2.1 k) (2 ^ w)) := by
  obtain ⟨b, hb, hok⟩ := h
  exact ⟨b (κ.2.1 k), (hb k hk).1, (hb k hk).2, b, asg_ud hκ hk he hb, hok⟩
theorem q_laysLeast {S : PS} {P d : Nat → Nat} {c x v : Nat} {Q : PS → Prop} (hM : MShape S) (hp : rP S P) (hw : Pwf P) (hd : rD S 90 d) (hc : c < P 1) (hx : x < 7) (hv : v < 5) (hs : sups (cK P c) d x v) (hQ : ∀ S' e a, fr [96, 100] S S' → rD S' 100 e → Lea (cK P c) (ud d x (2 ^ v)) a → (∀ k, k < (cK P c).1 → a ((cK P c).2.1 k) < 5 ∧ e ((cK P c).2.1 k) = 2 ^ a ((cK P c).2.1 k)) → Q S') : wpX12_laysLeast S 87 (nI c) (nI x) (nI v) Q := by
  have hκ := cK_wf (hw.2.2.2.2.2 c hc) hw.1
  have hc8 : c < 8 := Nat.lt_of_lt_of_le hc hw.2.1
  have hn7 := hκ.1
  have hP0 := hw.1
  -- the members' loop
  have mloop : ∀ r k e S', k + r = (cK P c).1 → fr [96, 100] S S' → rD S' 100 e → Can (cK P c) e → (∀ j, j < k → ∃ u, u < 5 ∧ e ((cK P c).2.1 j) = 2 ^ u) → (∀ a, Lea (cK P c) e a → Lea (cK P c) (ud d x (2 ^ v)) a) → wpX12_laysLeast_b42 Q (r + 1) S' 87 (nI c) (nI x) (nI v) (nI k) := by
    intro r
    induction r with
    | zero =>
      intro k e S' hk hf he hcan hfix hL
      have hM' := hf.M hM
      have hp' := hf.P (by decide) hp
      have hle : (cK P c).1 ≤ k := by omega
      have hfx : ∀ j, j < (cK P c).1 → pick5 (dF (e ((cK P c).2.1 j))) < 5 ∧ e ((cK P c).2.1 j) = 2 ^ pick5 (dF (e ((cK P c).2.1 j))) := fun j hj => by
        obtain ⟨u, hu, e1⟩ := hfix j (by omega)
        have h2 : pick5 (dF (2 ^ u)) = u := by
          have h1 := pick_in (dm_pow_lt _ hu) (by have := Nat.two_pow_pos u; omega)
          have h2 := dm_pow_tb _ hu _ h1.1
          rw [h1.2] at h2
          simpa using h2.symm
        rw [e1, h2]
        exact ⟨hu, rfl⟩
      have h1 := hQ S' e (fun y => pick5 (dF (e y))) hf he (hL _ (Lea_fix (fun j hj => (hfx j hj).1) (fun j hj => (hfx j hj).2) hcan hκ)) hfx
      have h2 : ∀ Q2 : Int32 → PS → Prop, Q2 (nI (cK P c).1) S' → wpX12_of S' 87 (nI c) (nI 1) Q2 := fun Q2 hq => by rw [w_of hM' hp' (by omega)]; exact hq
      unfold wpX12_laysLeast_b42
      refine ⟨msk hM', ?_⟩
      apply h2
      refine ⟨fun _ => h1, fun q => ?_⟩
      rw [o_le (by omega) (by omega)] at q
      exact absurd hle q
    | succ r ih =>
      intro k e S' hk hf he hcan hfix hL
      have hM' := hf.M hM
      have hp' := hf.P (by decide) hp
      have hle : ¬ (cK P c).1 ≤ k := by omega
      have hkn : k < (cK P c).1 := by omega
      have hmk := hκ.2.1 k hkn
      have hek := he.2.2.2 _ hmk
      have hn := ih (k + 1)
      generalize r + 1 = fu at hn ⊢
      -- the values' loop
      have vloop : ∀ q w S2, w + q = 5 → fr [96, 100] S S2 → rD S2 100 e → (∀ u, u < w → (e ((cK P c).2.1 k)).testBit u = true → ¬ Can (cK P c) (ud e ((cK P c).2.1 k) (2 ^ u))) → wpX12_laysLeast_b67 (wpX12_laysLeast_b42 Q fu) Q (q + 1) S2 87 (nI c) (nI x) (nI v) (nI k) (nI ((cK P c).2.1 k)) (nI w) := by
        intro q
        induction q with
        | zero =>
          intro w S2 hwq hf2 he2 hno
          obtain ⟨u, h1, h2, h3⟩ := Can_w hκ he.2.2.2 hkn hcan
          exact absurd h3 (hno u (by omega) h2)
        | succ q ihq =>
          intro w S2 hwq hf2 he2 hno
          have hM2 := hf2.M hM
          have hp2 := hf2.P (by decide) hp
          have hn2 := ihq (w + 1)
          have hee : pI S2 100 ((cK P c).2.1 k) = nI (e ((cK P c).2.1 k)) := he2.2.2.1 _ hmk
          generalize q + 1 = fq at hn2 ⊢
          simp (disch := omega) only [wpX12_laysLeast_b67, c_0, c_1, c_2, c_3, c_4, c_5, c_6, c_7, c_8, c_9, c_10, c_11, c_12, c_14, c_16, c_19, c_20, c_24, c_31, c_32, c_35, c_48, c_57, c_59, c_63, c_97, c_100, c_122, c_127, c_169, c_255, c_600, c_1000, c_32767, Nat.le_refl, Nat.zero_le, Nat.add_zero, Nat.lt_irrefl, eq_self, o_sub, Nat.sub_zero, Nat.not_lt_zero, ↓ng_d, o_le, o_lt, o_eq, o_add, o_mul, o_cl, o_inT, o_and, n_31, o_shr, o_shl1, o_or, m_lt, m_ge, m_le, m_gt, m_ne, m_ne2, Option.some.injEq, exists_eq_left', true_and, and_true, true_implies, false_implies, implies_true, not_true_eq_false, not_false_eq_true, bI_0, bI_1, bI_01, b01, true_or, or_true, Nat.reduceEqDiff, Bool.not_eq_false, Bool.not_eq_true, Bool.true_eq_false, Bool.false_eq_true, msk hM2, msr_least hM2, msk_least hM2, msl_least hM2, hee, w_has (show e ((cK P c).2.1 k) < 2147483648 by omega) (show w < 32 by omega)]
          refine ⟨fun z => ?_, fun z => ?_⟩
          · refine hn2 S2 (by omega) hf2 he2 (fun u hu hub => ?_)
            by_cases eu : u = w
            · rw [eu, z] at hub; cases hub
            · exact hno u (by omega) hub
          · refine q_hasSupport hM2 hp2 hw he2 (by decide) hmk (by omega) (Or.inl ⟨c, hc, rfl, rfl⟩) (fun S3 hf3 => ?_)
            have hf4 : fr [96, 100] S S3 := fr_t hf2 (fr_m (by decide) hf3)
            have hM4 := hf4.M hM
            have he4 : rD S3 100 e := hf3.D (by decide) he2
            simp (disch := omega) only [c_0, c_1, c_2, c_3, c_4, c_5, c_6, c_7, c_8, c_9, c_10, c_11, c_12, c_14, c_16, c_19, c_20, c_24, c_31, c_32, c_35, c_48, c_57, c_59, c_63, c_97, c_100, c_122, c_127, c_169, c_255, c_600, c_1000, c_32767, Nat.le_refl, Nat.zero_le, Nat.add_zero, Nat.lt_irrefl, eq_self, o_sub, Nat.sub_zero, Nat.not_lt_zero, ↓ng_d, o_le, o_lt, o_eq, o_add, o_mul, o_cl, o_inT, o_and, n_31, o_shr, o_shl1, o_or, m_lt, m_ge, m_le, m_gt, m_ne, m_ne2, Option.some.injEq, exists_eq_left', true_and, and_true, true_implies, false_implies, implies_true, not_true_eq_false, not_false_eq_true, bI_0, bI_1, bI_01, b01, true_or, or_true, Nat.reduceEqDiff, Bool.not_eq_false, Bool.not_eq_true, Bool.true_eq_false, Bool.false_eq_true, msk hM4, msr_least hM4, msk_least hM4, msl_least hM4]
            refine ⟨fun z2 => ?_, fun z2 => ?_⟩
            · have hcw : Can (cK P c) (ud e ((cK P c).2.1 k) (2 ^ w)) := dB_t.mp z2
              refine hn (ud e ((cK P c).2.1 k) (2 ^ w)) _ (by omega) (fr_t hf4 (fr_sI _ _ _ (by decide))) (rD_sI he4 (dm_pow_lt w (by omega))) hcw (fun j hj => ?_) (fun a ha => hL a (Lea_st hκ he.2.2.2 hkn (by omega) z hfix hno ha))
              by_cases ej : j = k
              · subst ej; exact ⟨w, by omega, ud_s _ _ _⟩
              · rw [ud_n _ _ (fun z => ej (hκ.2.2.1 j k (by omega) hkn z))]
                exact hfix j (by omega)
            · have hcw : ¬ Can (cK P c) (ud e ((cK P c).2.1 k) (2 ^ w)) := dB_f.mp z2
              refine hn2 S3 (by omega) hf4 he4 (fun u hu hub => ?_)
              by_cases eu : u = w
              · rw [eu]; exact hcw
              · exact hno u (by omega) hub
      have h2 : ∀ Q2 : Int32 → PS → Prop, Q2 (nI (cK P c).1) S' → wpX12_of S' 87 (nI c) (nI 1) Q2 := fun Q2 hq => by rw [w_of hM' hp' (by omega)]; exact hq
      have h3 : ∀ Q2 : Int32 → PS → Prop, Q2 (nI ((cK P c).2.1 k)) S' → wpX12_of S' 87 (nI c) (nI (2 + k)) Q2 := fun Q2 hq => by rw [w_of hM' hp' (by omega)]; exact hq
      unfold wpX12_laysLeast_b42
      refine ⟨msk hM', ?_⟩
      apply h2
      refine ⟨fun q => ?_, fun _ => ⟨msk hM', ?_⟩⟩
      · rw [o_le (by omega) (by omega)] at q
        exact absurd q hle
      · rw [show (2 : Int32) = nI 2 from rfl, o_add]
        apply h3
        exact ⟨_, vloop 5 0 S' (Nat.zero_add _) hf he (fun u hu => by omega)⟩
  -- the domains are taken over
  have cloop : ∀ r y S', y + r = 7 → fr [96, 100] S S' → (∀ z, z < y → pI S' 100 z = nI (d z)) → wpX12_laysLeast_b3 Q (r + 1) S' 87 (nI c) (nI x) (nI v) (nI y) := by
    intro r
    induction r with
    | zero =>
      intro y S' hy hf h0
      have hM' := hf.M hM
      have hle : 7 ≤ y := by omega
      have hD : rD S' 100 d := ⟨msk_least hM', msl_least hM', fun z hz => h0 z (by omega), hd.2.2.2⟩
      have h1 := mloop (cK P c).1 0 (ud d x (2 ^ v)) (sI S' 100 x (nI (2 ^ v))) (Nat.zero_add _) (fr_t hf (fr_sI _ _ _ (by decide))) (rD_sI hD (dm_pow_lt v hv)) hs.2 (fun j hj => by omega) (fun a ha => ha)
      simp (disch := omega) only [wpX12_laysLeast_b3, c_0, c_1, c_2, c_3, c_4, c_5, c_6, c_7, c_8, c_9, c_10, c_11, c_12, c_14, c_16, c_19, c_20, c_24, c_31, c_32, c_35, c_48, c_57, c_59, c_63, c_97, c_100, c_122, c_127, c_169, c_255, c_600, c_1000, c_32767, Nat.le_refl, Nat.zero_le, Nat.add_zero, Nat.lt_irrefl, eq_self, o_sub, Nat.sub_zero, Nat.not_lt_zero, ↓ng_d, o_le, o_lt, o_eq, o_add, o_mul, o_cl, o_inT, o_and, n_31, o_shr, o_shl1, o_or, m_lt, m_ge, m_le, m_gt, m_ne, m_ne2, Option.some.injEq, exists_eq_left', true_and, and_true, true_implies, false_implies, implies_true, not_true_eq_false, not_false_eq_true, bI_0, bI_1, bI_01, b01, true_or, or_true, Nat.reduceEqDiff, Bool.not_eq_false, Bool.not_eq_true, Bool.true_eq_false, Bool.false_eq_true, msk hM', msr_least hM', msk_least hM', msl_least hM', hle]
      exact ⟨_, h1⟩
    | succ r ih =>
      intro y S' hy hf h0
      have hM' := hf.M hM
      have hle : ¬ 7 ≤ y := by omega
      have hdy : pI S' 90 y = nI (d y) := by rw [hf.I (by decide)]; exact hd.2.2.1 y (by omega)
      have hdk : pK S' 90 = 13 := by rw [hf.K]; exact hd.1
      have hdl : pL S' 90 = 7 := by rw [hf.L]; exact hd.2.1
      have h1 := ih (y + 1) (sI S' 100 y (nI (d y))) (by omega) (fr_t hf (fr_sI _ _ _ (by decide))) (fun z hz => by
        rw [pI_sI]
        by_cases e : z = y
        · rw [if_pos ⟨rfl, e⟩, e]
        · rw [if_neg (fun q => e q.2)]; exact h0 z (by omega))
      generalize r + 1 = fu at h1 ⊢
      simp (disch := omega) only [wpX12_laysLeast_b3, c_0, c_1, c_2, c_3, c_4, c_5, c_6, c_7, c_8, c_9, c_10, c_11, c_12, c_14, c_16, c_19, c_20, c_24, c_31, c_32, c_35, c_48, c_57, c_59, c_63, c_97, c_100, c_122, c_127, c_169, c_255, c_600, c_1000, c_32767, Nat.le_refl, Nat.zero_le, Nat.add_zero, Nat.lt_irrefl, eq_self, o_sub, Nat.sub_zero, Nat.not_lt_zero, ↓ng_d, o_le, o_lt, o_eq, o_add, o_mul, o_cl, o_inT, o_and, n_31, o_shr, o_shl1, o_or, m_lt, m_ge, m_le, m_gt, m_ne, m_ne2, Option.some.injEq, exists_eq_left', true_and, and_true, true_implies, false_implies, implies_true, not_true_eq_false, not_false_eq_true, bI_0, bI_1, bI_01, b01, true_or, or_true, Nat.reduceEqDiff, Bool.not_eq_false, Bool.not_eq_true, Bool.true_eq_false, Bool.false_eq_true, msk hM', msr_least hM', msk_least hM', msl_least hM', msr_domain hM', hle, hdy, hdk, hdl]
      exact h1
  unfold wpX12_laysLeast
  exact ⟨_, cloop 7 0 S (Nat.zero_add _) (fr_r _ _) (fun z hz => by omega)⟩

/-! THE REFERENCE: load -/
theorem m_load {S : PS} {tx : Nat → Nat} {n : Nat} {Q : Int32 → PS → Prop} (hM : MShape S) (h13 : pI S 87 13 = nI n) (hn : n ≤ 600) (hx : ∀ i, i < n → pI S 94 i = nI (tx i) ∧ tx i < 256)
    (hE : ∀ S' c e, rLoad tx n = er c e → mf [89, 95] [0, 13, 14, 15, 16, 17, 18, 19, 20, 21] S S' → pI S' 87 0 = nI 1 → pI S' 87 13 = nI 0 → pI S' 87 19 = nI c → pI S' 87 20 = nI e → Q (nI 0) S')
    (hQ : ∀ S' P p, rLoad tx n = ok P p → mf [88, 89, 90, 91, 95, 96] [0, 7, 8, 9, 10, 11, 13, 14, 15, 16, 17, 18, 19, 20, 21] S S' → Pwf P → MJ S' P [] [] (prE P [] 0 (fun x => P (2 + x), [])) 0 → pI S' 87 0 = nI 0 → pI S' 87 13 = nI 0 → pI S' 87 19 = nI 0 → pI S' 87 20 = ngI → Q (nI (prE P [] 0 (fun x => P (2 + x), [])).2.length) S') : wpX12_load S 87 Q := by
  unfold wpX12_load
  rw [ng_d, c_0]
  refine ⟨msk hM, ?_⟩
  have e13 : pI (sI S 87 0 (nI 0)) 87 13 = nI n := by rw [pI_sI, if_neg (fun q => absurd q.2 (by decide))]; exact h13
  rw [e13]
  generalize hS1 : sI (sI (sI (sI (sI (sI S 87 0 (nI 0)) 87 14 (nI n)) 87 13 (nI 0)) 87 15 (nI 0)) 87 19 (nI 0)) 87 20 ngI = S1
  have f1 : mf [] [0, 13, 14, 15, 19, 20] S S1 := by
    rw [← hS1]
    exact mf_t (mf_t (mf_t (mf_t (mf_t (mf_sI _ _ (by decide)) (mf_sI _ _ (by decide))) (mf_sI _ _ (by decide))) (mf_sI _ _ (by decide))) (mf_sI _ _ (by decide))) (mf_sI _ _ (by decide))
  have i0 : pI S1 87 0 = nI 0 := by rw [← hS1]; rfl
  have i13 : pI S1 87 13 = nI 0 := by rw [← hS1]; rfl
  have i14 : pI S1 87 14 = nI n := by rw [← hS1]; rfl
  have i15 : pI S1 87 15 = nI 0 := by rw [← hS1]; rfl
  have i19 : pI S1 87 19 = nI 0 := by rw [← hS1]; rfl
  have i20 : pI S1 87 20 = ngI := by rw [← hS1]; rfl
  clear hS1
  have fG : ∀ S', mG S1 S' → mf [89, 95] [0, 13, 14, 15, 16, 17, 18, 19, 20, 21] S S' := fun S' h => mf_t (mf_w f1 (by decide) (by decide)) (mf_w h (by decide) (by decide))
  have b96W : ∀ (S' : PS) (c e : Nat) (y : Int32), rLoad tx n = er c e → mG S1 S' → mW S' c e → wpX12_load_b96 Q S' 87 y := fun S' c e y hr hg hw => by
    have g0 : pI S' 87 0 = nI 0 := (hg.F (by decide)).trans i0
    have k0 : pI (sI S' 87 0 (nI 1)) 87 0 = nI 1 := by rw [pI_sI, if_pos ⟨rfl, rfl⟩]
    have kn : ∀ k, k ≠ 0 → pI (sI S' 87 0 (nI 1)) 87 k = pI S' 87 k := fun k hk => by rw [pI_sI, if_neg (fun q => hk q.2)]
    unfold wpX12_load_b96
    rw [c_0, c_1]
    refine ⟨msk hw.1, q_isWr1 hw ⟨fun _ => ?_, fun z => absurd z n10⟩⟩
    unfold wpX12_load_b109 wpX12_may wpX12_may_b16
    rw [c_0, c_1]
    refine ⟨msk hw.1, fun z => absurd rfl z, fun _ => ⟨msk hw.1, fun z => absurd g0 z, fun _ => ⟨msk hw.1, fun _ => ⟨fun z => absurd rfl z, fun _ => ?_⟩, fun z => absurd (k0.symm.trans z) n10⟩⟩⟩
    exact hE _ c e hr (mf_t (fG S' hg) (mf_sI _ _ (by decide))) k0 (by rw [kn 13 (by decide), hg.F (by decide)]; exact i13) (by rw [kn 19 (by decide)]; exact hw.2.1) (by rw [kn 20 (by decide)]; exact hw.2.2.2.2)
  have b96 : ∀ (S' : PS) (y : Int32) (N P P0 : Nat → Nat) (p : Nat), rLoad tx n = ok P p → mG S1 S' → mRE S' tx n N P p → tld P → vld P0 → (∀ k, k < 9 → k ≠ 1 → P k = P0 k) → wpX12_load_b96 Q S' 87 y := fun S' y N P P0 p hr hg R1 ht hv hP => by
    have hw : Pwf P := Pwf_t ht hv hP
    have g0 : pI S' 87 0 = nI 0 := (hg.F (by decide)).trans i0
    unfold wpX12_load_b96
    rw [c_0, c_1]
    refine ⟨msk R1.1, q_isWr0 R1.1 (mRE_19 R1) ⟨fun z => absurd rfl z, fun _ => ?_⟩⟩
    unfold wpX12_load_b109 wpX12_may wpX12_may_b16
    rw [c_0, c_1]
    refine ⟨msk R1.1, fun _ => ⟨msk R1.1, fun z => absurd g0 z, fun _ => ⟨fun _ => ⟨msk R1.1, ?_⟩, fun z => absurd z n10⟩⟩, fun z => absurd z n10⟩
    refine q_begins R1.1 hw R1.2.2.2.2.1 (fun S2 f2 hJ => ⟨msk hJ.1, ?_⟩)
    have hl : pI S2 87 7 = nI (prE P [] 0 (fun x => P (2 + x), [])).2.length := hJ.2.2.2.2.1.1
    rw [hl]
    exact hQ S2 P p hr (mf_t (mf_w (fG S' hg) (by decide) (by decide)) (mf_w f2 (by decide) (by decide))) hw hJ (by rw [f2.F (by decide)]; exact g0) (by rw [f2.F (by decide), hg.F (by decide)]; exact i13) (by rw [f2.F (by decide)]; exact mRE_19 R1) (by rw [f2.F (by decide)]; exact R1.2.2.2.2.2.2.2.2.2)
  have h75 : ∀ (N P0 : Nat → Nat) (y : Int32), vld P0 → ∀ r S' P p, 9 - P 1 = r → mG S1 S' → mRE S' tx n N P p → tld P → (∀ k, k < 9 → k ≠ 1 → P k = P0 k) → rLoad tx n = rCons tx n N r P p → wpX12_load_b75 Q (r + 1) S' 87 y := by
    intro N P0 y hv r
    induction r with
    | zero =>
      intro S' P p hr _ _ ht
      have := ht.2.1
      omega
    | succ r ih =>
      intro S' P p hr hg R1 ht hP hsp
      have hkt := kT_lt tx n p
      have hsp' : rLoad tx n = if kT tx n p = 0 then ok P p else Rbd (rCon tx n N P p) (fun P' p' => rCons tx n N r P' p') := hsp
      have hnx := ih
      unfold wpX12_load_b75
      rw [c_0]
      refine ⟨msk R1.1, q_isWr0 R1.1 (mRE_19 R1) ⟨fun z => absurd rfl z, fun _ => ⟨msk R1.1, ?_⟩⟩⟩
      rw [R1.2.2.1.2.2.1, o_eq (by omega) (by decide)]
      refine ⟨fun z => ?_, fun z => ?_⟩
      · rw [if_pos z] at hsp'
        exact b96 S' y N P P0 p hsp' hg R1 ht hv hP
      · rw [if_neg z] at hsp'
        refine q_mrcon R1 ht (fun S2 c e h2 g2 w2 => ?_) (fun S2 P2 p2 h2 g2 R2 ht2 h1 hP2 => ?_)
        · unfold wpX12_load_b75
          rw [c_0]
          refine ⟨msk w2.1, q_isWr1 w2 ⟨fun _ => b96W S2 c e y ?_ (mG_t hg g2) w2, fun q => absurd q n10⟩⟩
          rw [hsp', h2]
          rfl
        · refine hnx S2 P2 p2 (by omega) (mG_t hg g2) R2 ht2 (fun k hk hk1 => (hP2 k hk hk1).trans (hP k hk hk1)) ?_
          rw [hsp', h2]
          rfl
  have h59 : ∀ (y : Int32) r S' P N p, 8 - P 0 = r → mG S1 S' → mRE S' tx n N P p → vld P → rLoad tx n = Rbd (rVars tx n r P N p) (fun z p => rCons tx n z.2 9 z.1 p) → wpX12_load_b59 Q (r + 1) S' 87 y := by
    intro y r
    induction r with
    | zero =>
      intro S' P N p hr _ _ hv
      have := hv.1
      omega
    | succ r ih =>
      intro S' P N p hr hg R1 hv hsp
      have hsp' : rLoad tx n = Rbd (if isW tx n wVar p = true then (if P 0 = 7 then er 4 (sT tx n p) else Rbd (rVar tx n P N p) (fun z p' => rVars tx n r z.1 z.2 p')) else ok (P, N) p) (fun z p => rCons tx n z.2 9 z.1 p) := hsp
      have hnx := ih
      unfold wpX12_load_b59
      rw [c_0]
      refine ⟨msk R1.1, q_misW R1 wV_var ?_⟩
      rw [bI_0]
      refine ⟨fun q => ?_, fun q => ⟨msk R1.1, ?_⟩⟩
      · rw [if_neg (by rw [q]; decide)] at hsp'
        have hs2 : rLoad tx n = rCons tx n N 9 P p := hsp'
        exact ⟨_, h75 N P y hv 9 S' P p (by rw [hv.2.1]) hg R1 ⟨hv.1, by rw [hv.2.1]; decide, fun c hc => by rw [hv.2.1] at hc; omega, fun k hk => hv.2.2.2.2.2 k (by omega)⟩ (fun _ _ _ => rfl) hs2⟩
      · rw [Bool.not_eq_false] at q
        rw [if_pos q] at hsp'
        refine q_mvar R1 hv (fun S2 c e h2 g2 w2 => ?_) (fun S2 z p2 h2 g2 R2 hv2 h0 => ?_)
        · have hr2 : rLoad tx n = er c e := by
            rw [hsp']
            by_cases e7 : P 0 = 7
            · rw [if_pos e7] at h2 ⊢
              obtain ⟨q1, q2⟩ := er_i h2
              rw [← q1, ← q2]
              rfl
            · rw [if_neg e7] at h2 ⊢
              rw [h2]
              rfl
          unfold wpX12_load_b59
          rw [c_0]
          refine ⟨msk w2.1, q_misWW w2 ⟨fun _ => ⟨1, ?_⟩, fun w => absurd rfl w⟩⟩
          unfold wpX12_load_b75
          rw [c_0]
          exact ⟨msk w2.1, q_isWr1 w2 ⟨fun _ => b96W S2 c e y hr2 (mG_t hg g2) w2, fun w => absurd w n10⟩⟩
        · have e7 : ¬ P 0 = 7 := fun w => by
            rw [if_pos w] at h2
            exact er_ok h2
          rw [if_neg e7] at h2 hsp'
          refine hnx S2 z.1 z.2 p2 (by omega) (mG_t hg g2) R2 hv2 ?_
          rw [hsp', h2]
          rfl
  have h35 : ∀ r i S', 169 - i = r → i ≤ 169 → fr [89] S1 S' → (∀ k, k < i → pI S' 89 k = nI 0) → wpX12_load_b35 Q (r + 1) S' 87 (nI i) := by
    intro r
    induction r with
    | zero =>
      intro i S' hr hi hf hz
      have hM' : MShape S' := hf.M (f1.M hM)
      have h87 : 87 ∉ [89] := by decide
      unfold wpX12_load_b35
      rw [c_0, c_169, o_le (by decide) (by omega)]
      refine ⟨fun _ => ⟨msk hM', ?_⟩, fun z => absurd (show 169 ≤ i by omega) z⟩
      have hx' : mLn S' tx n := ⟨by rw [hf.I h87]; exact i14, hn, fun k hk => by rw [hf.I (by decide), f1.1.I (by decide)]; exact hx k hk⟩
      refine q_token (p := 0) hM' hx' (by rw [hf.I h87]; exact i15) (Nat.zero_le _) (fun S2 f2 hT2 => ⟨_, h59 _ 8 S2 zP zP 0 rfl (mG_t (mG_row hf) (mf_w f2 (by decide) (by decide))) ?_ vld_0 rfl⟩)
      exact ⟨f2.M hM', mLn_mf f2 (by decide) (by decide) hx', hT2, Nat.zero_le _, fun k hk => by rw [f2.1.I (by decide)]; exact hz k (by omega), by decide, fun k hk => absurd hk (Nat.not_lt_zero _), fun k hk => absurd hk (Nat.not_lt_zero _), by rw [f2.F (by decide), hf.I h87]; exact i19, by rw [f2.F (by decide), hf.I h87]; exact i20⟩
    | succ r ih =>
      intro i S' hr hi hf hz
      have hM' : MShape S' := hf.M (f1.M hM)
      have hnx := ih (i + 1)
      generalize r + 1 = fu at hnx ⊢
      unfold wpX12_load_b35
      rw [c_0, c_1, c_169, o_le (by decide) (by omega)]
      refine ⟨fun z => absurd z (by omega), fun _ => ⟨msk hM', 89, msr_told hM', msk_told hM', ?_⟩⟩
      rw [msl_told hM', o_add, o_inT (by omega) (by omega), o_cl (by omega)]
      refine ⟨trivial, hnx _ (by omega) (by omega) (fr_t hf (f89 _ _ _)) (fun k hk => ?_)⟩
      rw [pI_sI]
      by_cases e : k = i
      · rw [if_pos ⟨rfl, e⟩]
      · rw [if_neg (fun q => e q.2)]
        exact hz k (by omega)
  exact ⟨_, h35 _ 0 S1 rfl (by omega) (fr_r _ _) (fun k hk => absurd hk (Nat.not_lt_zero _))⟩

/-! THE REFERENCE READS: a constraint, a variable -/
theorem tld_1 {P P' : Nat → Nat} {c : Nat} (h : tld P) (h8 : P 1 < 8) (hc : c = P 1) (hw : Cwf P' c) (hl : ∀ k, k < 9 + 20 * c → P' k = P k) (hh : ∀ k, 9 + 20 * c + 20 ≤ k → P' k = 0) : tld (up P' 1 (P 1 + 1)) := by
  have u0 : up P' 1 (P 1 + 1) 0 = P' 0 := up_n _ _ (by decide)
  have u1 : up P' 1 (P 1 + 1) 1 = P 1 + 1 := up_s _ _ _
  have un : ∀ k, k ≠ 1 → up P' 1 (P 1 + 1) k = P' k := fun k hk => up_n _ _ hk
  refine ⟨by rw [u0, hl 0 (by omega)]; exact h.1, by rw [u1]; omega, fun d hd => ?_, fun k hk => ?_⟩
  · rw [u1] at hd
    by_cases e : d = P 1
    · have e' : d = c := e.trans hc.symm
      rw [e']
      exact Cwf_cg u0 (fun j _ => un _ (by omega)) hw
    · exact Cwf_cg (by rw [u0]; exact hl 0 (by omega)) (fun j _ => by rw [un _ (by omega)]; exact hl _ (by omega)) (h.2.2.1 d (by omega))
  · rw [u1] at hk
    rw [un _ (by omega)]
    exact hh k (by omega)
theorem Cpg_2 {P : Nat → Nat} {c t : Nat} (hb : blkC P c t) (ht : t = 2 ∨ t = 3) : Cpg P c := by
  obtain ⟨b0, b1⟩ := hb
  have b2 : P (9 + 20 * c + 1) = 0 := b1 1 (by decide) (by decide)
  refine ⟨by omega, by omega, fun k hk => by omega, fun i j hi => by omega, fun q => by omega, fun q => by omega, fun q => by omega, fun j hj => ?_, fun j hj => by rw [b1 (2 + j) (by omega) (by omega)]; omega⟩
  by_cases q : j = 0
  · rw [q, Nat.add_zero]
    omega
  · rw [b1 j (by omega) hj]
    omega
theorem b152W {S : PS} {c e : Nat} {x1 x2 : Int32} {Q : PS → Prop} (hw : mW S c e) (hQ : ∀ S', mG S S' → mW S' c e → Q S') : wpX12_constraint_b152 Q S 87 x1 x2 := by
  unfold wpX12_constraint_b152
  rw [c_1]
  refine ⟨msk hw.1, 89, msr_told hw.1, msk_told hw.1, ?_⟩
  rw [msl_told hw.1, o_inT (by decide) (by decide)]
  have w2 := mW_row hw (f89 S (nI 1).toNatClampNeg (pI S 89 (nI 1).toNatClampNeg + nI 1))
  exact ⟨trivial, trivial, q_mendsW w2 (hQ _ (mG_row (f89 _ _ _)) w2)⟩
theorem q_mrcon {S : PS} {tx : Nat → Nat} {n p : Nat} {N P : Nat → Nat} {Q : PS → Prop} (hR : mRE S tx n N P p) (ht : tld P)
    (hE : ∀ S' c' e, rCon tx n N P p = er c' e → mG S S' → mW S' c' e → Q S')
    (hQ : ∀ S' P' p', rCon tx n N P p = ok P' p' → mG S S' → mRE S' tx n N P' p' → tld P' → P' 1 = P 1 + 1 → (∀ k, k < 9 → k ≠ 1 → P' k = P k) → Q S') : wpX12_constraint S 87 Q := by
  have hM := hR.1
  have h18 := ht.2.1
  have b83W : ∀ (S' : PS) (c' e : Nat) (y : Int32), rCon tx n N P p = er c' e → mG S S' → mW S' c' e → wpX12_constraint_b83 Q S' 87 y := fun S' c' e y hr hg hw => by
    unfold wpX12_constraint_b83
    rw [c_0]
    exact ⟨msk hw.1, q_isWr1 hw ⟨fun z => absurd z n10, fun _ => hE S' c' e hr hg hw⟩⟩
  have b53 : ∀ t, rKd tx n p = t → t < 4 → wpX12_constraint_b53 Q S 87 (nI t) := fun t hk ht4 => by
    unfold wpX12_constraint_b53
    rw [ng_d, c_1, c_4, show (8 : Int32) = nI 8 from rfl, o_cl (by decide)]
    refine ⟨fun _ => ⟨msk hM, 89, msr_told hM, msk_told hM, ?_⟩, fun z => absurd z (nI_nn (by omega))⟩
    rw [msl_told hM, o_inT (by decide) (by decide), hR.2.2.2.2.1 1 (by decide), o_eq (by omega) (by decide)]
    refine ⟨trivial, fun z8 => ?_, fun z8 => q_mfails hM (mRE_19 hR) hR.2.2.1 (by decide) (by decide) (fun S' hf hw => b83W S' _ _ _ ?_ (mG_f hf) hw)⟩
    · have hsp : rCon tx n N P p = Rbd (rBody tx n N t (9 + 20 * P 1) (up P (9 + 20 * P 1) t) (eT tx n p)) (fun P' p' => Rbd (rSem tx n p') (fun _ q => ok (up P' 1 (P 1 + 1)) q)) := by
        unfold rCon
        rw [hk, if_neg (by omega), if_neg z8]
      have hb : blkC (up P (9 + 20 * P 1) t) (P 1) t := blk_up ht.2.2.2
      unfold wpX12_constraint_b83
      simp only [c_0, c_1, show (9 : Int32) = nI 9 from rfl, show (20 : Int32) = nI 20 from rfl]
      refine ⟨msk hM, q_isWr0 hM (mRE_19 hR) ⟨fun _ => ⟨msk hM, 89, msr_told hM, msk_told hM, ?_⟩, fun z => absurd rfl z⟩⟩
      rw [o_cl (a := 1) (by decide), hR.2.2.2.2.1 1 (by decide)]
      simp only [o_mul, o_add, Nat.add_zero]
      rw [msl_told hM, o_inT (by decide) (by decide), o_inT (by omega) (by omega), o_cl (by omega), o_eq (a := t) (b := 0) (by omega) (by decide), o_eq (a := t) (b := 1) (by omega) (by decide)]
      have R1 := mRE_set (k := 9 + 20 * P 1) (v := t) hR (by omega)
      have g1 := mG_row (f89 S (9 + 20 * P 1) (nI t))
      refine ⟨trivial, trivial, ?_⟩
      generalize sI S 89 (9 + 20 * P 1) (nI t) = S1 at R1 g1
      refine q_mTok R1 (fun S2 _ g2 R2 => ?_)
      have g12 := mG_t g1 g2
      have lo : ∀ P' : Nat → Nat, (∀ k, k < 9 + 20 * P 1 + 1 ∨ 9 + 20 * P 1 + 20 ≤ k → P' k = up P (9 + 20 * P 1) t k) → (∀ k, k < 9 + 20 * P 1 → P' k = P k) ∧ ∀ k, 9 + 20 * P 1 + 20 ≤ k → P' k = 0 := fun P' h => ⟨fun k hk => by rw [h k (by omega), up_n _ _ (by omega)], fun k hk => by rw [h k (by omega), up_n _ _ (by omega)]; exact ht.2.2.2 k (by omega)⟩
      have tail : ∀ S3 P3 p3, mG S S3 → mRE S3 tx n N P3 p3 → Cwf P3 (P 1) → (∀ k, k < 9 + 20 * P 1 + 1 ∨ 9 + 20 * P 1 + 20 ≤ k → P3 k = up P (9 + 20 * P 1) t k) → rCon tx n N P p = Rbd (rSem tx n p3) (fun _ q => ok (up P3 1 (P 1 + 1)) q) → ∀ y : Int32, wpX12_constraint_b152 Q S3 87 y (nI (9 + 20 * P 1)) := fun S3 P3 p3 g3 R3 hw3 ho3 hs3 y => by
        obtain ⟨l1, l2⟩ := lo P3 ho3
        have e1 : P3 1 = P 1 := l1 1 (by omega)
        unfold wpX12_constraint_b152
        rw [c_1, o_cl (by decide)]
        refine ⟨msk R3.1, 89, msr_told R3.1, msk_told R3.1, ?_⟩
        rw [msl_told R3.1, o_inT (by decide) (by decide), R3.2.2.2.2.1 1 (by decide), o_add, e1]
        have R4 := mRE_set (k := 1) (v := P 1 + 1) R3 (by decide)
        refine ⟨trivial, trivial, q_mends R4 (fun S5 c' e h5 g5 w5 => hE S5 c' e ?_ (mG_t g3 (mG_t (mG_row (f89 _ _ _)) g5)) w5) (fun S5 v p5 h5 g5 R5 => hQ S5 _ p5 ?_ (mG_t g3 (mG_t (mG_row (f89 _ _ _)) g5)) R5 (tld_1 ht (by omega) rfl hw3 l1 l2) (up_s _ _ _) (fun k hk hk1 => ?_))⟩
        · rw [hs3, h5]
          rfl
        · rw [hs3, h5]
          rfl
        · rw [up_n _ _ hk1]
          exact l1 k (by omega)
      refine ⟨fun z0 => ⟨fun z1 => ⟨msk R2.1, ?_⟩, fun z1 => ⟨msk R2.1, ?_⟩⟩, fun z0 => ⟨msk R2.1, ?_⟩⟩
      · have eb : rBody tx n N t (9 + 20 * P 1) (up P (9 + 20 * P 1) t) (eT tx n p) = rCmp tx n N (9 + 20 * P 1) (up P (9 + 20 * P 1) t) (eT tx n p) := by
          unfold rBody
          rw [if_neg z0, if_neg z1]
        rw [eb] at hsp
        have hg := Cpg_2 hb (by omega)
        have hm0 : up P (9 + 20 * P 1) t (9 + 20 * P 1 + 1) = 0 := hb.2 1 (by decide) (by decide)
        have hsp' : rCon tx n N P p = Rbd (Rbd (rMem tx n N (9 + 20 * P 1) (up P (9 + 20 * P 1) t) (eT tx n p)) (fun P' p' => rMem tx n N (9 + 20 * P 1) P' p')) (fun P' p' => Rbd (rSem tx n p') (fun _ q => ok (up P' 1 (P 1 + 1)) q)) := hsp
        refine q_mem R2 hg (by omega) (fun S3 c' e h3 f3 w3 => ⟨msk w3.1, q_memW w3 (m := 0) ?_ (by decide) (by omega) (b152W w3 (fun S4 g4 w4 => hE S4 c' e ?_ (mG_t g12 (mG_t (mG_0 f3) g4)) w4))⟩) (fun S3 P3 p3 h3 g3 R3 hg3 hl3 hm3 => ⟨msk R3.1, ?_⟩)
        · rw [f3.1.I (by decide), R2.2.2.2.2.1 _ (by omega), hm0]
        · rw [hsp', h3]
          rfl
        · rw [h3] at hsp'
          have hs3 : rCon tx n N P p = Rbd (rMem tx n N (9 + 20 * P 1) P3 p3) (fun P' p' => Rbd (rSem tx n p') (fun _ q => ok (up P' 1 (P 1 + 1)) q)) := hsp'
          refine q_mem R3 hg3 (by omega) (fun S4 c' e h4 f4 w4 => b152W w4 (fun S5 g5 w5 => hE S5 c' e ?_ (mG_t g12 (mG_t g3 (mG_t (mG_0 f4) g5))) w5)) (fun S4 P4 p4 h4 g4 R4 hg4 hl4 hm4 => tail S4 P4 p4 (mG_t g12 (mG_t g3 g4)) R4 (Cpg_wf hg4 (by omega) (fun _ => ?_)) (fun k hk => ?_) ?_ _)
          · rw [hs3, h4]
            rfl
          · rw [hm4, hm3, hm0]
          · rw [hl4 k (by omega), hl3 k (by omega)]
          · rw [hs3, h4]
            rfl
      · have eb : rBody tx n N t (9 + 20 * P 1) (up P (9 + 20 * P 1) t) (eT tx n p) = rWin tx n N (9 + 20 * P 1) (up P (9 + 20 * P 1) t) (eT tx n p) := by
          unfold rBody
          rw [if_neg z0, if_pos z1]
        rw [eb] at hsp
        rw [z1] at hb
        refine q_mwin R2 (by omega) (by rw [z1]; exact hb) (fun S3 c' e h3 g3 w3 => b152W w3 (fun S4 g4 w4 => hE S4 c' e ?_ (mG_t g12 (mG_t g3 g4)) w4)) (fun S3 P3 p3 h3 g3 R3 hw3 ho3 => tail S3 P3 p3 (mG_t g12 g3) R3 hw3 ho3 ?_ _)
        · rw [hsp, h3]
          rfl
        · rcases h3 with ⟨q1, q2⟩ | ⟨q1, q2⟩
          · rw [hsp, q1]
            rfl
          · rw [hsp, q1]
            unfold rSem
            rw [if_neg q2]
            rfl
      · have eb : rBody tx n N t (9 + 20 * P 1) (up P (9 + 20 * P 1) t) (eT tx n p) = rCnts tx n N (9 + 20 * P 1) (up P (9 + 20 * P 1) t) (eT tx n p) := by
          unfold rBody
          rw [if_pos z0]
        rw [eb] at hsp
        refine q_mcnts R2 (by omega) (by rw [z0] at hb ⊢; exact hb) (fun S3 c' e h3 g3 w3 => b152W w3 (fun S4 g4 w4 => hE S4 c' e ?_ (mG_t g12 (mG_t g3 g4)) w4)) (fun S3 P3 p3 h3 g3 R3 hw3 ho3 => tail S3 P3 p3 (mG_t g12 g3) R3 hw3 ho3 ?_ _)
        · rw [hsp, h3]
          rfl
        · rw [hsp, h3]
          rfl
    · unfold rCon
      rw [hk, if_neg (by omega), if_pos z8]
  have e1 : ∀ b, bI b = nI 0 → b = false := fun b h => by rw [bI_0] at h; exact h
  have e2 : ∀ b, ¬ bI b = nI 0 → b = true := fun b h => by rw [bI_0, Bool.not_eq_false] at h; exact h
  unfold wpX12_constraint
  rw [ng_d, c_0, c_1, c_2, c_3]
  refine ⟨msk hM, q_misW hR wV_cnt ⟨fun q1 => ⟨msk hM, q_misW hR wV_win ⟨fun q2 => ⟨msk hM, q_misW hR wV_les ⟨fun q3 => ⟨msk hM, q_misW hR wV_dif ⟨fun q4 => ?_, fun q4 => b53 3 ?_ (by decide)⟩⟩, fun q3 => b53 2 ?_ (by decide)⟩⟩, fun q2 => b53 1 ?_ (by decide)⟩⟩, fun q1 => b53 0 ?_ (by decide)⟩⟩
  · unfold wpX12_constraint_b53
    rw [ng_d, c_1]
    refine ⟨fun z => absurd rfl z, fun _ => ⟨msk hM, q_mfails hM (mRE_19 hR) hR.2.2.1 (by decide) (by decide) (fun S' hf hw => b83W S' _ _ _ ?_ (mG_f hf) hw)⟩⟩
    have ek : rKd tx n p = 4 := by
      unfold rKd
      rw [e1 _ q1, e1 _ q2, e1 _ q3, e1 _ q4]
      rfl
    unfold rCon
    rw [if_pos ek]
  · unfold rKd
    rw [e1 _ q1, e1 _ q2, e1 _ q3, e2 _ q4]
    rfl
  · unfold rKd
    rw [e1 _ q1, e1 _ q2, e2 _ q3]
    rfl
  · unfold rKd
    rw [e1 _ q1, e2 _ q2]
    rfl
  · unfold rKd
    rw [e2 _ q1]
    rfl

/-! THE REFERENCE READS: a variable, the text -/
theorem sh_v {lo hi : Nat} (h1 : lo ≤ hi) (h2 : hi < 5) : ((2 : Int32) <<< (nI hi &&& 31)) - ((1 : Int32) <<< (nI lo &&& 31)) = nI (2 ^ (hi + 1) - 2 ^ lo) := by
  have h3 : 2 ^ hi ≤ 2 ^ 4 := Nat.pow_le_pow_right (by decide) (by omega)
  have h4 : 2 ^ lo ≤ 2 ^ hi := Nat.pow_le_pow_right (by decide) h1
  rw [c_1, c_2, c_31, o_and31 (by omega), o_and31 (by omega), o_shl (by omega) (by omega), o_shl1 (by omega), o_sub (by omega), Nat.pow_succ, Nat.mul_comm]
theorem mW_k {S S' : PS} {A : List Nat} {c e : Nat} (h : mW S c e) (hf : fr A S S') (hA : 87 ∉ A) : mW S' c e := by
  obtain ⟨h1, h2, h3, h4, h5⟩ := h
  exact ⟨hf.M h1, by rw [hf.I hA]; exact h2, h3, h4, by rw [hf.I hA]; exact h5⟩
theorem q_mvar {S : PS} {tx : Nat → Nat} {n p : Nat} {N P : Nat → Nat} {Q : PS → Prop} (hR : mRE S tx n N P p) (hv : vld P)
    (hE : ∀ S' c e, (if P 0 = 7 then er 4 (sT tx n p) else rVar tx n P N p) = er c e → mG S S' → mW S' c e → Q S')
    (hQ : ∀ S' z p', (if P 0 = 7 then er 4 (sT tx n p) else rVar tx n P N p) = ok z p' → mG S S' → mRE S' tx n z.2 z.1 p' → vld z.1 → z.1 0 = P 0 + 1 → Q S') : wpX12_variable S 87 Q := by
  have hM := hR.1
  have h7 := hv.1
  have hp1 := (eT_le (tx := tx) hR.2.2.2.1).2
  have b43W : ∀ (S' : PS) (c e : Nat) (y : Int32), (if P 0 = 7 then er 4 (sT tx n p) else rVar tx n P N p) = er c e → mG S S' → mW S' c e → wpX12_variable_b43 Q S' 87 y := fun S' c e y hr hg hw => by
    unfold wpX12_variable_b43
    rw [c_0]
    exact ⟨msk hw.1, q_isWr1 hw ⟨fun z => absurd z n10, fun _ => hE S' c e hr hg hw⟩⟩
  unfold wpX12_variable
  simp only [c_0, c_4, c_7]
  rw [o_cl (by decide)]
  refine ⟨msk hM, 89, msr_told hM, msk_told hM, ?_⟩
  rw [msl_told hM, o_inT (by decide) (by decide), hR.2.2.2.2.1 0 (by decide), o_eq (by omega) (by decide)]
  refine ⟨trivial, fun z7 => ?_, fun z7 => q_mfails hM (mRE_19 hR) hR.2.2.1 (by decide) (by decide) (fun S' hf hw => ?_)⟩
  · rw [if_neg z7] at hE hQ b43W
    unfold wpX12_variable_b18
    rw [ng_d, c_0, c_3]
    refine ⟨msk hM, q_isWr0 hM (mRE_19 hR) ⟨fun _ => ⟨msk hM, q_mTok hR (fun S1 _ g1 R1 => ⟨msk R1.1, q_named R1 (fun hn S' hf hw => ⟨fun _ => b43W S' _ _ _ ?_ (mG_t g1 (mG_f hf)) hw, fun z => absurd rfl z⟩) (fun hn => ?_)⟩)⟩, fun z => absurd rfl z⟩⟩
    · unfold rVar
      rw [if_neg (by rw [hn]; decide)]
    · by_cases e : lk tx n N (P 0) (eT tx n p) < P 0
      · rw [if_pos e]
        refine ⟨fun z => absurd z (nI_nn (by omega)), fun _ => ⟨msk R1.1, q_mfails R1.1 (mRE_19 R1) R1.2.2.1 (by decide) (by decide) (fun S' hf hw => b43W S' _ _ _ ?_ (mG_t g1 (mG_f hf)) hw)⟩⟩
        unfold rVar
        rw [if_pos hn, if_pos e]
      · rw [if_neg e]
        refine ⟨fun _ => ?_, fun z => absurd rfl z⟩
        have hsp : rVar tx n P N p = Rbd (rNum tx n 0 4 (eT tx n (eT tx n p))) (fun lo p1 => Rbd (rNum tx n lo 4 p1) (fun hi p2 => Rbd (rSem tx n p2) (fun _ p3 => ok (var1 P (2 ^ (hi + 1) - 2 ^ lo), up N (P 0) (eT tx n p)) p3))) := by
          unfold rVar
          rw [if_pos hn, if_neg e]
          rfl
        obtain ⟨k1, k2, _⟩ := isNm_i hn
        have h21 := R1.2.2.1.2.2.2.1 k1
        rw [if_pos k2] at h21
        have e21 : pJ S1 87 21 = lN (nmT tx n (eT tx n p)) := h21
        unfold wpX12_variable_b43
        simp only [c_0, c_4]
        refine ⟨msk R1.1, q_isWr0 R1.1 (mRE_19 R1) ⟨fun _ => ⟨msk R1.1, 95, msr_names R1.1, msk_names R1.1, ?_⟩, fun z => absurd rfl z⟩⟩
        rw [msl_names R1.1, o_inT (by omega) (by omega), o_cl (a := P 0) (by omega), e21]
        refine ⟨trivial, ?_⟩
        have f2 : fr [95] S1 (sJ S1 95 (P 0) (lN (nmT tx n (eT tx n p)))) := fr_sJ _ _ _ (List.mem_singleton.mpr rfl)
        have j2 : pJ (sJ S1 95 (P 0) (lN (nmT tx n (eT tx n p)))) 95 (P 0) = lN (nmT tx n (eT tx n p)) := by rw [pJ_sJ, if_pos ⟨rfl, rfl⟩]
        have R2 : mRE (sJ S1 95 (P 0) (lN (nmT tx n (eT tx n p)))) tx n N P (eT tx n p) := by
          obtain ⟨m1, m2, m3, m4, m5, m6, m7, m8, m9, m10⟩ := R1
          refine ⟨f2.M m1, ⟨by rw [f2.I (by decide)]; exact m2.1, m2.2.1, fun i hi => by rw [f2.I (by decide)]; exact m2.2.2 i hi⟩, ?_, m4, fun k hk => by rw [f2.I (by decide)]; exact m5 k hk, m6, m7, fun i hi => by rw [pJ_sJ, if_neg (fun q => by omega)]; exact m8 i hi, by rw [f2.I (by decide)]; exact m9, by rw [f2.I (by decide)]; exact m10⟩
          unfold mTk
          rw [f2.I (by decide), f2.I (by decide), f2.I (by decide), f2.J (by decide), f2.I (by decide)]
          exact m3
        have g2 : mG S (sJ S1 95 (P 0) (lN (nmT tx n (eT tx n p)))) := mG_t g1 (mf_fr (fr_m (fun a ha => by rw [List.mem_singleton.mp ha]; decide) f2) (by decide))
        generalize sJ S1 95 (P 0) (lN (nmT tx n (eT tx n p))) = S2 at R2 g2 j2
        have fin : ∀ (S' : PS) (c e : Nat) (x y : Int32), rVar tx n P N p = er c e → mG S S' → mW S' c e → (pK S' 87 = 11 ∧ (∃ o17, pR S' 87 2 = some o17 ∧ (pK S' o17 = 13 ∧ (vp_in ((2 : Int32) + nI (P 0)) (pL S' o17) ∧ (vp_in (nI 0) (pL S' o17) ∧ (vp_in (nI 0) (pL S' o17) ∧ (wpX12_ends (sI (sI S' o17 (((2 : Int32) + nI (P 0))).toNatClampNeg (((2 : Int32) <<< (y &&& 31)) - ((1 : Int32) <<< (x &&& 31)))) o17 (nI 0).toNatClampNeg ((pI (sI S' o17 (((2 : Int32) + nI (P 0))).toNatClampNeg (((2 : Int32) <<< (y &&& 31)) - ((1 : Int32) <<< (x &&& 31)))) o17 (nI 0).toNatClampNeg) + (1 : Int32))) 87 (fun S23 => (Q S23))))))))) := fun S' c e x y hr hg hw => by
          refine ⟨msk hw.1, 89, msr_told hw.1, msk_told hw.1, ?_⟩
          rw [msl_told hw.1, c_2, o_add, o_inT (by omega) (by omega), o_inT (by decide) (by decide)]
          refine ⟨trivial, trivial, trivial, ?_⟩
          generalize hZ : sI (sI S' 89 (nI (2 + P 0)).toNatClampNeg ((nI 2 <<< (y &&& 31)) - ((1 : Int32) <<< (x &&& 31)))) 89 (nI 0).toNatClampNeg ((pI (sI S' 89 (nI (2 + P 0)).toNatClampNeg ((nI 2 <<< (y &&& 31)) - ((1 : Int32) <<< (x &&& 31)))) 89 (nI 0).toNatClampNeg) + (1 : Int32)) = Z
          have fZ : fr [89] S' Z := by
            rw [← hZ]
            exact fr_t (f89 _ _ _) (f89 _ _ _)
          exact q_mendsW (mW_row hw fZ) (hE Z c e hr (mG_t hg (mG_row fZ)) (mW_row hw fZ))
        refine q_mTok R2 (fun S3 f3 g3 R3 => ⟨msk R3.1, q_fig R3 (by decide) (by decide) (fun S4 c e x q4 f4 w4 => ⟨msk w4.1, q_figW w4 (fin S4 c e x x ?_ (mG_t g2 (mG_t g3 (mG_0 f4))) w4)⟩) (fun S4 lo p4 q4 _ hlo4 f4 R4 => ⟨msk R4.1, ?_⟩)⟩)
        · rw [hsp, q4]
          rfl
        rw [q4] at hsp
        have hs1 : rVar tx n P N p = Rbd (rNum tx n lo 4 p4) (fun hi p2 => Rbd (rSem tx n p2) (fun _ p3 => ok (var1 P (2 ^ (hi + 1) - 2 ^ lo), up N (P 0) (eT tx n p)) p3)) := hsp
        refine q_fig R4 (by omega) (by decide) (fun S5 c e x q5 f5 w5 => fin S5 c e (nI lo) x ?_ (mG_t g2 (mG_t g3 (mG_t (mG_0 f4) (mG_0 f5)))) w5) (fun S5 hi p5 q5 hlh hh4 f5 R5 => ?_)
        · rw [hs1, q5]
          rfl
        rw [q5] at hs1
        have hs2 : rVar tx n P N p = Rbd (rSem tx n p5) (fun _ p3 => ok (var1 P (2 ^ (hi + 1) - 2 ^ lo), up N (P 0) (eT tx n p)) p3) := hs1
        have j5 : pJ S5 95 (P 0) = lN (nmT tx n (eT tx n p)) := by rw [f5.1.J (by decide), f4.1.J (by decide), f3.1.J (by decide)]; exact j2
        have g5 := mG_t g2 (mG_t g3 (mG_t (mG_0 f4) (mG_0 f5)))
        have hw := rg_lt lo (by omega) hi (by omega) hlh
        refine ⟨msk R5.1, 89, msr_told R5.1, msk_told R5.1, ?_⟩
        rw [sh_v hlh (by omega), msl_told R5.1, c_1, c_2, o_add, o_inT (by omega) (by omega), o_inT (by decide) (by decide), o_cl (a := 2 + P 0) (by omega), o_cl (a := 0) (by decide)]
        have e5 : pI (sI S5 89 (2 + P 0) (nI (2 ^ (hi + 1) - 2 ^ lo))) 89 0 = nI (P 0) := by
          rw [pI_sI, if_neg (fun q => by omega)]
          exact R5.2.2.2.2.1 0 (by decide)
        rw [e5, o_add]
        refine ⟨trivial, trivial, trivial, ?_⟩
        have f6 : fr [89] S5 (sI (sI S5 89 (2 + P 0) (nI (2 ^ (hi + 1) - 2 ^ lo))) 89 0 (nI (P 0 + 1))) := fr_t (f89 _ _ _) (f89 _ _ _)
        have R6 : mRE (sI (sI S5 89 (2 + P 0) (nI (2 ^ (hi + 1) - 2 ^ lo))) 89 0 (nI (P 0 + 1))) tx n (up N (P 0) (eT tx n p)) (var1 P (2 ^ (hi + 1) - 2 ^ lo)) p5 := by
          obtain ⟨m1, m2, m3, m4, m5, m6, m7, m8, m9, m10⟩ := R5
          refine ⟨f6.M m1, ⟨by rw [f6.I (by decide)]; exact m2.1, m2.2.1, fun i hi => by rw [f6.I (by decide)]; exact m2.2.2 i hi⟩, ?_, m4, fun k hk => ?_, by rw [var1_0]; omega, fun i hi => ?_, fun i hi => ?_, by rw [f6.I (by decide)]; exact m9, by rw [f6.I (by decide)]; exact m10⟩
          · unfold mTk
            rw [f6.I (by decide), f6.I (by decide), f6.I (by decide), f6.J (by decide), f6.I (by decide)]
            exact m3
          · rw [pI_sI, pI_sI]
            unfold var1 up
            by_cases q1 : k = 0
            · rw [if_pos ⟨rfl, q1⟩, if_pos q1]
            · rw [if_neg (fun q => q1 q.2), if_neg q1]
              by_cases q2 : k = 2 + P 0
              · rw [if_pos ⟨rfl, q2⟩, if_pos q2]
              · rw [if_neg (fun q => q2 q.2), if_neg q2]
                exact m5 k hk
          · rw [var1_0] at hi
            by_cases q : i = P 0
            · rw [q, up_s]
              exact ⟨k1, k2⟩
            · rw [up_n _ _ q]
              exact m7 i (by omega)
          · rw [var1_0] at hi
            rw [f6.J (by decide)]
            by_cases q : i = P 0
            · rw [q, up_s]
              exact j5
            · rw [up_n _ _ q]
              exact m8 i (by omega)
        refine q_mends R6 (fun S7 c e h7' g7 w7 => hE S7 c e ?_ (mG_t g5 (mG_t (mG_row f6) g7)) w7) (fun S7 v7 p7 h7' g7 R7 => hQ S7 (var1 P (2 ^ (hi + 1) - 2 ^ lo), up N (P 0) (eT tx n p)) p7 ?_ (mG_t g5 (mG_t (mG_row f6) g7)) R7 (vld_1 hv (by omega) hw.1 hw.2.1) (var1_0 (P := P) (w := 2 ^ (hi + 1) - 2 ^ lo)))
        · rw [hs2, h7']
          rfl
        · rw [hs2, h7']
          rfl
  · unfold wpX12_variable_b18
    rw [c_0]
    exact ⟨msk hw.1, q_isWr1 hw ⟨fun z => absurd z n10, fun _ => hE S' _ _ (by rw [if_pos z7]) (mG_f hf) hw⟩⟩

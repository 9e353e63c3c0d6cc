/-! THE REFERENCE READS: counts -/
theorem mRE_set {S : PS} {tx : Nat → Nat} {n p k v : Nat} {N P : Nat → Nat} (h : mRE S tx n N P p) (hk0 : k ≠ 0) : mRE (sI S 89 k (nI v)) tx n N (up P k v) p := by
  refine mRE_row h (f89 _ _ _) (fun j hj => ?_) (up_n _ _ (fun q => hk0 q.symm))
  rw [pI_sI]
  unfold up
  by_cases e : j = k
  · rw [if_pos ⟨rfl, e⟩, if_pos e]
  · rw [if_neg (fun q => e q.2), if_neg e]
    exact h.2.2.2.2.1 j hj
theorem q_mcount {S : PS} {tx : Nat → Nat} {n p c : Nat} {N P : Nat → Nat} {Q : PS → Prop} (hR : mRE S tx n N P p) (hg : Cpg P c) (hc8 : c < 8) (h0 : P (9 + 20 * c) = 0)
    (hE : ∀ S' c' e, rCount tx n (9 + 20 * c) P p = er c' e → mG S S' → mW S' c' e → Q S')
    (hQ : ∀ S' v lo hi p', rCount tx n (9 + 20 * c) P p = ok (cnt1 P (9 + 20 * c) v lo hi) p' → v < 5 → lo ≤ hi → hi ≤ 7 → (P (9 + 20 * c + 19)).testBit v = false → mG S S' → mRE S' tx n N (cnt1 P (9 + 20 * c) v lo hi) p' → Q S') : wpX12_count S 87 (nI (9 + 20 * c)) Q := by
  have hM := hR.1
  have t1 := (hg.2.2.2.2.2.2.1 h0).1
  have hE0 : ∀ S' c' e, rCount tx n (9 + 20 * c) P p = er c' e → mG S S' → mW S' c' e → ∀ z : nI 1 = nI 0 ∨ True, Q S' := fun S' c' e h1 h2 h3 _ => hE S' c' e h1 h2 h3
  unfold wpX12_count
  refine ⟨msk hM, q_mTok hR (fun S1 _ g1 R1 => ⟨msk R1.1, q_isWr0 R1.1 (mRE_19 R1) ?_⟩)⟩
  rw [c_0, c_2, c_3, c_5]
  refine ⟨fun z => absurd rfl z, fun _ => ⟨msk R1.1, ?_⟩⟩
  obtain ⟨hM1, hx1, hT1, hp1, h891, hv1, hN1, h951, h191, h201⟩ := id R1
  have hkt := kT_lt tx n (eT tx n p)
  have b51W : ∀ S' c' e, rCount tx n (9 + 20 * c) P p = er c' e → mG S S' → mW S' c' e → wpX12_count_b51 Q S' 87 (nI (9 + 20 * c)) := fun S' c' e hr hgS hw => by
    unfold wpX12_count_b51
    rw [c_0]
    exact ⟨msk hw.1, q_figW hw ⟨msk hw.1, q_isWr1 hw ⟨fun z => absurd z n10, fun _ => hE S' c' e hr hgS hw⟩⟩⟩
  have h51 : ¬ (kT tx n (eT tx n p) = 2 ∧ nvT tx n (eT tx n p) < 5 ∧ (P (9 + 20 * c + 19)).testBit (nvT tx n (eT tx n p)) = true) → wpX12_count_b51 Q S1 87 (nI (9 + 20 * c)) := fun hnd => by
    have hs : rCount tx n (9 + 20 * c) P p = Rbd (rNum tx n 0 4 (eT tx n p)) (fun v p1 => Rbd (rNum tx n 0 7 p1) (fun lo p2 => Rbd (rNum tx n lo 7 p2) (fun hi p3 => ok (cnt1 P (9 + 20 * c) v lo hi) p3))) := by
      unfold rCount
      rw [if_neg hnd]
      rfl
    unfold wpX12_count_b51
    rw [c_0, c_1, c_4, c_7, c_14, c_19, c_31, show (9 : Int32) = nI 9 from rfl]
    refine ⟨msk hM1, q_fig R1 (by decide) (by decide) (fun S2 c' e x q1 f1 w1 => ⟨msk w1.1, q_isWr1 w1 ⟨fun z => absurd z n10, fun _ => hE S2 c' e (by rw [hs, q1]; rfl) (mG_t g1 (mG_0 f1)) w1⟩⟩) (fun S2 v p1 q1 _ hv4 f1 R2 => ⟨msk R2.1, q_isWr0 R2.1 (mRE_19 R2) ⟨fun _ => ?_, fun z => absurd rfl z⟩⟩)⟩
    rw [q1] at hs
    have hs1 : rCount tx n (9 + 20 * c) P p = Rbd (rNum tx n 0 7 p1) (fun lo p2 => Rbd (rNum tx n lo 7 p2) (fun hi p3 => ok (cnt1 P (9 + 20 * c) v lo hi) p3)) := hs
    obtain ⟨k2, ev, _⟩ := rNum_i q1
    have hb : (P (9 + 20 * c + 19)).testBit v = false := by
      cases hbb : (P (9 + 20 * c + 19)).testBit v
      · rfl
      · exact absurd ⟨k2, by omega, by rw [← ev]; exact hbb⟩ hnd
    refine ⟨msk R2.1, 89, msr_told R2.1, msk_told R2.1, ?_⟩
    rw [msl_told R2.1, o_add, o_inT (by omega) (by omega), o_cl (by omega), R2.2.2.2.2.1 _ (by omega), one_shl (by omega), o_or, o_add, o_add, o_add, o_add, o_cl (by omega), o_cl (by omega)]
    refine ⟨trivial, trivial, ?_⟩
    have R3 := mRE_set (k := 9 + 20 * c + 19) (v := P (9 + 20 * c + 19) ||| 2 ^ v) R2 (by omega)
    have g3 := mG_t g1 (mG_t (mG_0 f1) (mG_row (f89 S2 (9 + 20 * c + 19) (nI (P (9 + 20 * c + 19) ||| 2 ^ v)))))
    generalize sI S2 89 (9 + 20 * c + 19) (nI (P (9 + 20 * c + 19) ||| 2 ^ v)) = S3 at R3 g3
    refine q_fig R3 (by decide) (by decide) (fun S4 c' e x q2 f2 w2 => ?_) (fun S4 lo p2 q2 _ hlo7 f2 R4 => ?_)
    · refine ⟨msk_told w2.1, ?_⟩
      rw [msl_told w2.1, o_inT (by omega) (by omega)]
      refine ⟨trivial, msk w2.1, 89, msr_told w2.1, msk_told w2.1, ?_⟩
      have w3 := mW_row w2 (f89 S4 (9 + 20 * c + 9 + v) x)
      rw [msl_told w2.1, o_inT (by omega) (by omega)]
      refine ⟨trivial, q_figW w3 ⟨msk_told w3.1, ?_⟩⟩
      rw [msl_told w3.1, o_inT (by omega) (by omega)]
      refine ⟨trivial, hE _ c' e ?_ (mG_t g3 (mG_t (mG_0 f2) (mG_t (mG_row (f89 _ _ _)) (mG_row (f89 _ _ _))))) (mW_row w3 (f89 _ _ _))⟩
      rw [hs1, q2]
      rfl
    · rw [q2] at hs1
      have hs2 : rCount tx n (9 + 20 * c) P p = Rbd (rNum tx n lo 7 p2) (fun hi p3 => ok (cnt1 P (9 + 20 * c) v lo hi) p3) := hs1
      refine ⟨msk_told R4.1, ?_⟩
      rw [msl_told R4.1, o_inT (by omega) (by omega)]
      refine ⟨trivial, msk R4.1, 89, msr_told R4.1, msk_told R4.1, ?_⟩
      have R5 := mRE_set (k := 9 + 20 * c + 9 + v) (v := lo) R4 (by omega)
      have g5 := mG_t g3 (mG_t (mG_0 f2) (mG_row (f89 S4 (9 + 20 * c + 9 + v) (nI lo))))
      have e5 : pI (sI S4 89 (9 + 20 * c + 9 + v) (nI lo)) 89 (9 + 20 * c + 9 + v) = nI lo := by rw [pI_sI, if_pos ⟨rfl, rfl⟩]
      rw [msl_told R4.1, o_inT (by omega) (by omega), e5]
      generalize sI S4 89 (9 + 20 * c + 9 + v) (nI lo) = S5 at R5 g5
      refine ⟨trivial, q_fig R5 (by omega) (by decide) (fun S6 c' e x q3 f3 w3 => ?_) (fun S6 hi p3 q3 hlh hhi f3 R6 => ?_)⟩
      · refine ⟨msk_told w3.1, ?_⟩
        rw [msl_told w3.1, o_inT (by omega) (by omega)]
        refine ⟨trivial, hE _ c' e ?_ (mG_t g5 (mG_t (mG_0 f3) (mG_row (f89 _ _ _)))) (mW_row w3 (f89 _ _ _))⟩
        rw [hs2, q3]
        rfl
      · rw [q3] at hs2
        have hs3 : rCount tx n (9 + 20 * c) P p = ok (cnt1 P (9 + 20 * c) v lo hi) p3 := hs2
        refine ⟨msk_told R6.1, ?_⟩
        rw [msl_told R6.1, o_inT (by omega) (by omega)]
        have R7 := mRE_set (k := 9 + 20 * c + 14 + v) (v := hi) R6 (by omega)
        refine ⟨trivial, hQ _ v lo hi p3 hs3 (by omega) hlh hhi hb (mG_t g5 (mG_t (mG_0 f3) (mG_row (f89 _ _ _)))) ?_⟩
        have ec : up (up (up P (9 + 20 * c + 19) (P (9 + 20 * c + 19) ||| 2 ^ v)) (9 + 20 * c + 9 + v) lo) (9 + 20 * c + 14 + v) hi = cnt1 P (9 + 20 * c) v lo hi := by
          unfold cnt1
          rw [show 9 + 20 * c + 9 + v = 9 + 20 * c + (9 + v) by omega, show 9 + 20 * c + 14 + v = 9 + 20 * c + (14 + v) by omega]
        rw [← ec]
        exact R7
  rw [hT1.2.2.1, o_eq (by omega) (by decide)]
  refine ⟨fun z => h51 (fun q => z q.1), fun z => ?_⟩
  have hnv := kT2_lt z
  have e18 : pI S1 87 18 = nI (nvT tx n (eT tx n p)) := hT1.2.2.2.2 z
  rw [e18, o_le (by decide) (by omega), c_19, o_add]
  refine ⟨fun q => h51 (fun w => by omega), fun q => ⟨89, msr_told hM1, msk_told hM1, ?_⟩⟩
  rw [msl_told hM1, o_inT (by omega) (by omega), o_cl (by omega), h891 _ (by omega), w_has (by omega) (by omega), bI_0]
  refine ⟨trivial, fun w => h51 (fun w2 => by rw [w] at w2; exact absurd w2.2.2 (by decide)), fun w => ⟨msk hM1, ?_⟩⟩
  rw [Bool.not_eq_false] at w
  have hr : rCount tx n (9 + 20 * c) P p = er 3 (sT tx n (eT tx n p)) := by
    unfold rCount
    rw [if_pos ⟨z, by omega, w⟩]
  exact q_mfails hM1 h191 hT1 (by decide) (by decide) (fun S2 hf hw => b51W S2 _ _ hr (mG_t g1 (mG_f hf)) hw)
theorem q_mcnts {S : PS} {tx : Nat → Nat} {n p c : Nat} {N P : Nat → Nat} {Q : PS → Prop} (hR : mRE S tx n N P p) (hc8 : c < 8) (hb : blkC P c 0)
    (hE : ∀ S' c' e, rCnts tx n N (9 + 20 * c) P p = er c' e → mG S S' → mW S' c' e → Q S')
    (hQ : ∀ S' P' p', rCnts tx n N (9 + 20 * c) P p = ok P' p' → mG S S' → mRE S' tx n N P' p' → Cwf P' c → (∀ k, k < 9 + 20 * c + 1 ∨ 9 + 20 * c + 20 ≤ k → P' k = P k) → Q S') : wpX12_counts S 87 (nI (9 + 20 * c)) Q := by
  have b77W : ∀ (S' : PS) (c' e : Nat) (y : Int32) (f : Nat), rCnts tx n N (9 + 20 * c) P p = er c' e → mG S S' → mW S' c' e → wpX12_counts_b77 Q (f + 1) S' 87 (nI (9 + 20 * c)) y := fun S' c' e y f hr hgS hw => by
    unfold wpX12_counts_b77
    rw [c_0]
    exact ⟨msk hw.1, q_misWW hw ⟨fun _ => hE S' c' e hr hgS hw, fun z => absurd rfl z⟩⟩
  have b63W : ∀ (S' : PS) (c' e : Nat) (y : Int32), rCnts tx n N (9 + 20 * c) P p = er c' e → mG S S' → mW S' c' e → wpX12_counts_b63 Q S' 87 (nI (9 + 20 * c)) y := fun S' c' e y hr hgS hw => by
    unfold wpX12_counts_b63
    rw [c_0]
    exact ⟨msk hw.1, q_misWW hw ⟨fun z => absurd rfl z, fun _ => ⟨msk hw.1, q_mfails1 hw ⟨1, b77W S' c' e y 0 hr hgS hw⟩⟩⟩⟩
  have b31W : ∀ (S' : PS) (c' e : Nat) (y : Int32) (f : Nat), rCnts tx n N (9 + 20 * c) P p = er c' e → mG S S' → mW S' c' e → wpX12_counts_b31 Q (f + 1) S' 87 (nI (9 + 20 * c)) y := fun S' c' e y f hr hgS hw => by
    unfold wpX12_counts_b31
    rw [c_0]
    exact ⟨msk hw.1, q_isWr1 hw ⟨fun _ => b63W S' c' e y hr hgS hw, fun z => absurd z n10⟩⟩
  have h77 : ∀ r S' P' p' (y : Int32), 6 - pcn 5 (P' (9 + 20 * c + 19)) = r → mG S S' → mRE S' tx n N P' p' → Cpg P' c → P' (9 + 20 * c) = 0 → 0 < P' (9 + 20 * c + 1) → (∀ k, k < 9 + 20 * c + 1 ∨ 9 + 20 * c + 20 ≤ k → P' k = P k) → rCnts tx n N (9 + 20 * c) P p = rCs tx n (9 + 20 * c) r P' p' → wpX12_counts_b77 Q (r + 1) S' 87 (nI (9 + 20 * c)) y := by
    intro r
    induction r with
    | zero =>
      intro S' P' p' y hr
      have := pcn_le 5 (P' (9 + 20 * c + 19))
      omega
    | succ r ih =>
      intro S' P' p' y hr hgS R1 hg1 hz1 hm1 ho1 hsp
      have hsp' : rCnts tx n N (9 + 20 * c) P p = if isW tx n wVal p' = true then Rbd (rCount tx n (9 + 20 * c) P' p') (fun P2 p2 => rCs tx n (9 + 20 * c) r P2 p2) else ok P' p' := hsp
      have hnx := ih
      have hW := b77W
      unfold wpX12_counts_b77
      rw [c_0]
      refine ⟨msk R1.1, q_misW R1 wV_val ?_⟩
      rw [bI_0]
      refine ⟨fun q => ?_, fun q => ⟨msk R1.1, ?_⟩⟩
      · rw [if_neg (by rw [q]; decide)] at hsp'
        exact hQ S' P' p' hsp' hgS R1 (Cpg_wf hg1 hm1 (fun w => by omega)) ho1
      · rw [Bool.not_eq_false] at q
        rw [if_pos q] at hsp'
        refine q_mcount R1 hg1 hc8 hz1 (fun S2 c' e h2 g2 w2 => hW S2 c' e y r ?_ (mG_t hgS g2) w2) (fun S2 v lo hi p2 h2 hv hlh hhi hbv g2 R2 => ?_)
        · rw [hsp', h2]
          rfl
        · rw [h2] at hsp'
          have t1 := (hg1.2.2.2.2.2.2.1 hz1).1
          refine hnx S2 _ p2 y ?_ (mG_t hgS g2) R2 (Cpg_cnt hg1 hz1 hv hlh hhi) ?_ ?_ (fun k hk => ?_) hsp'
          · rw [cnt1_19 hv, or_pc v hv _ t1 hbv]
            omega
          · rw [cnt1_lo hv (Or.inl (by omega))]
            exact hz1
          · rw [cnt1_lo hv (Or.inl (by omega))]
            exact hm1
          · rw [cnt1_lo hv (by omega)]
            exact ho1 k hk
  have h31 : ∀ r S' P' p' (y : Int32), 8 - P' (9 + 20 * c + 1) = r → mG S S' → mRE S' tx n N P' p' → Cpg P' c → P' (9 + 20 * c) = 0 → 0 < P' (9 + 20 * c + 1) → P' (9 + 20 * c + 19) = 0 → (∀ k, k < 9 + 20 * c + 1 ∨ 9 + 20 * c + 20 ≤ k → P' k = P k) → rCnts tx n N (9 + 20 * c) P p = Rbd (if isW tx n wVal p' = true then ok P' p' else rMs tx n N (9 + 20 * c) r P' p') (fun P2 p2 => rCs tx n (9 + 20 * c) 6 P2 p2) → wpX12_counts_b31 Q (r + 1) S' 87 (nI (9 + 20 * c)) y := by
    intro r
    induction r with
    | zero =>
      intro S' P' p' y hr _ _ hg
      have := hg.2.1
      omega
    | succ r ih =>
      intro S' P' p' y hr hgS R1 hg1 hz1 hm1 h19 ho1 hsp
      have hkt := kT_lt tx n p'
      have hnx := ih
      have hW := b31W
      have h63 : isW tx n wVal p' = true ∨ kT tx n p' ≠ 1 → wpX12_counts_b63 Q S' 87 (nI (9 + 20 * c)) y := fun hor => by
        unfold wpX12_counts_b63
        rw [c_0, c_1]
        refine ⟨msk R1.1, q_misW R1 wV_val ?_⟩
        rw [bI_0]
        refine ⟨fun q => ?_, fun q => ⟨msk R1.1, ?_⟩⟩
        · rw [Bool.not_eq_false] at q
          rw [if_pos q] at hsp
          exact ⟨_, h77 6 S' P' p' y (by rw [h19]; rfl) hgS R1 hg1 hz1 hm1 ho1 hsp⟩
        · rw [if_neg (by rw [q]; decide)] at hsp
          have hk : kT tx n p' ≠ 1 := by
            rcases hor with w | w
            · rw [q] at w
              cases w
            · exact w
          have hn : isNm tx n p' = false := by
            unfold isNm
            rw [decide_eq_false hk, Bool.false_and]
          have hr' : rCnts tx n N (9 + 20 * c) P p = er 1 (sT tx n p') := by
            rw [hsp]
            show Rbd (Rbd (rMem tx n N (9 + 20 * c) P' p') _) _ = _
            rw [rMem_n hn]
            rfl
          exact q_mfails R1.1 (mRE_19 R1) R1.2.2.1 (by decide) (by decide) (fun S2 hf hw => ⟨1, b77W S2 _ _ y 0 hr' (mG_t hgS (mG_f hf)) hw⟩)
      unfold wpX12_counts_b31
      rw [c_0, c_1]
      refine ⟨msk R1.1, q_isWr0 R1.1 (mRE_19 R1) ⟨fun z => absurd rfl z, fun _ => ⟨msk R1.1, ?_⟩⟩⟩
      rw [R1.2.2.1.2.2.1, o_eq (by omega) (by decide)]
      refine ⟨fun z => h63 (Or.inr z), fun z => q_misW R1 wV_val ?_⟩
      rw [bI_0]
      refine ⟨fun q => h63 (Or.inl (by rw [Bool.not_eq_false] at q; exact q)), fun q => ⟨msk R1.1, ?_⟩⟩
      rw [if_neg (by rw [q]; decide)] at hsp
      have hsp' : rCnts tx n N (9 + 20 * c) P p = Rbd (Rbd (rMem tx n N (9 + 20 * c) P' p') (fun P2 p2 => if isW tx n wVal p2 = true then ok P2 p2 else rMs tx n N (9 + 20 * c) r P2 p2)) (fun P2 p2 => rCs tx n (9 + 20 * c) 6 P2 p2) := hsp
      refine q_mem R1 hg1 hc8 (fun S2 c' e h2 f2 w2 => hW S2 c' e y r ?_ (mG_t hgS (mG_0 f2)) w2) (fun S2 P2 p2 h2 g2 R2 hg2 hl2 hm2 => ?_)
      · rw [hsp', h2]
        rfl
      · rw [h2] at hsp'
        refine hnx S2 P2 p2 y (by omega) (mG_t hgS g2) R2 hg2 ?_ (by omega) ?_ (fun k hk => ?_) hsp'
        · rw [hl2 _ (by omega)]
          exact hz1
        · rw [hl2 _ (by omega)]
          exact h19
        · rw [hl2 _ (by omega)]
          exact ho1 k hk
  have eo : ∀ k, k < 9 + 20 * c + 1 ∨ 9 + 20 * c + 20 ≤ k → cn0 P (9 + 20 * c) k = P k := fun k hk => if_neg (by omega)
  have ej : ∀ j, j < 14 ∨ 19 ≤ j → cn0 P (9 + 20 * c) (9 + 20 * c + j) = P (9 + 20 * c + j) := fun j hj => if_neg (by omega)
  have e0 : cn0 P (9 + 20 * c) (9 + 20 * c) = 0 := by rw [eo _ (by omega)]; exact hb.1
  have e1 : cn0 P (9 + 20 * c) (9 + 20 * c + 1) = 0 := by rw [ej _ (by omega)]; exact hb.2 1 (by decide) (by decide)
  have e19 : cn0 P (9 + 20 * c) (9 + 20 * c + 19) = 0 := by rw [ej _ (by omega)]; exact hb.2 19 (by decide) (by decide)
  have fin : ∀ S' (y : Int32), mG S S' → mRE S' tx n N (cn0 P (9 + 20 * c)) p → wpX12_member S' 87 (nI (9 + 20 * c)) (fun S33 => ∃ n9 : Nat, wpX12_counts_b31 Q n9 S33 87 (nI (9 + 20 * c)) y) := fun S' y hgS R1 => by
    have hsp' : rCnts tx n N (9 + 20 * c) P p = Rbd (Rbd (rMem tx n N (9 + 20 * c) (cn0 P (9 + 20 * c)) p) (fun P2 p2 => if isW tx n wVal p2 = true then ok P2 p2 else rMs tx n N (9 + 20 * c) 7 P2 p2)) (fun P2 p2 => rCs tx n (9 + 20 * c) 6 P2 p2) := rfl
    refine q_mem R1 (Cpg_0 hb) hc8 (fun S2 c' e h2 f2 w2 => ⟨1, b31W S2 c' e y 0 ?_ (mG_t hgS (mG_0 f2)) w2⟩) (fun S2 P2 p2 h2 g2 R2 hg2 hl2 hm2 => ?_)
    · rw [hsp', h2]
      rfl
    · rw [h2] at hsp'
      rw [e1] at hm2
      refine ⟨8, h31 7 S2 P2 p2 y (by omega) (mG_t hgS g2) R2 hg2 ?_ (by omega) ?_ (fun k hk => ?_) hsp'⟩
      · rw [hl2 _ (by omega)]
        exact e0
      · rw [hl2 _ (by omega)]
        exact e19
      · rw [hl2 _ (by omega)]
        exact eo k hk
  have loop : ∀ r i S' P', 5 - i = r → i ≤ 5 → mG S S' → mRE S' tx n N P' p → (∀ k, P' k = if 9 + 20 * c + 14 ≤ k ∧ k < 9 + 20 * c + 14 + i then 7 else P k) → wpX12_counts_b2 Q (r + 1) S' 87 (nI (9 + 20 * c)) (nI i) := by
    intro r
    induction r with
    | zero =>
      intro i S' P' hr hi hgS R1 hP
      have ei : i = 5 := by omega
      have eP : P' = cn0 P (9 + 20 * c) := funext fun k => by
        rw [hP k, ei]
        rfl
      rw [eP] at R1
      unfold wpX12_counts_b2
      rw [c_5, o_le (by decide) (by omega)]
      exact ⟨fun _ => ⟨msk R1.1, fin S' _ hgS R1⟩, fun z => absurd (show 5 ≤ i by omega) z⟩
    | succ r ih =>
      intro i S' P' hr hi hgS R1 hP
      have hnx := ih (i + 1)
      generalize r + 1 = fu at hnx ⊢
      unfold wpX12_counts_b2
      rw [c_1, c_5, c_7, c_14, o_le (by decide) (by omega)]
      refine ⟨fun z => absurd z (by omega), fun _ => ⟨msk R1.1, 89, msr_told R1.1, msk_told R1.1, ?_⟩⟩
      rw [msl_told R1.1, o_add, o_add, o_add, o_inT (by omega) (by omega), o_cl (by omega)]
      refine ⟨trivial, hnx _ _ (by omega) (by omega) (mG_t hgS (mG_row (f89 _ _ _))) (mRE_set R1 (by omega)) (fun k => ?_)⟩
      unfold up
      by_cases e : k = 9 + 20 * c + 14 + i
      · rw [if_pos e, if_pos (by omega)]
      · rw [if_neg e, hP k]
        by_cases e2 : 9 + 20 * c + 14 ≤ k ∧ k < 9 + 20 * c + 14 + i
        · rw [if_pos e2, if_pos (by omega)]
        · rw [if_neg e2, if_neg (by omega)]
  unfold wpX12_counts
  exact ⟨_, loop 5 0 S P rfl (by decide) (mG_r S) hR (fun k => by rw [if_neg (by omega)])⟩

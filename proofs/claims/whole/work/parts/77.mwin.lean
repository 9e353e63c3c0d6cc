/-! THE REFERENCE READS: windows -/
theorem b98W {S : PS} {c e : Nat} {x1 : Int32} {Q : PS → Prop} (hw : mW S c e) (hQ : Q S) : ∃ n9 : Nat, wpX12_window_b98 Q n9 S 87 x1 := by
  refine ⟨1, ?_⟩
  unfold wpX12_window_b98
  rw [c_0]
  exact ⟨msk hw.1, q_isWr1 hw ⟨fun _ => hQ, fun z => absurd z n10⟩⟩
theorem wt4 {S : PS} {c e b : Nat} {x : Int32} {Q : PS → Prop} (hw : mW S c e) (hm : pI S 89 (b + 1) = nI 0) (hb : b < 150) (hQ : ∀ S', mG S S' → mW S' c e → Q S') : pK S 89 = 13 ∧ (vp_in (nI (b + 9 + 3)) (pL S 89) ∧ (pK S 87 = 11 ∧ (wpX12_member (sI S 89 (b + 9 + 3) x) 87 (nI b) (fun S38 => (∃ n9 : Nat, wpX12_window_b98 Q n9 S38 87 (nI b)))))) := by
  refine ⟨msk_told hw.1, ?_⟩
  rw [msl_told hw.1, o_inT (by omega) (by omega)]
  have w2 := mW_row hw (f89 S (b + 9 + 3) x)
  exact ⟨trivial, msk hw.1, q_memW w2 (m := 0) (by rw [pI_sI, if_neg (fun q => by omega)]; exact hm) (by decide) hb (b98W w2 (hQ _ (mG_row (f89 _ _ _)) w2))⟩
theorem wt3 {S : PS} {c e b : Nat} {x : Int32} {Q : PS → Prop} (hw : mW S c e) (hm : pI S 89 (b + 1) = nI 0) (hb : b < 150) (hQ : ∀ S', mG S S' → mW S' c e → Q S') : pK S 89 = 13 ∧ (vp_in (nI (b + 9 + 2)) (pL S 89) ∧ (pK S 87 = 11 ∧ (∃ o28, pR S 87 2 = some o28 ∧ (pK S o28 = 13 ∧ (vp_in (nI (b + 9 + 2)) (pL S o28) ∧ (vp_in (nI (b + 9)) (pL S o28) ∧ (wpX12_figure (sI S 89 (b + 9 + 2) x) 87 (pI (sI S 89 (b + 9 + 2) x) o28 (b + 9 + 2)) (pI (sI S 89 (b + 9 + 2) x) o28 (b + 9)) (fun r32 S33 => (pK S33 o28 = 13 ∧ (vp_in (nI (b + 9 + 3)) (pL S33 o28) ∧ (pK S33 87 = 11 ∧ (wpX12_member (sI S33 o28 (b + 9 + 3) r32) 87 (nI b) (fun S38 => (∃ n9 : Nat, wpX12_window_b98 Q n9 S38 87 (nI b))))))))))))))) := by
  refine ⟨msk_told hw.1, ?_⟩
  rw [msl_told hw.1, o_inT (by omega) (by omega)]
  have w2 := mW_row hw (f89 S (b + 9 + 2) x)
  refine ⟨trivial, msk hw.1, 89, msr_told hw.1, msk_told hw.1, ?_⟩
  rw [msl_told hw.1, o_inT (by omega) (by omega), o_inT (by omega) (by omega)]
  exact ⟨trivial, trivial, q_figW w2 (wt4 w2 (by rw [pI_sI, if_neg (fun q => by omega)]; exact hm) hb (fun S' g w => hQ S' (mG_t (mG_row (f89 _ _ _)) g) w))⟩
theorem wt2 {S : PS} {c e b : Nat} {x : Int32} {Q : PS → Prop} (hw : mW S c e) (hm : pI S 89 (b + 1) = nI 0) (hb : b < 150) (hQ : ∀ S', mG S S' → mW S' c e → Q S') : pK S 89 = 13 ∧ (vp_in (nI (b + 9 + 1)) (pL S 89) ∧ (pK S 87 = 11 ∧ (∃ o20, pR S 87 2 = some o20 ∧ (pK S o20 = 13 ∧ (vp_in (nI (b + 9)) (pL S o20) ∧ (wpX12_figure (sI S 89 (b + 9 + 1) x) 87 (nI 0) (pI (sI S 89 (b + 9 + 1) x) o20 (b + 9)) (fun r23 S24 => (pK S24 o20 = 13 ∧ (vp_in (nI (b + 9 + 2)) (pL S24 o20) ∧ (pK S24 87 = 11 ∧ (∃ o28, pR S24 87 2 = some o28 ∧ (pK S24 o28 = 13 ∧ (vp_in (nI (b + 9 + 2)) (pL S24 o28) ∧ (vp_in (nI (b + 9)) (pL S24 o28) ∧ (wpX12_figure (sI S24 o20 (b + 9 + 2) r23) 87 (pI (sI S24 o20 (b + 9 + 2) r23) o28 (b + 9 + 2)) (pI (sI S24 o20 (b + 9 + 2) r23) o28 (b + 9)) (fun r32 S33 => (pK S33 o28 = 13 ∧ (vp_in (nI (b + 9 + 3)) (pL S33 o28) ∧ (pK S33 87 = 11 ∧ (wpX12_member (sI S33 o28 (b + 9 + 3) r32) 87 (nI b) (fun S38 => (∃ n9 : Nat, wpX12_window_b98 Q n9 S38 87 (nI b))))))))))))))))))))))) := by
  refine ⟨msk_told hw.1, ?_⟩
  rw [msl_told hw.1, o_inT (by omega) (by omega)]
  have w2 := mW_row hw (f89 S (b + 9 + 1) x)
  refine ⟨trivial, msk hw.1, 89, msr_told hw.1, msk_told hw.1, ?_⟩
  rw [msl_told hw.1, o_inT (by omega) (by omega)]
  exact ⟨trivial, q_figW w2 (wt3 w2 (by rw [pI_sI, if_neg (fun q => by omega)]; exact hm) hb (fun S' g w => hQ S' (mG_t (mG_row (f89 _ _ _)) g) w))⟩
theorem q_mwin {S : PS} {tx : Nat → Nat} {n p c : Nat} {N P : Nat → Nat} {Q : PS → Prop} (hR : mRE S tx n N P p) (hc8 : c < 8) (hb : blkC P c 1)
    (hE : ∀ S' c' e, rWin tx n N (9 + 20 * c) P p = er c' e → mG S S' → mW S' c' e → Q S')
    (hQ : ∀ S' P' p', ((rWin tx n N (9 + 20 * c) P p = ok P' p' ∧ kT tx n p' = 3) ∨ (rWin tx n N (9 + 20 * c) P p = er 1 (sT tx n p') ∧ kT tx n p' ≠ 3)) → mG S S' → mRE S' tx n N P' p' → Cwf P' c → (∀ k, k < 9 + 20 * c + 1 ∨ 9 + 20 * c + 20 ≤ k → P' k = P k) → Q S') : wpX12_window S 87 (nI (9 + 20 * c)) Q := by
  have h98 : ∀ r S' P' p', 8 - P' (9 + 20 * c + 1) = r → mG S S' → mRE S' tx n N P' p' → Cpg P' c → P' (9 + 20 * c) = 1 → 0 < P' (9 + 20 * c + 1) → (∀ k, k < 9 + 20 * c + 1 ∨ 9 + 20 * c + 20 ≤ k → P' k = P k) → rWin tx n N (9 + 20 * c) P p = (if kT tx n p' = 3 then ok P' p' else rWs tx n N (9 + 20 * c) r P' p') → wpX12_window_b98 Q (r + 1) S' 87 (nI (9 + 20 * c)) := by
    intro r
    induction r with
    | zero =>
      intro S' P' p' hr _ _ hg
      have := hg.2.1
      omega
    | succ r ih =>
      intro S' P' p' hr hgS R1 hg1 hz1 hm1 ho1 hsp
      have hkt := kT_lt tx n p'
      have hnx := ih
      unfold wpX12_window_b98
      rw [c_0, c_1]
      refine ⟨msk R1.1, q_isWr0 R1.1 (mRE_19 R1) ⟨fun z => absurd rfl z, fun _ => ⟨msk R1.1, ?_⟩⟩⟩
      rw [R1.2.2.1.2.2.1, o_eq (by omega) (by decide)]
      constructor
      · intro z
        refine hQ S' P' p' ?_ hgS R1 (Cpg_wf hg1 hm1 (fun w => by omega)) ho1
        by_cases e : kT tx n p' = 3
        · rw [if_pos e] at hsp
          exact Or.inl ⟨hsp, e⟩
        · rw [if_neg e] at hsp
          refine Or.inr ⟨?_, e⟩
          have hn : isNm tx n p' = false := by
            unfold isNm
            rw [decide_eq_false z, Bool.false_and]
          rw [hsp]
          show Rbd (rMem tx n N (9 + 20 * c) P' p') _ = _
          rw [rMem_n hn]
          rfl
      · intro z
        rw [if_neg (by omega)] at hsp
        have hsp' : rWin tx n N (9 + 20 * c) P p = Rbd (rMem tx n N (9 + 20 * c) P' p') (fun P2 p2 => if kT tx n p2 = 3 then ok P2 p2 else rWs tx n N (9 + 20 * c) r P2 p2) := hsp
        refine q_mem R1 hg1 hc8 (fun S2 c' e h2 f2 w2 => ?_) (fun S2 P2 p2 h2 g2 R2 hg2 hl2 hm2 => ?_)
        · unfold wpX12_window_b98
          rw [c_0]
          refine ⟨msk w2.1, q_isWr1 w2 ⟨fun _ => hE S2 c' e ?_ (mG_t hgS (mG_0 f2)) w2, fun q => absurd q n10⟩⟩
          rw [hsp', h2]
          rfl
        · rw [h2] at hsp'
          refine hnx S2 P2 p2 (by omega) (mG_t hgS g2) R2 hg2 ?_ (by omega) (fun k hk => ?_) hsp'
          · rw [hl2 _ (by omega)]
            exact hz1
          · rw [hl2 _ (by omega)]
            exact ho1 k hk
  have hb150 : 9 + 20 * c < 150 := by omega
  have hz1 : P (9 + 20 * c + 1) = 0 := hb.2 1 (by decide) (by decide)
  have hsp : rWin tx n N (9 + 20 * c) P p = Rbd (rNum tx n 1 4 p) (fun w p1 => Rbd (rNum tx n 1 31 p1) (fun s p2 => Rbd (rNum tx n 0 w p2) (fun lo p3 => Rbd (rNum tx n lo w p3) (fun hi p4 => rWs tx n N (9 + 20 * c) 8 (win4 P (9 + 20 * c) w s lo hi) p4)))) := rfl
  have hgen : ∀ b, b = 9 + 20 * c → wpX12_window S 87 (nI b) Q := fun b eb => by
    rw [← eb] at hb150 hz1 hsp hE hQ
    have h98b : ∀ r S' P' p', 8 - P' (b + 1) = r → mG S S' → mRE S' tx n N P' p' → Cpg P' c → P' b = 1 → 0 < P' (b + 1) → (∀ k, k < b + 1 ∨ b + 20 ≤ k → P' k = P k) → rWin tx n N b P p = (if kT tx n p' = 3 then ok P' p' else rWs tx n N b r P' p') → wpX12_window_b98 Q (r + 1) S' 87 (nI b) := by
      rw [eb]
      exact h98
    unfold wpX12_window
    simp only [c_0, c_1, c_2, c_3, c_4, c_31, show (9 : Int32) = nI 9 from rfl, o_add]
    rw [o_cl (a := b + 9) (by omega), o_cl (a := b + 9 + 1) (by omega), o_cl (a := b + 9 + 2) (by omega), o_cl (a := b + 9 + 3) (by omega)]
    refine ⟨msk hR.1, 89, msr_told hR.1, q_fig hR (by decide) (by decide) (fun S1 c' e x q1 f1 w1 => ?_) (fun S1 w p1 q1 hw1 hw4 f1 R1 => ?_)⟩
    · refine ⟨msk_told w1.1, ?_⟩
      rw [msl_told w1.1, o_inT (by omega) (by omega)]
      have w2 := mW_row w1 (f89 S1 (b + 9) x)
      refine ⟨trivial, msk w1.1, 89, msr_told w1.1, q_figW w2 (wt2 w2 ?_ hb150 (fun S' g w => hE S' c' e (by rw [hsp, q1]; rfl) (mG_t (mG_0 f1) (mG_t (mG_row (f89 _ _ _)) g)) w))⟩
      rw [pI_sI, if_neg (fun q => by omega), f1.1.I (by decide), hR.2.2.2.2.1 _ (by omega), hz1]
    rw [q1] at hsp
    have hs1 : rWin tx n N b P p = Rbd (rNum tx n 1 31 p1) (fun s p2 => Rbd (rNum tx n 0 w p2) (fun lo p3 => Rbd (rNum tx n lo w p3) (fun hi p4 => rWs tx n N b 8 (win4 P b w s lo hi) p4))) := hsp
    refine ⟨msk_told R1.1, ?_⟩
    rw [msl_told R1.1, o_inT (by omega) (by omega)]
    have R2 := mRE_set (k := b + 9) (v := w) R1 (by omega)
    have g2 := mG_t (mG_0 f1) (mG_row (f89 S1 (b + 9) (nI w)))
    refine ⟨trivial, msk R1.1, 89, msr_told R1.1, ?_⟩
    generalize sI S1 89 (b + 9) (nI w) = S2 at R2 g2
    refine q_fig R2 (by decide) (by decide) (fun S3 c' e x q2 f2 w2 => wt2 w2 ?_ hb150 (fun S' g w => hE S' c' e (by rw [hs1, q2]; rfl) (mG_t g2 (mG_t (mG_0 f2) g)) w)) (fun S3 s p2 q2 hs1' hs31 f2 R3 => ?_)
    · rw [f2.1.I (by decide), R2.2.2.2.2.1 _ (by omega), up_n _ _ (by omega), hz1]
    rw [q2] at hs1
    have hs2 : rWin tx n N b P p = Rbd (rNum tx n 0 w p2) (fun lo p3 => Rbd (rNum tx n lo w p3) (fun hi p4 => rWs tx n N b 8 (win4 P b w s lo hi) p4)) := hs1
    refine ⟨msk_told R3.1, ?_⟩
    rw [msl_told R3.1, o_inT (by omega) (by omega)]
    have R4 := mRE_set (k := b + 9 + 1) (v := s) R3 (by omega)
    have g4 := mG_t g2 (mG_t (mG_0 f2) (mG_row (f89 S3 (b + 9 + 1) (nI s))))
    refine ⟨trivial, msk R3.1, 89, msr_told R3.1, msk_told R3.1, ?_⟩
    rw [msl_told R3.1, o_inT (by omega) (by omega)]
    generalize sI S3 89 (b + 9 + 1) (nI s) = S4 at R4 g4
    have e4 : pI S4 89 (b + 9) = nI w := by
      rw [R4.2.2.2.2.1 _ (by omega), up_n _ _ (by omega), up_s]
    rw [e4]
    refine ⟨trivial, q_fig R4 (by decide) (by omega) (fun S5 c' e x q3 f3 w3 => wt3 w3 ?_ hb150 (fun S' g w => hE S' c' e (by rw [hs2, q3]; rfl) (mG_t g4 (mG_t (mG_0 f3) g)) w)) (fun S5 lo p3 q3 _ hlw f3 R5 => ?_)⟩
    · rw [f3.1.I (by decide), R4.2.2.2.2.1 _ (by omega), up_n _ _ (by omega), up_n _ _ (by omega), hz1]
    rw [q3] at hs2
    have hs3 : rWin tx n N b P p = Rbd (rNum tx n lo w p3) (fun hi p4 => rWs tx n N b 8 (win4 P b w s lo hi) p4) := hs2
    refine ⟨msk_told R5.1, ?_⟩
    rw [msl_told R5.1, o_inT (by omega) (by omega)]
    have R6 := mRE_set (k := b + 9 + 2) (v := lo) R5 (by omega)
    have g6 := mG_t g4 (mG_t (mG_0 f3) (mG_row (f89 S5 (b + 9 + 2) (nI lo))))
    refine ⟨trivial, msk R5.1, 89, msr_told R5.1, msk_told R5.1, ?_⟩
    rw [msl_told R5.1, o_inT (by omega) (by omega), o_inT (by omega) (by omega)]
    generalize sI S5 89 (b + 9 + 2) (nI lo) = S6 at R6 g6
    have e6 : pI S6 89 (b + 9 + 2) = nI lo := by
      rw [R6.2.2.2.2.1 _ (by omega), up_s]
    have e69 : pI S6 89 (b + 9) = nI w := by
      rw [R6.2.2.2.2.1 _ (by omega), up_n _ _ (by omega), up_n _ _ (by omega), up_s]
    rw [e6, e69]
    refine ⟨trivial, trivial, q_fig R6 (by omega) (by omega) (fun S7 c' e x q4 f4 w4 => wt4 w4 ?_ hb150 (fun S' g w => hE S' c' e (by rw [hs3, q4]; rfl) (mG_t g6 (mG_t (mG_0 f4) g)) w)) (fun S7 hi p4 q4 hlh hhw f4 R7 => ?_)⟩
    · rw [f4.1.I (by decide), R6.2.2.2.2.1 _ (by omega), up_n _ _ (by omega), up_n _ _ (by omega), up_n _ _ (by omega), hz1]
    rw [q4] at hs3
    have hs4 : rWin tx n N b P p = rWs tx n N b 8 (win4 P b w s lo hi) p4 := hs3
    refine ⟨msk_told R7.1, ?_⟩
    rw [msl_told R7.1, o_inT (by omega) (by omega)]
    have R8 : mRE (sI S7 89 (b + 9 + 3) (nI hi)) tx n N (win4 P b w s lo hi) p4 := mRE_set (k := b + 9 + 3) (v := hi) R7 (by omega)
    have g8 := mG_t g6 (mG_t (mG_0 f4) (mG_row (f89 S7 (b + 9 + 3) (nI hi))))
    refine ⟨trivial, msk R7.1, ?_⟩
    generalize sI S7 89 (b + 9 + 3) (nI hi) = S8 at R8 g8
    have hgw : Cpg (win4 P b w s lo hi) c := by
      rw [eb]
      exact Cpg_win hb (by omega) (by omega) (by omega) (by omega) hlh hhw
    have hsp' : rWin tx n N b P p = Rbd (rMem tx n N b (win4 P b w s lo hi) p4) (fun P2 p2 => if kT tx n p2 = 3 then ok P2 p2 else rWs tx n N b 7 P2 p2) := hs4
    have em : win4 P b w s lo hi (b + 1) = 0 := by rw [win4_o (by omega)]; exact hz1
    have e0 : win4 P b w s lo hi b = 1 := by rw [win4_o (by omega), eb]; exact hb.1
    rw [eb] at hsp' R8 hgw em e0 hE h98b ⊢
    refine q_mem R8 hgw hc8 (fun S9 c' e h9 f9 w9 => b98W w9 (hE S9 c' e ?_ (mG_t g8 (mG_0 f9)) w9)) (fun S9 P9 p9 h9 g9 R9 hg9 hl9 hm9 => ?_)
    · rw [hsp', h9]
      rfl
    · rw [h9] at hsp'
      rw [em] at hm9
      refine ⟨_, h98b 7 S9 P9 p9 (by omega) (mG_t g8 g9) R9 hg9 ?_ (by omega) (fun k hk => ?_) hsp'⟩
      · rw [hl9 _ (by omega)]
        exact e0
      · rw [hl9 _ (by omega), win4_o (by omega)]
  exact hgen _ rfl

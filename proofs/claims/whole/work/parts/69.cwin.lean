/-! THE CLASS READS: windows, constraints -/
def win4 (P : Nat → Nat) (b w s lo hi : Nat) : Nat → Nat := up (up (up (up P (b + 9) w) (b + 10) s) (b + 11) lo) (b + 12) hi
theorem win4_o {P : Nat → Nat} {b w s lo hi k : Nat} (h : k < b + 9 ∨ b + 13 ≤ k) : win4 P b w s lo hi k = P k := by
  unfold win4
  rw [up_n _ _ (by omega), up_n _ _ (by omega), up_n _ _ (by omega), up_n _ _ (by omega)]
theorem win4_v {P : Nat → Nat} {b w s lo hi : Nat} : win4 P b w s lo hi (b + 9) = w ∧ win4 P b w s lo hi (b + 10) = s ∧ win4 P b w s lo hi (b + 11) = lo ∧ win4 P b w s lo hi (b + 12) = hi := by
  unfold win4
  refine ⟨?_, ?_, ?_, ?_⟩
  · rw [up_n _ _ (by omega), up_n _ _ (by omega), up_n _ _ (by omega), up_s]
  · rw [up_n _ _ (by omega), up_n _ _ (by omega), up_s]
  · rw [up_n _ _ (by omega), up_s]
  · rw [up_s]
theorem Cpg_win {P : Nat → Nat} {c w s lo hi : Nat} (hb : blkC P c 1) (h1 : 0 < w) (h2 : w ≤ 4) (h3 : 0 < s) (h4 : s ≤ 31) (h5 : lo ≤ hi) (h6 : hi ≤ w) : Cpg (win4 P (9 + 20 * c) w s lo hi) c := by
  obtain ⟨b0, b1⟩ := hb
  obtain ⟨v1, v2, v3, v4⟩ := win4_v (P := P) (b := 9 + 20 * c) (w := w) (s := s) (lo := lo) (hi := hi)
  have e0 : win4 P (9 + 20 * c) w s lo hi (9 + 20 * c) = 1 := by rw [win4_o (by omega)]; exact b0
  have em : win4 P (9 + 20 * c) w s lo hi (9 + 20 * c + 1) = 0 := by rw [win4_o (by omega)]; exact b1 1 (by decide) (by decide)
  refine ⟨by rw [e0]; decide, by rw [em]; decide, fun k hk => by rw [em] at hk; omega, fun i j hi => by rw [em] at hi; omega, fun q => by rw [e0] at q; omega, fun _ => ?_, fun q => by rw [e0] at q; omega, fun j hj => ?_, fun j hj => by rw [win4_o (by omega), b1 (2 + j) (by omega) (by omega)]; decide⟩
  · rw [v1, v2, v3, v4]
    omega
  · by_cases q : j = 0
    · rw [q, Nat.add_zero, e0]
      decide
    · by_cases q2 : j < 9 ∨ 13 ≤ j
      · rw [win4_o (by omega), b1 j (by omega) hj]
        decide
      · have : j = 9 ∨ j = 10 ∨ j = 11 ∨ j = 12 := by omega
        rcases this with e | e | e | e <;> rw [e]
        · rw [v1]; omega
        · rw [v2]; omega
        · rw [v3]; omega
        · rw [v4]; omega
theorem q_readWin {S : PS} {tx : Nat → Nat} {n : Nat} {N : Nat → Nat} {pb p c : Nat} {P : Nat → Nat} {Q : Option Nat → PS → Prop} (hR : cRE S tx n N (P 0) pb p) (hN : 85 ≤ pN S) (hpb : pb < pN S) (hb : blkC P c 1)
    (hE : ∀ S' c' e, rWin tx n N (9 + 20 * c) P p = er c' e → xE (pN S) S S' c' e → Q none S')
    (hQ : ∀ S' P' p', rWin tx n N (9 + 20 * c) P p = ok P' p' → xL S S' → cRE S' tx n N (P' 0) pb p' → KRep S' (pN S) P' c → Cwf P' c → (∀ k, k < 9 + 20 * c + 1 ∨ 9 + 20 * c + 20 ≤ k → P' k = P k) → Q (some (pN S)) S') : wpX8_readWindow S 1 Q := by
  have hs : ∀ a, a ∈ [pN S] → pN S ≤ a := fun a ha => by rw [List.mem_singleton.mp ha]; exact Nat.le_refl _
  have hn : ∀ a, a ∈ ([] : List Nat) → pN S ≤ a := fun a ha => (nomatch ha)
  have step : ∀ (a1 a2 a3 a4 : Int32) r i S' P' p', P' (9 + 20 * c + 1) = i → xL S S' → cRE S' tx n N (P' 0) pb p' → KRep S' (pN S) P' c → Cpg P' c → P' (9 + 20 * c) = 1 → (∀ k, k < 9 + 20 * c + 1 ∨ 9 + 20 * c + 20 ≤ k → P' k = P k) → rWin tx n N (9 + 20 * c) P p = rWs tx n N (9 + 20 * c) (r + 1) P' p'
      → (∀ S2 P2 p2, P2 (9 + 20 * c + 1) = i + 1 → xL S S2 → cRE S2 tx n N (P2 0) pb p2 → KRep S2 (pN S) P2 c → Cpg P2 c → P2 (9 + 20 * c) = 1 → (∀ k, k < 9 + 20 * c + 1 ∨ 9 + 20 * c + 20 ≤ k → P2 k = P k) → rWin tx n N (9 + 20 * c) P p = (if kT tx n p2 = 3 then ok P2 p2 else rWs tx n N (9 + 20 * c) r P2 p2) → wpX8_readWindow_b82 Q r S2 1 a1 a2 a3 a4 (pN S) (nI (i + 1)))
      → wpX8_readWindow_b102 (wpX8_readWindow_b82 Q r) Q S' 1 a1 a2 a3 a4 (pN S) (nI i) := by
    intro a1 a2 a3 a4 r i S' P' p' hi hf hR1 hk1 hg1 hz1 ho1 hsp hnx
    have hsp' : rWin tx n N (9 + 20 * c) P p = Rbd (rMem tx n N (9 + 20 * c) P' p') (fun P2 p2 => if kT tx n p2 = 3 then ok P2 p2 else rWs tx n N (9 + 20 * c) r P2 p2) := hsp
    unfold wpX8_readWindow_b102
    rw [c_0, c_1]
    refine ⟨hR1.1.2.2.2.2.2.2.2.2.2.2.2.2.2.1, q_readMem hR1 hN (by omega) hk1 hg1 (fun S2 c' e h2 f2 => ⟨fun w => absurd rfl w, fun _ => hE S2 c' e ?_ (xE_t hf.1 (xE_e f2 hs))⟩) (fun S2 P2 p2 h2 f2 R2 hk2 hg2 hl2 hm2 => ⟨fun _ => ?_, fun w => absurd w (by rw [o_eq (by decide) (by decide)]; decide)⟩)⟩
    · rw [hsp', h2]
      rfl
    · rw [h2] at hsp'
      rw [o_add]
      refine hnx S2 P2 p2 (by rw [hm2, hi]) (xL_t hf (xK_k f2 hs)) R2 hk2 hg2 ?_ (fun k hk => ?_) hsp'
      · rw [hl2 _ (by omega)]
        exact hz1
      · rw [hl2 _ (by omega)]
        exact ho1 k hk
  have h102 : ∀ (a1 a2 a3 a4 : Int32) r i S' P' p', 7 - i = r → i ≤ 7 → P' (9 + 20 * c + 1) = i → xL S S' → cRE S' tx n N (P' 0) pb p' → KRep S' (pN S) P' c → Cpg P' c → P' (9 + 20 * c) = 1 → (∀ k, k < 9 + 20 * c + 1 ∨ 9 + 20 * c + 20 ≤ k → P' k = P k) → rWin tx n N (9 + 20 * c) P p = rWs tx n N (9 + 20 * c) (r + 1) P' p' → wpX8_readWindow_b102 (wpX8_readWindow_b82 Q r) Q S' 1 a1 a2 a3 a4 (pN S) (nI i) := by
    intro a1 a2 a3 a4 r
    induction r with
    | zero =>
      intro i S' P' p' hr h7 hi hf hR1 hk1 hg1 hz1 ho1 hsp
      refine step a1 a2 a3 a4 0 i S' P' p' hi hf hR1 hk1 hg1 hz1 ho1 hsp (fun S2 P2 p2 hm2 _ _ _ hg2 => ?_)
      have := hg2.2.1
      omega
    | succ r ih =>
      intro i S' P' p' hr h7 hi hf hR1 hk1 hg1 hz1 ho1 hsp
      refine step a1 a2 a3 a4 (r + 1) i S' P' p' hi hf hR1 hk1 hg1 hz1 ho1 hsp (fun S2 P2 p2 hm2 x2 R2 hk2 hg2 hz2 ho2 hsp2 => ?_)
      have hnx := ih (i + 1)
      obtain ⟨hc2, hx2, hT2, hp2, _⟩ := id R2
      have hK2 := hc2.2.2.2.2.2.2.2.2.2.2.2.2.2.1
      have hkt : kT tx n p2 < 5 := by
        unfold kT
        repeat' split
        all_goals omega
      unfold wpX8_readWindow_b82
      rw [c_0, c_3, c_7, o_lt (by decide) (by omega), o_eq (a := i + 1) (by omega) (by decide), hT2.2.2.1, o_eq (a := kT tx n p2) (by omega) (by decide)]
      refine ⟨fun z => absurd z (by omega), fun _ => ⟨fun z => absurd z (by omega), fun _ => ⟨hK2, fun z => ?_, fun z => ?_⟩⟩⟩
      · rw [if_pos z] at hsp2
        exact hQ S2 P2 p2 hsp2 x2 R2 hk2 (Cpg_wf hg2 (by omega) (fun w => by omega)) ho2
      · rw [if_neg z] at hsp2
        exact hnx S2 P2 p2 (by omega) (by omega) hm2 x2 R2 hk2 hg2 hz2 ho2 hsp2
  have b55 : ∀ (S' : PS) (y1 y2 y3 : Int32), Q none S' → wpX8_readWindow_b55 Q S' 1 y1 y2 y3 ngI := fun S' y1 y2 y3 q => by
    unfold wpX8_readWindow_b55
    rw [ng_d]
    exact ⟨fun z => absurd rfl z, fun _ => q⟩
  have b39 : ∀ (S' : PS) (y1 y2 : Int32), Q none S' → wpX8_readWindow_b39 Q S' 1 y1 y2 ngI := fun S' y1 y2 q => by
    unfold wpX8_readWindow_b39
    rw [ng_d]
    exact ⟨fun z => absurd rfl z, fun _ => b55 _ _ _ _ q⟩
  have b23 : ∀ (S' : PS) (y1 : Int32), Q none S' → wpX8_readWindow_b23 Q S' 1 y1 ngI := fun S' y1 q => by
    unfold wpX8_readWindow_b23
    rw [ng_d]
    exact ⟨fun z => absurd rfl z, fun _ => b39 _ _ _ q⟩
  have hsp : rWin tx n N (9 + 20 * c) P p = Rbd (rNum tx n 1 4 p) (fun w p1 => Rbd (rNum tx n 1 31 p1) (fun s p2 => Rbd (rNum tx n 0 w p2) (fun lo p3 => Rbd (rNum tx n lo w p3) (fun hi p4 => rWs tx n N (9 + 20 * c) 8 (win4 P (9 + 20 * c) w s lo hi) p4)))) := rfl
  unfold wpX8_readWindow
  rw [ng_d, c_1, c_4, c_31]
  refine ⟨hR.1.2.2.2.2.2.2.2.2.2.2.2.2.2.1, q_rNum (A := []) hR (by decide) (by decide) (fun S1 c' e q1 f1 => ⟨fun z => absurd rfl z, fun _ => b23 _ _ (hE S1 c' e ?_ (xE_e f1 hn))⟩) (fun S1 w p1 q1 hw1 hw4 f1 g1 R1 => ⟨fun _ => ⟨R1.1.2.2.2.2.2.2.2.2.2.2.2.2.2.1, ?_⟩, fun z => absurd z (nI_nn (by omega))⟩)⟩
  · rw [hsp, q1]
    rfl
  rw [q1] at hsp
  have hs1 : rWin tx n N (9 + 20 * c) P p = Rbd (rNum tx n 1 31 p1) (fun s p2 => Rbd (rNum tx n 0 w p2) (fun lo p3 => Rbd (rNum tx n lo w p3) (fun hi p4 => rWs tx n N (9 + 20 * c) 8 (win4 P (9 + 20 * c) w s lo hi) p4))) := hsp
  refine q_rNum (A := []) R1 (by decide) (by decide) (fun S2 c' e q2 f2 => b23 _ _ (hE S2 c' e ?_ (xE_e (eF_t f1 f2) hn))) (fun S2 s p2 q2 hs1' hs31 f2 g2 R2 => ?_)
  · rw [hs1, q2]
    rfl
  rw [q2] at hs1
  have hs2 : rWin tx n N (9 + 20 * c) P p = Rbd (rNum tx n 0 w p2) (fun lo p3 => Rbd (rNum tx n lo w p3) (fun hi p4 => rWs tx n N (9 + 20 * c) 8 (win4 P (9 + 20 * c) w s lo hi) p4)) := hs1
  unfold wpX8_readWindow_b23
  rw [ng_d, c_0]
  refine ⟨fun _ => ⟨R2.1.2.2.2.2.2.2.2.2.2.2.2.2.2.1, ?_⟩, fun z => absurd z (nI_nn (by omega))⟩
  refine q_rNum (A := []) R2 (by decide) (by omega) (fun S3 c' e q3 f3 => b39 _ _ _ (hE S3 c' e ?_ (xE_e (eF_t (kF_t f1 f2) f3) hn))) (fun S3 lo p3 q3 _ hlw f3 g3 R3 => ?_)
  · rw [hs2, q3]
    rfl
  rw [q3] at hs2
  have hs3 : rWin tx n N (9 + 20 * c) P p = Rbd (rNum tx n lo w p3) (fun hi p4 => rWs tx n N (9 + 20 * c) 8 (win4 P (9 + 20 * c) w s lo hi) p4) := hs2
  unfold wpX8_readWindow_b39
  rw [ng_d]
  refine ⟨fun _ => ⟨R3.1.2.2.2.2.2.2.2.2.2.2.2.2.2.1, ?_⟩, fun z => absurd z (nI_nn (by omega))⟩
  refine q_rNum (A := []) R3 (by omega) (by omega) (fun S4 c' e q4 f4 => b55 _ _ _ _ (hE S4 c' e ?_ (xE_e (eF_t (kF_t (kF_t f1 f2) f3) f4) hn))) (fun S4 hi p4 q4 hlh hhw f4 g4 R4 => ?_)
  · rw [hs3, q4]
    rfl
  rw [q4] at hs3
  have hs4 : rWin tx n N (9 + 20 * c) P p = rWs tx n N (9 + 20 * c) 8 (win4 P (9 + 20 * c) w s lo hi) p4 := hs3
  have fA : kF [] S S4 := kF_t (kF_t (kF_t f1 f2) f3) f4
  have eN : pN S4 = pN S := fA.1.N
  unfold wpX8_readWindow_b55
  rw [ng_d]
  refine ⟨fun _ => ?_, fun z => absurd z (nI_nn (by omega))⟩
  intro a S5 ea e5
  rw [ea, eN]
  have hK1 : pK S5 (pN S) = 9 := by rw [e5, pK_sNew, if_pos eN.symm]
  have eo : ∀ k, k < 9 + 20 * c + 1 ∨ 9 + 20 * c + 20 ≤ k → win4 P (9 + 20 * c) w s lo hi k = P k := fun k hk => win4_o (by omega)
  obtain ⟨v1, v2, v3, v4⟩ := win4_v (P := P) (b := 9 + 20 * c) (w := w) (s := s) (lo := lo) (hi := hi)
  have e0 : win4 P (9 + 20 * c) w s lo hi (9 + 20 * c) = 1 := by rw [eo _ (by omega)]; exact hb.1
  have e1 : win4 P (9 + 20 * c) w s lo hi (9 + 20 * c + 1) = 0 := by rw [win4_o (by omega)]; exact hb.2 1 (by decide) (by decide)
  unfold wpX10_init
  rw [c_1]
  refine q_init1 (Or.inr (Or.inr (Or.inr hK1))) (fun S6 hf g0 g1 g2 g3 => ⟨(hf.K _).trans hK1, 8, ?_⟩)
  generalize hS7 : sI (sI (sI (sI S6 (pN S) 4 (nI w)) (pN S) 5 (nI s)) (pN S) 6 (nI lo)) (pN S) 7 (nI hi) = S7
  have f7 : fr [pN S] S5 S7 := by
    rw [← hS7]
    exact fr_t hf (fr_t (fr_t (fr_t (fr_sI _ _ _ (List.mem_singleton.mpr rfl)) (fr_sI _ _ _ (List.mem_singleton.mpr rfl))) (fr_sI _ _ _ (List.mem_singleton.mpr rfl))) (fr_sI _ _ _ (List.mem_singleton.mpr rfl)))
  have x7 : xK (pN S) S S7 := by
    rw [e5] at f7
    refine xK_t (xK_k fA hn) (xK_t ?_ (init_x f7 (Nat.le_refl _) hN))
    have := new_x (S := S4) (κ := 9) (m := 0) (by omega)
    rw [eN] at this
    exact this
  have i7 : ∀ k, k ≠ 4 → k ≠ 5 → k ≠ 6 → k ≠ 7 → pI S7 (pN S) k = pI S6 (pN S) k := fun k q1 q2 q3 q4 => by
    rw [← hS7, pI_sI, if_neg (fun q => q4 q.2), pI_sI, if_neg (fun q => q3 q.2), pI_sI, if_neg (fun q => q2 q.2), pI_sI, if_neg (fun q => q1 q.2)]
  have h1k : ∀ k, pI S7 1 k = pI S4 1 k := fun k => by
    rw [f7.I (fun q => by have := List.mem_singleton.mp q; omega), e5, pI_sNew, if_neg (by omega)]
  have hR7 : cRE S7 tx n N (win4 P (9 + 20 * c) w s lo hi 0) pb p4 := by
    rw [eo 0 (by omega)]
    exact cRE_x hR x7 hN hpb (cTk_o h1k R4.2.2.1) R4.2.2.2.1
  have hk7 : KRep S7 (pN S) (win4 P (9 + 20 * c) w s lo hi) c := by
    refine KRep_0 (by rw [e0, i7 _ (by decide) (by decide) (by decide) (by decide)]; exact g0) (by rw [i7 _ (by decide) (by decide) (by decide) (by decide)]; exact g1) ?_ (by rw [i7 _ (by decide) (by decide) (by decide) (by decide)]; exact g3) e1 (fun q => by omega) (fun _ => ⟨(f7.K _).trans hK1, ?_, ?_, ?_, ?_⟩) (fun q => by omega)
    · rw [← hS7]
      exact g2
    · rw [v1, ← hS7, pI_sI, if_neg (fun q => absurd q.2 (by decide)), pI_sI, if_neg (fun q => absurd q.2 (by decide)), pI_sI, if_neg (fun q => absurd q.2 (by decide)), pI_sI, if_pos ⟨rfl, rfl⟩]
    · rw [v2, ← hS7, pI_sI, if_neg (fun q => absurd q.2 (by decide)), pI_sI, if_neg (fun q => absurd q.2 (by decide)), pI_sI, if_pos ⟨rfl, rfl⟩]
    · rw [v3, ← hS7, pI_sI, if_neg (fun q => absurd q.2 (by decide)), pI_sI, if_pos ⟨rfl, rfl⟩]
    · rw [v4, ← hS7, pI_sI, if_pos ⟨rfl, rfl⟩]
  have h := h102 (nI w) (nI s) (nI lo) (nI hi) 7 0 S7 _ p4 rfl (by decide) e1 ⟨x7, by rw [f7.N, e5, pN_sNew, eN]; omega⟩ hR7 hk7 (Cpg_win hb (by omega) (by omega) (by omega) (by omega) hlh hhw) e0 eo hs4
  unfold wpX8_readWindow_b82
  rw [c_0, c_7]
  exact ⟨fun z => absurd z (by rw [o_lt (by decide) (by decide)]; decide), fun _ => ⟨fun _ => h, fun z => absurd rfl z⟩⟩

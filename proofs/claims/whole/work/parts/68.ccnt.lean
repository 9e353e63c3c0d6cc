/-! THE CLASS READS: counts -/
theorem rNum_i {tx : Nat → Nat} {n lo hi p v p' : Nat} (h : rNum tx n lo hi p = ok v p') : kT tx n p = 2 ∧ v = nvT tx n p ∧ lo ≤ v ∧ v ≤ hi ∧ p' = eT tx n p := by
  unfold rNum at h
  by_cases e : kT tx n p = 2
  · rw [if_pos e] at h
    by_cases e2 : lo ≤ nvT tx n p ∧ nvT tx n p ≤ hi
    · rw [if_pos e2] at h
      obtain ⟨h1, h2⟩ := ok_i h
      exact ⟨e, h1.symm, by omega, by omega, h2.symm⟩
    · rw [if_neg e2] at h
      exact (er_ok h).elim
  · rw [if_neg e] at h
    exact (er_ok h).elim
theorem nI_nn {v : Nat} (hv : v < 100000) : ¬ nI v = ngI := by
  rw [m_ne _ (by omega)]
  exact fun q => q
theorem q_rNum {A : List Nat} {S : PS} {tx : Nat → Nat} {n : Nat} {N : Nat → Nat} {v pb p lo hi : Nat} {Q : Int32 → PS → Prop} (hR : cRE S tx n N v pb p) (hl : lo < 100000) (hh : hi < 100000)
    (hE : ∀ S' c' e, rNum tx n lo hi p = er c' e → eF A S S' c' e → Q ngI S')
    (hQ : ∀ S' x p', rNum tx n lo hi p = ok x p' → lo ≤ x → x ≤ hi → kF A S S' → fr [1] S S' → cRE S' tx n N v pb p' → Q (nI x) S') : wpX8_readNumber S 1 (nI lo) (nI hi) Q := by
  obtain ⟨hc, hx, hT, hp, _⟩ := id hR
  exact q_readNum hc hx hT hp hl hh (fun S' c' e h h2 => hE S' c' e h (eF_c h2)) (fun S' x p' h h1 h2 h3 h4 h5 => hQ S' x p' h h1 h2 (kF_tk h4) h4.1 (cRE_k hR (kF_tk (A := []) h4) (fun a ha => (nomatch ha)) h5 h3))
theorem q_readCount {S : PS} {tx : Nat → Nat} {n : Nat} {N : Nat → Nat} {pb p o c : Nat} {P : Nat → Nat} {Q : Int32 → PS → Prop} (hR : cRE S tx n N (P 0) pb (eT tx n p)) (ho : 85 ≤ o) (hne : o ≠ pb) (hk : KRep S o P c) (hg : Cpg P c) (h0 : P (9 + 20 * c) = 0)
    (hE : ∀ S' c' e, rCount tx n (9 + 20 * c) P p = er c' e → eF [o] S S' c' e → Q (nI 0) S')
    (hQ : ∀ S' v lo hi p', rCount tx n (9 + 20 * c) P p = ok (cnt1 P (9 + 20 * c) v lo hi) p' → v < 5 → lo ≤ hi → hi ≤ 7 → (P (9 + 20 * c + 19)).testBit v = false → kF [o] S S' → cRE S' tx n N (P 0) pb p' → KRep S' o (cnt1 P (9 + 20 * c) v lo hi) c → Q (nI 1) S') : wpX8_readCount S 1 o Q := by
  obtain ⟨hc, hx, hT, hp, h5, hK5, h1, hv7, hN, hS, hpb⟩ := id hR
  have hK := hc.2.2.2.2.2.2.2.2.2.2.2.2.2.1
  have hkt : kT tx n (eT tx n p) < 5 := by
    unfold kT
    repeat' split
    all_goals omega
  have bad : ∀ S' : PS, Q (nI 0) S' → ((¬ ngI = ngI → (pK S' o = 2 ∧ (wpX2_addCount S' o ngI ngI ngI (fun S3 => (Q (nI 1) S3))))) ∧ (ngI = ngI → (Q (nI 0) S'))) := fun S' q => ⟨fun z => absurd rfl z, fun _ => q⟩
  have h65 : ∀ (S' : PS) (x2 x3 : Int32), Q (nI 0) S' → wpX8_readCount_b65 Q S' 1 o x2 x3 ngI := fun S' x2 x3 q => by
    unfold wpX8_readCount_b65
    rw [ng_d, c_0]
    exact ⟨fun z => absurd rfl z, fun _ => q⟩
  have h48 : ∀ (S' : PS) (x2 : Int32), Q (nI 0) S' → wpX8_readCount_b48 Q S' 1 o x2 ngI := fun S' x2 q => by
    unfold wpX8_readCount_b48
    rw [ng_d]
    exact ⟨fun z => absurd rfl z, fun _ => h65 _ _ _ q⟩
  have h25 : ¬ (kT tx n (eT tx n p) = 2 ∧ nvT tx n (eT tx n p) < 5 ∧ (P (9 + 20 * c + 19)).testBit (nvT tx n (eT tx n p)) = true) → wpX8_readCount_b25 Q S 1 o := fun hnd => by
    have hs : rCount tx n (9 + 20 * c) P p = Rbd (rNum tx n 0 4 (eT tx n p)) (fun v p1 => Rbd (rNum tx n 0 7 p1) (fun lo p2 => Rbd (rNum tx n lo 7 p2) (fun hi p3 => ok (cnt1 P (9 + 20 * c) v lo hi) p3))) := by
      unfold rCount
      rw [if_neg hnd]
      rfl
    unfold wpX8_readCount_b25
    rw [ng_d, c_0, c_4, c_7]
    refine ⟨hK, q_rNum (A := [o]) hR (by decide) (by decide) (fun S1 c' e q1 f1 => ⟨fun z => absurd rfl z, fun _ => h48 _ _ (hE S1 c' e ?_ f1)⟩) (fun S1 v p1 q1 _ hv f1 g1 R1 => ⟨fun _ => ⟨R1.1.2.2.2.2.2.2.2.2.2.2.2.2.2.1, ?_⟩, fun z => absurd z (nI_nn (by omega))⟩)⟩
    · rw [hs, q1]
      rfl
    · rw [q1] at hs
      have hs1 : rCount tx n (9 + 20 * c) P p = Rbd (rNum tx n 0 7 p1) (fun lo p2 => Rbd (rNum tx n lo 7 p2) (fun hi p3 => ok (cnt1 P (9 + 20 * c) v lo hi) p3)) := hs
      obtain ⟨k2, ev, _⟩ := rNum_i q1
      have hb : (P (9 + 20 * c + 19)).testBit v = false := by
        cases hbb : (P (9 + 20 * c + 19)).testBit v
        · rfl
        · exact absurd ⟨k2, by omega, by rw [← ev]; exact hbb⟩ hnd
      refine q_rNum (A := [o]) R1 (by decide) (by decide) (fun S2 c' e q2 f2 => h48 _ _ (hE S2 c' e ?_ (eF_t f1 f2))) (fun S2 lo p2 q2 _ hlo f2 g2 R2 => ?_)
      · rw [hs1, q2]
        rfl
      · rw [q2] at hs1
        have hs2 : rCount tx n (9 + 20 * c) P p = Rbd (rNum tx n lo 7 p2) (fun hi p3 => ok (cnt1 P (9 + 20 * c) v lo hi) p3) := hs1
        unfold wpX8_readCount_b48
        rw [ng_d, c_7]
        refine ⟨fun _ => ⟨R2.1.2.2.2.2.2.2.2.2.2.2.2.2.2.1, ?_⟩, fun z => absurd z (nI_nn (by omega))⟩
        refine q_rNum (A := [o]) R2 (by omega) (by decide) (fun S3 c' e q3 f3 => h65 _ _ _ (hE S3 c' e ?_ (eF_t (kF_t f1 f2) f3))) (fun S3 hi p3 q3 hlh hhi f3 g3 R3 => ?_)
        · rw [hs2, q3]
          rfl
        · rw [q3] at hs2
          have hs3 : rCount tx n (9 + 20 * c) P p = ok (cnt1 P (9 + 20 * c) v lo hi) p3 := hs2
          have n1 : o ∉ [1] := fun q => by have := List.mem_singleton.mp q; omega
          have hk3 : KRep S3 o P c := KRep_fr g3 n1 (KRep_fr g2 n1 (KRep_fr g1 n1 hk))
          have hK2 : pK S3 o = 2 := (hk3.2.2.2.2.1 h0).1
          unfold wpX8_readCount_b65
          rw [ng_d, c_1]
          refine ⟨fun _ => ⟨hK2, q_addCount hk3 hg h0 (by omega) hlh hhi hb (fun S4 hf4 hk4 => ?_)⟩, fun z => absurd z (nI_nn (by omega))⟩
          have n2 : 1 ∉ [o] := fun q => by have := List.mem_singleton.mp q; omega
          have f4 := kF_o hf4 n2
          refine hQ S4 v lo hi p3 hs3 (by omega) hlh hhi hb (kF_t (kF_t (kF_t f1 f2) f3) f4) ?_ hk4
          exact cRE_k R3 f4 (fun a ha => by rw [List.mem_singleton.mp ha]; exact ⟨ho, hne⟩) (cTk_o (fun k => hf4.I n2 k) R3.2.2.1) R3.2.2.2.1
  unfold wpX8_readCount
  rw [c_0, c_2, c_3, hT.2.2.1, o_eq (by omega) (by decide)]
  refine ⟨hK, fun z => h25 (fun q => z q.1), fun z => ⟨(hk.2.2.2.2.1 h0).1, ?_⟩⟩
  have hnv := kT2_lt z
  have h9 : pI S 1 9 = nI (nvT tx n (eT tx n p)) := hT.2.2.2.2 z
  have t1 := (hg.2.2.2.2.2.2.1 h0).1
  unfold wpX2_hasCount
  rw [h9, w_isValue (by omega), c_0, c_1, c_31, bI_0]
  constructor
  · intro q
    rw [decide_eq_false_iff_not] at q
    exact ⟨fun _ => h25 (fun w => q w.2.1), fun w => absurd rfl w⟩
  · intro q
    rw [Bool.not_eq_false, decide_eq_true_iff] at q
    rw [(hk.2.2.2.2.1 h0).2.2.2, o_ushr (by omega) (by omega), o_and, o_has0]
    refine ⟨(hk.2.2.2.2.1 h0).1, fun w => ⟨fun _ => h25 (fun w2 => by rw [w] at w2; exact absurd w2.2.2 (by decide)), fun w2 => absurd rfl w2⟩, fun w => ⟨fun w2 => absurd w2 (by rw [o_eq (by decide) (by decide)]; decide), fun _ => ⟨hK, w_cfail hc hT (fun S' h => ⟨Or.inl rfl, hE S' _ _ ?_ (eF_c h)⟩)⟩⟩⟩
    unfold rCount
    rw [if_pos ⟨z, q, by rw [← Bool.not_eq_false]; exact w⟩]
theorem Cpg_0 {P : Nat → Nat} {c : Nat} (hb : blkC P c 0) : Cpg (cn0 P (9 + 20 * c)) c := by
  obtain ⟨b0, b1⟩ := hb
  have e1 : ∀ j, j < 14 ∨ 19 ≤ j → cn0 P (9 + 20 * c) (9 + 20 * c + j) = P (9 + 20 * c + j) := fun j hj => if_neg (by omega)
  have e0 : cn0 P (9 + 20 * c) (9 + 20 * c) = 0 := by
    have := e1 0 (by omega)
    rw [Nat.add_zero] at this
    rw [this]
    exact b0
  have e7 : ∀ v, v < 5 → cn0 P (9 + 20 * c) (9 + 20 * c + (14 + v)) = 7 := fun v hv => if_pos (by omega)
  have e9 : ∀ v, v < 5 → cn0 P (9 + 20 * c) (9 + 20 * c + (9 + v)) = 0 := fun v hv => by
    rw [e1 _ (by omega)]
    exact b1 _ (by omega) (by omega)
  have em : cn0 P (9 + 20 * c) (9 + 20 * c + 1) = 0 := by
    rw [e1 _ (by omega)]
    exact b1 1 (by decide) (by decide)
  refine ⟨by rw [e0]; decide, by rw [em]; decide, fun k hk => by rw [em] at hk; omega, fun i j hi => by rw [em] at hi; omega, fun _ v hv => by rw [e9 v hv, e7 v hv]; decide, fun q => by rw [e0] at q; omega, fun _ => ⟨by rw [e1 _ (by omega), b1 19 (by decide) (by decide)]; decide, fun v hv _ => ⟨e9 v hv, e7 v hv⟩⟩, fun j hj => ?_, fun j hj => by rw [e1 _ (by omega), b1 (2 + j) (by omega) (by omega)]; decide⟩
  by_cases q : j = 0
  · rw [q, Nat.add_zero, e0]
    decide
  · by_cases q2 : j < 14 ∨ 19 ≤ j
    · rw [e1 j q2, b1 j (by omega) hj]
      decide
    · have := e7 (j - 14) (by omega)
      rw [show 14 + (j - 14) = j by omega] at this
      rw [this]
      decide
theorem q_readCnts {S : PS} {tx : Nat → Nat} {n : Nat} {N : Nat → Nat} {pb p c : Nat} {P : Nat → Nat} {Q : Option Nat → PS → Prop} (hR : cRE S tx n N (P 0) pb p) (hN : 85 ≤ pN S) (hpb : pb < pN S) (hb : blkC P c 0)
    (hE : ∀ S' c' e, rCnts tx n N (9 + 20 * c) P p = er c' e → xE (pN S) S S' c' e → Q none S')
    (hQ : ∀ S' P' p', rCnts tx n N (9 + 20 * c) P p = ok P' p' → xL S S' → cRE S' tx n N (P' 0) pb p' → KRep S' (pN S) P' c → Cwf P' c → (∀ k, k < 9 + 20 * c + 1 ∨ 9 + 20 * c + 20 ≤ k → P' k = P k) → Q (some (pN S)) S') : wpX8_readCounts S 1 Q := by
  have hs : ∀ a, a ∈ [pN S] → pN S ≤ a := fun a ha => by rw [List.mem_singleton.mp ha]; exact Nat.le_refl _
  have h47 : ∀ r i S' P' p', 6 - i = r → pcn 5 (P' (9 + 20 * c + 19)) = i → xL S S' → cRE S' tx n N (P' 0) pb p' → KRep S' (pN S) P' c → Cpg P' c → P' (9 + 20 * c) = 0 → 0 < P' (9 + 20 * c + 1) → (∀ k, k < 9 + 20 * c + 1 ∨ 9 + 20 * c + 20 ≤ k → P' k = P k) → rCnts tx n N (9 + 20 * c) P p = rCs tx n (9 + 20 * c) r P' p' → wpX8_readCounts_b47 Q r S' 1 (pN S) (nI i) := by
    intro r
    induction r with
    | zero =>
      intro i S' P' p' hr hi
      have := pcn_le 5 (P' (9 + 20 * c + 19))
      omega
    | succ r ih =>
      intro i S' P' p' hr hi hf hR1 hk1 hg1 hz1 hm1 ho1 hsp
      have hi5 := pcn_le 5 (P' (9 + 20 * c + 19))
      obtain ⟨hc1, hx1, hT1, hp1, _⟩ := id hR1
      have hK1 := hc1.2.2.2.2.2.2.2.2.2.2.2.2.2.1
      have hnx := ih (i + 1)
      have hsp' : rCnts tx n N (9 + 20 * c) P p = if isW tx n wVal p' = true then Rbd (rCount tx n (9 + 20 * c) P' p') (fun P2 p2 => rCs tx n (9 + 20 * c) r P2 p2) else ok P' p' := hsp
      unfold wpX8_readCounts_b47
      rw [c_0, c_1, c_5, o_lt (by decide) (by omega)]
      refine ⟨fun z => absurd z (by omega), fun _ => ⟨hK1, q_cisW hc1 hx1 hT1 hp1 wV_val ?_⟩⟩
      rw [bI_0]
      constructor
      · intro q
        rw [if_neg (by rw [q]; decide)] at hsp'
        exact hQ S' P' p' hsp' hf hR1 hk1 (Cpg_wf hg1 hm1 (fun w => by omega)) ho1
      · intro q
        rw [Bool.not_eq_false] at q
        rw [if_pos q] at hsp'
        refine ⟨hK1, q_next hc1 hx1 hT1.2.1 (eT_le hp1).2 (fun S2 hf2 hT2 => ?_)⟩
        have R2 : cRE S2 tx n N (P' 0) pb (eT tx n p') := cRE_k hR1 (kF_tk (A := []) hf2) (fun a ha => (nomatch ha)) hT2 (eT_le hp1).2
        have x2 : xL S S2 := xL_t hf (xK_k (kF_tk (A := []) hf2) (fun a ha => (nomatch ha)))
        have hk2 : KRep S2 (pN S) P' c := KRep_fr hf2.1 (fun w => by have := List.mem_singleton.mp w; omega) hk1
        refine ⟨R2.1.2.2.2.2.2.2.2.2.2.2.2.2.2.1, q_readCount R2 hN (by omega) hk2 hg1 hz1 (fun S3 c' e h3 f3 => ⟨fun w => absurd rfl w, fun _ => hE S3 c' e ?_ (xE_t x2.1 (xE_e f3 hs))⟩) (fun S3 v lo hj p3 h3 hv hlh hhi hbv f3 R3 hk3 => ⟨fun _ => ?_, fun w => absurd w (by rw [o_eq (by decide) (by decide)]; decide)⟩)⟩
        · rw [hsp', h3]
          rfl
        · rw [h3] at hsp'
          rw [o_add]
          have t1 := (hg1.2.2.2.2.2.2.1 hz1).1
          refine hnx S3 _ p3 (by omega) ?_ (xL_t x2 (xK_k f3 hs)) ?_ hk3 (Cpg_cnt hg1 hz1 hv hlh hhi) ?_ ?_ (fun k hk => ?_) hsp'
          · rw [cnt1_19 hv, or_pc v hv _ t1 hbv, hi]
          · rw [cnt1_lo hv (Or.inl (by omega))]
            exact R3
          · rw [cnt1_lo hv (Or.inl (by omega))]
            exact hz1
          · rw [cnt1_lo hv (Or.inl (by omega))]
            exact hm1
          · rw [cnt1_lo hv (by omega)]
            exact ho1 k hk
  have step : ∀ r i S' P' p', P' (9 + 20 * c + 1) = i → xL S S' → cRE S' tx n N (P' 0) pb p' → KRep S' (pN S) P' c → Cpg P' c → P' (9 + 20 * c) = 0 → P' (9 + 20 * c + 19) = 0 → (∀ k, k < 9 + 20 * c + 1 ∨ 9 + 20 * c + 20 ≤ k → P' k = P k) → rCnts tx n N (9 + 20 * c) P p = Rbd (rMs tx n N (9 + 20 * c) (r + 1) P' p') (fun P2 p2 => rCs tx n (9 + 20 * c) 6 P2 p2)
      → (∀ S2 P2 p2, P2 (9 + 20 * c + 1) = i + 1 → xL S S2 → cRE S2 tx n N (P2 0) pb p2 → KRep S2 (pN S) P2 c → Cpg P2 c → P2 (9 + 20 * c) = 0 → P2 (9 + 20 * c + 19) = 0 → (∀ k, k < 9 + 20 * c + 1 ∨ 9 + 20 * c + 20 ≤ k → P2 k = P k) → rCnts tx n N (9 + 20 * c) P p = Rbd (if isW tx n wVal p2 = true then ok P2 p2 else rMs tx n N (9 + 20 * c) r P2 p2) (fun P2 p2 => rCs tx n (9 + 20 * c) 6 P2 p2) → wpX8_readCounts_b10 Q r S2 1 (pN S) (nI (i + 1)))
      → wpX8_readCounts_b29 (wpX8_readCounts_b10 Q r) Q S' 1 (pN S) (nI i) := by
    intro r i S' P' p' hi hf hR1 hk1 hg1 hz1 h19 ho1 hsp hnx
    have hsp' : rCnts tx n N (9 + 20 * c) P p = Rbd (Rbd (rMem tx n N (9 + 20 * c) P' p') (fun P2 p2 => if isW tx n wVal p2 = true then ok P2 p2 else rMs tx n N (9 + 20 * c) r P2 p2)) (fun P2 p2 => rCs tx n (9 + 20 * c) 6 P2 p2) := hsp
    unfold wpX8_readCounts_b29
    rw [c_0, c_1]
    refine ⟨hR1.1.2.2.2.2.2.2.2.2.2.2.2.2.2.1, q_readMem hR1 hN (by omega) hk1 hg1 (fun S2 c' e h2 f2 => ⟨fun w => absurd rfl w, fun _ => hE S2 c' e ?_ (xE_t hf.1 (xE_e f2 hs))⟩) (fun S2 P2 p2 h2 f2 R2 hk2 hg2 hl2 hm2 => ⟨fun _ => ?_, fun w => absurd w (by rw [o_eq (by decide) (by decide)]; decide)⟩)⟩
    · rw [hsp', h2]
      rfl
    · rw [h2] at hsp'
      rw [o_add]
      refine hnx S2 P2 p2 (by rw [hm2, hi]) (xL_t hf (xK_k f2 hs)) R2 hk2 hg2 ?_ ?_ (fun k hk => ?_) hsp'
      · rw [hl2 _ (by omega)]
        exact hz1
      · rw [hl2 _ (by omega)]
        exact h19
      · rw [hl2 _ (by omega)]
        exact ho1 k hk
  have h29 : ∀ r i S' P' p', 7 - i = r → i ≤ 7 → P' (9 + 20 * c + 1) = i → xL S S' → cRE S' tx n N (P' 0) pb p' → KRep S' (pN S) P' c → Cpg P' c → P' (9 + 20 * c) = 0 → P' (9 + 20 * c + 19) = 0 → (∀ k, k < 9 + 20 * c + 1 ∨ 9 + 20 * c + 20 ≤ k → P' k = P k) → rCnts tx n N (9 + 20 * c) P p = Rbd (rMs tx n N (9 + 20 * c) (r + 1) P' p') (fun P2 p2 => rCs tx n (9 + 20 * c) 6 P2 p2) → wpX8_readCounts_b29 (wpX8_readCounts_b10 Q r) Q S' 1 (pN S) (nI i) := by
    intro r
    induction r with
    | zero =>
      intro i S' P' p' hr h7 hi hf hR1 hk1 hg1 hz1 h19 ho1 hsp
      refine step 0 i S' P' p' hi hf hR1 hk1 hg1 hz1 h19 ho1 hsp (fun S2 P2 p2 hm2 _ _ _ hg2 => ?_)
      have := hg2.2.1
      omega
    | succ r ih =>
      intro i S' P' p' hr h7 hi hf hR1 hk1 hg1 hz1 h19 ho1 hsp
      refine step (r + 1) i S' P' p' hi hf hR1 hk1 hg1 hz1 h19 ho1 hsp (fun S2 P2 p2 hm2 x2 R2 hk2 hg2 hz2 h192 ho2 hsp2 => ?_)
      have hnx := ih (i + 1)
      obtain ⟨hc2, hx2, hT2, hp2, _⟩ := id R2
      have hK2 := hc2.2.2.2.2.2.2.2.2.2.2.2.2.2.1
      unfold wpX8_readCounts_b10
      rw [c_0, c_7, o_lt (by decide) (by omega), o_eq (by omega) (by decide)]
      refine ⟨fun z => absurd z (by omega), fun _ => ⟨fun z => absurd z (by omega), fun _ => ⟨hK2, q_cisW hc2 hx2 hT2 hp2 wV_val ?_⟩⟩⟩
      rw [bI_0]
      constructor
      · intro q
        rw [Bool.not_eq_false] at q
        rw [if_pos q] at hsp2
        exact ⟨6, h47 6 0 S2 P2 p2 rfl (by rw [h192]; rfl) x2 R2 hk2 hg2 hz2 (by omega) ho2 hsp2⟩
      · intro q
        rw [if_neg (by rw [q]; decide)] at hsp2
        exact hnx S2 P2 p2 (by omega) (by omega) hm2 x2 R2 hk2 hg2 hz2 h192 ho2 hsp2
  have eo : ∀ k, k < 9 + 20 * c + 1 ∨ 9 + 20 * c + 20 ≤ k → cn0 P (9 + 20 * c) k = P k := fun k hk => if_neg (by omega)
  have ej : ∀ j, j < 14 ∨ 19 ≤ j → cn0 P (9 + 20 * c) (9 + 20 * c + j) = P (9 + 20 * c + j) := fun j hj => if_neg (by omega)
  unfold wpX8_readCounts wpX2_init
  intro a S2 ea e2
  rw [ea]
  have hK1 : pK S2 (pN S) = 2 := by rw [e2, pK_sNew, if_pos rfl]
  refine q_init1 (Or.inr (Or.inl hK1)) (fun S5 hf g0 g1 g2 g3 => ⟨(hf.K _).trans hK1, 8, ?_⟩)
  generalize hS6 : sI (sI (sI S5 (pN S) 4 0) (pN S) 5 32767) (pN S) 6 0 = S6
  have f6 : fr [pN S] S2 S6 := by
    rw [← hS6]
    exact fr_t hf (fr_t (fr_t (fr_sI _ _ _ (List.mem_singleton.mpr rfl)) (fr_sI _ _ _ (List.mem_singleton.mpr rfl))) (fr_sI _ _ _ (List.mem_singleton.mpr rfl)))
  have x6 : xK (pN S) S S6 := by
    rw [e2] at f6
    exact xK_t (new_x hN) (init_x f6 (Nat.le_refl _) hN)
  have i6 : ∀ k, k ≠ 4 → k ≠ 5 → k ≠ 6 → pI S6 (pN S) k = pI S5 (pN S) k := fun k q1 q2 q3 => by
    rw [← hS6, pI_sI, if_neg (fun q => q3 q.2), pI_sI, if_neg (fun q => q2 q.2), pI_sI, if_neg (fun q => q1 q.2)]
  have h1k : ∀ k, pI S6 1 k = pI S 1 k := fun k => by
    rw [f6.I (fun q => by have := List.mem_singleton.mp q; omega), e2, pI_sNew, if_neg (by omega)]
  have hR6 : cRE S6 tx n N (cn0 P (9 + 20 * c) 0) pb p := by
    rw [eo 0 (by omega)]
    exact cRE_x hR x6 hN hpb (cTk_o h1k hR.2.2.1) hR.2.2.2.1
  have e0 : cn0 P (9 + 20 * c) (9 + 20 * c) = 0 := by rw [eo _ (by omega)]; exact hb.1
  have e1 : cn0 P (9 + 20 * c) (9 + 20 * c + 1) = 0 := by rw [ej _ (by omega)]; exact hb.2 1 (by decide) (by decide)
  have e19 : cn0 P (9 + 20 * c) (9 + 20 * c + 19) = 0 := by rw [ej _ (by omega)]; exact hb.2 19 (by decide) (by decide)
  have hk6 : KRep S6 (pN S) (cn0 P (9 + 20 * c)) c := by
    refine KRep_0 (by rw [e0, i6 _ (by decide) (by decide) (by decide)]; exact g0) (by rw [i6 _ (by decide) (by decide) (by decide)]; exact g1) ?_ (by rw [i6 _ (by decide) (by decide) (by decide)]; exact g3) e1 (fun _ => ⟨(f6.K _).trans hK1, ?_, ?_, ?_⟩) (fun q => by omega) (fun q => by omega)
    · rw [← hS6]
      exact g2
    · have ed : ds 3 (fun v => cn0 P (9 + 20 * c) (9 + 20 * c + (9 + v))) 5 = ds 3 (fun _ => 0) 5 := ds_cong (fun v hv => by
        show cn0 P (9 + 20 * c) (9 + 20 * c + (9 + v)) = 0
        rw [ej _ (by omega)]
        exact hb.2 _ (by omega) (by omega))
      rw [ed, ← hS6, pI_sI, if_neg (fun q => absurd q.2 (by decide)), pI_sI, if_neg (fun q => absurd q.2 (by decide)), pI_sI, if_pos ⟨rfl, rfl⟩]
      rfl
    · have ed : ds 3 (fun v => cn0 P (9 + 20 * c) (9 + 20 * c + (14 + v))) 5 = ds 3 (fun _ => 7) 5 := ds_cong (fun v hv => by
        show cn0 P (9 + 20 * c) (9 + 20 * c + (14 + v)) = 7
        exact if_pos (by omega))
      rw [ed, ← hS6, pI_sI, if_neg (fun q => absurd q.2 (by decide)), pI_sI, if_pos ⟨rfl, rfl⟩]
      rfl
    · rw [e19, ← hS6, pI_sI, if_pos ⟨rfl, rfl⟩]
      rfl
  have h := h29 7 0 S6 _ p rfl (by decide) e1 ⟨x6, by rw [f6.N, e2, pN_sNew]; omega⟩ hR6 hk6 (Cpg_0 hb) e0 e19 eo rfl
  unfold wpX8_readCounts_b10
  rw [c_0, c_7]
  exact ⟨fun z => absurd z (by rw [o_lt (by decide) (by decide)]; decide), fun _ => ⟨fun _ => h, fun z => absurd rfl z⟩⟩

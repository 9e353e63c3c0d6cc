/-! THE CLASS READS: variables -/
def yK (M : Nat) (S S' : PS) : Prop := oF [1, 3] [] M S S' ∧ ∀ k, k ≠ 6 → k ≠ 7 → k ≠ 8 → k ≠ 9 → pI S' 1 k = pI S 1 k
def yE (M : Nat) (S S' : PS) (c e : Nat) : Prop := oF [1, 3] [] M S S' ∧ (∀ k, k ≠ 3 → k ≠ 4 → k ≠ 6 → k ≠ 7 → k ≠ 8 → k ≠ 9 → pI S' 1 k = pI S 1 k) ∧ pI S' 1 3 = nI c ∧ pI S' 1 4 = nI e
theorem m13 : ∀ a, a ∈ [1] → a ∈ [1, 3] := fun a ha => by
  rw [List.mem_singleton.mp ha]
  decide
theorem yK_x {M : Nat} {S S' : PS} (h : xK M S S') : yK M S S' := ⟨oF_m m13 (fun _ q => q) h.1, h.2⟩
theorem yE_x {M : Nat} {S S' : PS} {c e : Nat} (h : xE M S S' c e) : yE M S S' c e := ⟨oF_m m13 (fun _ q => q) h.1, h.2⟩
theorem yK_t {M : Nat} {S S1 S2 : PS} (h : yK M S S1) (h2 : yK M S1 S2) : yK M S S2 := ⟨oF_t h.1 h2.1, fun k a b c d => (h2.2 k a b c d).trans (h.2 k a b c d)⟩
theorem yE_t {M : Nat} {S S1 S2 : PS} {c e : Nat} (h : yK M S S1) (h2 : yE M S1 S2 c e) : yE M S S2 c e := ⟨oF_t h.1 h2.1, fun k a b c d e f => (h2.2.1 k a b c d e f).trans (h.2 k c d e f), h2.2.2⟩
theorem yK_r (M : Nat) (S : PS) : yK M S S := ⟨oF_fr (C := []) (fr_r _ _) (fun a ha => (nomatch ha)), fun _ _ _ _ _ => rfl⟩
theorem yK_k {M : Nat} {S S' : PS} (h : kF [] S S') : yK M S S' := yK_x (xK_k h (fun a ha => (nomatch ha)))
theorem yE_e {M : Nat} {S S' : PS} {c e : Nat} (h : eF [] S S' c e) : yE M S S' c e := yE_x (xE_e h (fun a ha => (nomatch ha)))
/-- the variables as far as they are told -/
def vld (P : Nat → Nat) : Prop := P 0 ≤ 7 ∧ P 1 = 0 ∧ (∀ x, x < 7 → P (2 + x) < 32) ∧ (∀ x, x < P 0 → P (2 + x) ≠ 0) ∧ (∀ x, P 0 ≤ x → x < 7 → P (2 + x) = 0) ∧ ∀ k, 9 ≤ k → P k = 0
theorem rg_or : ∀ lo, lo < 5 → ∀ j, j < 5 → lo ≤ j → (2 ^ j - 2 ^ lo) ||| 2 ^ j = 2 ^ (j + 1) - 2 ^ lo := by decide +kernel
theorem rg_lt : ∀ lo, lo < 5 → ∀ j, j < 5 → lo ≤ j → 2 ^ (j + 1) - 2 ^ lo < 32 ∧ 2 ^ (j + 1) - 2 ^ lo ≠ 0 ∧ 2 ^ j - 2 ^ lo < 32 := by decide +kernel
def var1 (P : Nat → Nat) (w : Nat) : Nat → Nat := up (up P (2 + P 0) w) 0 (P 0 + 1)
theorem var1_0 {P : Nat → Nat} {w : Nat} : var1 P w 0 = P 0 + 1 := up_s _ _ _
theorem var1_v {P : Nat → Nat} {w : Nat} : var1 P w (2 + P 0) = w := by
  unfold var1
  rw [up_n _ _ (by omega), up_s]
theorem var1_o {P : Nat → Nat} {w k : Nat} (h0 : k ≠ 0) (h : k ≠ 2 + P 0) : var1 P w k = P k := by
  unfold var1
  rw [up_n _ _ h0, up_n _ _ h]
theorem vld_1 {P : Nat → Nat} {w : Nat} (h : vld P) (h7 : P 0 < 7) (hw : w < 32) (hn : w ≠ 0) : vld (var1 P w) := by
  obtain ⟨a1, a2, a3, a4, a5, a6⟩ := h
  refine ⟨by rw [var1_0]; omega, by rw [var1_o (by decide) (by omega)]; exact a2, fun x hx => ?_, fun x hx => ?_, fun x hx hx7 => ?_, fun k hk => by rw [var1_o (by omega) (by omega)]; exact a6 k hk⟩
  · by_cases e : x = P 0
    · rw [e, var1_v]
      exact hw
    · rw [var1_o (by omega) (by omega)]
      exact a3 x hx
  · rw [var1_0] at hx
    by_cases e : x = P 0
    · rw [e, var1_v]
      exact hn
    · rw [var1_o (by omega) (by omega)]
      exact a4 x (by omega)
  · rw [var1_0] at hx
    rw [var1_o (by omega) (by omega)]
    exact a5 x (by omega) hx7
theorem q_addVarP {S : PS} {pb v lo hi : Nat} {d : Nat → Nat} {Q : PS → Prop} (hK : pK S pb = 5) (h1 : pI S pb 1 = nI v) (hv : v < 7) (h3 : pJ S pb 3 = pk d) (hd : Dwf d) (hd0 : d v = 0) (hlo : lo ≤ hi) (hhi : hi < 5)
    (hQ : ∀ S', fr [pb] S S' → pI S' pb 1 = nI (v + 1) → (∀ k, k ≠ 1 → pI S' pb k = pI S pb k) → pJ S' pb 3 = pk (ud d v (2 ^ (hi + 1) - 2 ^ lo)) → Q S') : wpX6_addVariable S pb (nI lo) (nI hi) Q := by
  have wf : ∀ w, w < 32 → Dwf (ud d v w) := fun w hw x hx => by
    by_cases e : x = v
    · rw [e, ud_s]
      exact hw
    · rw [ud_n _ _ e]
      exact hd x hx
  have fin : ∀ S', fr [pb] S S' → (∀ k, pI S' pb k = pI S pb k) → pJ S' pb 3 = pk (ud d v (2 ^ (hi + 1) - 2 ^ lo)) → ∀ x3 : Int32, wpX6_addVariable_b35 Q S' pb (nI lo) (nI hi) x3 := fun S' hf g1 g3 x3 => by
    unfold wpX6_addVariable_b35
    rw [c_1, g1, h1, o_add]
    refine ⟨(hf.K _).trans hK, hQ _ (fr_t hf (fr_sI _ _ _ (List.mem_singleton.mpr rfl))) ?_ (fun k hk => ?_) g3⟩
    · rw [pI_sI, if_pos ⟨rfl, rfl⟩]
    · rw [pI_sI, if_neg (fun q => hk q.2)]
      exact g1 k
  have loop : ∀ r j S', hi + 1 - j = r → lo ≤ j → j ≤ hi + 1 → fr [pb] S S' → (∀ k, pI S' pb k = pI S pb k) → pJ S' pb 3 = pk (ud d v (2 ^ j - 2 ^ lo)) → wpX6_addVariable_b2 Q (r + 1) S' pb (nI lo) (nI hi) (nI j) := by
    intro r
    induction r with
    | zero =>
      intro j S' hr h2 hj hf g1 g3
      have e : j = hi + 1 := by omega
      rw [e] at g3
      unfold wpX6_addVariable_b2
      rw [o_lt (by omega) (by omega)]
      exact ⟨fun _ => fin S' hf g1 g3 _, fun z => absurd (show hi < j by omega) z⟩
    | succ r ih =>
      intro j S' hr h2 hj hf g1 g3
      have hnx := ih (j + 1)
      generalize r + 1 = fu at hnx ⊢
      have hl := rg_lt lo (by omega) j (by omega) h2
      unfold wpX6_addVariable_b2
      rw [c_1, c_5, o_lt (by omega) (by omega), o_le (by decide) (by omega), g1, h1, w_pair (by omega) (by omega), g3, pq_or (wf _ hl.2.2) (sg_wf (by have : 2 ^ j ≤ 2 ^ 4 := Nat.pow_le_pow_right (by decide) (by omega); omega)), o_add]
      refine ⟨fun z => absurd z (by omega), fun _ => ⟨fun z => absurd z (by omega), fun _ => ⟨(hf.K _).trans hK, (hf.K _).trans hK, ?_⟩⟩⟩
      refine hnx _ (by omega) (by omega) (by omega) (fr_t hf (fr_sJ _ _ _ (List.mem_singleton.mpr rfl))) (fun k => g1 k) ?_
      rw [pJ_sJ, if_pos ⟨rfl, rfl⟩]
      apply pq_cg
      intro x _
      show ud d v (2 ^ j - 2 ^ lo) x ||| sg v (2 ^ j) x = ud d v (2 ^ (j + 1) - 2 ^ lo) x
      by_cases e : x = v
      · rw [e, ud_s, ud_s, sg_s]
        exact rg_or lo (by omega) j (by omega) h2
      · rw [ud_n _ _ e, ud_n _ _ e, sg_n e, Nat.or_zero]
  unfold wpX6_addVariable
  refine ⟨_, loop _ lo S rfl (Nat.le_refl _) (by omega) (fr_r _ _) (fun _ => rfl) ?_⟩
  rw [h3]
  apply pq_cg
  intro x _
  by_cases e : x = v
  · rw [e, ud_s, hd0, Nat.sub_self]
  · rw [ud_n _ _ e]
theorem q_readVar {S : PS} {M : Nat} {tx : Nat → Nat} {n : Nat} {N : Nat → Nat} {pb rw p : Nat} {P : Nat → Nat} {Q : Int32 → PS → Prop} (hM : 85 ≤ M) (hM1 : M ≤ pb) (hR : cRE S tx n N (P 0) pb p) (hI : cPI S pb rw P) (hv : vld P) (h7 : P 0 < 7)
    (hE : ∀ S' c e, rVar tx n P N p = er c e → yE M S S' c e → Q (nI 0) S')
    (hQ : ∀ S' z p', rVar tx n P N p = ok z p' → yK M S S' → cRE S' tx n z.2 (z.1 0) pb p' → cPI S' pb rw z.1 → vld z.1 → z.1 0 = P 0 + 1 → Q (nI 1) S') : wpX8_readVariable S 1 Q := by
  obtain ⟨hc, hx, hT, hp, g5, gK5, g1, gv, gN, gS, gpb⟩ := id hR
  have hK := hc.2.2.2.2.2.2.2.2.2.2.2.2.2.1
  have hp1 := (eT_le (tx := tx) hp).2
  have b63 : ∀ (S' : PS) (x1 x2 : Int32), Q (nI 0) S' → wpX8_readVariable_b63 Q S' 1 x1 x2 ngI := fun S' x1 x2 q => by
    unfold wpX8_readVariable_b63
    rw [ng_d]
    exact ⟨fun _ => q, fun z => absurd rfl z⟩
  unfold wpX8_readVariable
  rw [ng_d, c_0, c_1, c_3, c_4]
  refine ⟨hK, q_next hc hx hT.2.1 hp1 (fun S1 hf1 hT1 => ?_)⟩
  have k1 : kF [] S S1 := kF_tk hf1
  have R1 : cRE S1 tx n N (P 0) pb (eT tx n p) := cRE_k hR k1 (fun a ha => (nomatch ha)) hT1 hp1
  obtain ⟨hc1, hx1, _, _, g51, gK51, g11, _, _, gS1, _⟩ := id R1
  have hK1 := hc1.2.2.2.2.2.2.2.2.2.2.2.2.2.1
  refine ⟨hK1, q_cisN hc1 hx1 hT1 hp1 ?_⟩
  rw [bI_0]
  constructor
  · intro hnm
    rw [Bool.not_eq_false] at hnm
    obtain ⟨kk1, kk2, _⟩ := isNm_i hnm
    obtain ⟨h9, hlt⟩ := cT_name hT1 kk1 kk2
    refine ⟨hK1, q_varOf hc1 hT1 hnm g51 gK51 g11 gv gN gS1 ?_⟩
    by_cases e : lk tx n N (P 0) (eT tx n p) < P 0
    · rw [if_pos e]
      refine ⟨fun z => absurd z (nI_nn (by omega)), fun _ => ⟨hK1, w_cfail hc1 hT1 (fun S' h => ⟨Or.inl rfl, hE S' _ _ ?_ (yE_t (yK_k k1) (yE_e (eF_c h)))⟩)⟩⟩
      unfold rVar
      rw [if_pos hnm, if_pos e]
    · rw [if_neg e]
      have hsp : rVar tx n P N p = Rbd (rNum tx n 0 4 (eT tx n (eT tx n p))) (fun lo p1 => Rbd (rNum tx n lo 4 p1) (fun hi p2 => Rbd (rSem tx n p2) (fun _ p3 => ok (var1 P (2 ^ (hi + 1) - 2 ^ lo), up N (P 0) (eT tx n p)) p3))) := by
        unfold rVar
        rw [if_pos hnm, if_neg e]
        rfl
      have hp2 := (eT_le (tx := tx) hp1).2
      refine ⟨fun _ => ⟨hK1, q_next hc1 hx1 hT1.2.1 hp2 (fun S2 hf2 hT2 => ?_)⟩, fun z => absurd rfl z⟩
      have k2 : kF [] S S2 := kF_t k1 (kF_tk hf2)
      have R2 : cRE S2 tx n N (P 0) pb (eT tx n (eT tx n p)) := cRE_k R1 (kF_tk (A := []) hf2) (fun a ha => (nomatch ha)) hT2 hp2
      refine ⟨R2.1.2.2.2.2.2.2.2.2.2.2.2.2.2.1, q_rNum (A := []) R2 (by decide) (by decide) (fun S3 c' e' q3 f3 => ⟨fun z => absurd rfl z, fun _ => b63 _ _ _ (hE S3 c' e' ?_ (yE_e (eF_t k2 f3)))⟩) (fun S3 lo p3 q3 _ hlo4 f3 _ R3 => ⟨fun _ => ⟨R3.1.2.2.2.2.2.2.2.2.2.2.2.2.2.1, ?_⟩, fun z => absurd z (nI_nn (by omega))⟩)⟩
      · rw [hsp, q3]
        rfl
      rw [q3] at hsp
      have hs1 : rVar tx n P N p = Rbd (rNum tx n lo 4 p3) (fun hi p2 => Rbd (rSem tx n p2) (fun _ p3 => ok (var1 P (2 ^ (hi + 1) - 2 ^ lo), up N (P 0) (eT tx n p)) p3)) := hsp
      refine q_rNum (A := []) R3 (by omega) (by decide) (fun S4 c' e' q4 f4 => b63 _ _ _ (hE S4 c' e' ?_ (yE_e (eF_t (kF_t k2 f3) f4)))) (fun S4 hi p4 q4 hlh hh4 f4 _ R4 => ?_)
      · rw [hs1, q4]
        rfl
      rw [q4] at hs1
      have hs2 : rVar tx n P N p = Rbd (rSem tx n p4) (fun _ p3 => ok (var1 P (2 ^ (hi + 1) - 2 ^ lo), up N (P 0) (eT tx n p)) p3) := hs1
      have k4 : kF [] S S4 := kF_t (kF_t k2 f3) f4
      unfold wpX8_readVariable_b63
      rw [ng_d, c_0, c_1]
      refine ⟨fun z => absurd z (nI_nn (by omega)), fun _ => ⟨R4.1.2.2.2.2.2.2.2.2.2.2.2.2.2.1, q_readSem R4.1 R4.2.1 R4.2.2.1 R4.2.2.2.1 (fun S5 c' e' q5 f5 => ⟨fun z => absurd rfl z, fun _ => hE S5 c' e' ?_ (yE_e (eF_t k4 (eF_c f5)))⟩) (fun S5 v5 p5 q5 hp5 hf5 hT5 => ⟨fun _ => ?_, fun z => absurd z (by rw [o_eq (by decide) (by decide)]; decide)⟩)⟩⟩
      · rw [hs2, q5]
        rfl
      rw [q5] at hs2
      have hs3 : rVar tx n P N p = ok (var1 P (2 ^ (hi + 1) - 2 ^ lo), up N (P 0) (eT tx n p)) p5 := hs2
      have k5 : kF [] S S5 := kF_t k4 (kF_tk hf5)
      have R5 : cRE S5 tx n N (P 0) pb p5 := cRE_k R4 (kF_tk (A := []) hf5) (fun a ha => (nomatch ha)) hT5 hp5
      have hI5 : cPI S5 pb rw P := cPI_x (xK_k k5 (fun a ha => (nomatch ha))).1 hI
      obtain ⟨hc5, hx5, _, _, g55, gK55, g15, _, _, gS5, _⟩ := id R5
      have hK5 := hc5.2.2.2.2.2.2.2.2.2.2.2.2.2.1
      have hR1 := hc5.2.2.2.2.2.2.2.2.2.2.2.2.2.2.2.1
      have hK3 := hc5.2.2.2.2.2.2.2.2.2.2.2.2.2.2.2.2.2.2.1
      have hL3 := hc5.2.2.2.2.2.2.2.2.2.2.2.2.2.2.2.2.2.2.2
      refine ⟨hK5, pb, g55, gK55, ?_⟩
      rw [g15, o_lt (by omega) (by decide)]
      refine ⟨fun z => absurd z (by omega), fun _ => ⟨3, hR1, hK3, ?_⟩⟩
      rw [hL3, o_le (by decide) (by omega), o_inT (by omega) (by omega), o_cl (by omega), h9]
      refine ⟨fun z => absurd z (by omega), fun _ => ⟨trivial, ?_⟩⟩
      obtain ⟨i1, i2, i3, i4, i5, i6, i7, i8, i9, i10, i11, i12, i13⟩ := id hI5
      have np3 : pb ≠ 3 := by omega
      have f6 : fr [3] S5 (sI S5 3 (P 0) (nI (cdN tx (sT tx n (eT tx n p)) (eT tx n (eT tx n p) - sT tx n (eT tx n p))))) := fr_sI _ _ _ (by decide)
      have npb : pb ∉ [3] := fun q => np3 (List.mem_singleton.mp q)
      have hw := rg_lt lo (by omega) hi (by omega) hlh
      refine q_addVarP (v := P 0) ((f6.K _).trans gK55) ((f6.I npb _).trans g15) h7 ((f6.J npb _).trans i9) (fun x hx => hv.2.2.1 x hx) (hv.2.2.2.2.1 _ (Nat.le_refl _) h7) hlh (by omega) (fun S7 hf7 j1 j2 j3 => ?_)
      have n1 : ∀ a, a ≠ pb → a ∉ [pb] := fun a ha q => ha (List.mem_singleton.mp q)
      have c1 : ∀ k, pI S7 1 k = pI S5 1 k := fun k => by rw [hf7.I (n1 1 (by omega)), f6.I (by decide)]
      have f67 : oF [1, 3] [] M S5 S7 := oF_t (oF_fr f6 (fun a ha => by rw [List.mem_singleton.mp ha]; exact Or.inl (by decide))) (oF_fr hf7 (fun a ha => by rw [List.mem_singleton.mp ha]; exact Or.inr hM1))
      refine hQ S7 _ p5 hs3 (yK_t (yK_k k5) ⟨f67, fun k _ _ _ _ => c1 k⟩) ?_ ⟨i1, i2, i3, ?_, ?_, ?_, ?_, ?_, ?_, ?_, ?_, ?_, fun c hc => ?_⟩ (vld_1 hv h7 hw.1 hw.2.1) (var1_0 (P := P) (w := 2 ^ (hi + 1) - 2 ^ lo))
      · show cRE S7 tx n (up N (P 0) (eT tx n p)) (var1 P (2 ^ (hi + 1) - 2 ^ lo) 0) pb p5
        rw [var1_0]
        refine ⟨hf7.CS (f6.CS hc5), ⟨by rw [c1]; exact hx5.1, hx5.2.1, fun i hi => by rw [hf7.I (n1 2 (by omega)), f6.I (by decide)]; exact hx5.2.2 i hi⟩, cTk_o c1 hT5, hp5, by rw [hf7.R]; exact g55, (hf7.K _).trans gK55, j1, by omega, fun i hi => ?_, fun i hi => ?_, gpb⟩
        · by_cases q : i = P 0
          · rw [q, up_s]
            exact ⟨kk1, kk2⟩
          · rw [up_n _ _ q]
            exact gN i (by omega)
        · rw [hf7.I (n1 3 (by omega))]
          by_cases q : i = P 0
          · rw [q, up_s, pI_sI, if_pos ⟨rfl, rfl⟩]
          · rw [up_n _ _ q, pI_sI, if_neg (fun w => q w.2)]
            exact gS5 i (by omega)
      · rw [hf7.N]
        exact i4
      · rw [hf7.N]
        exact i5
      · exact (hf7.K _).trans gK55
      · show pI S7 pb 1 = nI (var1 P (2 ^ (hi + 1) - 2 ^ lo) 0)
        rw [var1_0]
        exact j1
      · show pI S7 pb 2 = nI (var1 P (2 ^ (hi + 1) - 2 ^ lo) 1)
        rw [var1_o (by decide) (by omega), j2 2 (by decide), f6.I npb]
        exact i8
      · rw [j3]
        apply pq_cg
        intro x _
        show ud (fun x => P (2 + x)) (P 0) (2 ^ (hi + 1) - 2 ^ lo) x = var1 P (2 ^ (hi + 1) - 2 ^ lo) (2 + x)
        by_cases q : x = P 0
        · rw [q, ud_s, var1_v]
        · rw [ud_n _ _ q, var1_o (by omega) (by omega)]
      · rw [hf7.R]
        exact i10
      · exact (hf7.K _).trans i11
      · exact (hf7.L _).trans i12
      · have : var1 P (2 ^ (hi + 1) - 2 ^ lo) 1 = P 1 := var1_o (by decide) (by omega)
        have h1 := hv.2.1
        have hc' : c < var1 P (2 ^ (hi + 1) - 2 ^ lo) 1 := hc
        omega
  · intro hnm
    refine ⟨hK1, w_cfail hc1 hT1 (fun S' h => ⟨Or.inl rfl, hE S' _ _ ?_ (yE_t (yK_k k1) (yE_e (eF_c h)))⟩)⟩
    unfold rVar
    rw [if_neg (by rw [hnm]; decide)]
theorem q_readVars {S0 : PS} {M : Nat} {tx : Nat → Nat} {n : Nat} {pb rw : Nat} {Q : Int32 → PS → Prop} (hM : 85 ≤ M) (hM1 : M ≤ pb) (R0 : Rd ((Nat → Nat) × (Nat → Nat))) (hE : ∀ S' c e, R0 = er c e → yE M S0 S' c e → Q (nI 0) S')
    (hQ : ∀ S' z p', R0 = ok z p' → yK M S0 S' → cRE S' tx n z.2 (z.1 0) pb p' → cPI S' pb rw z.1 → vld z.1 → Q (nI 1) S') :
    ∀ r S p P N, 8 - P 0 = r → yK M S0 S → cRE S tx n N (P 0) pb p → cPI S pb rw P → vld P → R0 = rVars tx n r P N p → wpX8_readVariables_b2 Q r S 1 (nI (P 0)) := by
  intro r
  induction r with
  | zero =>
    intro S p P N hr _ _ _ hv
    have := hv.1
    omega
  | succ r ih =>
    intro S p P N hr hy hR hI hv hsp
    have h7 := hv.1
    obtain ⟨hc, hx, hT, hp, g5, gK5, g1, gv, gN, gS, gpb⟩ := id hR
    have hK := hc.2.2.2.2.2.2.2.2.2.2.2.2.2.1
    have hnx := ih
    have hsp' : R0 = if isW tx n wVar p = true then (if P 0 = 7 then er 4 (sT tx n p) else Rbd (rVar tx n P N p) (fun z p' => rVars tx n r z.1 z.2 p')) else ok (P, N) p := hsp
    unfold wpX8_readVariables_b2
    rw [c_0, c_1, c_4, c_7, o_lt (by decide) (by omega), o_eq (by omega) (by decide)]
    refine ⟨fun z => absurd z (by omega), fun _ => ⟨hK, q_cisW hc hx hT hp wV_var ?_⟩⟩
    rw [bI_0]
    constructor
    · intro q
      rw [if_neg (by rw [q]; decide)] at hsp'
      exact hQ S (P, N) p hsp' hy hR hI hv
    · intro q
      rw [Bool.not_eq_false] at q
      rw [if_pos q] at hsp'
      refine ⟨fun z => ⟨hK, q_readVar hM hM1 hR hI hv (by omega) (fun S' c e h h2 => ⟨fun w => absurd rfl w, fun _ => hE S' c e ?_ (yE_t hy h2)⟩) (fun S' z p' h h2 hR2 hI2 hv2 h0 => ⟨fun _ => ?_, fun w => absurd w (by rw [o_eq (by decide) (by decide)]; decide)⟩)⟩, fun z => ⟨hK, w_cfail hc hT (fun S' h => ⟨Or.inl rfl, hE S' _ _ ?_ (yE_t hy (yE_e (eF_c h)))⟩)⟩⟩
      · rw [hsp', if_neg z, h]
        rfl
      · rw [o_add, ← h0]
        refine hnx S' p' z.1 z.2 (by omega) (yK_t hy h2) hR2 hI2 hv2 ?_
        rw [hsp', if_neg (by omega), h]
        rfl
      · rw [hsp', if_pos z]

/-! THE CLASS READS: comparisons, counts -/
/-- reading a constraint: below M only the reader's numbers change -/
def xK (M : Nat) (S S' : PS) : Prop := oF [1] [] M S S' ∧ ∀ k, k ≠ 6 → k ≠ 7 → k ≠ 8 → k ≠ 9 → pI S' 1 k = pI S 1 k
def xE (M : Nat) (S S' : PS) (c e : Nat) : Prop := oF [1] [] M S S' ∧ (∀ k, k ≠ 3 → k ≠ 4 → k ≠ 6 → k ≠ 7 → k ≠ 8 → k ≠ 9 → pI S' 1 k = pI S 1 k) ∧ pI S' 1 3 = nI c ∧ pI S' 1 4 = nI e
theorem xK_t {M : Nat} {S S1 S2 : PS} (h : xK M S S1) (h2 : xK M S1 S2) : xK M S S2 := ⟨oF_t h.1 h2.1, fun k a b c d => (h2.2 k a b c d).trans (h.2 k a b c d)⟩
theorem xE_t {M : Nat} {S S1 S2 : PS} {c e : Nat} (h : xK M S S1) (h2 : xE M S1 S2 c e) : xE M S S2 c e := ⟨oF_t h.1 h2.1, fun k a b c d e f => (h2.2.1 k a b c d e f).trans (h.2 k c d e f), h2.2.2⟩
theorem xK_k {M : Nat} {A : List Nat} {S S' : PS} (h : kF A S S') (hA : ∀ a, a ∈ A → M ≤ a) : xK M S S' := ⟨oF_fr h.1 (fun a ha => by
  rcases List.mem_cons.mp ha with q | q
  · exact Or.inl (by rw [q]; decide)
  · exact Or.inr (hA a q)), h.2⟩
theorem xE_e {M : Nat} {A : List Nat} {S S' : PS} {c e : Nat} (h : eF A S S' c e) (hA : ∀ a, a ∈ A → M ≤ a) : xE M S S' c e := ⟨oF_fr h.1 (fun a ha => by
  rcases List.mem_cons.mp ha with q | q
  · exact Or.inl (by rw [q]; decide)
  · exact Or.inr (hA a q)), h.2⟩
/-- reading a constraint made an object -/
def xL (S S' : PS) : Prop := xK (pN S) S S' ∧ pN S < pN S'
theorem xL_t {S S1 S2 : PS} (h : xL S S1) (h2 : xK (pN S) S1 S2) : xL S S2 := ⟨xK_t h.1 h2, Nat.lt_of_lt_of_le h.2 h2.1.1⟩
theorem cRE_x {M : Nat} {S S' : PS} {tx : Nat → Nat} {n : Nat} {N : Nat → Nat} {v pb p p' : Nat} (h : cRE S tx n N v pb p) (hf : xK M S S') (hM : 85 ≤ M) (hpb : pb < M) (hT : cTk S' tx n p') (hp : p' ≤ n) : cRE S' tx n N v pb p' := by
  obtain ⟨a1, a2, a3, a4, a5, a6, a7, a8, a9, a10, a11⟩ := h
  have nI' : ∀ a, a < M → a ≠ 1 → ∀ k, pI S' a k = pI S a k := fun a h1 h2 k => (hf.1.2.2.2 a h1 (fun q => h2 (List.mem_singleton.mp q)) k).1
  refine ⟨oF_CS hf.1 hM (fun a ha => (nomatch ha)) a1, ⟨by rw [hf.2 2 (by decide) (by decide) (by decide) (by decide)]; exact a2.1, a2.2.1, fun i hi => by rw [nI' 2 (by omega) (by decide)]; exact a2.2.2 i hi⟩, hT, hp, by rw [hf.1.2.2.1 1 (by omega) (fun q => (nomatch q))]; exact a5, by rw [(hf.1.2.1 pb hpb).1]; exact a6, by rw [nI' pb hpb (by omega)]; exact a7, a8, a9, fun i hi => by rw [nI' 3 (by omega) (by decide)]; exact a10 i hi, a11⟩
/-- the place of constraint c is still empty, its kind told -/
def blkC (P : Nat → Nat) (c t : Nat) : Prop := P (9 + 20 * c) = t ∧ ∀ j, 0 < j → j < 20 → P (9 + 20 * c + j) = 0
theorem new_x {S : PS} {κ m : Nat} (h : 85 ≤ pN S) : xK (pN S) S (sNew S κ m) := ⟨oF_new (Nat.le_refl _), fun k _ _ _ _ => by rw [pI_sNew, if_neg (by omega)]⟩
theorem init_x {S S' : PS} {M a : Nat} (h : fr [a] S S') (ha : M ≤ a) (hM : 85 ≤ M) : xK M S S' := xK_k (A := [a]) (kF_o h (fun q => by have := List.mem_singleton.mp q; omega)) (fun b hb => by rw [List.mem_singleton.mp hb]; exact ha)
theorem q_init1 {S : PS} {o : Nat} {t : Int32} {Q : PS → Prop} (h4 : pC4 S o) (hQ : ∀ S', fr [o] S S' → pI S' o 0 = t → pI S' o 1 = nI 0 → pJ S' o 2 = 0 → pI S' o 3 = nI 0 → Q S') : wpX1_init S o t Q := by
  unfold wpX1_init
  refine ⟨h4, hQ _ (fr_t (fr_t (fr_t (fr_sI _ _ _ (List.mem_singleton.mpr rfl)) (fr_sJ _ _ _ (List.mem_singleton.mpr rfl))) (fr_sI _ _ _ (List.mem_singleton.mpr rfl))) (fr_sI _ _ _ (List.mem_singleton.mpr rfl))) ?_ ?_ ?_ ?_⟩
  · rw [pI_sI, if_pos ⟨rfl, rfl⟩]
  · rw [pI_sI, if_neg (fun q => absurd q.2 (by decide)), pI_sI, if_neg (fun q => absurd q.2 (by decide)), pI_sJ, pI_sI, if_pos ⟨rfl, rfl⟩]
    rfl
  · rw [pJ_sI, pJ_sI, pJ_sJ, if_pos ⟨rfl, rfl⟩]
  · rw [pI_sI, if_neg (fun q => absurd q.2 (by decide)), pI_sI, if_pos ⟨rfl, rfl⟩]
    rfl
theorem q_readCmp {S : PS} {tx : Nat → Nat} {n : Nat} {N : Nat → Nat} {pb p c t : Nat} {P : Nat → Nat} {x1 : Int32} {Q : Option Nat → PS → Prop} (hR : cRE S tx n N (P 0) pb p) (hN : 85 ≤ pN S) (hpb : pb < pN S) (hb : blkC P c t) (ht : t = 2 ∨ t = 3) (hx1 : x1 = bI (decide (t = 2)))
    (hE : ∀ S' c' e, rCmp tx n N (9 + 20 * c) P p = er c' e → xE (pN S) S S' c' e → Q none S')
    (hQ : ∀ S' P' p', rCmp tx n N (9 + 20 * c) P p = ok P' p' → xL S S' → cRE S' tx n N (P' 0) pb p' → KRep S' (pN S) P' c → Cwf P' c → (∀ k, k < 9 + 20 * c + 1 ∨ 9 + 20 * c + 20 ≤ k → P' k = P k) → Q (some (pN S)) S') : wpX8_readComparison S 1 x1 Q := by
  have hg : Cpg P c := by
    obtain ⟨b0, b1⟩ := hb
    have b2 : P (9 + 20 * c + 1) = 0 := b1 1 (by decide) (by decide)
    refine ⟨by omega, by omega, fun k hk => by omega, fun i j hi => by omega, fun q => by omega, fun q => by omega, fun q => by omega, fun j hj => ?_, fun j hj => by rw [b1 (2 + j) (by omega) (by omega)]; omega⟩
    by_cases q : j = 0
    · rw [q, Nat.add_zero]
      omega
    · rw [b1 j (by omega) hj]
      omega
  have main : ∀ S1, xL S S1 → (∀ k, pI S1 1 k = pI S 1 k) → KRep S1 (pN S) P c → (pK S1 1 = 7 ∧ (wpX8_readMember S1 1 (pN S) (fun r7 S8 => ((r7 = nI 0 → (Q none S8)) ∧ (¬ r7 = nI 0 → (pK S8 1 = 7 ∧ (wpX8_readMember S8 1 (pN S) (fun r10 S11 => ((r10 = nI 0 → (Q none S11)) ∧ (¬ r10 = nI 0 → (Q (some (pN S)) S11))))))))))) := fun S1 hf h1 hk => by
    have hR1 : cRE S1 tx n N (P 0) pb p := cRE_x hR hf.1 hN hpb (cTk_o h1 hR.2.2.1) hR.2.2.2.1
    have hs : ∀ a, a ∈ [pN S] → pN S ≤ a := fun a ha => by rw [List.mem_singleton.mp ha]; exact Nat.le_refl _
    refine ⟨hR1.1.2.2.2.2.2.2.2.2.2.2.2.2.2.1, q_readMem hR1 hN (by omega) hk hg (fun S2 c' e h2 hf2 => ⟨fun _ => hE S2 c' e ?_ (xE_t hf.1 (xE_e hf2 hs)), fun z => absurd rfl z⟩) (fun S2 P2 p2 h2 hf2 hR2 hk2 hg2 hl2 hm2 => ⟨fun z => absurd z (by rw [o_eq (by decide) (by decide)]; decide), fun _ => ⟨hR2.1.2.2.2.2.2.2.2.2.2.2.2.2.2.1, ?_⟩⟩)⟩
    · unfold rCmp
      rw [h2]
      rfl
    · refine q_readMem hR2 hN (by omega) hk2 hg2 (fun S3 c' e h3 hf3 => ⟨fun _ => hE S3 c' e ?_ (xE_t (xK_t hf.1 (xK_k hf2 hs)) (xE_e hf3 hs)), fun z => absurd rfl z⟩) (fun S3 P3 p3 h3 hf3 hR3 hk3 hg3 hl3 hm3 => ⟨fun z => absurd z (by rw [o_eq (by decide) (by decide)]; decide), fun _ => hQ S3 P3 p3 ?_ (xL_t (xL_t hf (xK_k hf2 hs)) (xK_k hf3 hs)) hR3 hk3 (Cpg_wf hg3 (by omega) (fun _ => ?_)) (fun k hk' => ?_)⟩)
      · unfold rCmp
        rw [h2]
        exact h3
      · unfold rCmp
        rw [h2]
        exact h3
      · rw [hm3, hm2, hb.2 1 (by decide) (by decide)]
      · rw [hl3 k (by omega), hl2 k (by omega)]
  have fin : ∀ S2, S2 = sNew S 1 0 → wpX1_init S2 (pN S) (nI t) (fun S5 => (pK S5 1 = 7 ∧ (wpX8_readMember S5 1 (pN S) (fun r7 S8 => ((r7 = nI 0 → (Q none S8)) ∧ (¬ r7 = nI 0 → (pK S8 1 = 7 ∧ (wpX8_readMember S8 1 (pN S) (fun r10 S11 => ((r10 = nI 0 → (Q none S11)) ∧ (¬ r10 = nI 0 → (Q (some (pN S)) S11)))))))))))) := fun S2 e2 => by
    have hK1 : pK S2 (pN S) = 1 := by rw [e2, pK_sNew, if_pos rfl]
    refine q_init1 (Or.inl hK1) (fun S5 hf g0 g1 g2 g3 => main S5 ?_ (fun k => ?_) ?_)
    · rw [e2] at hf
      exact ⟨xK_t (new_x hN) (init_x hf (Nat.le_refl _) hN), by rw [hf.N, pN_sNew]; omega⟩
    · rw [hf.I (fun q => by have := List.mem_singleton.mp q; omega), e2, pI_sNew, if_neg (by omega)]
    · exact KRep_0 (by rw [hb.1]; exact g0) g1 g2 g3 (hb.2 1 (by decide) (by decide)) (fun q => by have := hb.1; omega) (fun q => by have := hb.1; omega) (fun _ => (hf.K _).trans hK1)
  unfold wpX8_readComparison wpX0_init wpX0_init_b10
  rw [c_0, c_2, c_3, hx1, bI_0]
  intro a1 S2 ea e2
  rw [ea]
  rcases ht with e | e
  · rw [decide_eq_true e]
    refine ⟨fun z => absurd z (by decide), fun _ => ?_⟩
    have := fin S2 e2
    rw [e] at this
    exact this
  · rw [decide_eq_false (show ¬ t = 2 by omega)]
    refine ⟨fun _ => ?_, fun z => absurd rfl z⟩
    have := fin S2 e2
    rw [e] at this
    exact this
/-! counts -/
theorem ml_tb {x v i : Nat} (hx : x < 8) : (x * 2 ^ (3 * v)).testBit i = (decide (i / 3 = v) && x.testBit (i % 3)) := by
  rw [Nat.testBit_mul_two_pow]
  by_cases e : i / 3 = v
  · rw [decide_eq_true (show 3 * v ≤ i by omega), decide_eq_true e, show i - 3 * v = i % 3 by omega]
  · rw [decide_eq_false e, Bool.false_and]
    by_cases e2 : 3 * v ≤ i
    · rw [decide_eq_true e2, Bool.true_and]
      have h8 : 2 ^ 3 ≤ 2 ^ (i - 3 * v) := Nat.pow_le_pow_right (by decide) (by omega)
      exact Nat.testBit_lt_two_pow (Nat.lt_of_lt_of_le hx h8)
    · rw [decide_eq_false e2, Bool.false_and]
theorem ds3_set {f : Nat → Nat} (hf : ∀ i, i < 5 → f i < 8) {v x : Nat} (hv : v < 5) (hx : x < 8) (h0 : f v = 0) : ds 3 f 5 ||| (x * 2 ^ (3 * v)) = ds 3 (ud f v x) 5 := by
  have hu : ∀ i, i < 5 → ud f v x i < 2 ^ 3 := fun i hi => by
    by_cases q : i = v
    · rw [q, ud_s]; exact hx
    · rw [ud_n _ _ q]; exact hf i hi
  apply Nat.eq_of_testBit_eq
  intro i
  rw [Nat.testBit_or, ds_tb (by decide) hf, ds_tb (by decide) hu, ml_tb hx]
  by_cases e : i / 3 = v
  · rw [e, h0, ud_s, Nat.zero_testBit, Bool.and_false, Bool.false_or, decide_eq_true rfl, decide_eq_true (show i < 3 * 5 by omega)]
  · rw [ud_n _ _ e, decide_eq_false e, Bool.false_and, Bool.or_false]
theorem ms_tb : ∀ v, v < 5 → ∀ i, i < 15 → (4294967295 - 7 * 2 ^ (3 * v)).testBit i = !decide (i / 3 = v) := by decide +kernel
theorem ms_i : ∀ v, v < 5 → ((nI 7 <<< (nI (3 * v) &&& nI 31)) ^^^ ngI) = nI (4294967295 - 7 * 2 ^ (3 * v)) := by decide +kernel
theorem ds3_put {f : Nat → Nat} (hf : ∀ i, i < 5 → f i < 8) {v x : Nat} (hv : v < 5) (hx : x < 8) (h0 : f v = 7) : ds 3 f 5 &&& ((4294967295 - 7 * 2 ^ (3 * v)) ||| (x * 2 ^ (3 * v))) = ds 3 (ud f v x) 5 := by
  have hu : ∀ i, i < 5 → ud f v x i < 2 ^ 3 := fun i hi => by
    by_cases q : i = v
    · rw [q, ud_s]; exact hx
    · rw [ud_n _ _ q]; exact hf i hi
  apply Nat.eq_of_testBit_eq
  intro i
  rw [Nat.testBit_and, Nat.testBit_or, ds_tb (by decide) hf, ds_tb (by decide) hu, ml_tb hx]
  by_cases hi : i < 15
  · rw [ms_tb v hv i hi, decide_eq_true (show i < 3 * 5 from hi)]
    by_cases e : i / 3 = v
    · rw [e, h0, ud_s, decide_eq_true rfl]
      have h7 : (7 : Nat).testBit (i % 3) = true := by
        have : ∀ j, j < 3 → (7 : Nat).testBit j = true := by decide
        exact this _ (Nat.mod_lt _ (by decide))
      rw [h7]
      rfl
    · rw [ud_n _ _ e, decide_eq_false e]
      simp
  · rw [decide_eq_false (show ¬ i < 3 * 5 from hi)]
    rfl
/-- the row after a count more -/
def cnt1 (P : Nat → Nat) (b v lo hi : Nat) : Nat → Nat := up (up (up P (b + 19) (P (b + 19) ||| 2 ^ v)) (b + (9 + v)) lo) (b + (14 + v)) hi
theorem cnt1_lo {P : Nat → Nat} {b v lo hi k : Nat} (hv : v < 5) (h : k < b + 9 ∨ b + 20 ≤ k) : cnt1 P b v lo hi k = P k := by
  unfold cnt1
  rw [up_n _ _ (by omega), up_n _ _ (by omega), up_n _ _ (by omega)]
theorem cnt1_9 {P : Nat → Nat} {b v lo hi w : Nat} (hv : v < 5) (hw : w < 5) : cnt1 P b v lo hi (b + (9 + w)) = ud (fun u => P (b + (9 + u))) v lo w := by
  unfold cnt1
  by_cases e : w = v
  · rw [e, ud_s, up_n _ _ (by omega), up_s]
  · rw [ud_n _ _ e, up_n _ _ (by omega), up_n _ _ (by omega), up_n _ _ (by omega)]
theorem cnt1_14 {P : Nat → Nat} {b v lo hi w : Nat} (hv : v < 5) (hw : w < 5) : cnt1 P b v lo hi (b + (14 + w)) = ud (fun u => P (b + (14 + u))) v hi w := by
  unfold cnt1
  by_cases e : w = v
  · rw [e, ud_s, up_s]
  · rw [ud_n _ _ e, up_n _ _ (by omega), up_n _ _ (by omega), up_n _ _ (by omega)]
theorem cnt1_19 {P : Nat → Nat} {b v lo hi : Nat} (hv : v < 5) : cnt1 P b v lo hi (b + 19) = P (b + 19) ||| 2 ^ v := by
  unfold cnt1
  rw [up_n _ _ (by omega), up_n _ _ (by omega), up_s]
theorem or_pw : ∀ v, v < 5 → ∀ w, w < 32 → w ||| 2 ^ v < 32 ∧ ∀ u, u < 5 → (w ||| 2 ^ v).testBit u = (w.testBit u || decide (u = v)) := by decide +kernel
theorem or_pc : ∀ v, v < 5 → ∀ w, w < 32 → w.testBit v = false → pcn 5 (w ||| 2 ^ v) = pcn 5 w + 1 := by decide +kernel
theorem Cpg_cnt {P : Nat → Nat} {c v lo hi : Nat} (h : Cpg P c) (h0 : P (9 + 20 * c) = 0) (hv : v < 5) (hlo : lo ≤ hi) (hhi : hi ≤ 7) : Cpg (cnt1 P (9 + 20 * c) v lo hi) c := by
  obtain ⟨a1, a2, a3, a4, a5, a6, a7, a8, a9⟩ := h
  have ek : cnt1 P (9 + 20 * c) v lo hi (9 + 20 * c) = P (9 + 20 * c) := cnt1_lo hv (Or.inl (by omega))
  have e1 : cnt1 P (9 + 20 * c) v lo hi (9 + 20 * c + 1) = P (9 + 20 * c + 1) := cnt1_lo hv (Or.inl (by omega))
  have e0 : cnt1 P (9 + 20 * c) v lo hi 0 = P 0 := cnt1_lo hv (Or.inl (by omega))
  have em : ∀ j, j < 7 → cnt1 P (9 + 20 * c) v lo hi (9 + 20 * c + (2 + j)) = P (9 + 20 * c + (2 + j)) := fun j hj => cnt1_lo hv (Or.inl (by omega))
  obtain ⟨s1, s2⟩ := a7 h0
  have o1 := or_pw v hv _ s1
  refine ⟨by rw [ek]; exact a1, by rw [e1]; exact a2, fun k hk => ?_, fun j k hj hk hjk => ?_, fun q u hu => ?_, fun q => ?_, fun q => ?_, fun j hj => ?_, fun j hj => ?_⟩
  · rw [e1] at hk
    rw [em _ (by omega), e0]
    exact a3 k hk
  · rw [e1] at hj hk
    rw [em _ (by omega), em _ (by omega)] at hjk
    exact a4 j k hj hk hjk
  · rw [cnt1_9 hv hu, cnt1_14 hv hu]
    by_cases e : u = v
    · rw [e, ud_s, ud_s]
      exact ⟨hlo, hhi⟩
    · rw [ud_n _ _ e, ud_n _ _ e]
      exact a5 h0 u hu
  · rw [ek] at q
    omega
  · rw [cnt1_19 hv]
    refine ⟨o1.1, fun u hu w => ?_⟩
    rw [o1.2 u hu, Bool.or_eq_false_iff, decide_eq_false_iff_not] at w
    rw [cnt1_9 hv hu, cnt1_14 hv hu, ud_n _ _ w.2, ud_n _ _ w.2]
    exact s2 u hu w.1
  · by_cases e : j < 9
    · rw [cnt1_lo hv (Or.inl (by omega))]
      exact a8 j hj
    · by_cases e9 : j < 14
      · have h9 := cnt1_9 (P := P) (b := 9 + 20 * c) (lo := lo) (hi := hi) hv (show j - 9 < 5 by omega)
        rw [show 9 + (j - 9) = j by omega] at h9
        rw [h9]
        by_cases q : j - 9 = v
        · rw [q, ud_s]
          omega
        · rw [ud_n _ _ q]
          have := a8 j hj
          show P (9 + 20 * c + (9 + (j - 9))) < 64
          rw [show 9 + (j - 9) = j by omega]
          exact this
      · by_cases e14 : j < 19
        · have h9 := cnt1_14 (P := P) (b := 9 + 20 * c) (lo := lo) (hi := hi) hv (show j - 14 < 5 by omega)
          rw [show 14 + (j - 14) = j by omega] at h9
          rw [h9]
          by_cases q : j - 14 = v
          · rw [q, ud_s]
            omega
          · rw [ud_n _ _ q]
            have := a8 j hj
            show P (9 + 20 * c + (14 + (j - 14))) < 64
            rw [show 14 + (j - 14) = j by omega]
            exact this
        · rw [show j = 19 by omega, cnt1_19 hv]
          omega
  · rw [em j hj]
    exact a9 j hj
theorem q_addCount {S : PS} {o : Nat} {P : Nat → Nat} {c v lo hi : Nat} {Q : PS → Prop} (hk : KRep S o P c) (hg : Cpg P c) (h0 : P (9 + 20 * c) = 0) (hv : v < 5) (hlo : lo ≤ hi) (hhi : hi ≤ 7) (hb : (P (9 + 20 * c + 19)).testBit v = false) (hQ : ∀ S', fr [o] S S' → KRep S' o (cnt1 P (9 + 20 * c) v lo hi) c → Q S') : wpX2_addCount S o (nI v) (nI lo) (nI hi) Q := by
  obtain ⟨r0, r1, r2, r3, r4, r5, r6⟩ := hk
  obtain ⟨s1, s2, s3, s4⟩ := r4 h0
  obtain ⟨t1, t2⟩ := hg.2.2.2.2.2.2.1 h0
  have hb5 := hg.2.2.2.2.1 h0
  obtain ⟨z1, z2⟩ := t2 v hv hb
  have ek : cnt1 P (9 + 20 * c) v lo hi (9 + 20 * c) = P (9 + 20 * c) := cnt1_lo hv (Or.inl (by omega))
  have e1 : cnt1 P (9 + 20 * c) v lo hi (9 + 20 * c + 1) = P (9 + 20 * c + 1) := cnt1_lo hv (Or.inl (by omega))
  have em : ∀ j, j < 7 → cnt1 P (9 + 20 * c) v lo hi (9 + 20 * c + (2 + j)) = P (9 + 20 * c + (2 + j)) := fun j hj => cnt1_lo hv (Or.inl (by omega))
  have hm7 := hg.2.1
  have h3 : 3 * v < 32 := by omega
  have hp : ∀ x, x ≤ 7 → x * 2 ^ (3 * v) < 2 ^ 32 := fun x hx => by
    have q1 : 2 ^ (3 * v) ≤ 2 ^ 12 := Nat.pow_le_pow_right (by decide) (by omega)
    have q2 : x * 2 ^ (3 * v) ≤ 7 * 2 ^ 12 := Nat.mul_le_mul hx q1
    omega
  unfold wpX2_addCount
  rw [ng_d, c_1, c_3, c_7, c_31, o_mul, s4, one_shl hv, o_or]
  have g4 : ∀ A : Int32, pI (sI S o 6 A) o 4 = nI (ds 3 (fun v => P (9 + 20 * c + (9 + v))) 5) := fun A => by rw [pI_sI, if_neg (fun q => absurd q.2 (by decide))]; exact s2
  have g5 : ∀ A B : Int32, pI (sI (sI S o 6 A) o 4 B) o 5 = nI (ds 3 (fun v => P (9 + 20 * c + (14 + v))) 5) := fun A B => by rw [pI_sI, if_neg (fun q => absurd q.2 (by decide)), pI_sI, if_neg (fun q => absurd q.2 (by decide))]; exact s3
  rw [g4, g5, ms_i v hv, o_and31 h3, o_shl h3 (hp lo (by omega)), o_shl h3 (hp hi hhi), o_or, o_or, o_and, ds3_set (fun i hi => by have := hb5 i hi; omega) hv (by omega) z1, ds3_put (fun i hi => by have := hb5 i hi; omega) hv (by omega) z2]
  refine ⟨s1, hQ _ (fr_t (fr_t (fr_sI _ _ _ (List.mem_singleton.mpr rfl)) (fr_sI _ _ _ (List.mem_singleton.mpr rfl))) (fr_sI _ _ _ (List.mem_singleton.mpr rfl))) ?_⟩
  have io : ∀ (A B C : Int32) (j : Nat), j ≠ 4 → j ≠ 5 → j ≠ 6 → pI (sI (sI (sI S o 6 A) o 4 B) o 5 C) o j = pI S o j := fun A B C j q1 q2 q3 => by
    rw [pI_sI, if_neg (fun q => q2 q.2), pI_sI, if_neg (fun q => q1 q.2), pI_sI, if_neg (fun q => q3 q.2)]
  have hin : ∀ x, inM (cK (cnt1 P (9 + 20 * c) v lo hi) c) x = inM (cK P c) x := fun x => by
    rw [← hasM_in, ← hasM_in, Bool.eq_iff_iff, hasM_t, hasM_t, e1]
    constructor
    · rintro ⟨j, q1, q2⟩
      exact ⟨j, q1, by rw [← em j (by omega)]; exact q2⟩
    · rintro ⟨j, q1, q2⟩
      exact ⟨j, q1, by rw [em j (by omega)]; exact q2⟩
  refine ⟨?_, ?_, ?_, ?_, fun q => ⟨s1, ?_, ?_, ?_⟩, fun q => by rw [ek] at q; omega, fun q => by rw [ek] at q; omega⟩
  · rw [io _ _ _ _ (by decide) (by decide) (by decide), ek]
    exact r0
  · rw [io _ _ _ _ (by decide) (by decide) (by decide), e1]
    exact r1
  · rw [pJ_sI, pJ_sI, pJ_sI, r2]
    exact pq_cg (fun x _ => by unfold scp; rw [hin])
  · rw [io _ _ _ _ (by decide) (by decide) (by decide), r3]
    show nI (ds 3 (cK P c).2.1 (P (9 + 20 * c + 1))) = nI (ds 3 (cK (cnt1 P (9 + 20 * c) v lo hi) c).2.1 (cnt1 P (9 + 20 * c) v lo hi (9 + 20 * c + 1)))
    have ed : ds 3 (cK P c).2.1 (P (9 + 20 * c + 1)) = ds 3 (cK (cnt1 P (9 + 20 * c) v lo hi) c).2.1 (P (9 + 20 * c + 1)) := ds_cong (fun j hj => (em j (by omega)).symm)
    rw [e1, ed]
  · rw [pI_sI, if_neg (fun q => absurd q.2 (by decide)), pI_sI, if_pos ⟨rfl, rfl⟩, ds_cong (fun w hw => (cnt1_9 (P := P) (b := 9 + 20 * c) (lo := lo) (hi := hi) hv hw).symm : ∀ w, w < 5 → ud (fun u => P (9 + 20 * c + (9 + u))) v lo w = (fun w => cnt1 P (9 + 20 * c) v lo hi (9 + 20 * c + (9 + w))) w)]
  · rw [pI_sI, if_pos ⟨rfl, rfl⟩, ds_cong (fun w hw => (cnt1_14 (P := P) (b := 9 + 20 * c) (lo := lo) (hi := hi) hv hw).symm : ∀ w, w < 5 → ud (fun u => P (9 + 20 * c + (14 + u))) v hi w = (fun w => cnt1 P (9 + 20 * c) v lo hi (9 + 20 * c + (14 + w))) w)]
  · rw [pI_sI, if_neg (fun q => absurd q.2 (by decide)), pI_sI, if_neg (fun q => absurd q.2 (by decide)), pI_sI, if_pos ⟨rfl, rfl⟩, cnt1_19 hv]

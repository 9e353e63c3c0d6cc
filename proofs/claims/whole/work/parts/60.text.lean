/-! THE TEXT: append, truncate, errors -/
def byV (w : Int32) (s : Nat) : Nat := (w.toBitVec.toNat / 2 ^ s) % 256
theorem byV_lt (w : Int32) (s : Nat) : byV w s < 256 := Nat.mod_lt _ (by decide)
theorem by_and (x : Int32) : x &&& nI 255 = nI (x.toBitVec.toNat % 256) := by
  apply Int32.toBitVec_inj.mp
  apply BitVec.eq_of_toNat_eq
  rw [Int32.toBitVec_and, BitVec.toNat_and]
  have e1 : (nI 255).toBitVec.toNat = 2 ^ 8 - 1 := by decide
  have e2 : (nI (x.toBitVec.toNat % 256)).toBitVec.toNat = x.toBitVec.toNat % 256 := by
    show (BitVec.ofNat 32 (x.toBitVec.toNat % 256)).toNat = _
    rw [BitVec.toNat_ofNat]
    omega
  rw [e1, Nat.and_two_pow_sub_one_eq_mod, e2]
theorem by_ref (w : Int32) {s : Nat} (hs : s ≤ 24) : (w >>> nI s) &&& nI 255 = nI (byV w s) := by
  rw [by_and]
  congr 1
  unfold byV
  rw [Int32.toBitVec_shiftRight, BitVec.sshiftRight_eq', sm32 s (by omega)]
  rw [show (256 : Nat) = 2 ^ 8 from rfl]
  apply Nat.eq_of_testBit_eq
  intro i
  rw [Nat.testBit_mod_two_pow, Nat.testBit_mod_two_pow, Nat.testBit_div_two_pow]
  by_cases hi : i < 8
  · rw [decide_eq_true hi, Bool.true_and, Bool.true_and]
    show (BitVec.sshiftRight w.toBitVec s).getLsbD i = w.toBitVec.getLsbD (i + s)
    rw [BitVec.getLsbD_sshiftRight, decide_eq_false (by omega), if_pos (by omega), Nat.add_comm]
    rfl
  · rw [decide_eq_false hi]
    rfl
theorem g8 (x : Int32) : x.toInt8.toInt32.toBitVec.toNat % 256 = x.toBitVec.toNat % 256 := by
  rw [Int8.toBitVec_toInt32, Int32.toBitVec_toInt8, BitVec.toNat_signExtend, BitVec.toNat_setWidth, BitVec.toNat_signExtend, BitVec.toNat_setWidth]
  split <;> split <;> omega
theorem by_cls (w : Int32) {s : Nat} (hs : s ≤ 24) : (((w.toUInt32 >>> ((nI s).toUInt32 &&& Int32.toUInt32 31)).toInt32).toInt8.toInt32).toInt8.toInt32 &&& nI 255 = nI (byV w s) := by
  rw [by_and, g8, g8]
  congr 1
  unfold byV
  rw [UInt32.toBitVec_toInt32, UInt32.toBitVec_shiftRight, BitVec.ushiftRight_eq', um32 s (by omega), BitVec.toNat_ushiftRight, Int32.toBitVec_toUInt32, Nat.shiftRight_eq_div_pow]
theorem dv4 : ∀ i, i < 20 → nI i / nI 4 = nI (i / 4) := by decide +kernel
theorem vn_by (x : Int32) : vp_nar .byte x = x.toInt8.toInt32 := rfl
/-- the text, and the latest error: the class -/
def cTX (S : PS) (tx : Nat → Nat) (n : Nat) (ec ep : Int32) : Prop := pI S 1 2 = nI n ∧ n ≤ 600 ∧ (∀ i, i < n → pI S 2 i &&& nI 255 = nI (tx i) ∧ tx i < 256) ∧ pI S 1 3 = ec ∧ pI S 1 4 = ep
/-- the reference -/
def mTX (S : PS) (tx : Nat → Nat) (n : Nat) (ec ep : Int32) : Prop := pI S 87 13 = nI n ∧ (∀ i, i < n → pI S 94 i = nI (tx i)) ∧ pI S 87 19 = ec ∧ pI S 87 20 = ep
theorem cTX_fr {A : List Nat} {S S' : PS} {tx : Nat → Nat} {n : Nat} {ec ep : Int32} (h : fr A S S') (h1 : 1 ∉ A) (h2 : 2 ∉ A) (hX : cTX S tx n ec ep) : cTX S' tx n ec ep := by
  obtain ⟨a1, a2, a3, a4, a5⟩ := hX
  exact ⟨by rw [h.I h1]; exact a1, a2, fun i hi => by rw [h.I h2]; exact a3 i hi, by rw [h.I h1]; exact a4, by rw [h.I h1]; exact a5⟩
theorem mTX_mf {A F : List Nat} {S S' : PS} {tx : Nat → Nat} {n : Nat} {ec ep : Int32} (h : mf A F S S') (h1 : 94 ∉ 87 :: A) (h2 : 13 ∉ F ∧ 19 ∉ F ∧ 20 ∉ F) (hX : mTX S tx n ec ep) : mTX S' tx n ec ep := by
  obtain ⟨a1, a2, a3, a4⟩ := hX
  exact ⟨by rw [h.F h2.1]; exact a1, fun i hi => by rw [h.1.I h1]; exact a2 i hi, by rw [h.F h2.2.1]; exact a3, by rw [h.F h2.2.2]; exact a4⟩
def shI : Nat → Int32
  | 0 => nI 24
  | 1 => nI 16
  | 2 => nI 8
  | 3 => nI 0
  | _ => -8
theorem shI_s : ∀ j, j < 4 → shI j + (-8 : Int32) = shI (j + 1) := by decide +kernel
theorem shI_n : ∀ j, j < 4 → shI j = nI (24 - 8 * j) := by decide +kernel
theorem q_addFour {S : PS} {n : Nat} {w : Int32} {Q : PS → Prop} (hc : CSh S) (hn : pI S 1 2 = nI n) (hle : n + 4 ≤ 600)
    (hQ : ∀ S', fr [1, 2] S S' → (∀ k, k ≠ 2 → pI S' 1 k = pI S 1 k) → pI S' 1 2 = nI (n + 4) → (∀ i, (i < n ∨ n + 4 ≤ i) → pI S' 2 i = pI S 2 i) → (∀ j, j < 4 → pI S' 2 (n + j) &&& nI 255 = nI (byV w (24 - 8 * j))) → Q S') : wpX8_addFour S 1 w Q := by
  have loop : ∀ r j S', j + r = 4 → fr [1, 2] S S' → (∀ k, k ≠ 2 → pI S' 1 k = pI S 1 k) → pI S' 1 2 = nI (n + j) → (∀ i, (i < n ∨ n + j ≤ i) → pI S' 2 i = pI S 2 i) → (∀ i, i < j → pI S' 2 (n + i) &&& nI 255 = nI (byV w (24 - 8 * i))) → wpX8_addFour_b3 Q (r + 1) S' 1 w (shI j) := by
    intro r
    induction r with
    | zero =>
      intro j S' hj hf h1 h2 h3 h4
      have e : j = 4 := by omega
      subst e
      unfold wpX8_addFour_b3
      exact ⟨fun _ => hQ S' hf h1 h2 h3 h4, fun z => absurd (show shI 4 < (0 : Int32) by decide) z⟩
    | succ r ih =>
      intro j S' hj hf h1 h2 h3 h4
      have hj4 : j < 4 := by omega
      have hc' := hf.CS hc
      have hK1 := hc'.2.2.2.2.2.2.2.2.2.2.2.2.2.1
      have hR1 := hc'.2.2.2.2.2.2.2.2.2.2.2.2.2.2.1
      have hK2 := hc'.2.2.2.2.2.2.2.2.2.2.2.2.2.2.2.2.1
      have hL2 := hc'.2.2.2.2.2.2.2.2.2.2.2.2.2.2.2.2.2.1
      have hnx := ih (j + 1)
      have hlt0 : ¬ shI j < nI 0 := by
        rw [shI_n j hj4, o_lt (by omega) (by omega)]
        omega
      have hsh := shI_s j hj4
      generalize r + 1 = fu at hnx ⊢
      unfold wpX8_addFour_b3
      rw [hsh, c_0, c_1, h2, o_cl (by omega), vn_by]
      refine ⟨fun z => absurd z hlt0, fun _ => ⟨hK1, fun z => ?_, fun _ => ⟨2, hR1, hK2, fun z => ?_, fun _ => ⟨?_, ?_⟩⟩⟩⟩
      · rw [o_lt (by omega) (by omega)] at z
        omega
      · rw [hL2, o_le (by omega) (by omega)] at z
        omega
      · rw [hL2, o_inT (by omega) (by omega)]
        trivial
      · have e12 : pI (sI S' 2 (n + j) (((w.toUInt32 >>> ((shI j).toUInt32 &&& Int32.toUInt32 31)).toInt32).toInt8.toInt32.toInt8.toInt32)) 1 2 = nI (n + j) := by
          rw [pI_sI, if_neg (fun q => absurd q.1 (by decide))]
          exact h2
        rw [e12, o_add]
        refine hnx _ (by omega) (fr_t hf (fr_t (fr_sI _ _ _ (by decide)) (fr_sI _ _ _ (by decide)))) (fun k hk => ?_) (by rw [pI_sI, if_pos ⟨rfl, rfl⟩]; rfl) (fun i hi => ?_) (fun i hi => ?_)
        · rw [pI_sI, if_neg (fun q => hk q.2), pI_sI, if_neg (fun q => absurd q.1 (by decide))]
          exact h1 k hk
        · rw [pI_sI, if_neg (fun q => absurd q.1 (by decide)), pI_sI, if_neg (fun q => by omega)]
          exact h3 i (by omega)
        · rw [pI_sI, if_neg (fun q => absurd q.1 (by decide)), pI_sI]
          by_cases e : i = j
          · rw [if_pos ⟨rfl, by rw [e]⟩, e, shI_n j hj4]
            exact by_cls w (by omega)
          · rw [if_neg (fun q => e (by omega))]
            exact h4 i (by omega)
  unfold wpX8_addFour
  exact ⟨_, loop 4 0 S rfl (fr_r _ _) (fun _ _ => rfl) hn (fun _ _ => rfl) (fun i hi => absurd hi (Nat.not_lt_zero _))⟩
/-- the text with 20 bytes more -/
def apT (tx : Nat → Nat) (n : Nat) (w : Nat → Int32) (i : Nat) : Nat := if i < n then tx i else byV (w ((i - n) / 4)) (24 - 8 * ((i - n) % 4))
def w5 (a b c d e : Int32) : Nat → Int32
  | 0 => a
  | 1 => b
  | 2 => c
  | 3 => d
  | _ => e
theorem c_append {S : PS} {tx : Nat → Nat} {n : Nat} {ec ep a b c d e : Int32} {Q : Int32 → PS → Prop} {X : String → PS → Prop} (hc : CSh S) (hX : cTX S tx n ec ep)
    (hQ : ∀ S', fr [1, 2] S S' → n + 20 ≤ 600 → cTX S' (apT tx n (w5 a b c d e)) (n + 20) ec ep → Q (nI (n + 20)) S')
    (hXX : 600 < n + 20 → ∀ n, X "java/lang/IllegalStateException" (sSkip S n)) : wpX11_append S 0 a b c d e Q X := by
  obtain ⟨h1, h2, h3, h4, h5⟩ := hX
  have hc0 := hc.2.1
  have hK1 := hc.2.2.2.2.2.2.2.2.2.2.2.2.2.1
  unfold wpX11_append
  rw [show (20 : Int32) = nI 20 from rfl, c_600]
  refine ⟨hc.1, 1, hc0, hK1, ?_⟩
  rw [h1, o_add, o_le (by omega) (by decide)]
  refine ⟨fun z => ?_, fun z => hXX (by omega)⟩
  have five : ∀ (S1 : PS) (m : Nat) (w : Int32) (Q2 : PS → Prop), fr [1, 2] S S1 → (∀ k, k ≠ 2 → pI S1 1 k = pI S 1 k) → pI S1 1 2 = nI m → m + 4 ≤ 600 → (∀ S', fr [1, 2] S S' → (∀ k, k ≠ 2 → pI S' 1 k = pI S 1 k) → pI S' 1 2 = nI (m + 4) → (∀ i, (i < m ∨ m + 4 ≤ i) → pI S' 2 i = pI S1 2 i) → (∀ j, j < 4 → pI S' 2 (m + j) &&& nI 255 = nI (byV w (24 - 8 * j))) → Q2 S') → wpX8_addFour S1 1 w Q2 := fun S1 m w Q2 hf hk hm hm2 hq => q_addFour (hf.CS hc) hm hm2 (fun S' hf2 k1 k2 k3 k4 => hq S' (fr_t hf hf2) (fun k hk3 => (k1 k hk3).trans (hk k hk3)) k2 k3 k4)
  refine five S n a _ (fr_r _ _) (fun _ _ => rfl) h1 (by omega) (fun S1 f1 g1 l1 o1 b1 => ⟨(f1.CS hc).1, 1, (f1.CS hc).2.1, (f1.CS hc).2.2.2.2.2.2.2.2.2.2.2.2.2.1, ?_⟩)
  refine five S1 (n + 4) b _ f1 g1 l1 (by omega) (fun S2 f2 g2 l2 o2 b2 => ⟨(f2.CS hc).1, 1, (f2.CS hc).2.1, (f2.CS hc).2.2.2.2.2.2.2.2.2.2.2.2.2.1, ?_⟩)
  refine five S2 (n + 4 + 4) c _ f2 g2 l2 (by omega) (fun S3 f3 g3 l3 o3 b3 => ⟨(f3.CS hc).1, 1, (f3.CS hc).2.1, (f3.CS hc).2.2.2.2.2.2.2.2.2.2.2.2.2.1, ?_⟩)
  refine five S3 (n + 4 + 4 + 4) d _ f3 g3 l3 (by omega) (fun S4 f4 g4 l4 o4 b4 => ⟨(f4.CS hc).1, 1, (f4.CS hc).2.1, (f4.CS hc).2.2.2.2.2.2.2.2.2.2.2.2.2.1, ?_⟩)
  refine five S4 (n + 4 + 4 + 4 + 4) e _ f4 g4 l4 (by omega) (fun S5 f5 g5 l5 o5 b5 => ⟨(f5.CS hc).1, 1, (f5.CS hc).2.1, (f5.CS hc).2.2.2.2.2.2.2.2.2.2.2.2.2.1, ?_⟩)
  have l5' : pI S5 1 2 = nI (n + 20) := l5
  rw [l5']
  refine hQ S5 f5 (by omega) ⟨l5', by omega, fun i hi => ?_, by rw [g5 3 (by decide)]; exact h4, by rw [g5 4 (by decide)]; exact h5⟩
  unfold apT
  by_cases q0 : i < n
  · rw [if_pos q0, o5 i (by omega), o4 i (by omega), o3 i (by omega), o2 i (by omega), o1 i (by omega)]
    exact h3 i q0
  · rw [if_neg q0]
    refine ⟨?_, byV_lt _ _⟩
    by_cases q1 : i < n + 4
    · rw [o5 i (by omega), o4 i (by omega), o3 i (by omega), o2 i (by omega), show (i - n) / 4 = 0 by omega, show (i - n) % 4 = i - n by omega]
      have := b1 (i - n) (by omega)
      rw [show n + (i - n) = i by omega] at this
      exact this
    · by_cases q2 : i < n + 8
      · rw [o5 i (by omega), o4 i (by omega), o3 i (by omega), show (i - n) / 4 = 1 by omega, show (i - n) % 4 = i - (n + 4) by omega]
        have := b2 (i - (n + 4)) (by omega)
        rw [show n + 4 + (i - (n + 4)) = i by omega] at this
        exact this
      · by_cases q3 : i < n + 12
        · rw [o5 i (by omega), o4 i (by omega), show (i - n) / 4 = 2 by omega, show (i - n) % 4 = i - (n + 4 + 4) by omega]
          have := b3 (i - (n + 4 + 4)) (by omega)
          rw [show n + 4 + 4 + (i - (n + 4 + 4)) = i by omega] at this
          exact this
        · by_cases q4 : i < n + 16
          · rw [o5 i (by omega), show (i - n) / 4 = 3 by omega, show (i - n) % 4 = i - (n + 4 + 4 + 4) by omega]
            have := b4 (i - (n + 4 + 4 + 4)) (by omega)
            rw [show n + 4 + 4 + 4 + (i - (n + 4 + 4 + 4)) = i by omega] at this
            exact this
          · rw [show (i - n) / 4 = 4 by omega, show (i - n) % 4 = i - (n + 4 + 4 + 4 + 4) by omega]
            have := b5 (i - (n + 4 + 4 + 4 + 4)) (by omega)
            rw [show n + 4 + 4 + 4 + 4 + (i - (n + 4 + 4 + 4 + 4)) = i by omega] at this
            exact this
theorem m_append {S : PS} {tx : Nat → Nat} {n : Nat} {ec ep a b c d e : Int32} {Q : Int32 → PS → Prop} (hM : MShape S) (hn : n ≤ 600) (hX : mTX S tx n ec ep)
    (hQ : ∀ S', mf [94] [0, 13] S S' → pI S' 87 0 = nI 0 → n + 20 ≤ 600 → mTX S' (apT tx n (w5 a b c d e)) (n + 20) ec ep → Q (nI (n + 20)) S')
    (hXX : ∀ S', mf [] [0] S S' → pI S' 87 0 = nI 1 → 600 < n + 20 → Q (nI 0) S') : wpX12_append S 87 a b c d e Q := by
  obtain ⟨h1, h2, h3, h4⟩ := hX
  have hf : mf [] [0] S (sI S 87 0 (nI 0)) := mf_sI _ _ (by decide)
  have h0 : pI (sI S 87 0 (nI 0)) 87 0 = nI 0 := by rw [pI_sI, if_pos ⟨rfl, rfl⟩]
  have hM1 := hf.M hM
  have h11 : pI (sI S 87 0 (nI 0)) 87 13 = nI n := by rw [hf.F (by decide)]; exact h1
  unfold wpX12_append wpX12_append_b24
  rw [c_0, c_1, show (20 : Int32) = nI 20 from rfl, c_600, h11, o_add, o_lt (by decide) (by omega), w_may0 hM1 (by decide) (by decide) h0, w_may1 hM1 h0]
  refine ⟨msk hM, fun z => ⟨msk hM1, fun z2 => absurd rfl z2, fun _ => hXX _ (mf_t hf (mf_sI _ _ (by decide))) (by rw [pI_sI, if_pos ⟨rfl, rfl⟩]) z⟩, fun z => ⟨msk hM1, fun _ => ?_, fun z2 => absurd z2 (by decide)⟩⟩
  have loop : ∀ r k S', k + r = 20 → mf [94] [] (sI S 87 0 (nI 0)) S' → (∀ i, i < n + k → pI S' 94 i = nI (apT tx n (w5 a b c d e) i)) → wpX12_append_b36 Q (r + 1) S' 87 a b c d e (nI k) := by
    intro r
    induction r with
    | zero =>
      intro k S' hk hf2 hr
      have e1 : k = 20 := by omega
      subst e1
      have hM' := hf2.M hM1
      have f3 : mf [94] [13] (sI S 87 0 (nI 0)) (sI S' 87 13 (nI (n + 20))) := mf_t (mf_w hf2 (by decide) (by decide)) (mf_sI _ _ (by decide))
      have g13 : pI S' 87 13 = nI n := by rw [hf2.F (by decide)]; exact h11
      unfold wpX12_append_b36
      rw [show (20 : Int32) = nI 20 from rfl, g13, o_add, show pI (sI S' 87 13 (nI (n + 20))) 87 13 = nI (n + 20) by rw [pI_sI, if_pos ⟨rfl, rfl⟩]]
      refine ⟨fun _ => ⟨msk hM', hQ _ (mf_t (mf_w hf (by decide) (by decide)) (mf_w f3 (by decide) (by decide))) (by rw [f3.F (by decide)]; exact h0) (by omega) ⟨by rw [pI_sI, if_pos ⟨rfl, rfl⟩], fun i hi => ?_, by rw [f3.F (by decide), hf.F (by decide)]; exact h3, by rw [f3.F (by decide), hf.F (by decide)]; exact h4⟩⟩, fun z => absurd (Eq.mpr (o_le (by decide) (by decide)) (Nat.le_refl 20)) z⟩
      rw [pI_sI, if_neg (fun q => absurd q.1 (by decide))]
      exact hr i hi
    | succ r ih =>
      intro k S' hk hf2 hr
      have hk20 : k < 20 := by omega
      have hM' := hf2.M hM1
      have g13 : pI S' 87 13 = nI n := by rw [hf2.F (by decide)]; exact h11
      have hnx := ih (k + 1)
      generalize r + 1 = fu at hnx ⊢
      have put : ∀ t0 : Int32, t0 = w5 a b c d e (k / 4) → wpX12_append_b89 (wpX12_append_b36 Q fu) Q S' 87 a b c d e (nI k) t0 := fun t0 ht => by
        unfold wpX12_append_b89
        rw [c_1, c_4, c_8, c_24, c_31, c_255, g13, dv4 k hk20, o_mul, o_sub (by omega), o_mul, o_sub (by omega), o_and31 (by omega), o_add, o_add, o_cl (by omega), by_ref t0 (by omega)]
        refine ⟨msk hM', 94, msr_text hM', msk_text hM', ?_, ?_⟩
        · rw [msl_text hM', o_inT (by omega) (by omega)]
          trivial
        · refine hnx _ (by omega) (mf_t hf2 (mf_row _ _ _ (by decide) (by decide))) (fun i hi => ?_)
          rw [pI_sI]
          by_cases e1 : i = n + k
          · rw [if_pos ⟨rfl, e1⟩, e1]
            unfold apT
            rw [if_neg (by omega), show n + k - n = k by omega, ht, show k - k / 4 * 4 = k % 4 by omega]
          · rw [if_neg (fun q => e1 q.2)]
            exact hr i (by omega)
      unfold wpX12_append_b36
      rw [show (20 : Int32) = nI 20 from rfl, c_4, c_8, c_12, c_16, o_le (by omega) (by omega), o_le (by omega) (by omega), o_le (by omega) (by omega), o_le (by omega) (by omega), o_le (by omega) (by omega)]
      refine ⟨fun z => by omega, fun _ => ⟨fun z4 => ⟨fun z8 => ⟨fun z12 => ⟨fun z16 => put _ ?_, fun z16 => put _ ?_⟩, fun z12 => put _ ?_⟩, fun z8 => put _ ?_⟩, fun z4 => put _ ?_⟩⟩
      · rw [show k / 4 = 4 by omega]
        rfl
      · rw [show k / 4 = 3 by omega]
        rfl
      · rw [show k / 4 = 2 by omega]
        rfl
      · rw [show k / 4 = 1 by omega]
        rfl
      · rw [show k / 4 = 0 by omega]
        rfl
  have h9 := loop 20 0 (sI S 87 0 (nI 0)) rfl ⟨fr_r _ _, fun _ _ => ⟨rfl, rfl⟩⟩ (fun i hi => by
    rw [hf.1.I (by decide)]
    unfold apT
    rw [if_pos (by omega)]
    exact h2 i (by omega))
  exact ⟨_, h9⟩
theorem c_truncate {S : PS} {tx : Nat → Nat} {n : Nat} {ec ep x : Int32} {Q : Int32 → PS → Prop} {X : String → PS → Prop} (hc : CSh S) (hX : cTX S tx n ec ep)
    (hQ : ∀ S' k, fr [1] S S' → k ≤ n → x = nI k → cTX S' tx k ec ep → Q (nI k) S')
    (hXX : (x < nI 0 ∨ nI (n + 1) ≤ x) → ∀ n, X "java/lang/IndexOutOfBoundsException" (sSkip S n)) : wpX11_truncate S 0 x Q X := by
  obtain ⟨h1, h2, h3, h4, h5⟩ := hX
  have hc0 := hc.2.1
  have hK1 := hc.2.2.2.2.2.2.2.2.2.2.2.2.2.1
  unfold wpX11_truncate wpX11_truncate_b15
  rw [c_0]
  refine ⟨fun z => hXX (Or.inl z), fun z0 => ⟨hc.1, 1, hc0, hK1, ?_⟩⟩
  rw [h1]
  have hbig : ¬ x ≤ nI n → nI (n + 1) ≤ x := fun z => by
    rw [Int32.le_iff_toInt_le, nI_toInt (by omega)] at z ⊢
    omega
  have ok : x ≤ nI n → ∃ k, k ≤ n ∧ x = nI k := fun z => by
    rcases i_split x (N := n + 1) (by omega) with ⟨k, hk, e⟩ | hx
    · exact ⟨k, by omega, e⟩
    · have h6 := hx.resolve_left z0
      rw [Int32.le_iff_toInt_le, nI_toInt (by omega)] at z h6
      omega
  refine ⟨fun z => ?_, fun z => hXX (Or.inr (hbig z))⟩
  obtain ⟨k, hk, e⟩ := ok z
  subst e
  refine hQ _ k (fr_sI _ _ _ (by decide)) hk rfl ⟨by rw [pI_sI, if_pos ⟨rfl, rfl⟩], by omega, fun i hi => ?_, by rw [pI_sI, if_neg (fun q => absurd q.2 (by decide))]; exact h4, by rw [pI_sI, if_neg (fun q => absurd q.2 (by decide))]; exact h5⟩
  rw [pI_sI, if_neg (fun q => absurd q.1 (by decide))]
  exact h3 i (by omega)
theorem m_truncate {S : PS} {tx : Nat → Nat} {n : Nat} {ec ep x : Int32} {Q : Int32 → PS → Prop} (hM : MShape S) (hn : n ≤ 600) (hX : mTX S tx n ec ep)
    (hQ : ∀ S' k, mf [] [0, 13] S S' → pI S' 87 0 = nI 0 → k ≤ n → x = nI k → mTX S' tx k ec ep → Q (nI k) S')
    (hXX : ∀ S', mf [] [0] S S' → pI S' 87 0 = nI 1 → (x < nI 0 ∨ nI (n + 1) ≤ x) → Q (nI 0) S') : wpX12_truncate S 87 x Q := by
  obtain ⟨h1, h2, h3, h4⟩ := hX
  have hf : mf [] [0] S (sI S 87 0 (nI 0)) := mf_sI _ _ (by decide)
  have h0 : pI (sI S 87 0 (nI 0)) 87 0 = nI 0 := by rw [pI_sI, if_pos ⟨rfl, rfl⟩]
  have hM1 := hf.M hM
  have h11 : pI (sI S 87 0 (nI 0)) 87 13 = nI n := by rw [hf.F (by decide)]; exact h1
  unfold wpX12_truncate
  rw [c_0, c_1, h11]
  refine ⟨msk hM, ?_⟩
  rcases i_split x (N := n + 1) (by omega) with ⟨k, hk, rfl⟩ | hx
  · rw [w_inN hk (by omega)]
    refine ⟨msk hM1, ?_⟩
    rw [w_may1 hM1 h0]
    refine ⟨fun _ => ⟨msk hM1, ?_⟩, fun z => absurd z (by decide)⟩
    have f2 : mf [] [0, 13] S (sI (sI S 87 0 (nI 0)) 87 13 (nI k)) := mf_t (mf_sI _ _ (by decide)) (mf_sI _ _ (by decide))
    refine hQ _ k f2 (by rw [pI_sI, if_neg (fun q => absurd q.2 (by decide))]; exact h0) (by omega) rfl ⟨by rw [pI_sI, if_pos ⟨rfl, rfl⟩], fun i hi => ?_, by rw [f2.F (by decide)]; exact h3, by rw [f2.F (by decide)]; exact h4⟩
    rw [f2.1.I (by decide)]
    exact h2 i (by omega)
  · rw [w_inN0 (by omega) hx]
    refine ⟨msk hM1, ?_⟩
    rw [w_may0 hM1 (by decide) (by decide) h0]
    exact ⟨fun z => absurd rfl z, fun _ => hXX _ (mf_t hf (mf_sI _ _ (by decide))) (by rw [pI_sI, if_pos ⟨rfl, rfl⟩]) hx⟩
theorem c_errorCode {S : PS} {tx : Nat → Nat} {n : Nat} {ec ep : Int32} {Q : Int32 → PS → Prop} (hc : CSh S) (hX : cTX S tx n ec ep) (hQ : Q ec S) : wpX11_errorCode S 0 Q := by
  unfold wpX11_errorCode
  refine ⟨hc.1, 1, hc.2.1, hc.2.2.2.2.2.2.2.2.2.2.2.2.2.1, ?_⟩
  rw [hX.2.2.2.1]
  exact hQ
theorem c_errorPosition {S : PS} {tx : Nat → Nat} {n : Nat} {ec ep : Int32} {Q : Int32 → PS → Prop} (hc : CSh S) (hX : cTX S tx n ec ep) (hQ : Q ep S) : wpX11_errorPosition S 0 Q := by
  unfold wpX11_errorPosition
  refine ⟨hc.1, 1, hc.2.1, hc.2.2.2.2.2.2.2.2.2.2.2.2.2.1, ?_⟩
  rw [hX.2.2.2.2]
  exact hQ
theorem m_errorCode {S : PS} {tx : Nat → Nat} {n : Nat} {ec ep : Int32} {Q : Int32 → PS → Prop} (hM : MShape S) (hX : mTX S tx n ec ep) (hQ : ∀ S', mf [] [0] S S' → pI S' 87 0 = nI 0 → Q ec S') : wpX12_errorCode S 87 Q := by
  have hf : mf [] [0] S (sI S 87 0 (nI 0)) := mf_sI _ _ (by decide)
  unfold wpX12_errorCode
  rw [c_0, hf.F (by decide), hX.2.2.1]
  exact ⟨msk hM, hQ _ hf (by rw [pI_sI, if_pos ⟨rfl, rfl⟩])⟩
theorem m_errorPosition {S : PS} {tx : Nat → Nat} {n : Nat} {ec ep : Int32} {Q : Int32 → PS → Prop} (hM : MShape S) (hX : mTX S tx n ec ep) (hQ : ∀ S', mf [] [0] S S' → pI S' 87 0 = nI 0 → Q ep S') : wpX12_errorPosition S 87 Q := by
  have hf : mf [] [0] S (sI S 87 0 (nI 0)) := mf_sI _ _ (by decide)
  unfold wpX12_errorPosition
  rw [c_0, hf.F (by decide), hX.2.2.2]
  exact ⟨msk hM, hQ _ hf (by rw [pI_sI, if_pos ⟨rfl, rfl⟩])⟩

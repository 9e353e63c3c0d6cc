/-! TIGHTNESS -/
theorem fp_qm : FP.Core.b64.qmin = -1074 := by decide
theorem fp_qM : FP.Core.b64.qmax = 971 := by decide
theorem fp_tl : FP.Core.b64.tails = 4503599627370496 := by decide
theorem fp_ex : FP.Core.b64.exps = 2048 := by decide
theorem fp_ef (c : Nat) (q : Int) : FP.Core.encode FP.Core.b64 (.fin false c q) = if c < 4503599627370496 then c else ((q - -1074).toNat + 1) * 4503599627370496 + (c - 4503599627370496) := by
  show (if c < FP.Core.b64.tails then FP.Core.assemble FP.Core.b64 false 0 c else FP.Core.assemble FP.Core.b64 false ((q - FP.Core.b64.qmin).toNat + 1) (c - FP.Core.b64.tails)) = _
  unfold FP.Core.assemble
  rw [fp_tl, fp_ex, fp_qm, show Bool.toNat false = 0 from rfl]
  simp only [Nat.zero_mul, Nat.zero_add]
theorem fp_fi {k n : Nat} (hk : k ≤ 30) (h1 : 2 ^ k ≤ n) (h2 : n < 2 ^ (k + 1)) : FP.Core.round FP.Core.b64 (FP.Core.ofInt (n : Int)) = .fin false (n * 2 ^ (52 - k)) ((k : Int) - 52) := by
  have h0 : n ≠ 0 := by have := Nat.two_pow_pos k; omega
  have hl : n.log2 = k := (Nat.log2_eq_iff h0).mpr ⟨h1, h2⟩
  have hlead : FP.Core.leading n 1 = (k : Int) := by
    unfold FP.Core.leading
    rw [hl, show Nat.log2 1 = 0 from by decide]
    simp [h1]
  have hq : FP.Core.quantum FP.Core.b64 n 1 0 = (k : Int) - 52 := by
    unfold FP.Core.quantum
    rw [hlead, fp_qm, show FP.Core.b64.p = 53 from rfl]
    omega
  have hun : FP.Core.unitsNum n 0 ((k : Int) - 52) = n * 2 ^ (52 - k) := by
    unfold FP.Core.unitsNum
    rw [show ((0 : Int) - ((k : Int) - 52)).toNat = 52 - k by omega]
  have hud : FP.Core.unitsDen 1 0 ((k : Int) - 52) = 1 := by
    unfold FP.Core.unitsDen
    rw [show ((k : Int) - 52 - 0).toNat = 0 by omega]
  have hlt : n * 2 ^ (52 - k) < 2 ^ 53 := by
    have : n * 2 ^ (52 - k) < 2 ^ (k + 1) * 2 ^ (52 - k) := Nat.mul_lt_mul_of_pos_right h2 (Nat.two_pow_pos _)
    rw [← Nat.pow_add, show k + 1 + (52 - k) = 53 by omega] at this
    exact this
  show FP.Core.roundRatio FP.Core.b64 (decide ((n : Int) < 0)) (Int.natAbs n) 1 0 = _
  rw [show decide ((n : Int) < 0) = false by simp, Int.natAbs_natCast]
  unfold FP.Core.roundRatio
  rw [if_neg h0, hq]
  unfold FP.Core.roundAt FP.Core.settle FP.Core.bound
  rw [hun, hud]
  have hn : FP.Core.nearest (n * 2 ^ (52 - k)) 1 = n * 2 ^ (52 - k) := by
    unfold FP.Core.nearest
    rw [Nat.mod_one, Nat.div_one]
    simp
  rw [hn, show FP.Core.b64.p = 53 from rfl, if_pos hlt, fp_qM, if_pos (by omega)]
theorem fp_di {k n : Nat} (hk : k ≤ 30) (h1 : 2 ^ k ≤ n) (h2 : n < 2 ^ (k + 1)) : FP.Core.decode FP.Core.b64 (FP.Core.fromInt FP.Core.b64 (n : Int) % 18446744073709551616) = .fin false (n * 2 ^ (52 - k)) ((k : Int) - 52) := by
  have hge : 2 ^ 52 ≤ n * 2 ^ (52 - k) := by
    have : 2 ^ k * 2 ^ (52 - k) ≤ n * 2 ^ (52 - k) := Nat.mul_le_mul_right _ h1
    rw [← Nat.pow_add, show k + (52 - k) = 52 by omega] at this
    exact this
  have hlt : n * 2 ^ (52 - k) < 2 ^ 53 := by
    have : n * 2 ^ (52 - k) < 2 ^ (k + 1) * 2 ^ (52 - k) := Nat.mul_lt_mul_of_pos_right h2 (Nat.two_pow_pos _)
    rw [← Nat.pow_add, show k + 1 + (52 - k) = 53 by omega] at this
    exact this
  generalize hc : n * 2 ^ (52 - k) = c at hge hlt
  have he : FP.Core.encode FP.Core.b64 (.fin false c ((k : Int) - 52)) = (k + 1023) * 4503599627370496 + (c - 4503599627370496) := by
    rw [fp_ef, if_neg (by omega), show ((k : Int) - 52 - -1074).toNat = k + 1022 by omega]
  have hf : FP.Core.fromInt FP.Core.b64 (n : Int) = (k + 1023) * 4503599627370496 + (c - 4503599627370496) := by
    unfold FP.Core.fromInt
    rw [fp_fi hk h1 h2, hc, he]
  rw [hf, Nat.mod_eq_of_lt (by omega)]
  generalize hm : (k + 1023) * 4503599627370496 + (c - 4503599627370496) = m
  have hT : FP.Core.fieldT FP.Core.b64 m = c - 4503599627370496 := by
    unfold FP.Core.fieldT
    rw [fp_tl]
    omega
  have hE : FP.Core.fieldE FP.Core.b64 m = k + 1023 := by
    unfold FP.Core.fieldE
    rw [fp_tl, fp_ex]
    omega
  have hS : FP.Core.fieldS FP.Core.b64 m = false := by
    unfold FP.Core.fieldS
    rw [fp_tl, fp_ex, show m / 4503599627370496 / 2048 = 0 by omega]
    rfl
  have e1 : ¬ FP.Core.fieldE FP.Core.b64 m = FP.Core.b64.exps - 1 := by
    rw [hE, fp_ex]
    omega
  have e2 : ¬ FP.Core.fieldE FP.Core.b64 m = 0 := by
    rw [hE]
    omega
  have e3 : FP.Core.b64.tails + FP.Core.fieldT FP.Core.b64 m = c := by
    have h2 := fp_tl
    omega
  have e4 : FP.Core.b64.qmin + ((FP.Core.fieldE FP.Core.b64 m : Int) - 1) = (k : Int) - 52 := by
    rw [hE, fp_qm]
    omega
  unfold FP.Core.decode
  refine (if_neg e1).trans ((if_neg e2).trans ?_)
  rw [hS, e3, e4]
theorem fp_d0 : FP.Core.decode FP.Core.b64 (FP.Core.fromInt FP.Core.b64 ((0 : Nat) : Int) % 18446744073709551616) = .fin false 0 (-1074) := by decide +kernel
/-- whole numbers are finite, and zero alone is zero -/
theorem fp_dn {n : Nat} (h : n < 2147483648) : ∃ c q, FP.Core.decode FP.Core.b64 (FP.Core.fromInt FP.Core.b64 (n : Int) % 18446744073709551616) = .fin false c q ∧ (c = 0 → n = 0) := by
  by_cases h0 : n = 0
  · subst h0
    exact ⟨0, -1074, fp_d0, fun _ => rfl⟩
  · have h1 := Nat.log2_self_le h0
    have h2 := Nat.lt_log2_self (n := n)
    have hk : n.log2 ≤ 30 := by
      have := (Nat.log2_lt h0 (k := 31)).mpr (by omega)
      omega
    refine ⟨_, _, fp_di hk h1 h2, fun z => ?_⟩
    have := Nat.two_pow_pos (52 - n.log2)
    rcases Nat.mul_eq_zero.mp z with q | q
    · exact q
    · omega
/-- what rounding answers is encoded below the NaNs -/
theorem fp_eb {d : FP.Core.Datum} (h : (∃ c q, d = .fin false c q ∧ c < 2 ^ 53 ∧ -1074 ≤ q ∧ q ≤ 971) ∨ d = .inf false) : FP.Core.encode FP.Core.b64 d ≤ 9218868437227405312 := by
  rcases h with ⟨c, q, rfl, h1, h2, h3⟩ | rfl
  · rw [fp_ef]
    split
    · omega
    · have : (q - -1074).toNat ≤ 2045 := by omega
      omega
  · decide
theorem fp_qt {a b : Nat} {q r : Int} (hb : b ≠ 0) : FP.Core.encode FP.Core.b64 (FP.Core.quotient FP.Core.b64 (.fin false a q) (.fin false b r)) ≤ 9218868437227405312 := by
  apply fp_eb
  unfold FP.Core.quotient
  simp only
  rw [if_neg hb]
  unfold FP.Core.roundRatio
  split
  · left
    exact ⟨0, -1074, by rw [fp_qm]; rfl, by decide, by decide, by decide⟩
  · unfold FP.Core.roundAt
    have hq : -1074 ≤ FP.Core.quantum FP.Core.b64 a b (q - r) := by
      unfold FP.Core.quantum
      rw [fp_qm]
      omega
    generalize FP.Core.quantum FP.Core.b64 a b (q - r) = u at hq
    unfold FP.Core.settle FP.Core.bound
    rw [fp_qM, fp_tl, show FP.Core.b64.p = 53 from rfl]
    split
    · rename_i h1
      split
      · rename_i h2
        left
        exact ⟨_, _, rfl, h1, hq, h2⟩
      · right
        rfl
    · split
      · rename_i h2
        left
        exact ⟨_, _, rfl, by decide, by omega, h2⟩
      · right
        rfl
theorem vf_le {m : Nat} (h : m ≤ 9218868437227405312) : vf_n64 (UInt64.ofNat m) := by
  unfold vf_n64
  rw [UInt64.le_iff_toNat_le, UInt64.toNat_and, UInt64.toNat_ofNat']
  have h1 : (0x7fffffffffffffff : UInt64).toNat = 2 ^ 63 - 1 := by decide
  have h2 : (0x7ff0000000000000 : UInt64).toNat = 9218868437227405312 := by decide
  rw [h1, h2, Nat.and_two_pow_sub_one_eq_mod]
  omega
theorem vf_q {a b : Nat} (ha : a < 2147483648) (hb : b < 2147483648) (hb0 : b ≠ 0) : vf_n64 (FP.ddiv (FP.i2d (nI a)) (FP.i2d (nI b))) := by
  show vf_n64 (UInt64.ofNat (FP.Core.encode FP.Core.b64 (FP.Core.quotient FP.Core.b64 (FP.Core.decode FP.Core.b64 (UInt64.ofNat (FP.Core.fromInt FP.Core.b64 (nI a).toInt)).toNat) (FP.Core.decode FP.Core.b64 (UInt64.ofNat (FP.Core.fromInt FP.Core.b64 (nI b).toInt)).toNat))))
  rw [nI_toInt ha, nI_toInt hb, UInt64.toNat_ofNat', UInt64.toNat_ofNat']
  obtain ⟨c, q, e1, _⟩ := fp_dn ha
  obtain ⟨d, r, e2, h2⟩ := fp_dn hb
  have e1' : FP.Core.decode FP.Core.b64 (FP.Core.fromInt FP.Core.b64 (a : Int) % 2 ^ 64) = .fin false c q := e1
  have e2' : FP.Core.decode FP.Core.b64 (FP.Core.fromInt FP.Core.b64 (b : Int) % 2 ^ 64) = .fin false d r := e2
  rw [e1', e2']
  exact vf_le (fp_qt (fun z => hb0 (h2 z)))
theorem cF_leP {κ : Kon} (hκ : Kwf κ) {d : Nat → Nat} (hd : Dwf d) : ∀ (r p : Nat) (a : Nat → Nat), p + r = κ.1 → cF κ d r p a ≤ pF κ.2.1 d r p := by
  intro r
  induction r with
  | zero =>
    intro p a _
    unfold cF pF
    split <;> omega
  | succ r ih =>
    intro p a hp
    rw [cF_s]
    show _ ≤ pcn 5 (d (κ.2.1 p)) * pF κ.2.1 d r (p + 1)
    rw [← pcn_sN _ (hd _ (hκ.2.1 p (by omega)))]
    have key : ∀ n, n ≤ 5 → sN (fun u => if (d (κ.2.1 p)).testBit u = true then cF κ d r (p + 1) (ud a (κ.2.1 p) u) else 0) n ≤ sN (fun u => if (d (κ.2.1 p)).testBit u = true then pF κ.2.1 d r (p + 1) else 0) n := by
      intro n
      induction n with
      | zero => exact fun _ => Nat.le_refl _
      | succ n ihn =>
        intro hn
        rw [sN_s, sN_s]
        have h1 := ihn (by omega)
        have h2 := ih (p + 1) (ud a (κ.2.1 p) n) (by omega)
        by_cases e : (d (κ.2.1 p)).testBit n = true
        · rw [if_pos e, if_pos e]
          omega
        · rw [if_neg e, if_neg e]
          omega
    exact key 5 (Nat.le_refl _)
theorem pN7_le {f : Nat → Nat} (h : ∀ i, f i ≤ 5) : ∀ n, pN7 f n ≤ 5 ^ n := by
  intro n
  induction n with
  | zero => exact Nat.le_refl _
  | succ n ih =>
    show pN7 f n * f n ≤ 5 ^ n * 5
    exact Nat.mul_le_mul ih (h n)
theorem asgN_lt {κ : Kon} (hκ : Kwf κ) (d : Nat → Nat) : asgN d (scp κ) ≤ 78125 := by
  rw [asgN_scp hκ]
  exact Nat.le_trans (pN7_le (fun i => pcn_le 5 _) _) (Nat.pow_le_pow_right (by decide) hκ.1)
theorem nF_asg {κ : Kon} (hκ : Kwf κ) {d : Nat → Nat} (hd : Dwf d) : nF κ d ≤ asgN d (scp κ) := by
  have h1 := cF_leP hκ hd κ.1 0 (fun _ => 0) (Nat.zero_add _)
  have h2 := pF_pN κ.2.1 d κ.1 0
  rw [Nat.zero_add] at h2
  rw [asgN_scp hκ, h2]
  show cF κ d κ.1 0 (fun _ => 0) ≤ 1 * pF κ.2.1 d κ.1 0
  omega
/-- what tightness answers -/
noncomputable def tgV (κ : Kon) (d : Nat → Nat) : UInt64 := FP.ddiv (FP.i2d (nI (asgN d (scp κ) - nF κ d))) (FP.i2d (nI (asgN d (scp κ))))
theorem c_tightness {S : PS} {P : Nat → Nat} {pb l : Nat} {σ : St} {c : Int32} {Q : UInt64 → PS → Prop} {X : String → PS → Prop} (hc : CSh S) (hpb : pR S 0 6 = some pb) (hp : PRep S pb P) (hw : Pwf P) (hT : cT S 6 (P 0) l σ)
    (hQ : ∀ k, k < P 1 → c = nI k → asgN σ.1 (scp (cK P k)) ≠ 0 → Q (tgV (cK P k) σ.1) S)
    (hX : (c < nI 0 ∨ nI (P 1) ≤ c) → ∀ n, X "java/lang/IndexOutOfBoundsException" (sSkip S n))
    (hX2 : ∀ k, k < P 1 → c = nI k → asgN σ.1 (scp (cK P k)) = 0 → ∀ n, X "java/lang/IllegalStateException" (sSkip S n)) : wpX11_tightness S 0 c Q X := by
  obtain ⟨t1, t2, t3, t4, t5, t6, _⟩ := hT
  have hP0 := hw.1
  have hP1 := hw.2.1
  have hT6 := hc.2.2.2.2.2.2.2.2.2.2.2.1
  unfold wpX11_tightness
  rw [c_0]
  refine ⟨hc.1, pb, hpb, hp.2.2.1, ?_⟩
  rcases i_split c (N := P 1) (by omega) with ⟨k, hk, rfl⟩ | hcn
  · refine q_constraintAt hp hw hk (fun o ho hK => ⟨fun z => (nomatch z), fun o7 e7 => ?_⟩)
    cases e7
    have hC := CC_of hK (hw.2.2.2.2.2 k hk) hw.1
    have hκ := cK_wf (hw.2.2.2.2.2 k hk) hw.1
    have hn7 := hκ.1
    have hlt := asgN_lt hκ σ.1
    have hle := nF_asg hκ t5
    refine ⟨hc.1, 6, hc.2.2.1, hT6.1, hC.1, ?_⟩
    rw [t4, hC.2.2.1]
    refine q_assignments t5 (scp_wf _) ?_
    rw [o_eq (by omega) (by decide)]
    refine ⟨fun z => ⟨hc.1, 6, hc.2.2.1, hT6.1, ?_⟩, fun z => hX2 k hk rfl z⟩
    rw [t4]
    refine q_count hC hκ 9 (cK P k).1 0 σ.1 (fun _ => 0) _ (Nat.zero_add _) (by omega) t5 (fun j hj => absurd hj (Nat.not_lt_zero _)) (fun _ _ => by decide) ?_
    show vf_n64 (FP.ddiv (FP.i2d (nI (asgN σ.1 (scp (cK P k))) - nI (nF (cK P k) σ.1))) (FP.i2d (nI (asgN σ.1 (scp (cK P k)))))) ∧ Q (FP.ddiv (FP.i2d (nI (asgN σ.1 (scp (cK P k))) - nI (nF (cK P k) σ.1))) (FP.i2d (nI (asgN σ.1 (scp (cK P k)))))) S
    rw [o_sub hle]
    exact ⟨vf_q (by omega) (by omega) z, hQ k hk rfl z⟩
  · exact q_constraintAt0 hp hcn ⟨fun _ => hX hcn, fun o7 z => (nomatch z)⟩
theorem m_tightness {S : PS} {P d : Nat → Nat} {c : Int32} {Q : UInt64 → PS → Prop} (hM : MShape S) (hp : rP S P) (hw : Pwf P) (hd : rD S 90 d)
    (hQ : ∀ S' k, mf [101] [0] S S' → pI S' 87 0 = nI 0 → k < P 1 → c = nI k → asgN d (scp (cK P k)) ≠ 0 → Q (tgV (cK P k) d) S')
    (hX : ∀ S', mf [101] [0] S S' → pI S' 87 0 = nI 1 → (c < nI 0 ∨ nI (P 1) ≤ c) → Q FP.dconst0 S')
    (hX2 : ∀ S' k, mf [101] [0] S S' → pI S' 87 0 = nI 2 → k < P 1 → c = nI k → asgN d (scp (cK P k)) = 0 → Q FP.dconst0 S') : wpX12_tightness S 87 c Q := by
  have hP0 := hw.1
  have hP1 := hw.2.1
  have hf : mf [101] [0] S (sI S 87 0 (nI 0)) := mf_sI _ _ (by decide)
  have h0 : pI (sI S 87 0 (nI 0)) 87 0 = nI 0 := by rw [pI_sI, if_pos ⟨rfl, rfl⟩]
  have hM1 := hf.M hM
  have hp1 := hf.P (by decide) hp
  have hd1 := hf.D (by decide) hd
  unfold wpX12_tightness
  simp only [c_0, c_1]
  refine ⟨msk hM, q_mcon hM1 hp1 hw (fun k hk ec => ⟨msk hM1, ?_⟩) (fun hno => ⟨msk hM1, ?_⟩)⟩
  · subst ec
    rw [w_may1 hM1 h0]
    refine ⟨fun _ => ?_, fun z => absurd z (by decide)⟩
    have hκ := cK_wf (hw.2.2.2.2.2 k hk) hw.1
    have hn7 := hκ.1
    have hlt := asgN_lt hκ d
    have hle := nF_asg hκ hd1.2.2.2
    have e1 : P (9 + 20 * k + 1) = (cK P k).1 := rfl
    have loop : ∀ r j, j + r = (cK P k).1 → wpX12_tightness_b24 Q (r + 1) (sI S 87 0 (nI 0)) 87 (nI k) (nI (pN7 (fun j => pcn 5 (d ((cK P k).2.1 j))) j)) (nI j) := by
      intro r
      induction r with
      | zero =>
        intro j hj
        have e : j = (cK P k).1 := by omega
        subst e
        unfold wpX12_tightness_b24 wpX12_tightness_b69
        simp only [c_0, c_1, c_2]
        refine ⟨msk hM1, ?_⟩
        rw [w_of hM1 hp1 (by omega), e1, ← asgN_scp hκ]
        refine ⟨fun _ => ?_, fun z => absurd (Eq.mpr (o_le (by omega) (by omega)) (Nat.le_refl _)) z⟩
        rw [o_le (by omega) (by decide), w_may0 hM1 (by decide) (by decide) h0, w_may1 hM1 h0]
        refine ⟨fun z => ⟨msk hM1, fun _ => hX2 _ k (mf_t hf (mf_sI _ _ (by decide))) (by rw [pI_sI, if_pos ⟨rfl, rfl⟩]) hk rfl (by omega), fun z2 => absurd rfl z2⟩, fun z => ⟨msk hM1, fun z2 => absurd z2 (by decide), fun _ => ⟨msk hM1, ?_⟩⟩⟩
        refine q_tuplesOf hM1 hp1 hw hk hd1 (fun S' hf2 => ?_)
        rw [o_sub hle]
        exact ⟨vf_q (by omega) (by omega) (by omega), hQ S' k (mf_frs hf hf2 (by decide)) (by rw [hf2.I (by decide)]; exact h0) hk rfl (by omega)⟩
      | succ r ih =>
        intro j hj
        have hjn : j < (cK P k).1 := by omega
        have hx := hκ.2.1 j hjn
        have hn := ih (j + 1) (by omega)
        generalize r + 1 = fu at hn ⊢
        have hstep : pN7 (fun j => pcn 5 (d ((cK P k).2.1 j))) (j + 1) = pN7 (fun j => pcn 5 (d ((cK P k).2.1 j))) j * pcn 5 (d ((cK P k).2.1 j)) := rfl
        rw [hstep] at hn
        have e2 : P (9 + 20 * k + (2 + j)) = (cK P k).2.1 j := rfl
        unfold wpX12_tightness_b24
        simp only [c_0, c_1, c_2, o_add]
        refine ⟨msk hM1, ?_⟩
        rw [w_of hM1 hp1 (by omega), e1]
        refine ⟨fun z => ?_, fun _ => ⟨msk hM1, 90, msr_domain hM1, ?_⟩⟩
        · rw [o_le (by omega) (by omega)] at z
          omega
        · rw [w_of hM1 hp1 (by omega), e2]
          refine ⟨msk_domain hM1, ?_, ?_⟩
          · rw [msl_domain hM1, o_inT (by omega) (by omega)]
            trivial
          · rw [o_cl (by omega), hd1.2.2.1 _ hx]
            refine q_sizeOf (k := 5) (by decide) (hd1.2.2.2 _ hx) ?_
            rw [o_mul]
            exact hn
    exact ⟨_, loop (cK P k).1 0 (Nat.zero_add _)⟩
  · rw [w_may0 hM1 (by decide) (by decide) h0]
    have h1 := hX (sI (sI S 87 0 (nI 0)) 87 0 (nI 1)) (mf_t hf (mf_sI _ _ (by decide))) (by rw [pI_sI, if_pos ⟨rfl, rfl⟩]) hno
    exact ⟨fun z => absurd rfl z, fun _ => h1⟩

/-! SUPPORT: the reference -/
def sups (κ : Kon) (d : Nat → Nat) (x v : Nat) : Prop := (d x).testBit v = true ∧ Can κ (ud d x (2 ^ v))
theorem dv5 : ∀ i, i < 36 → nI i / nI 5 = nI (i / 5) := by decide +kernel
/-- a member's least value taken: what is least then is least before -/
theorem Lea_st {κ : Kon} {e : Nat → Nat} (hκ : Kwf κ) (he : Dwf e) {k w : Nat} (hk : k < κ.1) (hw : w < 5) (hb : (e (κ.2.1 k)).testBit w = true) (hfix : ∀ j, j < k → ∃ u, u < 5 ∧ e (κ.2.1 j) = 2 ^ u) (hmin : ∀ u, u < w → (e (κ.2.1 k)).testBit u = true → ¬ Can κ (ud e (κ.2.1 k) (2 ^ u))) {a : Nat → Nat} (h : Lea κ (ud e (κ.2.1 k) (2 ^ w)) a) : Lea κ e a := by
  have haw := ((ud_asg hκ hk hw he).mp h.1.1).1
  have haE := asg_of_ud hκ hk hw he hb h.1.1
  refine ⟨⟨haE, h.1.2⟩, fun b hbF => ?_⟩
  have hbk := hbF.1 k hk
  have hcb : Can κ (ud e (κ.2.1 k) (2 ^ b (κ.2.1 k))) := ⟨b, asg_ud hκ hk he hbF.1, hbF.2⟩
  have hge : w ≤ b (κ.2.1 k) := by
    apply Classical.byContradiction
    intro q
    exact hmin _ (by omega) hbk.2 hcb
  by_cases e1 : b (κ.2.1 k) = w
  · have h2 := asg_ud hκ hk he hbF.1
    rw [e1] at h2
    exact h.2 b ⟨h2, hbF.2⟩
  · right
    refine ⟨k, hk, by omega, fun j hj => ?_⟩
    obtain ⟨u, hu, e2⟩ := hfix j hj
    have h3 := haE j (by omega)
    have h4 := hbF.1 j (by omega)
    rw [e2] at h3 h4
    rw [dm_pow_tb u hu _ h3.1] at h3
    rw [dm_pow_tb u hu _ h4.1] at h4
    have h5 : a (κ.2.1 j) = u := by simpa using h3.2
    have h6 : b (κ.2.1 j) = u := by simpa using h4.2
    rw [h5, h6]
theorem Lea_fix {κ : Kon} {e a : Nat → Nat} (ha : ∀ k, k < κ.1 → a (κ.2.1 k) < 5) (hfix : ∀ k, k < κ.1 → e (κ.2.1 k) = 2 ^ a (κ.2.1 k)) (hcan : Can κ e) (hκ : Kwf κ) : Lea κ e a := by
  have hag : ∀ b, Asg κ e b → agr κ a b := fun b hb k hk => by
    have h1 := hb k hk
    rw [hfix k hk, dm_pow_tb _ (ha k hk) _ h1.1] at h1
    have : b (κ.2.1 k) = a (κ.2.1 k) := by simpa using h1.2
    exact this.symm
  obtain ⟨b, hb, hok⟩ := hcan
  refine ⟨⟨fun k hk => ⟨ha k hk, ?_⟩, ?_⟩, fun c hc => Or.inl (hag c hc.1)⟩
  · rw [hfix k hk, dm_pow_tb _ (ha k hk) _ (ha k hk)]
    simp
  · rw [hκ.2.2.2 a b (hag b hb)]; exact hok
theorem q_isAmong {S : PS} {P : Nat → Nat} {c : Nat} {x : Int32} {Q : Int32 → PS → Prop} (hM : MShape S) (hp : rP S P) (hw : Pwf P) (hc : c < P 1) (hQ1 : ∀ y, y < 7 → x = nI y → inM (cK P c) y = true → Q (nI 1) S) (hQ0 : (∀ y, y < 7 → x = nI y → inM (cK P c) y = false) → Q (nI 0) S) : wpX12_isAmong S 87 (nI c) x Q := by
  have hκ := cK_wf (hw.2.2.2.2.2 c hc) hw.1
  have hc8 : c < 8 := Nat.lt_of_lt_of_le hc hw.2.1
  have hn7 := hκ.1
  have main : ∀ r k, k + r = (cK P c).1 → (∀ j, j < k → x ≠ nI ((cK P c).2.1 j)) → wpX12_isAmong_b21 Q (r + 1) S 87 (nI c) x (nI k) := by
    intro r
    induction r with
    | zero =>
      intro k hk hno
      have hle : (cK P c).1 ≤ k := by omega
      have h1 := hQ0 (fun y hy e => by
        cases h : inM (cK P c) y
        · rfl
        · obtain ⟨j, hj, e2⟩ := inM_t.mp h
          exact absurd (by rw [e, e2]) (hno j (by omega)))
      have h2 : ∀ Q2 : Int32 → PS → Prop, Q2 (nI (cK P c).1) S → wpX12_of S 87 (nI c) (nI 1) Q2 := fun Q2 hq => by rw [w_of hM hp (by omega)]; exact hq
      unfold wpX12_isAmong_b21
      refine ⟨msk hM, ?_⟩
      apply h2
      refine ⟨fun _ => h1, fun q => ?_⟩
      rw [o_le (by omega) (by omega)] at q
      exact absurd hle q
    | succ r ih =>
      intro k hk hno
      have hle : ¬ (cK P c).1 ≤ k := by omega
      have hx := hκ.2.1 k (by omega)
      have h2 : ∀ Q2 : Int32 → PS → Prop, Q2 (nI (cK P c).1) S → wpX12_of S 87 (nI c) (nI 1) Q2 := fun Q2 hq => by rw [w_of hM hp (by omega)]; exact hq
      have h3 : ∀ Q2 : Int32 → PS → Prop, Q2 (nI ((cK P c).2.1 k)) S → wpX12_of S 87 (nI c) (nI (2 + k)) Q2 := fun Q2 hq => by rw [w_of hM hp (by omega)]; exact hq
      have hn := ih (k + 1) (by omega)
      generalize r + 1 = fu at hn ⊢
      unfold wpX12_isAmong_b21
      refine ⟨msk hM, ?_⟩
      apply h2
      refine ⟨fun q => ?_, fun _ => ⟨msk hM, ?_⟩⟩
      · rw [o_le (by omega) (by omega)] at q
        exact absurd q hle
      · rw [show (2 : Int32) = nI 2 from rfl, o_add]
        apply h3
        refine ⟨fun q => ?_, fun q => hQ1 _ hx q.symm (inM_t.mpr ⟨k, by omega, rfl⟩)⟩
        rw [show (1 : Int32) = nI 1 from rfl, o_add]
        refine hn (fun j hj => ?_)
        by_cases e : j = k
        · subst e; exact fun z => q z.symm
        · exact hno j (by omega)
  have h1 := main (cK P c).1 0 (Nat.zero_add _) (fun j hj => by omega)
  unfold wpX12_isAmong
  refine ⟨fun _ => ⟨_, h1⟩, fun q => ?_⟩
  rw [show (0 : Int32) = nI 0 from rfl, o_le (by decide) (by omega)] at q
  exact absurd (Nat.zero_le _) q
theorem q_mcon {S : PS} {P : Nat → Nat} {c : Int32} {Q : Int32 → PS → Prop} (hM : MShape S) (hp : rP S P) (hw : Pwf P) (hQ1 : ∀ k, k < P 1 → c = nI k → Q (nI 1) S) (hQ0 : (c < nI 0 ∨ nI (P 1) ≤ c) → Q (nI 0) S) : wpX12_isConstraint S 87 c Q := by
  have hP1 := hw.2.1
  have h01 : vp_in (nI 1) 169 = True := o_inT (by decide) (by decide)
  rcases i_split c (N := P 1) (by omega) with ⟨k, hk, rfl⟩ | hx
  · have h1 := hQ1 k hk rfl
    have h11 : 1 ≤ P 1 := by omega
    have hle : ¬ P 1 - 1 < k := by omega
    simp (disch := omega) only [wpX12_isConstraint, wpX12_isIn, c_0, c_1, c_2, c_3, c_4, c_5, c_6, c_7, c_8, c_9, c_10, c_11, c_12, c_14, c_16, c_19, c_20, c_24, c_31, c_32, c_35, c_48, c_57, c_59, c_63, c_97, c_100, c_122, c_127, c_169, c_255, c_600, c_1000, c_32767, Nat.le_refl, Nat.zero_le, Nat.add_zero, Nat.lt_irrefl, eq_self, o_sub, Nat.sub_zero, Nat.not_lt_zero, ↓ng_d, o_le, o_lt, o_eq, o_add, o_mul, o_cl, o_inT, o_and, n_31, o_shr, o_shl1, o_or, m_lt, m_ge, m_le, m_gt, m_ne, m_ne2, Option.some.injEq, exists_eq_left', true_and, and_true, true_implies, false_implies, implies_true, not_true_eq_false, not_false_eq_true, bI_0, bI_1, bI_01, b01, true_or, or_true, Nat.reduceEqDiff, Bool.not_eq_false, Bool.not_eq_true, Bool.true_eq_false, Bool.false_eq_true, msk hM, msr_p hM, msk_p hM, msl_p hM, hp 1 (by decide), hle]
    exact h1
  · have h1 := hQ0 hx
    have key : c < nI 0 ∨ nI (P 1) - nI 1 < c := by
      rcases hx with h | h
      · exact Or.inl h
      · right
        by_cases z : P 1 = 0
        · rw [z]
          rw [z] at h
          have e : nI 0 - nI 1 = ngI := by decide
          rw [e]
          rw [Int32.le_iff_toInt_le, nI_toInt (by decide)] at h
          rw [Int32.lt_iff_toInt_lt]
          have : ngI.toInt = -1 := rfl
          omega
        · rw [o_sub (by omega)]
          rw [Int32.le_iff_toInt_le, nI_toInt (by omega)] at h
          rw [Int32.lt_iff_toInt_lt, nI_toInt (by omega)]
          omega
    have hin : wpX12_isIn S c (nI 0) (nI (P 1) - nI 1) (fun r5 S6 => ((r5 = nI 0 ∨ r5 = nI 1) ∧ (Q r5 S6))) := by
      unfold wpX12_isIn
      rw [show (0 : Int32) = nI 0 from rfl]
      exact ⟨fun _ => ⟨Or.inl rfl, h1⟩, fun h => ⟨fun _ => ⟨Or.inl rfl, h1⟩, fun z => absurd (key.resolve_left h) z⟩⟩
    unfold wpX12_isConstraint
    refine ⟨msk hM, 88, msr_p hM, msk_p hM, by rw [msl_p hM]; exact h01.mpr trivial, ?_⟩
    rw [show ((1 : Int32)).toNatClampNeg = 1 from rfl, hp 1 (by decide)]
    exact hin
theorem q_isMember {S : PS} {P : Nat → Nat} {c x : Int32} {Q : Int32 → PS → Prop} (hM : MShape S) (hp : rP S P) (hw : Pwf P) (hQ1 : ∀ k y, k < P 1 → c = nI k → y < P 0 → x = nI y → inM (cK P k) y = true → Q (nI 1) S) (hQ0 : (∀ k y, k < P 1 → c = nI k → y < 7 → x = nI y → inM (cK P k) y = false) → Q (nI 0) S) : wpX12_isMember S 87 c x Q := by
  have hP0 := hw.1
  have hP1 := hw.2.1
  have n10 : ¬ (1 : Nat) = 0 := by decide
  unfold wpX12_isMember
  refine ⟨msk hM, q_mcon hM hp hw (fun k hk e => ⟨fun z => absurd z (by decide), fun _ => ⟨msk hM, ?_⟩⟩) (fun hx => ⟨fun _ => hQ0 (fun k y hk e _ _ => ?_), fun z => absurd rfl z⟩)⟩
  · subst e
    have hcK := cK_wf (hw.2.2.2.2.2 k hk) hw.1
    rcases i_split x (N := P 0) (by omega) with ⟨y, hy, rfl⟩ | hx
    · rw [w_mvar hM hp hw hy]
      refine ⟨fun z => absurd z (by decide), fun _ => ⟨msk hM, q_isAmong hM hp hw hk (fun y2 hy2 e2 hi => ⟨fun z => absurd z (by decide), fun _ => hQ1 k y hk rfl hy rfl ?_⟩) (fun hno => ⟨fun _ => hQ0 (fun k2 y2 hk2 e2 hy2 e3 => ?_), fun z => absurd rfl z⟩)⟩⟩
      · have : y = y2 := Eq.mp (o_eq (by omega) (by omega)) e2
        rw [this]; exact hi
      · have : k = k2 := Eq.mp (o_eq (by omega) (by omega)) e2
        rw [← this]
        exact hno y2 hy2 e3
    · rw [w_mvar0 hM hp hw hx]
      refine ⟨fun _ => hQ0 (fun k2 y2 hk2 e2 hy2 e3 => ?_), fun z => absurd rfl z⟩
      cases h : inM (cK P k2) y2
      · rfl
      · obtain ⟨j, hj, e4⟩ := inM_t.mp h
        have h5 := mK_lt hw hk2 j hj
        rw [e4] at h5
        rw [e3] at hx
        rcases hx with q | q
        · rw [o_lt (by omega) (by decide)] at q; omega
        · rw [o_le (by omega) (by omega)] at q; omega
  · rw [e] at hx
    rcases hx with q | q
    · rw [o_lt (by omega) (by decide)] at q; omega
    · rw [o_le (by omega) (by omega)] at q; omega
theorem q_supNow {S : PS} {P d : Nat → Nat} {c x v : Nat} {Q : Int32 → PS → Prop} (hM : MShape S) (hp : rP S P) (hw : Pwf P) (hd : rD S 90 d) (hc : c < P 1) (hx : x < 7) (hv : v < 5) (hQ : ∀ S', fr [96] S S' → Q (bI (dB (sups (cK P c) d x v))) S') : wpX12_isSupportedNow S 87 (nI c) (nI x) (nI v) Q := by
  have hdx := hd.2.2.2 x hx
  have hdd : pI S 90 x = nI (d x) := hd.2.2.1 x hx
  simp (disch := omega) only [wpX12_isSupportedNow, c_0, c_1, c_2, c_3, c_4, c_5, c_6, c_7, c_8, c_9, c_10, c_11, c_12, c_14, c_16, c_19, c_20, c_24, c_31, c_32, c_35, c_48, c_57, c_59, c_63, c_97, c_100, c_122, c_127, c_169, c_255, c_600, c_1000, c_32767, Nat.le_refl, Nat.zero_le, Nat.add_zero, Nat.lt_irrefl, eq_self, o_sub, Nat.sub_zero, Nat.not_lt_zero, ↓ng_d, o_le, o_lt, o_eq, o_add, o_mul, o_cl, o_inT, o_and, n_31, o_shr, o_shl1, o_or, m_lt, m_ge, m_le, m_gt, m_ne, m_ne2, Option.some.injEq, exists_eq_left', true_and, and_true, true_implies, false_implies, implies_true, not_true_eq_false, not_false_eq_true, bI_0, bI_1, bI_01, b01, true_or, or_true, Nat.reduceEqDiff, Bool.not_eq_false, Bool.not_eq_true, Bool.true_eq_false, Bool.false_eq_true, msk hM, msr_domain hM, hd.1, hd.2.1, hdd, w_has (show d x < 2147483648 by omega) (show v < 32 by omega)]
  refine ⟨fun q => ?_, fun q => ?_⟩
  · have h1 := hQ S (fr_r _ _)
    have e : dB (sups (cK P c) d x v) = false := dB_f.mpr (fun z => by rw [z.1] at q; cases q)
    rw [e] at h1
    exact h1
  · refine q_hasSupport hM hp hw hd (by decide) hx hv (Or.inl ⟨c, hc, rfl, rfl⟩) (fun S' hf => ?_)
    have h1 := hQ S' hf
    have e : dB (sups (cK P c) d x v) = dB (Can (cK P c) (ud d x (2 ^ v))) := dB_c ⟨fun z => z.2, fun z => ⟨q, z⟩⟩
    rw [e] at h1
    cases hb : dB (Can (cK P c) (ud d x (2 ^ v)))
    · rw [hb] at h1
      exact ⟨fun _ => h1, fun z => absurd rfl z⟩
    · rw [hb] at h1
      exact ⟨fun z => absurd z (by decide), fun _ => h1⟩
theorem q_onlyOf {S : PS} {d : Nat} {Q : Int32 → PS → Prop} (hd : d < 32) (hne : d ≠ 0) (hQ : Q (nI (pick5 (dF d))) S) : wpX12_onlyOf S (nI d) Q := by
  have hp := lo1_tb _ hd hne
  have main : ∀ r v, v + r = pick5 (dF d) → wpX12_onlyOf_b2 Q (r + 1) S (nI d) (nI v) := by
    intro r
    induction r with
    | zero =>
      intro v hv
      have hb : d.testBit v = true := by rw [show v = pick5 (dF d) by omega]; exact hp.2.1
      have hv' : nI v = nI (pick5 (dF d)) := by rw [show v = pick5 (dF d) by omega]
      rw [← hv'] at hQ
      simp (disch := omega) only [wpX12_onlyOf_b2, c_0, c_1, c_2, c_3, c_4, c_5, c_6, c_7, c_8, c_9, c_10, c_11, c_12, c_14, c_16, c_19, c_20, c_24, c_31, c_32, c_35, c_48, c_57, c_59, c_63, c_97, c_100, c_122, c_127, c_169, c_255, c_600, c_1000, c_32767, Nat.le_refl, Nat.zero_le, Nat.add_zero, Nat.lt_irrefl, eq_self, o_sub, Nat.sub_zero, Nat.not_lt_zero, ↓ng_d, o_le, o_lt, o_eq, o_add, o_mul, o_cl, o_inT, o_and, n_31, o_shr, o_shl1, o_or, m_lt, m_ge, m_le, m_gt, m_ne, m_ne2, Option.some.injEq, exists_eq_left', true_and, and_true, true_implies, false_implies, implies_true, not_true_eq_false, not_false_eq_true, bI_0, bI_1, bI_01, b01, true_or, or_true, Nat.reduceEqDiff, Bool.not_eq_false, Bool.not_eq_true, Bool.true_eq_false, Bool.false_eq_true, w_has (show d < 2147483648 by omega) (show v < 32 by omega), hb]
      exact hQ
    | succ r ih =>
      intro v hv
      have hb : d.testBit v = false := by
        cases e : d.testBit v
        · rfl
        · have := hp.2.2 v (by omega) e
          omega
      have hn := ih (v + 1) (by omega)
      generalize r + 1 = fu at hn ⊢
      simp (disch := omega) only [wpX12_onlyOf_b2, c_0, c_1, c_2, c_3, c_4, c_5, c_6, c_7, c_8, c_9, c_10, c_11, c_12, c_14, c_16, c_19, c_20, c_24, c_31, c_32, c_35, c_48, c_57, c_59, c_63, c_97, c_100, c_122, c_127, c_169, c_255, c_600, c_1000, c_32767, Nat.le_refl, Nat.zero_le, Nat.add_zero, Nat.lt_irrefl, eq_self, o_sub, Nat.sub_zero, Nat.not_lt_zero, ↓ng_d, o_le, o_lt, o_eq, o_add, o_mul, o_cl, o_inT, o_and, n_31, o_shr, o_shl1, o_or, m_lt, m_ge, m_le, m_gt, m_ne, m_ne2, Option.some.injEq, exists_eq_left', true_and, and_true, true_implies, false_implies, implies_true, not_true_eq_false, not_false_eq_true, bI_0, bI_1, bI_01, b01, true_or, or_true, Nat.reduceEqDiff, Bool.not_eq_false, Bool.not_eq_true, Bool.true_eq_false, Bool.false_eq_true, w_has (show d < 2147483648 by omega) (show v < 32 by omega), hb]
      exact hn
  unfold wpX12_onlyOf
  exact ⟨_, main (pick5 (dF d)) 0 (Nat.zero_add _)⟩

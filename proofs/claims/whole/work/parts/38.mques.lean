/-! SUPPORT: the reference's questions -/
theorem pick_pow : ∀ u, u < 5 → pick5 (dF (2 ^ u)) = u := by decide +kernel
theorem w_in4 {S : PS} {w : Nat} {Q : Int32 → PS → Prop} (hw : w < 5) : wpX12_isIn S (nI w) 0 4 Q = Q (nI 1) S := by
  have hle : ¬ 4 < w := by omega
  have n4 : (4 : Int32) = nI 4 := rfl
  rw [n4]
  simp (disch := omega) only [wpX12_isIn, c_0, c_1, c_2, c_3, c_4, c_5, c_6, c_7, c_8, c_9, c_10, c_11, c_12, c_14, c_16, c_19, c_20, c_24, c_31, c_32, c_35, c_48, c_57, c_59, c_63, c_97, c_100, c_122, c_127, c_169, c_255, c_600, c_1000, c_32767, Nat.le_refl, Nat.zero_le, Nat.add_zero, Nat.lt_irrefl, eq_self, o_sub, Nat.sub_zero, Nat.not_lt_zero, ↓ng_d, o_le, o_lt, o_eq, o_add, o_mul, o_cl, o_inT, o_and, n_31, o_shr, o_shl1, o_or, m_lt, m_ge, m_le, m_gt, m_ne, m_ne2, Option.some.injEq, exists_eq_left', true_and, and_true, true_implies, false_implies, implies_true, not_true_eq_false, not_false_eq_true, bI_0, bI_1, bI_01, b01, true_or, or_true, Nat.reduceEqDiff, Bool.not_eq_false, Bool.not_eq_true, Bool.true_eq_false, Bool.false_eq_true, hle]
theorem w_in40 {S : PS} {v : Int32} {Q : Int32 → PS → Prop} (h : v < nI 0 ∨ nI 5 ≤ v) : wpX12_isIn S v 0 4 Q = Q (nI 0) S := by
  have key : v < nI 0 ∨ nI 4 < v := by
    rcases h with q | q
    · exact Or.inl q
    · right
      rw [Int32.le_iff_toInt_le, nI_toInt (by decide)] at q
      rw [Int32.lt_iff_toInt_lt, nI_toInt (by decide)]
      omega
  apply propext
  unfold wpX12_isIn
  rw [show (0 : Int32) = nI 0 from rfl, show (4 : Int32) = nI 4 from rfl]
  constructor
  · rintro ⟨q1, q2⟩
    by_cases h : v < nI 0
    · exact q1 h
    · exact (q2 h).1 (key.resolve_left h)
  · intro q
    exact ⟨fun _ => q, fun h => ⟨fun _ => q, fun z => absurd (key.resolve_left h) z⟩⟩
theorem w_in4n {S : PS} {w : Nat} {Q : Int32 → PS → Prop} (hw : w < 5) : wpX12_isIn S (nI w) (nI 0) 4 Q = Q (nI 1) S := w_in4 hw
theorem w_in40n {S : PS} {v : Int32} {Q : Int32 → PS → Prop} (h : v < nI 0 ∨ nI 5 ≤ v) : wpX12_isIn S v (nI 0) 4 Q = Q (nI 0) S := w_in40 h
def isM (P : Nat → Nat) (c x : Int32) (k y : Nat) : Prop := k < P 1 ∧ c = nI k ∧ y < P 0 ∧ x = nI y ∧ inM (cK P k) y = true
def noM (P : Nat → Nat) (c x : Int32) : Prop := ∀ k y, k < P 1 → c = nI k → y < 7 → x = nI y → inM (cK P k) y = false
theorem m_isSupported {S : PS} {P d : Nat → Nat} {c x v : Int32} {Q : Int32 → PS → Prop} (hM : MShape S) (hp : rP S P) (hw : Pwf P) (hd : rD S 90 d)
    (hQ : ∀ S' k y w, mf [96] [0] S S' → pI S' 87 0 = nI 0 → isM P c x k y → w < 5 → v = nI w → Q (bI (dB (sups (cK P k) d y w))) S')
    (hX : ∀ S', mf [96] [0] S S' → pI S' 87 0 = nI 1 → noM P c x → Q (nI 0) S')
    (hX2 : ∀ S' k y, mf [96] [0] S S' → pI S' 87 0 = nI 2 → isM P c x k y → (v < nI 0 ∨ nI 5 ≤ v) → Q (nI 0) S') : wpX12_isSupported S 87 c x v Q := by
  have hP0 := hw.1
  have hf : mf [96] [0] S (sI S 87 0 (nI 0)) := mf_sI _ _ (by decide)
  have h0 : pI (sI S 87 0 (nI 0)) 87 0 = nI 0 := by rw [pI_sI, if_pos ⟨rfl, rfl⟩]
  have hM1 := hf.M hM
  have hp1 := hf.P (by decide) hp
  have hd1 := hf.D (by decide) hd
  unfold wpX12_isSupported
  rw [show ((0 : Int32)) = nI 0 from rfl]
  refine ⟨msk hM, q_isMember hM1 hp1 hw (fun k y hk ec hy ex hi => ⟨msk hM1, ?_⟩) (fun hno => ⟨msk hM1, ?_⟩)⟩
  · rw [w_may1 hM1 h0]
    refine ⟨fun z => absurd z (by decide), fun _ => ?_⟩
    rcases i_split v (N := 5) (by decide) with ⟨w, hw5, rfl⟩ | hv
    · rw [w_in4n hw5]
      refine ⟨msk hM1, ?_⟩
      rw [w_may1 hM1 h0]
      refine ⟨fun z => absurd z (by decide), fun _ => ⟨msk hM1, ?_⟩⟩
      subst ec
      subst ex
      refine q_supNow hM1 hp1 hw hd1 hk (by omega) hw5 (fun S' hf2 => ?_)
      have h1 := hQ S' k y w (mf_frs hf hf2 (by decide)) (by rw [hf2.I (by decide)]; exact h0) ⟨hk, rfl, hy, rfl, hi⟩ hw5 rfl
      cases hb : dB (sups (cK P k) d y w)
      · rw [hb] at h1
        exact ⟨fun _ => h1, fun z => absurd rfl z⟩
      · rw [hb] at h1
        exact ⟨fun z => absurd z (by decide), fun _ => h1⟩
    · rw [w_in40n hv]
      refine ⟨msk hM1, ?_⟩
      rw [show ((2 : Int32)) = nI 2 from rfl, w_may0 hM1 (by decide) (by decide) h0]
      have h1 := hX2 (sI (sI S 87 0 (nI 0)) 87 0 (nI 2)) k y (mf_t hf (mf_sI _ _ (by decide))) (by rw [pI_sI, if_pos ⟨rfl, rfl⟩]) ⟨hk, ec, hy, ex, hi⟩ hv
      exact ⟨fun _ => h1, fun z => absurd rfl z⟩
  · rw [show ((1 : Int32)) = nI 1 from rfl, w_may0 hM1 (by decide) (by decide) h0]
    have h1 := hX (sI (sI S 87 0 (nI 0)) 87 0 (nI 1)) (mf_t hf (mf_sI _ _ (by decide))) (by rw [pI_sI, if_pos ⟨rfl, rfl⟩]) hno
    exact ⟨fun _ => h1, fun z => absurd rfl z⟩
theorem m_support {S : PS} {P d : Nat → Nat} {c x v y : Int32} {Q : Int32 → PS → Prop} (hM : MShape S) (hp : rP S P) (hw : Pwf P) (hd : rD S 90 d)
    (hQ : ∀ S' k i w j a, mf [96, 100] [0] S S' → pI S' 87 0 = nI 0 → isM P c x k i → isM P c y k j → w < 5 → v = nI w → sups (cK P k) d i w → Lea (cK P k) (ud d i (2 ^ w)) a → Q (nI (a j)) S')
    (hX : ∀ S', mf [96, 100] [0] S S' → pI S' 87 0 = nI 1 → (noM P c x ∨ noM P c y) → Q (nI 0) S')
    (hX2 : ∀ S' k i j, mf [96, 100] [0] S S' → pI S' 87 0 = nI 2 → isM P c x k i → isM P c y k j → (v < nI 0 ∨ nI 5 ≤ v) → Q (nI 0) S')
    (hX3 : ∀ S' k i j w, mf [96, 100] [0] S S' → pI S' 87 0 = nI 3 → isM P c x k i → isM P c y k j → w < 5 → v = nI w → ¬ sups (cK P k) d i w → Q (nI 0) S') : wpX12_support S 87 c x v y Q := by
  have hP0 := hw.1
  have hP1 := hw.2.1
  have hf : mf [96, 100] [0] S (sI S 87 0 (nI 0)) := mf_sI _ _ (by decide)
  have h0 : pI (sI S 87 0 (nI 0)) 87 0 = nI 0 := by rw [pI_sI, if_pos ⟨rfl, rfl⟩]
  have hM1 := hf.M hM
  have hp1 := hf.P (by decide) hp
  have hd1 := hf.D (by decide) hd
  have bad : (noM P c x ∨ noM P c y) → wpX12_support_b29 Q (sI S 87 0 (nI 0)) 87 c x v y 87 := fun hno => by
    unfold wpX12_support_b29 wpX12_support_b30
    refine ⟨msk hM1, ?_⟩
    rw [show ((0 : Int32)) = nI 0 from rfl, show ((1 : Int32)) = nI 1 from rfl, w_may0 hM1 (by decide) (by decide) h0]
    have h1 := hX (sI (sI S 87 0 (nI 0)) 87 0 (nI 1)) (mf_t hf (mf_sI _ _ (by decide))) (by rw [pI_sI, if_pos ⟨rfl, rfl⟩]) hno
    exact ⟨fun _ => h1, fun z => absurd rfl z⟩
  unfold wpX12_support
  rw [show ((0 : Int32)) = nI 0 from rfl]
  refine ⟨msk hM, q_isMember hM1 hp1 hw (fun k i hk ec hi ex hin => ⟨fun z => absurd z (by decide), fun _ => ⟨msk hM1, ?_⟩⟩) (fun hno => ⟨fun _ => bad (Or.inl hno), fun z => absurd rfl z⟩)⟩
  refine q_isMember hM1 hp1 hw (fun k2 j hk2 ec2 hj ey hjn => ⟨fun z => absurd z (by decide), fun _ => ?_⟩) (fun hno => ⟨fun _ => bad (Or.inr hno), fun z => absurd rfl z⟩)
  have ekk : k = k2 := Eq.mp (o_eq (by omega) (by omega)) (ec.symm.trans ec2)
  subst ekk
  have m1 : isM P c x k i := ⟨hk, ec, hi, ex, hin⟩
  have m2 : isM P c y k j := ⟨hk, ec, hj, ey, hjn⟩
  unfold wpX12_support_b30
  refine ⟨msk hM1, ?_⟩
  rw [show ((1 : Int32)) = nI 1 from rfl, w_may1 hM1 h0]
  refine ⟨fun z => absurd z (by decide), fun _ => ?_⟩
  rcases i_split v (N := 5) (by decide) with ⟨w, hw5, rfl⟩ | hv
  · rw [w_in4 hw5]
    refine ⟨msk hM1, ?_⟩
    rw [w_may1 hM1 h0]
    refine ⟨fun z => absurd z (by decide), fun _ => ⟨msk hM1, ?_⟩⟩
    subst ec
    subst ex
    subst ey
    refine q_supNow hM1 hp1 hw hd1 hk (by omega) hw5 (fun S' hf2 => ?_)
    have hf3 : mf [96, 100] [0] S S' := mf_frs hf (fr_m (by decide) hf2) (by decide)
    have hM3 := hf3.M hM
    have h03 : pI S' 87 0 = nI 0 := by rw [hf2.I (by decide)]; exact h0
    refine ⟨msk hM3, ?_⟩
    cases hb : dB (sups (cK P k) d i w)
    · have h4 : mf [96, 100] [0] S (sI S' 87 0 (nI 3)) := mf_t hf3 (mf_sI _ _ (by decide))
      have h1 := hX3 (sI S' 87 0 (nI 3)) k i j w h4 (by rw [pI_sI, if_pos ⟨rfl, rfl⟩]) m1 m2 hw5 rfl (dB_f.mp hb)
      rw [show ((3 : Int32)) = nI 3 from rfl, bI_f, w_may0 hM3 (by decide) (by decide) h03]
      exact ⟨fun z => absurd rfl z, fun _ => h1⟩
    · have hs := dB_t.mp hb
      rw [bI_t, w_may1 hM3 h03]
      refine ⟨fun _ => ⟨msk hM3, ?_⟩, fun z => absurd z (by decide)⟩
      refine q_laysLeast hM3 (hf3.P (by decide) hp) hw (hf3.D (by decide) hd) hk (by omega) hw5 hs (fun S4 e a hf4 he hla hfix => ?_)
      have hf5 : mf [96, 100] [0] S S4 := mf_frs hf3 hf4 (by decide)
      have hM5 := hf5.M hM
      have h05 : pI S4 87 0 = nI 0 := by rw [hf4.I (by decide)]; exact h03
      have h1 := hQ S4 k i w j a hf5 h05 m1 m2 hw5 rfl hs hla
      obtain ⟨q, hq, eq⟩ := inM_t.mp hjn
      have h2 := hfix q hq
      rw [eq] at h2
      have hej : pI S4 100 j = nI (2 ^ a j) := by rw [he.2.2.1 j (by omega), h2.2]
      have hlt := dm_pow_lt _ h2.1
      have honly : wpX12_onlyOf S4 (nI (2 ^ a j)) (fun r22 S23 => Q r22 S23) := q_onlyOf hlt (by have := Nat.two_pow_pos (a j); omega) (by rw [pick_pow _ h2.1]; exact h1)
      simp (disch := omega) only [c_0, c_1, c_2, c_3, c_4, c_5, c_6, c_7, c_8, c_9, c_10, c_11, c_12, c_14, c_16, c_19, c_20, c_24, c_31, c_32, c_35, c_48, c_57, c_59, c_63, c_97, c_100, c_122, c_127, c_169, c_255, c_600, c_1000, c_32767, Nat.le_refl, Nat.zero_le, Nat.add_zero, Nat.lt_irrefl, eq_self, o_sub, Nat.sub_zero, Nat.not_lt_zero, ↓ng_d, o_le, o_lt, o_eq, o_add, o_mul, o_cl, o_inT, o_and, n_31, o_shr, o_shl1, o_or, m_lt, m_ge, m_le, m_gt, m_ne, m_ne2, Option.some.injEq, exists_eq_left', true_and, and_true, true_implies, false_implies, implies_true, not_true_eq_false, not_false_eq_true, bI_0, bI_1, bI_01, b01, true_or, or_true, Nat.reduceEqDiff, Bool.not_eq_false, Bool.not_eq_true, Bool.true_eq_false, Bool.false_eq_true, msk hM5, msr_least hM5, msk_least hM5, msl_least hM5, hej]
      exact honly
  · rw [w_in40 hv]
    refine ⟨msk hM1, ?_⟩
    rw [show ((2 : Int32)) = nI 2 from rfl, w_may0 hM1 (by decide) (by decide) h0]
    have h1 := hX2 (sI (sI S 87 0 (nI 0)) 87 0 (nI 2)) k i j (mf_t hf (mf_sI _ _ (by decide))) (by rw [pI_sI, if_pos ⟨rfl, rfl⟩]) m1 m2 hv
    exact ⟨fun _ => h1, fun z => absurd rfl z⟩
/-- one member's value is watched by the pair (x, v) -/
def wat1 (κ : Kon) (d : Nat → Nat) (x v y w : Nat) : Prop := sups κ d y w ∧ ∃ a, Lea κ (ud d y (2 ^ w)) a ∧ a x = v
noncomputable def watG (κ : Kon) (d : Nat → Nat) (x v i : Nat) : Nat := if κ.2.1 (i / 5) = x then 0 else if dB (wat1 κ d x v (κ.2.1 (i / 5)) (i % 5)) = true then 1 else 0
/-- how many watch it in one constraint, in all -/
noncomputable def watC (P d : Nat → Nat) (x v c : Nat) : Nat := if inM (cK P c) x = true then sN (watG (cK P c) d x v) (5 * (cK P c).1) else 0
theorem watG_le (κ : Kon) (d : Nat → Nat) (x v : Nat) : ∀ n, sN (watG κ d x v) n ≤ n := by
  intro n
  induction n with
  | zero => exact Nat.le_refl _
  | succ n ih =>
    show sN (watG κ d x v) n + watG κ d x v n ≤ n + 1
    have : watG κ d x v n ≤ 1 := by
      unfold watG
      split
      · omega
      · split <;> omega
    omega
theorem watC_le {P : Nat → Nat} (hw : Pwf P) (d : Nat → Nat) (x v : Nat) : ∀ n, n ≤ P 1 → sN (watC P d x v) n ≤ 35 * n := by
  intro n
  induction n with
  | zero => intro _; exact Nat.le_refl _
  | succ n ih =>
    intro hn
    have h1 := ih (by omega)
    have hκ := cK_wf (hw.2.2.2.2.2 n (by omega)) hw.1
    have h2 := hκ.1
    show sN (watC P d x v) n + watC P d x v n ≤ 35 * (n + 1)
    have : watC P d x v n ≤ 35 := by
      unfold watC
      split
      · have := watG_le (cK P n) d x v (5 * (cK P n).1); omega
      · omega
    omega

/-! ALL SOLUTIONS: the constraint of all constraints -/
noncomputable def sK (P : Nat → Nat) : Kon := (P 0, (fun k => k), fun a => dB (∀ c, c < P 1 → (cK P c).2.2 a = true))
theorem sK_wf {P : Nat → Nat} (hw : Pwf P) : Kwf (sK P) := by
  refine ⟨hw.1, fun k hk => Nat.lt_of_lt_of_le hk hw.1, fun i j _ _ h => h, fun a b h => ?_⟩
  apply dB_c
  have e : ∀ c, c < P 1 → (cK P c).2.2 a = (cK P c).2.2 b := fun c hc => (cK_wf (hw.2.2.2.2.2 c hc) hw.1).2.2.2 a b (fun k hk => h _ (mK_lt hw hc k hk))
  constructor
  · intro q c hc; rw [← e c hc]; exact q c hc
  · intro q c hc; rw [e c hc]; exact q c hc
theorem sK_ok {P a : Nat → Nat} : (sK P).2.2 a = true ↔ ∀ c, c < P 1 → (cK P c).2.2 a = true := dB_t
theorem sN_swap (f : Nat → Nat → Nat) : sN (fun u => sN (fun w => f u w) 5) 5 = sN (fun w => sN (fun u => f u w) 5) 5 := by
  simp only [sN]
  omega
theorem sN_if (p : Bool) (f : Nat → Nat) : (if p = true then sN f 5 else 0) = sN (fun w => if p = true then f w else 0) 5 := by
  cases p <;> simp [sN]
theorem sN_pick {f : Nat → Nat} {w : Nat} (hw : w < 5) : sN (fun u => if u = w then f u else 0) 5 = f w := by
  simp only [sN]
  rcases lt5 hw with rfl | rfl | rfl | rfl | rfl <;> simp
/-- a number is a sum over one member's values -/
theorem cF_split {κ : Kon} (hκ : Kwf κ) {d : Nat → Nat} {q : Nat} : ∀ (r p : Nat) (a : Nat → Nat), p + r = κ.1 → p ≤ q → q < p + r → cF κ d r p a = sN (fun w => if (d (κ.2.1 q)).testBit w = true then cF κ (ud d (κ.2.1 q) (2 ^ w)) r p a else 0) 5 := by
  intro r
  induction r with
  | zero => intro p a _ h1 h2; omega
  | succ r ih =>
    intro p a hp h1 h2
    by_cases e : q = p
    · subst e
      rw [cF_s]
      apply sN_5
      intro w hw
      by_cases hb : (d (κ.2.1 q)).testBit w = true
      · rw [if_pos hb, if_pos hb, cF_s, ud_s]
        have h3 : sN (fun u => if (2 ^ w).testBit u = true then cF κ (ud d (κ.2.1 q) (2 ^ w)) r (q + 1) (ud a (κ.2.1 q) u) else 0) 5 = sN (fun u => if u = w then cF κ d r (q + 1) (ud a (κ.2.1 q) u) else 0) 5 := by
          apply sN_5
          intro u hu
          rw [dm_pow_tb w hw u hu]
          by_cases z : u = w
          · rw [if_pos (decide_eq_true z), if_pos z]
            exact cF_d r (q + 1) _ (fun k q1 q2 => ud_n _ _ (fun y => by have := hκ.2.2.1 k q (by omega) (by omega) y; omega))
          · rw [if_neg (by simp [z]), if_neg z]
        rw [h3, sN_pick hw]
      · rw [if_neg hb, if_neg hb]
    · have hne : κ.2.1 p ≠ κ.2.1 q := fun y => by have := hκ.2.2.1 p q (by omega) (by omega) y; omega
      rw [cF_s]
      have h3 : sN (fun u => if (d (κ.2.1 p)).testBit u = true then cF κ d r (p + 1) (ud a (κ.2.1 p) u) else 0) 5 = sN (fun u => sN (fun w => if (d (κ.2.1 p)).testBit u = true then (if (d (κ.2.1 q)).testBit w = true then cF κ (ud d (κ.2.1 q) (2 ^ w)) r (p + 1) (ud a (κ.2.1 p) u) else 0) else 0) 5) 5 := by
        apply sN_5
        intro u hu
        rw [← sN_if]
        by_cases z : (d (κ.2.1 p)).testBit u = true
        · rw [if_pos z, if_pos z]
          exact ih (p + 1) _ (by omega) (by omega) (by omega)
        · rw [if_neg z, if_neg z]
      rw [h3, sN_swap]
      apply sN_5
      intro w hw
      by_cases hb : (d (κ.2.1 q)).testBit w = true
      · rw [if_pos hb, cF_s, ud_n _ _ hne]
        apply sN_5
        intro u hu
        rw [if_pos hb]
      · rw [if_neg hb]
        have : sN (fun u => if (d (κ.2.1 p)).testBit u = true then (if (d (κ.2.1 q)).testBit w = true then cF κ (ud d (κ.2.1 q) (2 ^ w)) r (p + 1) (ud a (κ.2.1 p) u) else 0) else 0) 5 = sN (fun _ => 0) 5 := by
          apply sN_5
          intro u hu
          rw [if_neg hb]
          split <;> rfl
        rw [this]; rfl
theorem nF_split {κ : Kon} (hκ : Kwf κ) {d : Nat → Nat} {q : Nat} (hq : q < κ.1) : nF κ d = sN (fun w => if (d (κ.2.1 q)).testBit w = true then nF κ (ud d (κ.2.1 q) (2 ^ w)) else 0) 5 := cF_split hκ κ.1 0 _ (Nat.zero_add _) (Nat.zero_le _) (by omega)
theorem cF_le (κ : Kon) (d : Nat → Nat) : ∀ r p a, cF κ d r p a ≤ 5 ^ r := by
  intro r
  induction r with
  | zero => intro p a; unfold cF; split <;> decide
  | succ r ih =>
    intro p a
    rw [cF_s, Nat.pow_succ, Nat.mul_comm]
    refine sN_le (fun i hi => ?_)
    show (if (d (κ.2.1 p)).testBit i = true then cF κ d r (p + 1) (ud a (κ.2.1 p) i) else 0) ≤ 5 ^ r
    split
    · exact ih _ _
    · exact Nat.zero_le _
theorem nF_le {κ : Kon} (hκ : Kwf κ) (d : Nat → Nat) : nF κ d ≤ 78125 := Nat.le_trans (cF_le κ d _ _ _) (show 5 ^ κ.1 ≤ 5 ^ 7 from Nat.pow_le_pow_right (by decide) hκ.1)
theorem nF_0 {κ : Kon} (hκ : Kwf κ) {d : Nat → Nat} (h : ¬ Can κ d) : nF κ d = 0 := cF_0 hκ _ _ _ (Nat.zero_add _) (fun b hb => by
  cases e : κ.2.2 b
  · rfl
  · exact absurd ⟨b, fun k hk => hb.2 k (Nat.zero_le _) hk, e⟩ h)
theorem sN_pos {f : Nat → Nat} {w : Nat} (hw : w < 5) (h : 0 < f w) : 0 < sN f 5 := by
  simp only [sN]
  rcases lt5 hw with rfl | rfl | rfl | rfl | rfl <;> omega
theorem cF_pos {κ : Kon} (hκ : Kwf κ) {d : Nat → Nat} : ∀ (r p : Nat) (a b : Nat → Nat), p + r = κ.1 → Cmp κ d p a b → κ.2.2 b = true → 0 < cF κ d r p a := by
  intro r
  induction r with
  | zero =>
    intro p a b hp hc hb
    unfold cF
    rw [hκ.2.2.2 a b (fun k hk => (hc.1 k (by omega)).symm), hb, if_pos rfl]
    decide
  | succ r ih =>
    intro p a b hp hc hb
    have hbp := hc.2 p (Nat.le_refl _) (by omega)
    rw [cF_s]
    refine sN_pos hbp.1 ?_
    show 0 < (if (d (κ.2.1 p)).testBit (b (κ.2.1 p)) = true then cF κ d r (p + 1) (ud a (κ.2.1 p) (b (κ.2.1 p))) else 0)
    rw [if_pos hbp.2]
    refine ih (p + 1) _ b (by omega) ⟨fun k hk => ?_, fun k h1 h2 => hc.2 k (by omega) h2⟩ hb
    by_cases e : k = p
    · subst e; rw [ud_s]
    · rw [ud_n _ _ (fun q => e (hκ.2.2.1 k p (by omega) (by omega) q))]
      exact hc.1 k (by omega)
theorem nF_pos {κ : Kon} (hκ : Kwf κ) {d : Nat → Nat} : 0 < nF κ d ↔ Can κ d := by
  constructor
  · intro h
    apply Classical.byContradiction
    intro q
    rw [nF_0 hκ q] at h
    omega
  · rintro ⟨b, h1, h2⟩
    exact cF_pos hκ _ _ _ b (Nat.zero_add _) ⟨fun k hk => by omega, fun k _ hk => h1 k hk⟩ h2
/-- a variable has a value in a solution -/
def inS (P d : Nat → Nat) (x v : Nat) : Prop := ∃ b, Ful (sK P) d b ∧ b x = v
/-! ===== the class's way ===== -/
/-- each constraint is fulfilled by all, or all its members before var have one value -/
def Fre (P d : Nat → Nat) (var : Nat) : Prop := ∀ c, c < P 1 → (∀ b, Asg (cK P c) d b → (cK P c).2.2 b = true) ∨ ∀ k, k < (cK P c).1 → (cK P c).2.1 k < var → ∃ u, u < 5 ∧ d ((cK P c).2.1 k) = 2 ^ u
theorem Fre_0 (P d : Nat → Nat) : Fre P d 0 := fun c _ => Or.inr (fun k _ h => absurd h (Nat.not_lt_zero _))
/-- what openScope answers -/
def opn (P d : Nat → Nat) (m : Nat) (e : Nat → Nat) : Prop := Dwf e ∧ ∀ c, c < m → (∀ b, Asg (cK P c) d b → (cK P c).2.2 b = true) ∨ ((∀ k, k < (cK P c).1 → e ((cK P c).2.1 k) = 31) ∧ ∀ b, Asg (cK P c) d b → (∀ k, k < (cK P c).1 → ∀ u, u < 5 → (d ((cK P c).2.1 k)).testBit u = true → u = b ((cK P c).2.1 k)) → (cK P c).2.2 b = true)
theorem dm_or31 : ∀ w, w < 32 → w ||| 31 = 31 := by decide +kernel
theorem neg1_pk {e : Nat → Nat} (he : Dwf e) : ¬ pk e = ngL := by
  intro h
  have h1 := pq_lt he
  have h2 : (lN (ds 5 e 7)).toInt = ngL.toInt := by rw [show lN (ds 5 e 7) = pk e from rfl, h]
  rw [pk_lT (by omega)] at h2
  have : ngL.toInt = -1 := rfl
  rw [this] at h2
  omega
theorem q_openScope {S : PS} {pb : Nat} {P d : Nat → Nat} {Q : Int64 → PS → Prop} (hp : PRep S pb P) (hw : Pwf P) (hd : Dwf d) (hN : (∃ c, c < P 1 ∧ ∀ b, Asg (cK P c) d b → (cK P c).2.2 b = false) → Q ngL S) (hO : ∀ e, opn P d (P 1) e → Q (pk e) S) : wpX6_openScope S pb (pk d) Q := by
  have hP1 := hw.2.1
  have g3 := hp.2.2.1
  have g5 := hp.2.2.2.2.1
  have main : ∀ r i e, i + r = P 1 → opn P d i e → wpX6_openScope_b5 Q (r + 1) S pb (pk d) (pk e) (nI i) := by
    intro r
    induction r with
    | zero =>
      intro i e hi ho
      have hi' : i = P 1 := by omega
      subst hi'
      have h1 := hO e ho
      simp (disch := omega) only [wpX6_openScope_b5, c_0, c_1, c_2, c_3, c_4, c_5, c_6, c_7, c_8, c_9, c_10, c_11, c_12, c_14, c_16, c_19, c_20, c_24, c_31, c_32, c_35, c_48, c_57, c_59, c_63, c_97, c_100, c_122, c_127, c_169, c_255, c_600, c_1000, c_32767, Nat.le_refl, Nat.zero_le, Nat.add_zero, Nat.lt_irrefl, eq_self, o_sub, Nat.sub_zero, Nat.not_lt_zero, ↓ng_d, o_le, o_lt, o_eq, o_add, o_mul, o_cl, o_inT, o_and, n_31, o_shr, o_shl1, o_or, m_lt, m_ge, m_le, m_gt, m_ne, m_ne2, Option.some.injEq, exists_eq_left', true_and, and_true, true_implies, false_implies, implies_true, not_true_eq_false, not_false_eq_true, bI_0, bI_1, bI_01, b01, true_or, or_true, Nat.reduceEqDiff, Bool.not_eq_false, Bool.not_eq_true, Bool.true_eq_false, Bool.false_eq_true, g3, g5]
      exact h1
    | succ r ih =>
      intro i e hi ho
      have ei : ¬ P 1 ≤ i := by omega
      have hil : i < P 1 := by omega
      have hκ := cK_wf (hw.2.2.2.2.2 i hil) hw.1
      have hn := ih (i + 1)
      have hstop : (∃ c, c < P 1 ∧ ∀ b, Asg (cK P c) d b → (cK P c).2.2 b = false) → wpX6_openScope_b5 Q (r + 1) S pb (pk d) ngL (nI (i + 1)) := fun hex => by
        have h1 := hN hex
        by_cases q : P 1 ≤ i + 1
        · simp (disch := omega) only [wpX6_openScope_b5, c_0, c_1, c_2, c_3, c_4, c_5, c_6, c_7, c_8, c_9, c_10, c_11, c_12, c_14, c_16, c_19, c_20, c_24, c_31, c_32, c_35, c_48, c_57, c_59, c_63, c_97, c_100, c_122, c_127, c_169, c_255, c_600, c_1000, c_32767, Nat.le_refl, Nat.zero_le, Nat.add_zero, Nat.lt_irrefl, eq_self, o_sub, Nat.sub_zero, Nat.not_lt_zero, ↓ng_d, o_le, o_lt, o_eq, o_add, o_mul, o_cl, o_inT, o_and, n_31, o_shr, o_shl1, o_or, m_lt, m_ge, m_le, m_gt, m_ne, m_ne2, Option.some.injEq, exists_eq_left', true_and, and_true, true_implies, false_implies, implies_true, not_true_eq_false, not_false_eq_true, bI_0, bI_1, bI_01, b01, true_or, or_true, Nat.reduceEqDiff, Bool.not_eq_false, Bool.not_eq_true, Bool.true_eq_false, Bool.false_eq_true, g3, g5, q]
          exact h1
        · have e1 : (lg_cmp ngL ngL = nI 0) = True := by rw [lg_0]; simp
          simp (disch := omega) only [wpX6_openScope_b5, c_0, c_1, c_2, c_3, c_4, c_5, c_6, c_7, c_8, c_9, c_10, c_11, c_12, c_14, c_16, c_19, c_20, c_24, c_31, c_32, c_35, c_48, c_57, c_59, c_63, c_97, c_100, c_122, c_127, c_169, c_255, c_600, c_1000, c_32767, Nat.le_refl, Nat.zero_le, Nat.add_zero, Nat.lt_irrefl, eq_self, o_sub, Nat.sub_zero, Nat.not_lt_zero, ↓ng_d, o_le, o_lt, o_eq, o_add, o_mul, o_cl, o_inT, o_and, n_31, o_shr, o_shl1, o_or, m_lt, m_ge, m_le, m_gt, m_ne, m_ne2, Option.some.injEq, exists_eq_left', true_and, and_true, true_implies, false_implies, implies_true, not_true_eq_false, not_false_eq_true, bI_0, bI_1, bI_01, b01, true_or, or_true, Nat.reduceEqDiff, Bool.not_eq_false, Bool.not_eq_true, Bool.true_eq_false, Bool.false_eq_true, g3, g5, q, ngL_d, e1]
          exact h1
      generalize r + 1 = fu at hn hstop ⊢
      have e1 : (lg_cmp (pk e) ngL = nI 0) = False := by
        rw [lg_0]
        exact propext ⟨fun q => neg1_pk ho.1 q, fun q => q.elim⟩
      have hdo : wpX6_constraintAt S pb (nI i) (fun r4 S5 => ((r4 = none → (wpX6_openScope_b45 (wpX6_openScope_b5 Q fu) Q S5 pb (pk d) (pk e) (nI i) none (nI 2))) ∧ (∀ o6, r4 = some o6 → (pC4 S5 o6 ∧ (wpC_verdict S5 o6 (pk d) (fun r8 S9 => (wpX6_openScope_b45 (wpX6_openScope_b5 Q fu) Q S9 pb (pk d) (pk e) (nI i) (some o6) r8))))))) := by
        refine q_constraintAt hp hw hil (fun o ho2 hko => ⟨fun z => (by cases z), fun o2 z => ?_⟩)
        cases z
        have hCC := CC_of hko (hw.2.2.2.2.2 i hil) hw.1
        refine ⟨hCC.1, hCC.2.2.2.2.1 d _ hd (fun v hv => ?_)⟩
        obtain ⟨hv2, hva⟩ := hv
        unfold wpX6_openScope_b45
        refine ⟨fun z => (by cases z), fun o3 z => ?_⟩
        cases z
        rw [hCC.2.2.1]
        have hc3 : v = 0 ∨ v = 1 ∨ v = 2 := by omega
        rcases hc3 with rfl | rfl | rfl
        · have h1 := hstop ⟨i, hil, fun b hb => (hva b hb).1 rfl⟩
          simp (disch := omega) only [c_0, c_1, c_2, c_3, c_4, c_5, c_6, c_7, c_8, c_9, c_10, c_11, c_12, c_14, c_16, c_19, c_20, c_24, c_31, c_32, c_35, c_48, c_57, c_59, c_63, c_97, c_100, c_122, c_127, c_169, c_255, c_600, c_1000, c_32767, Nat.le_refl, Nat.zero_le, Nat.add_zero, Nat.lt_irrefl, eq_self, o_sub, Nat.sub_zero, Nat.not_lt_zero, ↓ng_d, o_le, o_lt, o_eq, o_add, o_mul, o_cl, o_inT, o_and, n_31, o_shr, o_shl1, o_or, m_lt, m_ge, m_le, m_gt, m_ne, m_ne2, Option.some.injEq, exists_eq_left', true_and, and_true, true_implies, false_implies, implies_true, not_true_eq_false, not_false_eq_true, bI_0, bI_1, bI_01, b01, true_or, or_true, Nat.reduceEqDiff, Bool.not_eq_false, Bool.not_eq_true, Bool.true_eq_false, Bool.false_eq_true, ngL_d]
          exact h1
        · have n10 : ¬ (1 : Nat) = 0 := by decide
          have h1 := hn (fun x => e x ||| scp (cK P i) x) (by omega) ⟨fun x hx => dm_or_lt _ (ho.1 x hx) _ (scp_wf _ x hx), fun c hc => by
            by_cases q : c = i
            · subst q
              refine Or.inr ⟨fun k hk => ?_, fun b hb hs => (hva b hb).2.2 rfl hs⟩
              show e _ ||| scp (cK P c) _ = 31
              rw [scp_t (inM_t.mpr ⟨k, hk, rfl⟩), dm_or31 _ (ho.1 _ (hκ.2.1 k hk))]
            · rcases ho.2 c (by omega) with h2 | h2
              · exact Or.inl h2
              · refine Or.inr ⟨fun k hk => ?_, h2.2⟩
                show e _ ||| scp (cK P i) _ = 31
                have hκc := cK_wf (hw.2.2.2.2.2 c (by omega)) hw.1
                rw [h2.1 k hk, Nat.or_comm, dm_or31 _ (scp_wf _ _ (hκc.2.1 k hk))]⟩
          simp (disch := omega) only [c_0, c_1, c_2, c_3, c_4, c_5, c_6, c_7, c_8, c_9, c_10, c_11, c_12, c_14, c_16, c_19, c_20, c_24, c_31, c_32, c_35, c_48, c_57, c_59, c_63, c_97, c_100, c_122, c_127, c_169, c_255, c_600, c_1000, c_32767, Nat.le_refl, Nat.zero_le, Nat.add_zero, Nat.lt_irrefl, eq_self, o_sub, Nat.sub_zero, Nat.not_lt_zero, ↓ng_d, o_le, o_lt, o_eq, o_add, o_mul, o_cl, o_inT, o_and, n_31, o_shr, o_shl1, o_or, m_lt, m_ge, m_le, m_gt, m_ne, m_ne2, Option.some.injEq, exists_eq_left', true_and, and_true, true_implies, false_implies, implies_true, not_true_eq_false, not_false_eq_true, bI_0, bI_1, bI_01, b01, true_or, or_true, Nat.reduceEqDiff, Bool.not_eq_false, Bool.not_eq_true, Bool.true_eq_false, Bool.false_eq_true, hCC.1, pq_or ho.1 (scp_wf (cK P i))]
          exact h1
        · have n20 : ¬ (2 : Nat) = 0 := by decide
          have n21 : ¬ (2 : Nat) = 1 := by decide
          have h1 := hn e (by omega) ⟨ho.1, fun c hc => by
            by_cases q : c = i
            · subst q; exact Or.inl (fun b hb => (hva b hb).2.1 rfl)
            · exact ho.2 c (by omega)⟩
          simp (disch := omega) only [c_0, c_1, c_2, c_3, c_4, c_5, c_6, c_7, c_8, c_9, c_10, c_11, c_12, c_14, c_16, c_19, c_20, c_24, c_31, c_32, c_35, c_48, c_57, c_59, c_63, c_97, c_100, c_122, c_127, c_169, c_255, c_600, c_1000, c_32767, Nat.le_refl, Nat.zero_le, Nat.add_zero, Nat.lt_irrefl, eq_self, o_sub, Nat.sub_zero, Nat.not_lt_zero, ↓ng_d, o_le, o_lt, o_eq, o_add, o_mul, o_cl, o_inT, o_and, n_31, o_shr, o_shl1, o_or, m_lt, m_ge, m_le, m_gt, m_ne, m_ne2, Option.some.injEq, exists_eq_left', true_and, and_true, true_implies, false_implies, implies_true, not_true_eq_false, not_false_eq_true, bI_0, bI_1, bI_01, b01, true_or, or_true, Nat.reduceEqDiff, Bool.not_eq_false, Bool.not_eq_true, Bool.true_eq_false, Bool.false_eq_true]
          exact h1
      simp (disch := omega) only [wpX6_openScope_b5, c_0, c_1, c_2, c_3, c_4, c_5, c_6, c_7, c_8, c_9, c_10, c_11, c_12, c_14, c_16, c_19, c_20, c_24, c_31, c_32, c_35, c_48, c_57, c_59, c_63, c_97, c_100, c_122, c_127, c_169, c_255, c_600, c_1000, c_32767, Nat.le_refl, Nat.zero_le, Nat.add_zero, Nat.lt_irrefl, eq_self, o_sub, Nat.sub_zero, Nat.not_lt_zero, ↓ng_d, o_le, o_lt, o_eq, o_add, o_mul, o_cl, o_inT, o_and, n_31, o_shr, o_shl1, o_or, m_lt, m_ge, m_le, m_gt, m_ne, m_ne2, Option.some.injEq, exists_eq_left', true_and, and_true, true_implies, false_implies, implies_true, not_true_eq_false, not_false_eq_true, bI_0, bI_1, bI_01, b01, true_or, or_true, Nat.reduceEqDiff, Bool.not_eq_false, Bool.not_eq_true, Bool.true_eq_false, Bool.false_eq_true, g3, g5, ei, ngL_d, e1]
      exact hdo
  have h1 := main (P 1) 0 (fun _ => 0) (Nat.zero_add _) ⟨dz, fun c hc => by omega⟩
  rw [← pq_z] at h1
  unfold wpX6_openScope
  exact ⟨_, h1⟩
/-- what has been found -/
def FSt (D : Int64) (S : PS) (cnt : Nat) (L : Int64) (U : Nat → Nat) : Prop := pK S 83 = 6 ∧ pI S 83 1 = nI cnt ∧ pJ S 83 2 = L ∧ pJ S 83 3 = pk U ∧ Dwf U ∧ pI S 83 0 = nI 1 ∧ pJ S 83 4 = D
/-- from before to behind: the solutions in d come to what had been found; var: the variables before it are free or fixed -/
def FSp (P d : Nat → Nat) (var cnt cnt' : Nat) (L L' : Int64) (U U' : Nat → Nat) : Prop := cnt' = cnt + nF (sK P) d ∧ ((cnt ≠ 0 ∨ ¬ Can (sK P) d) → L' = L) ∧ (cnt = 0 → Can (sK P) d → ∃ a, Lea (sK P) d a ∧ (∀ y, y < var → y < P 0 → a y = pick5 (dF (d y))) ∧ L' = pk (oneOf (sK P) a)) ∧ (∀ x, x < P 0 → ∀ v, v < 5 → ((U' x).testBit v = true ↔ (U x).testBit v = true ∨ inS P d x v)) ∧ ∀ x, P 0 ≤ x → x < 7 → U' x = U x
theorem FSp_0 {P d : Nat → Nat} {var cnt : Nat} {L : Int64} {U : Nat → Nat} (hw : Pwf P) (h : ¬ Can (sK P) d) : FSp P d var cnt cnt L L U U := by
  refine ⟨by rw [nF_0 (sK_wf hw) h]; rfl, fun _ => rfl, fun _ q => absurd q h, fun x _ v _ => ⟨Or.inl, fun q => ?_⟩, fun _ _ _ => rfl⟩
  rcases q with q | ⟨b, hb, _⟩
  · exact q
  · exact absurd ⟨b, hb⟩ h
theorem asgN_sK {P d : Nat → Nat} (hw : Pwf P) : asgN d (fun x => P (2 + x)) = pN7 (fun k => pcn 5 (d k)) (P 0) := by
  have h := mem_prod (sK_wf hw) (fun x => pcn 5 (d x))
  have h2 : pN7 (fun k => pcn 5 (d ((sK P).2.1 k))) (sK P).1 = pN7 (fun k => pcn 5 (d k)) (P 0) := rfl
  rw [h2] at h
  rw [← h]
  unfold asgN
  apply pN7_cong
  intro x hx
  by_cases q : x < P 0
  · rw [if_neg (hw.2.2.2.1 x q), if_pos (show inM (sK P) x = true from inM_t.mpr ⟨x, q, rfl⟩)]
  · rw [if_pos (hw.2.2.2.2.1 x (by omega) hx), if_neg (show ¬ inM (sK P) x = true from fun z => by
      obtain ⟨k, hk, e⟩ := inM_t.mp z
      have hk' : k < P 0 := hk
      have e' : k = x := e
      omega)]
theorem Asg_c {P d b : Nat → Nat} (hw : Pwf P) {c : Nat} (hc : c < P 1) (h : Asg (sK P) d b) : Asg (cK P c) d b := fun k hk => h _ (mK_lt hw hc k hk)

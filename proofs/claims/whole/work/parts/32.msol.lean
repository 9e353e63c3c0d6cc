/-! THE REFERENCE: it goes through all solutions -/
/-- one more solution has been met -/
theorem Acc_new {P d a : Nat → Nat} {k w cnt : Nat} {F U : Nat → Nat} (hk : k + 1 = P 0) (hw : Pwf P) (hd : Dwf d) (hFul : Ful (sK P) d (ud a k w)) (hA : Acc P d (Bef k a w) cnt F U) (hU : ∀ y, y < 7 → U y < 32) :
    Acc P d (Bef k a (w + 1)) (cnt + 1) (fun y => if cnt = 0 then ud a k w y else F y) (fun y => if y < P 0 then U y ||| 2 ^ ud a k w y else U y) := by
  obtain ⟨a1, a2, a3⟩ := hA
  have hP0 := hw.1
  have hBn : Bef k a (w + 1) (ud a k w) := Or.inr ⟨fun i hi => ud_n _ _ (by omega), by rw [ud_s]; omega⟩
  have hag : ∀ b, (∀ i, i < k → b i = a i) → b k = w → agr (sK P) (ud a k w) b := fun b h1 h2 y hy => by
    have hy' : y < P 0 := hy
    show ud a k w y = b y
    by_cases e : y = k
    · rw [e, ud_s, h2]
    · rw [ud_n _ _ e, h1 y (by omega)]
  have hbs : ∀ b, Ful (sK P) d b → Bef k a (w + 1) b → Bef k a w b ∨ agr (sK P) (ud a k w) b := fun b _ hb => by
    rcases Bef_s.mp hb with h | h
    · exact Or.inl h
    · exact Or.inr (hag b h.1 h.2)
  have hlt : ∀ b, Bef k a w b → lexlt (sK P) b (ud a k w) := fun b hb => by
    rcases hb with ⟨j, h1, h2, h3⟩ | ⟨h1, h2⟩
    · refine ⟨j, show j < P 0 by omega, ?_, fun i hi => ?_⟩
      · show b j < ud a k w j
        rw [ud_n _ _ (by omega)]; exact h3
      · show b i = ud a k w i
        rw [ud_n _ _ (by omega)]; exact h2 i hi
    · refine ⟨k, show k < P 0 by omega, ?_, fun i hi => ?_⟩
      · show b k < ud a k w k
        rw [ud_s]; exact h2
      · show b i = ud a k w i
        rw [ud_n _ _ (by omega)]; exact h1 i hi
  refine ⟨⟨fun q => by omega, fun q => absurd ⟨_, hFul, hBn⟩ q⟩, fun _ => ⟨?_, fun b hb hbB => ?_⟩, fun y hy v hv => ?_⟩
  · by_cases e : cnt = 0
    · refine ⟨ud a k w, hFul, hBn, fun y hy => ?_⟩
      show (if cnt = 0 then ud a k w y else F y) = ud a k w y
      rw [if_pos e]
    · obtain ⟨b, hb, hbB, hba⟩ := (a2 e).1
      refine ⟨b, hb, Bef_s.mpr (Or.inl hbB), fun y hy => ?_⟩
      show (if cnt = 0 then ud a k w y else F y) = b y
      rw [if_neg e]
      exact hba y hy
  · by_cases e : cnt = 0
    · rcases hbs b hb hbB with h | h
      · exact absurd ⟨b, hb, h⟩ (a1.mp e)
      · left
        intro y hy
        show (if cnt = 0 then ud a k w y else F y) = b y
        rw [if_pos e]
        exact h y hy
    · have hF0 : ∀ y, (fun y => if cnt = 0 then ud a k w y else F y) y = F y := fun y => if_neg e
      have hc : (fun y => if cnt = 0 then ud a k w y else F y) = F := funext hF0
      rw [hc]
      rcases hbs b hb hbB with h | h
      · exact (a2 e).2 b hb h
      · right
        obtain ⟨b0, hb0, hb0B, hb0a⟩ := (a2 e).1
        obtain ⟨j, h1, h2, h3⟩ := hlt b0 hb0B
        have h1' : j < P 0 := h1
        refine ⟨j, h1, ?_, fun i hi => ?_⟩
        · rw [hb0a j h1, ← h j h1]; exact h2
        · have hi' : i < (sK P).1 := show i < P 0 by omega
          rw [hb0a i hi', ← h i hi']; exact h3 i hi
  · show (if y < P 0 then U y ||| 2 ^ ud a k w y else U y).testBit v = true ↔ _
    rw [if_pos hy, bit_set, Bool.or_eq_true, a3 y hy v hv, decide_eq_true_eq]
    constructor
    · rintro (⟨b, hb, hbB, e⟩ | e)
      · exact ⟨b, hb, Bef_s.mpr (Or.inl hbB), e⟩
      · exact ⟨_, hFul, hBn, e.symm⟩
    · rintro ⟨b, hb, hbB, e⟩
      rcases hbs b hb hbB with h | h
      · exact Or.inl ⟨b, hb, h, e⟩
      · exact Or.inr (by rw [← e]; exact (h y hy).symm)
/-- a prefix that fulfils all constraints in it -/
def Pfx (P d a : Nat → Nat) (k : Nat) : Prop := ∀ y, y < k → (d y).testBit (a y) = true ∧ ∀ c, c < P 1 → top P c y → (cK P c).2.2 a = true
theorem ok_top {P a b : Nat → Nat} (hw : Pwf P) {c y : Nat} (hc : c < P 1) (ht : top P c y) (h : ∀ i, i ≤ y → a i = b i) : (cK P c).2.2 a = (cK P c).2.2 b :=
  (cK_wf (hw.2.2.2.2.2 c hc) hw.1).2.2.2 a b (fun k hk => h _ (top_mem ht k hk))
theorem Pfx_s {P d a : Nat → Nat} {k w : Nat} (hw : Pwf P) (h : Pfx P d a k) (hb : (d k).testBit w = true) (hf : ∀ c, c < P 1 → top P c k → (cK P c).2.2 (ud a k w) = true) : Pfx P d (ud a k w) (k + 1) := fun y hy => by
  by_cases e : y = k
  · subst e; exact ⟨by rw [ud_s]; exact hb, hf⟩
  · have h1 := h y (by omega)
    refine ⟨by rw [ud_n _ _ e]; exact h1.1, fun c hc ht => ?_⟩
    rw [ok_top hw hc ht (a := ud a k w) (b := a) (fun i hi => ud_n _ _ (by omega))]
    exact h1.2 c hc ht
theorem Pfx_ful {P d a : Nat → Nat} (hw : Pwf P) (ha : ∀ y, a y < 5) (h : Pfx P d a (P 0)) : Ful (sK P) d a := ⟨fun y hy => ⟨ha y, (h y hy).1⟩, sK_ok.mpr (fun c hc => by
  obtain ⟨y, hy, ht⟩ := top_ex hw hc
  exact (h y hy).2 c hc ht)⟩
theorem q_sol {S0 : PS} {P d : Nat → Nat} {Q : Int32 → PS → Prop} (hM0 : MShape S0) (hp0 : rP S0 P) (hw : Pwf P) (hd0 : rD S0 90 d) :
    ∀ (r k u : Nat) (a : Nat → Nat) (cnt : Nat) (F U : Nat → Nat) (g : Int32) (S : PS) (f0 f : Nat), k + (r + 1) = P 0 → u ≤ 5 → g + nI 1 = nI u → (∀ y, a y < 5) → fr [101, 102, 103] S0 S → rG S (fun y => y) a k → pI S 101 k = g → Pfx P d a k → FM S (P 0) cnt F U → Acc P d (Bef k a u) cnt F U → cnt + tS (fun w => if (d k).testBit w = true then cF (sK P) d r (k + 1) (ud a k w) else 0) u ≤ 78125 → f0 + (6 - u) * (2 + tC r) ≤ f →
      (∀ S' f' F' U', f0 ≤ f' → fr [101, 102, 103] S0 S' → rG S' (fun y => y) a k → FM S' (P 0) (cnt + tS (fun w => if (d k).testBit w = true then cF (sK P) d r (k + 1) (ud a k w) else 0) u) F' U' → Acc P d (Bef k a 5) (cnt + tS (fun w => if (d k).testBit w = true then cF (sK P) d r (k + 1) (ud a k w) else 0) u) F' U' → wpX12_solves_b43 Q f' S' 87 (nI (cnt + tS (fun w => if (d k).testBit w = true then cF (sK P) d r (k + 1) (ud a k w) else 0) u)) (nI k + -1)) →
      wpX12_solves_b43 Q f S 87 (nI cnt) (nI k) := by
  have hP0 := hw.1
  have hsw := sK_wf hw
  intro r
  induction r using Nat.strongRecOn with
  | _ r ih =>
    intro k u
    have inner : ∀ (v u : Nat) (a : Nat → Nat) (cnt : Nat) (F U : Nat → Nat) (g : Int32) (S : PS) (f0 f : Nat), 5 - u = v → k + (r + 1) = P 0 → u ≤ 5 → g + nI 1 = nI u → (∀ y, a y < 5) → fr [101, 102, 103] S0 S → rG S (fun y => y) a k → pI S 101 k = g → Pfx P d a k → FM S (P 0) cnt F U → Acc P d (Bef k a u) cnt F U → cnt + tS (fun w => if (d k).testBit w = true then cF (sK P) d r (k + 1) (ud a k w) else 0) u ≤ 78125 → f0 + (6 - u) * (2 + tC r) ≤ f →
      (∀ S' f' F' U', f0 ≤ f' → fr [101, 102, 103] S0 S' → rG S' (fun y => y) a k → FM S' (P 0) (cnt + tS (fun w => if (d k).testBit w = true then cF (sK P) d r (k + 1) (ud a k w) else 0) u) F' U' → Acc P d (Bef k a 5) (cnt + tS (fun w => if (d k).testBit w = true then cF (sK P) d r (k + 1) (ud a k w) else 0) u) F' U' → wpX12_solves_b43 Q f' S' 87 (nI (cnt + tS (fun w => if (d k).testBit w = true then cF (sK P) d r (k + 1) (ud a k w) else 0) u)) (nI k + -1)) →
      wpX12_solves_b43 Q f S 87 (nI cnt) (nI k) := by
      intro v
      induction v using Nat.strongRecOn with
      | _ v ihv =>
        intro u a cnt F U g S f0 f hv hk hu hg ha hf hG hcur hpre hF hA hbd hfu hH
        have hx : k < 7 := by omega
        have hM := hf.M hM0
        have hp := hf.P (by decide) hp0
        have hd := hf.D (by decide) hd0
        have hpos : 2 + tC r ≤ (6 - u) * (2 + tC r) := Nat.le_mul_of_pos_left _ (by omega)
        obtain ⟨f, rfl⟩ : ∃ j, f = j + 1 := ⟨f - 1, by omega⟩
        unfold wpX12_solves_b43
        simp (disch := omega) only [c_0, c_1, c_2, c_3, c_4, c_5, c_6, c_7, c_8, c_9, c_10, c_11, c_12, c_14, c_16, c_19, c_20, c_24, c_31, c_32, c_35, c_48, c_57, c_59, c_63, c_97, c_100, c_122, c_127, c_169, c_255, c_600, c_1000, c_32767, Nat.le_refl, Nat.zero_le, Nat.add_zero, Nat.lt_irrefl, eq_self, o_sub, Nat.sub_zero, Nat.not_lt_zero, ↓ng_d, o_le, o_lt, o_eq, o_add, o_mul, o_cl, o_inT, o_and, n_31, o_shr, o_shl1, o_or, m_lt, m_ge, m_le, m_gt, m_ne, m_ne2, Option.some.injEq, exists_eq_left', true_and, and_true, true_implies, false_implies, implies_true, not_true_eq_false, not_false_eq_true, bI_0, bI_1, bI_01, b01, true_or, or_true, Nat.reduceEqDiff, Bool.not_eq_false, Bool.not_eq_true, Bool.true_eq_false, Bool.false_eq_true, msk hM, msr_given hM, msk_given hM, msl_given hM, hcur]
        refine q_nextValue hM hd hx hg hu (fun hno => ?_) (fun w h1 h2 h3 h4 => ?_)
        · have hs : tS (fun w => if (d k).testBit w = true then cF (sK P) d r (k + 1) (ud a k w) else 0) u = 0 := tS_none (fun w h1 h2 => by rw [hno w h1 h2]; rfl)
          rw [hs, Nat.add_zero] at hH
          have hsI : pI (sI S 101 k ngI) 101 k = ngI := by rw [pI_sI, if_pos ⟨rfl, rfl⟩]
          have hA5 : Acc P d (Bef k a 5) cnt F U := Acc_cg (fun b hb => by
            have hbk := hb.1 k (show k < P 0 by omega)
            have hbk1 : b k < 5 := hbk.1
            have hbk2 : (d k).testBit (b k) = true := hbk.2
            have hlt : b k < u := by
              apply Classical.byContradiction
              intro q
              have h9 := hno (b k) (by omega) hbk1
              rw [h9] at hbk2
              cases hbk2
            constructor
            · rintro (h | h)
              · exact Or.inl h
              · exact Or.inr ⟨h.1, hbk1⟩
            · rintro (h | h)
              · exact Or.inl h
              · exact Or.inr ⟨h.1, hlt⟩) hA
          have h5 := hH (sI S 101 k ngI) f F U (by omega) (fr_t hf (fr_sI _ _ _ (by decide))) (fun j hj => by
            rw [pI_sI, if_neg (fun q => by have h9 : j = k := q.2; omega)]; exact hG j hj) ⟨fun z y hy => by rw [pI_sI, if_neg (fun q => by omega)]; exact hF.1 z y hy, fun y hy => by rw [pI_sI, if_neg (fun q => by omega)]; exact hF.2.1 y hy, hF.2.2.1, hF.2.2.2⟩ hA5
          rw [ng_d] at h5
          simp (disch := omega) only [c_0, c_1, c_2, c_3, c_4, c_5, c_6, c_7, c_8, c_9, c_10, c_11, c_12, c_14, c_16, c_19, c_20, c_24, c_31, c_32, c_35, c_48, c_57, c_59, c_63, c_97, c_100, c_122, c_127, c_169, c_255, c_600, c_1000, c_32767, Nat.le_refl, Nat.zero_le, Nat.add_zero, Nat.lt_irrefl, eq_self, o_sub, Nat.sub_zero, Nat.not_lt_zero, ↓ng_d, o_le, o_lt, o_eq, o_add, o_mul, o_cl, o_inT, o_and, n_31, o_shr, o_shl1, o_or, m_lt, m_ge, m_le, m_gt, m_ne, m_ne2, Option.some.injEq, exists_eq_left', true_and, and_true, true_implies, false_implies, implies_true, not_true_eq_false, not_false_eq_true, bI_0, bI_1, bI_01, b01, true_or, or_true, Nat.reduceEqDiff, Bool.not_eq_false, Bool.not_eq_true, Bool.true_eq_false, Bool.false_eq_true, msk hM, msr_given hM, msk_given hM, msl_given hM, hsI]
          exact h5
        · have hs := tS_step (g := fun w => if (d k).testBit w = true then cF (sK P) d r (k + 1) (ud a k w) else 0) h2 h1 (fun j q1 q2 => by
            show (if (d k).testBit j = true then _ else 0) = 0
            rw [h4 j q1 q2]; rfl)
          have hsv : (if (d k).testBit w = true then cF (sK P) d r (k + 1) (ud a k w) else 0) = cF (sK P) d r (k + 1) (ud a k w) := if_pos h3
          rw [hs, hsv] at hH hbd
          have hsI : pI (sI S 101 k (nI w)) 101 k = nI w := by rw [pI_sI, if_pos ⟨rfl, rfl⟩]
          have hf2 : fr [101, 102, 103] S0 (sI S 101 k (nI w)) := fr_t hf (fr_sI _ _ _ (by decide))
          have hM2 := hf2.M hM0
          have hp2 := hf2.P (by decide) hp0
          have hG2 : rG (sI S 101 k (nI w)) (fun y => y) a k := fun j hj => by
            rw [pI_sI, if_neg (fun q => by have h9 : j = k := q.2; omega)]; exact hG j hj
          have hG3 : rG (sI S 101 k (nI w)) (fun y => y) (ud a k w) (k + 1) := fun j hj => by
            show pI (sI S 101 k (nI w)) 101 j = nI (ud a k w j)
            by_cases q : j = k
            · subst q; rw [ud_s]; exact hsI
            · rw [ud_n _ _ q]; exact hG2 j (by omega)
          have ha2 : ∀ y, ud a k w y < 5 := fun y => by
            by_cases q : y = k
            · rw [q, ud_s]; exact h2
            · rw [ud_n _ _ q]; exact ha y
          have hF2 : FM (sI S 101 k (nI w)) (P 0) cnt F U := ⟨fun z y hy => by rw [pI_sI, if_neg (fun q => by omega)]; exact hF.1 z y hy, fun y hy => by rw [pI_sI, if_neg (fun q => by omega)]; exact hF.2.1 y hy, hF.2.2.1, hF.2.2.2⟩
          have hAw : Acc P d (Bef k a w) cnt F U := Acc_cg (fun b hb => by
            have hbk := hb.1 k (show k < P 0 by omega)
            have hbk2 : (d k).testBit (b k) = true := hbk.2
            constructor
            · rintro (h | h)
              · exact Or.inl h
              · exact Or.inr ⟨h.1, by omega⟩
            · rintro (h | h)
              · exact Or.inl h
              · refine Or.inr ⟨h.1, ?_⟩
                apply Classical.byContradiction
                intro q
                have h9 := h4 (b k) (by omega) h.2
                rw [h9] at hbk2
                cases hbk2) hA
          have hmul : (6 - u) * (2 + tC r) = (6 - (u + 1)) * (2 + tC r) + (2 + tC r) := by
            rw [show 6 - u = (6 - (u + 1)) + 1 by omega, Nat.add_mul, Nat.one_mul]
          have hmul2 : (6 - (w + 1)) * (2 + tC r) ≤ (6 - (u + 1)) * (2 + tC r) := Nat.mul_le_mul_right _ (by omega)
          simp (disch := omega) only [c_0, c_1, c_2, c_3, c_4, c_5, c_6, c_7, c_8, c_9, c_10, c_11, c_12, c_14, c_16, c_19, c_20, c_24, c_31, c_32, c_35, c_48, c_57, c_59, c_63, c_97, c_100, c_122, c_127, c_169, c_255, c_600, c_1000, c_32767, Nat.le_refl, Nat.zero_le, Nat.add_zero, Nat.lt_irrefl, eq_self, o_sub, Nat.sub_zero, Nat.not_lt_zero, ↓ng_d, o_le, o_lt, o_eq, o_add, o_mul, o_cl, o_inT, o_and, n_31, o_shr, o_shl1, o_or, m_lt, m_ge, m_le, m_gt, m_ne, m_ne2, Option.some.injEq, exists_eq_left', true_and, and_true, true_implies, false_implies, implies_true, not_true_eq_false, not_false_eq_true, bI_0, bI_1, bI_01, b01, true_or, or_true, Nat.reduceEqDiff, Bool.not_eq_false, Bool.not_eq_true, Bool.true_eq_false, Bool.false_eq_true, msk hM, msr_given hM, msk_given hM, msl_given hM, hsI]
          refine q_fits hM2 hp2 hw (by omega) ha2 hG3 (fun bb hbb => ?_)
          cases bb
          · -- it doesn't fit
            have hnf : ¬ ∀ c, c < P 1 → top P c k → (cK P c).2.2 (ud a k w) = true := fun q => by have := hbb.mpr q; cases this
            have hno : ∀ b, (∀ i, i < k → b i = a i) → b k = w → (sK P).2.2 b = true → False := fun b q1 q2 q3 => hnf (fun c hc ht => by
              rw [ok_top hw hc ht (a := ud a k w) (b := b) (fun i hi => by
                by_cases e : i = k
                · rw [e, ud_s, q2]
                · rw [ud_n _ _ e, q1 i (by omega)])]
              exact sK_ok.mp q3 c hc)
            have hz : cF (sK P) d r (k + 1) (ud a k w) = 0 := cF_0 hsw r (k + 1) _ (show k + 1 + r = P 0 by omega) (fun b hb => by
              cases e : (sK P).2.2 b
              · rfl
              · exact (hno b (fun i hi => by
                  have h9 : b i = ud a k w i := hb.1 i (by omega)
                  rw [h9, ud_n _ _ (by omega)]) (by
                  have h9 : b k = ud a k w k := hb.1 k (by omega)
                  rw [h9, ud_s]) e).elim)
            rw [hz, Nat.zero_add] at hH hbd
            have hA1 : Acc P d (Bef k a (w + 1)) cnt F U := Acc_cg (fun b hb => by
              rw [Bef_s]
              constructor
              · exact Or.inl
              · rintro (h | h)
                · exact h
                · exact (hno b h.1 h.2 hb.2).elim) hAw
            have h5 := ihv (5 - (w + 1)) (by omega) (w + 1) a cnt F U (nI w) _ f0 f rfl hk (by omega) (o_add w 1) ha hf2 hG2 hsI hpre hF2 hA1 hbd (by omega) hH
            simp only [c_0, c_1, c_2, c_3, c_4, c_5, c_6, c_7, c_8, c_9, c_10, c_11, c_12, c_14, c_16, c_19, c_20, c_24, c_31, c_32, c_35, c_48, c_57, c_59, c_63, c_97, c_100, c_122, c_127, c_169, c_255, c_600, c_1000, c_32767, Nat.le_refl, Nat.zero_le, Nat.add_zero, Nat.lt_irrefl, eq_self, o_sub, Nat.sub_zero, Nat.not_lt_zero, ↓ng_d, o_le, o_lt, o_eq, o_add, o_mul, o_cl, o_inT, o_and, n_31, o_shr, o_shl1, o_or, m_lt, m_ge, m_le, m_gt, m_ne, m_ne2, Option.some.injEq, exists_eq_left', true_and, and_true, true_implies, false_implies, implies_true, not_true_eq_false, not_false_eq_true, bI_0, bI_1, bI_01, b01, true_or, or_true, Nat.reduceEqDiff, Bool.not_eq_false, Bool.not_eq_true, Bool.true_eq_false, Bool.false_eq_true]
            exact h5
          · have hpre2 := Pfx_s hw hpre h3 (hbb.mp rfl)
            have n10 : ¬ (1 : Nat) = 0 := by decide
            by_cases hlast : k + 1 = P 0
            · -- a solution
              have hr0 : r = 0 := by omega
              subst hr0
              have hFul := Pfx_ful hw ha2 (hlast ▸ hpre2)
              have h1c : cF (sK P) d 0 (k + 1) (ud a k w) = 1 := by
                show (if (sK P).2.2 (ud a k w) = true then 1 else 0) = 1
                rw [if_pos hFul.2]
              rw [h1c, ← Nat.add_assoc] at hH hbd
              simp (disch := omega) only [c_0, c_1, c_2, c_3, c_4, c_5, c_6, c_7, c_8, c_9, c_10, c_11, c_12, c_14, c_16, c_19, c_20, c_24, c_31, c_32, c_35, c_48, c_57, c_59, c_63, c_97, c_100, c_122, c_127, c_169, c_255, c_600, c_1000, c_32767, Nat.le_refl, Nat.zero_le, Nat.add_zero, Nat.lt_irrefl, eq_self, o_sub, Nat.sub_zero, Nat.not_lt_zero, ↓ng_d, o_le, o_lt, o_eq, o_add, o_mul, o_cl, o_inT, o_and, n_31, o_shr, o_shl1, o_or, m_lt, m_ge, m_le, m_gt, m_ne, m_ne2, Option.some.injEq, exists_eq_left', true_and, and_true, true_implies, false_implies, implies_true, not_true_eq_false, not_false_eq_true, bI_0, bI_1, bI_01, b01, true_or, or_true, Nat.reduceEqDiff, Bool.not_eq_false, Bool.not_eq_true, Bool.true_eq_false, Bool.false_eq_true, msk hM2, msr_p hM2, msk_p hM2, msl_p hM2, hp2 0 (by decide), hlast]
              refine q_meets hM2 hp2 hw (by omega) ha2 (hlast ▸ hG3) hF2 (fun S' hf' hF' => ?_)
              have hf3 : fr [101, 102, 103] S0 S' := fr_t hf2 (fr_m (by decide) hf')
              exact ihv (5 - (w + 1)) (by omega) (w + 1) a (cnt + 1) _ _ (nI w) S' f0 f rfl hk (by omega) (o_add w 1) ha hf3 (fun j hj => by rw [hf'.I (by decide)]; exact hG2 j hj) (by rw [hf'.I (by decide)]; exact hsI) hpre hF' (Acc_new hlast hw hd0.2.2.2 hFul hAw hF.2.2.1) hbd (by omega) hH
            · -- the next variable
              obtain ⟨r', rfl⟩ : ∃ j, r = j + 1 := ⟨r - 1, by omega⟩
              have hx2i : vp_in (nI (k + 1)) 7 = True := o_inT (by omega) (by omega)
              simp (disch := omega) only [c_0, c_1, c_2, c_3, c_4, c_5, c_6, c_7, c_8, c_9, c_10, c_11, c_12, c_14, c_16, c_19, c_20, c_24, c_31, c_32, c_35, c_48, c_57, c_59, c_63, c_97, c_100, c_122, c_127, c_169, c_255, c_600, c_1000, c_32767, Nat.le_refl, Nat.zero_le, Nat.add_zero, Nat.lt_irrefl, eq_self, o_sub, Nat.sub_zero, Nat.not_lt_zero, ↓ng_d, o_le, o_lt, o_eq, o_add, o_mul, o_cl, o_inT, o_and, n_31, o_shr, o_shl1, o_or, m_lt, m_ge, m_le, m_gt, m_ne, m_ne2, Option.some.injEq, exists_eq_left', true_and, and_true, true_implies, false_implies, implies_true, not_true_eq_false, not_false_eq_true, bI_0, bI_1, bI_01, b01, true_or, or_true, Nat.reduceEqDiff, Bool.not_eq_false, Bool.not_eq_true, Bool.true_eq_false, Bool.false_eq_true, msk hM2, msr_p hM2, msk_p hM2, msl_p hM2, hp2 0 (by decide), hlast, msr_given hM2, msk_given hM2, msl_given hM2]
              have hf3 : fr [101, 102, 103] S0 (sI (sI S 101 k (nI w)) 101 (k + 1) ngI) := fr_t hf2 (fr_sI _ _ _ (by decide))
              have hG4 : rG (sI (sI S 101 k (nI w)) 101 (k + 1) ngI) (fun y => y) (ud a k w) (k + 1) := fun j hj => by
                rw [pI_sI, if_neg (fun q => by have h9 : j = k + 1 := q.2; omega)]; exact hG3 j hj
              have hF4 : FM (sI (sI S 101 k (nI w)) 101 (k + 1) ngI) (P 0) cnt F U := ⟨fun z y hy => by rw [pI_sI, if_neg (fun q => by omega)]; exact hF2.1 z y hy, fun y hy => by rw [pI_sI, if_neg (fun q => by omega)]; exact hF2.2.1 y hy, hF.2.2.1, hF.2.2.2⟩
              have htc := tC_s r'
              have hsum : tS (fun w2 => if (d (k + 1)).testBit w2 = true then cF (sK P) d r' (k + 1 + 1) (ud (ud a k w) (k + 1) w2) else 0) 0 = cF (sK P) d (r' + 1) (k + 1) (ud a k w) := by rw [tS_0, cF_s]; rfl
              have h5 := ih r' (by omega) (k + 1) 0 (ud a k w) cnt F U ngI _ (f0 + (6 - (w + 1)) * (2 + tC (r' + 1))) f (by omega) (by omega) (by decide) ha2 hf3 hG4 (by rw [pI_sI, if_pos ⟨rfl, rfl⟩]) hpre2 hF4 (Acc_cg (fun b _ => Bef_d.symm) hAw) (by rw [hsum]; omega) (by omega) (fun S' f' F' U' q1 q2 q3 q4 q5 => by
                rw [hsum] at q4 q5
                have hG5 : rG S' (fun y => y) a k := fun j hj => by
                  have h9 : pI S' 101 j = nI (ud a k w j) := q3 j (by omega)
                  rw [ud_n _ _ (by omega)] at h9
                  exact h9
                have hcur2 : pI S' 101 k = nI w := by
                  have h9 : pI S' 101 k = nI (ud a k w k) := q3 k (by omega)
                  rw [ud_s] at h9
                  exact h9
                have hA6 : Acc P d (Bef k a (w + 1)) (cnt + cF (sK P) d (r' + 1) (k + 1) (ud a k w)) F' U' := Acc_cg (fun b hb => Bef_u (hb.1 (k + 1) (show k + 1 < P 0 by omega)).1) q5
                rw [← Nat.add_assoc] at hH hbd
                have h6 := ihv (5 - (w + 1)) (by omega) (w + 1) a (cnt + cF (sK P) d (r' + 1) (k + 1) (ud a k w)) F' U' (nI w) S' f0 f' rfl hk (by omega) (o_add w 1) ha q2 hG5 hcur2 hpre q4 hA6 hbd q1 hH
                rw [hsum, pk_m1]
                exact h6)
              exact h5
    intro a cnt F U g S f0 f h1 h2 h3 h4 h5 h6 h7 h8 h9 h10 h11 h12 h13
    exact inner _ u a cnt F U g S f0 f rfl h1 h2 h3 h4 h5 h6 h7 h8 h9 h10 h11 h12 h13
/-- what 'solves' answers and leaves -/
def Sld (S : PS) (P d : Nat → Nat) : Prop := (Can (sK P) d → ∃ a, Lea (sK P) d a ∧ (∀ y, a y < 5) ∧ ∀ y, y < P 0 → pI S 102 y = nI (a y)) ∧ ∃ U : Nat → Nat, (∀ y, y < 7 → pI S 103 y = nI (U y)) ∧ (∀ y, y < 7 → U y < 32) ∧ ∀ x, x < P 0 → ∀ v, v < 5 → ((U x).testBit v = true ↔ inS P d x v)
theorem q_solves {S : PS} {P d : Nat → Nat} {Q : Int32 → PS → Prop} (hM : MShape S) (hp : rP S P) (hw : Pwf P) (hN : 0 < P 0) (hd : rD S 90 d) (hQ : ∀ S', fr [101, 102, 103] S S' → Sld S' P d → Q (nI (nF (sK P) d)) S') : wpX12_solves S 87 Q := by
  have hP0 := hw.1
  have hsw := sK_wf hw
  have main : ∀ r x S', x + r = 7 → fr [101, 102, 103] S S' → (∀ y, y < x → pI S' 101 y = ngI ∧ pI S' 103 y = nI 0) → wpX12_solves_b2 Q (r + 1) S' 87 (nI x) := by
    intro r
    induction r with
    | zero =>
      intro x S' hx hf h0
      have hM' := hf.M hM
      have hp' := hf.P (by decide) hp
      have hle : 7 ≤ x := by omega
      have hN0 : ¬ P 0 = 0 := by omega
      have hnFe : tS (fun w => if (d 0).testBit w = true then cF (sK P) d (P 0 - 1) (0 + 1) (ud (fun _ => 0) 0 w) else 0) 0 = nF (sK P) d := by
        rw [tS_0]
        have h1 := cF_s (sK P) d (P 0 - 1) 0 (fun _ => 0)
        rw [show P 0 - 1 + 1 = P 0 by omega] at h1
        exact h1.symm
      have hle2 := nF_le hsw d
      have h1 := q_sol (Q := Q) hM hp hw hd (P 0 - 1) 0 0 (fun _ => 0) 0 (fun _ => 0) (fun _ => 0) ngI S' 1 (1 + 6 * (2 + tC (P 0 - 1))) (by omega) (by omega) (by decide) (fun _ => by decide) hf (fun j hj => by omega) (h0 0 (by omega)).1 (fun y hy => by omega) ⟨fun q => absurd rfl q, fun y hy => (h0 y (by omega)).2, fun _ _ => (show (0 : Nat) < 32 by decide), fun _ => (show (0 : Nat) < 5 by decide)⟩ ⟨⟨fun _ ⟨b, _, hb⟩ => by
        rcases hb with ⟨j, hj, _⟩ | ⟨_, hj⟩
        · omega
        · omega, fun _ => rfl⟩, fun q => absurd rfl q, fun y hy v hv => ⟨fun q => by simp at q, fun ⟨b, _, hb, _⟩ => by
        rcases hb with ⟨j, hj, _⟩ | ⟨_, hj⟩
        · omega
        · omega⟩⟩ (by rw [hnFe]; omega) (by omega) (fun S2 f' F' U' q1 q2 q3 q4 q5 => by
        obtain ⟨f', rfl⟩ : ∃ j, f' = j + 1 := ⟨f' - 1, by omega⟩
        rw [hnFe, Nat.zero_add] at q4 q5 ⊢
        have hall : ∀ b, Ful (sK P) d b → Bef 0 (fun _ => 0) 5 b := fun b hb => Or.inr ⟨fun i hi => by omega, (hb.1 0 hN).1⟩
        have h2 := hQ S2 q2 ⟨fun hcan => by
          have hne : nF (sK P) d ≠ 0 := by have := (nF_pos hsw (d := d)).mpr hcan; omega
          obtain ⟨⟨b, hb, _, hag⟩, hall2⟩ := q5.2.1 hne
          refine ⟨F', ⟨⟨fun y hy => ?_, ?_⟩, fun b2 hb2 => hall2 b2 hb2 (hall b2 hb2)⟩, q4.2.2.2, q4.1 hne⟩
          · have h3 := hb.1 y hy
            have h4 : F' ((sK P).2.1 y) = b ((sK P).2.1 y) := hag y hy
            rw [h4]; exact h3
          · rw [hsw.2.2.2 F' b hag]; exact hb.2, U', q4.2.1, q4.2.2.1, fun x hx v hv => by
          rw [q5.2.2 x hx v hv]
          exact ⟨fun ⟨b, hb, _, e⟩ => ⟨b, hb, e⟩, fun ⟨b, hb, e⟩ => ⟨b, hb, hall b hb, e⟩⟩⟩
        have e : (nI 0 + -1 : Int32) = ngI := by decide
        rw [e]
        have e2 : (ngI < nI 0) = True := m_lt 0 (by decide)
        simp (disch := omega) only [wpX12_solves_b43, c_0, c_1, c_2, c_3, c_4, c_5, c_6, c_7, c_8, c_9, c_10, c_11, c_12, c_14, c_16, c_19, c_20, c_24, c_31, c_32, c_35, c_48, c_57, c_59, c_63, c_97, c_100, c_122, c_127, c_169, c_255, c_600, c_1000, c_32767, Nat.le_refl, Nat.zero_le, Nat.add_zero, Nat.lt_irrefl, eq_self, o_sub, Nat.sub_zero, Nat.not_lt_zero, ↓ng_d, o_le, o_lt, o_eq, o_add, o_mul, o_cl, o_inT, o_and, n_31, o_shr, o_shl1, o_or, m_lt, m_ge, m_le, m_gt, m_ne, m_ne2, Option.some.injEq, exists_eq_left', true_and, and_true, true_implies, false_implies, implies_true, not_true_eq_false, not_false_eq_true, bI_0, bI_1, bI_01, b01, true_or, or_true, Nat.reduceEqDiff, Bool.not_eq_false, Bool.not_eq_true, Bool.true_eq_false, Bool.false_eq_true]
        exact h2)
      simp (disch := omega) only [wpX12_solves_b2, c_0, c_1, c_2, c_3, c_4, c_5, c_6, c_7, c_8, c_9, c_10, c_11, c_12, c_14, c_16, c_19, c_20, c_24, c_31, c_32, c_35, c_48, c_57, c_59, c_63, c_97, c_100, c_122, c_127, c_169, c_255, c_600, c_1000, c_32767, Nat.le_refl, Nat.zero_le, Nat.add_zero, Nat.lt_irrefl, eq_self, o_sub, Nat.sub_zero, Nat.not_lt_zero, ↓ng_d, o_le, o_lt, o_eq, o_add, o_mul, o_cl, o_inT, o_and, n_31, o_shr, o_shl1, o_or, m_lt, m_ge, m_le, m_gt, m_ne, m_ne2, Option.some.injEq, exists_eq_left', true_and, and_true, true_implies, false_implies, implies_true, not_true_eq_false, not_false_eq_true, bI_0, bI_1, bI_01, b01, true_or, or_true, Nat.reduceEqDiff, Bool.not_eq_false, Bool.not_eq_true, Bool.true_eq_false, Bool.false_eq_true, msk hM', msr_p hM', msk_p hM', msl_p hM', hp' 0 (by decide), hle, hN0]
      exact ⟨_, h1⟩
    | succ r ih =>
      intro x S' hx hf h0
      have hM' := hf.M hM
      have hx7 : x < 7 := by omega
      have hle : ¬ 7 ≤ x := by omega
      have h1 := ih (x + 1) (sI (sI S' 101 x ngI) 103 x (nI 0)) (by omega) (fr_t hf (fr_t (fr_sI _ _ _ (by decide)) (fr_sI _ _ _ (by decide)))) (fun y hy => by
        rw [pI_sI, if_neg (fun q => by omega), pI_sI, pI_sI]
        by_cases e : y = x
        · rw [if_pos ⟨rfl, e⟩, if_pos ⟨rfl, e⟩]; exact ⟨rfl, rfl⟩
        · rw [if_neg (fun q => e q.2), if_neg (fun q => e q.2), pI_sI, if_neg (fun q => by omega)]
          exact h0 y (by omega))
      generalize r + 1 = fu at h1 ⊢
      simp (disch := omega) only [wpX12_solves_b2, c_0, c_1, c_2, c_3, c_4, c_5, c_6, c_7, c_8, c_9, c_10, c_11, c_12, c_14, c_16, c_19, c_20, c_24, c_31, c_32, c_35, c_48, c_57, c_59, c_63, c_97, c_100, c_122, c_127, c_169, c_255, c_600, c_1000, c_32767, Nat.le_refl, Nat.zero_le, Nat.add_zero, Nat.lt_irrefl, eq_self, o_sub, Nat.sub_zero, Nat.not_lt_zero, ↓ng_d, o_le, o_lt, o_eq, o_add, o_mul, o_cl, o_inT, o_and, n_31, o_shr, o_shl1, o_or, m_lt, m_ge, m_le, m_gt, m_ne, m_ne2, Option.some.injEq, exists_eq_left', true_and, and_true, true_implies, false_implies, implies_true, not_true_eq_false, not_false_eq_true, bI_0, bI_1, bI_01, b01, true_or, or_true, Nat.reduceEqDiff, Bool.not_eq_false, Bool.not_eq_true, Bool.true_eq_false, Bool.false_eq_true, msk hM', msr_given hM', msk_given hM', msl_given hM', msr_possible hM', msk_possible hM', msl_possible hM', hle]
      exact h1
  unfold wpX12_solves
  exact ⟨_, main 7 0 S (Nat.zero_add _) (fr_r _ _) (fun y hy => by omega)⟩

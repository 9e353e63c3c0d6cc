/-! THE CLASS: its solutions -/
theorem blk_ok {P d e : Nat → Nat} (hw : Pwf P) (ho : opn P d (P 1) e) (hf : Fre P d (P 0)) : ∀ b, Asg (sK P) d b → (sK P).2.2 b = true := fun b hb => by
  rw [sK_ok]
  intro c hc
  have hbc := Asg_c hw hc hb
  rcases hf c hc with h | h
  · exact h b hbc
  · rcases ho.2 c hc with h2 | h2
    · exact h2 b hbc
    · refine h2.2 b hbc (fun k hk u hu hbu => ?_)
      obtain ⟨w, hw5, hdw⟩ := h k hk (mK_lt hw hc k hk)
      have h3 := hbc k hk
      rw [hdw, dm_pow_tb w hw5 u hu] at hbu
      rw [hdw, dm_pow_tb w hw5 _ h3.1] at h3
      have q1 : u = w := by simpa using hbu
      have q2 : b ((cK P c).2.1 k) = w := by simpa using h3.2
      rw [q1, q2]
theorem pF_pos (m d : Nat → Nat) : ∀ r p, 0 < pF m d r p → ∀ k, p ≤ k → k < p + r → d (m k) ≠ 0 := by
  intro r
  induction r with
  | zero => intro p _ k h1 h2; omega
  | succ r ih =>
    intro p h k h1 h2
    have h3 : 0 < pcn 5 (d (m p)) * pF m d r (p + 1) := h
    have h4 := Nat.pos_of_mul_pos_right h3
    have h5 := Nat.pos_of_mul_pos_left h3
    by_cases e : k = p
    · intro z
      rw [e] at z
      rw [z, pcn_0] at h4
      omega
    · exact ih (p + 1) h5 k (by omega) (by omega)
theorem oneOf_a0 {P d : Nat → Nat} (hd : Dwf d) (hz : ∀ x, P 0 ≤ x → x < 7 → d x = 0) (hne : ∀ x, x < P 0 → d x ≠ 0) : pk (fun x => lo1 (d x)) = pk (oneOf (sK P) (a0 d)) := by
  apply pq_cg
  intro x hx
  unfold oneOf
  by_cases q : x < P 0
  · rw [if_pos (show inM (sK P) x = true from inM_t.mpr ⟨x, q, rfl⟩)]
    unfold lo1
    rw [if_neg (hne x q)]
    rfl
  · rw [if_neg (show ¬ inM (sK P) x = true from fun z => by
      obtain ⟨k, hk, e⟩ := inM_t.mp z
      have hk' : k < P 0 := hk
      have e' : k = x := e
      omega), hz x (by omega) hx]
    rfl
theorem q_addAll {S : PS} {P d e : Nat → Nat} {var cnt : Nat} {D L : Int64} {U : Nat → Nat} {Q : PS → Prop} (hw : Pwf P) (hd : Dwf d) (hz : ∀ x, P 0 ≤ x → x < 7 → d x = 0) (ho : opn P d (P 1) e) (hf : Fre P d (P 0)) (hS : FSt D S cnt L U) (hb : cnt + nF (sK P) d ≤ 100000)
    (hQ : ∀ S' cnt' L' U', fr [83] S S' → FSt D S' cnt' L' U' → FSp P d var cnt cnt' L L' U U' → Q S') : wpX7_addAll S 83 (pk d) (nI (asgN d (fun x => P (2 + x)))) Q := by
  have hκ := sK_wf hw
  have hall := blk_ok hw ho hf
  have hnF : nF (sK P) d = asgN d (fun x => P (2 + x)) := by
    have h1 : nF (sK P) d = pF (sK P).2.1 d (sK P).1 0 := cF_1 hκ hd _ _ _ (Nat.zero_add _) (fun b hb => hall b (fun k hk => hb.2 k (Nat.zero_le _) hk))
    have h2 := pF_pN (fun k => k) d (P 0) 0
    rw [asgN_sK hw, h1]
    rw [Nat.zero_add] at h2
    rw [h2]
    show _ = 1 * _
    rw [Nat.one_mul]
    rfl
  obtain ⟨s1, s2, s3, s4, s5, s6, s7⟩ := hS
  by_cases hzr : asgN d (fun x => P (2 + x)) = 0
  · have hno : ¬ Can (sK P) d := fun q => by
      have := (nF_pos hκ).mpr q
      omega
    have h1 := hQ S cnt L U (fr_r _ _) ⟨s1, s2, s3, s4, s5, s6, s7⟩ (FSp_0 hw hno)
    simp (disch := omega) only [wpX7_addAll, c_0, c_1, c_2, c_3, c_4, c_5, c_6, c_7, c_8, c_9, c_10, c_11, c_12, c_14, c_16, c_19, c_20, c_24, c_31, c_32, c_35, c_48, c_57, c_59, c_63, c_97, c_100, c_122, c_127, c_169, c_255, c_600, c_1000, c_32767, Nat.le_refl, Nat.zero_le, Nat.add_zero, Nat.lt_irrefl, eq_self, o_sub, Nat.sub_zero, Nat.not_lt_zero, ↓ng_d, o_le, o_lt, o_eq, o_add, o_mul, o_cl, o_inT, o_and, n_31, o_shr, o_shl1, o_or, m_lt, m_ge, m_le, m_gt, m_ne, m_ne2, Option.some.injEq, exists_eq_left', true_and, and_true, true_implies, false_implies, implies_true, not_true_eq_false, not_false_eq_true, bI_0, bI_1, bI_01, b01, true_or, or_true, Nat.reduceEqDiff, Bool.not_eq_false, Bool.not_eq_true, Bool.true_eq_false, Bool.false_eq_true, hzr]
    exact h1
  · have hpos : ¬ asgN d (fun x => P (2 + x)) ≤ 0 := by omega
    have hne : ∀ x, x < P 0 → d x ≠ 0 := fun x hx => by
      have h1 : nF (sK P) d = pF (sK P).2.1 d (sK P).1 0 := cF_1 hκ hd _ _ _ (Nat.zero_add _) (fun b hb => hall b (fun k hk => hb.2 k (Nat.zero_le _) hk))
      have h2 := pF_pos (sK P).2.1 d (sK P).1 0 (by omega) x (Nat.zero_le _) (by show x < 0 + P 0; omega)
      exact h2
    have hlea : Lea (sK P) d (a0 d) := a0_lea hκ hd (fun k hk => hne k hk) (hall _ (a0_asg hκ hd (fun k hk => hne k hk)))
    have hcan : Can (sK P) d := ⟨_, hlea.1⟩
    have hone := oneOf_a0 (P := P) hd hz hne
    have hin : ∀ x, x < P 0 → ∀ v, v < 5 → ((d x).testBit v = true ↔ inS P d x v) := fun x hx v hv => by
      constructor
      · intro hbv
        have hA : Asg (sK P) d (ud (a0 d) x v) := fun k hk => by
          have hk' : k < P 0 := hk
          show ud (a0 d) x v k < 5 ∧ (d k).testBit (ud (a0 d) x v k) = true
          by_cases q : k = x
          · rw [q, ud_s]; exact ⟨hv, hbv⟩
          · rw [ud_n _ _ q]; exact hlea.1.1 k hk
        exact ⟨ud (a0 d) x v, ⟨hA, hall _ hA⟩, ud_s _ _ _⟩
      · rintro ⟨b, hb1, hb2⟩
        have := (hb1.1 x hx).2
        have h3 : (d x).testBit (b x) = true := this
        rw [hb2] at h3
        exact h3
    have fin : ∀ L', ((cnt ≠ 0 → L' = L) ∧ (cnt = 0 → L' = pk (fun x => lo1 (d x)))) → Q (sI (sJ (sJ S 83 2 L') 83 3 (pk (fun x => U x ||| d x))) 83 1 (nI (cnt + asgN d (fun x => P (2 + x))))) := fun L' hL => by
      refine hQ _ (cnt + asgN d (fun x => P (2 + x))) L' (fun x => U x ||| d x) (fr_t (fr_t (fr_sJ _ _ _ (by decide)) (fr_sJ _ _ _ (by decide))) (fr_sI _ _ _ (by decide))) ⟨s1, ?_, ?_, ?_, fun x hx => dm_or_lt _ (s5 x hx) _ (hd x hx), ?_, ?_⟩ ⟨by rw [hnF], fun q => ?_, fun q _ => ⟨a0 d, hlea, fun y _ _ => rfl, by rw [hL.2 q, hone]⟩, fun x hx v hv => ?_, fun x hx hx7 => ?_⟩
      · rw [pI_sI, if_pos ⟨rfl, rfl⟩]
      · simp [pJ_sI, pJ_sJ]
      · simp [pJ_sI, pJ_sJ]
      · simp [pI_sI, pI_sJ, s6]
      · simp [pJ_sI, pJ_sJ, s7]
      · rcases q with q | q
        · exact hL.1 q
        · exact absurd hcan q
      · show (U x ||| d x).testBit v = true ↔ _
        rw [Nat.testBit_or, Bool.or_eq_true, hin x hx v hv]
      · show U x ||| d x = U x
        rw [hz x hx hx7, Nat.or_zero]
    have hor := pq_or s5 hd
    by_cases ec : cnt = 0
    · have h1 := fin _ ⟨fun q => absurd ec q, fun _ => rfl⟩
      have h2 : wpX5_leastOfEach S (pk d) (fun r4 S5 => (wpX7_addAll_b23 Q S5 83 (pk d) (nI (asgN d (fun x => P (2 + x)))) 83 r4)) := by
        refine q_leastOfEach hd ?_
        simp (disch := omega) only [wpX7_addAll_b23, c_0, c_1, c_2, c_3, c_4, c_5, c_6, c_7, c_8, c_9, c_10, c_11, c_12, c_14, c_16, c_19, c_20, c_24, c_31, c_32, c_35, c_48, c_57, c_59, c_63, c_97, c_100, c_122, c_127, c_169, c_255, c_600, c_1000, c_32767, Nat.le_refl, Nat.zero_le, Nat.add_zero, Nat.lt_irrefl, eq_self, o_sub, Nat.sub_zero, Nat.not_lt_zero, ↓ng_d, o_le, o_lt, o_eq, o_add, o_mul, o_cl, o_inT, o_and, n_31, o_shr, o_shl1, o_or, m_lt, m_ge, m_le, m_gt, m_ne, m_ne2, Option.some.injEq, exists_eq_left', true_and, and_true, true_implies, false_implies, implies_true, not_true_eq_false, not_false_eq_true, bI_0, bI_1, bI_01, b01, true_or, or_true, Nat.reduceEqDiff, Bool.not_eq_false, Bool.not_eq_true, Bool.true_eq_false, Bool.false_eq_true, s1, s2, s4, pI_sJ, pJ_sJ, pK_sJ, hor, Nat.reduceEqDiff, and_false, if_false]
        exact h1
      simp (disch := omega) only [wpX7_addAll, c_0, c_1, c_2, c_3, c_4, c_5, c_6, c_7, c_8, c_9, c_10, c_11, c_12, c_14, c_16, c_19, c_20, c_24, c_31, c_32, c_35, c_48, c_57, c_59, c_63, c_97, c_100, c_122, c_127, c_169, c_255, c_600, c_1000, c_32767, Nat.le_refl, Nat.zero_le, Nat.add_zero, Nat.lt_irrefl, eq_self, o_sub, Nat.sub_zero, Nat.not_lt_zero, ↓ng_d, o_le, o_lt, o_eq, o_add, o_mul, o_cl, o_inT, o_and, n_31, o_shr, o_shl1, o_or, m_lt, m_ge, m_le, m_gt, m_ne, m_ne2, Option.some.injEq, exists_eq_left', true_and, and_true, true_implies, false_implies, implies_true, not_true_eq_false, not_false_eq_true, bI_0, bI_1, bI_01, b01, true_or, or_true, Nat.reduceEqDiff, Bool.not_eq_false, Bool.not_eq_true, Bool.true_eq_false, Bool.false_eq_true, hpos, s1, s2, ec]
      exact h2
    · have h1 := fin L ⟨fun _ => rfl, fun q => absurd q ec⟩
      simp (disch := omega) only [wpX7_addAll, wpX7_addAll_b23, c_0, c_1, c_2, c_3, c_4, c_5, c_6, c_7, c_8, c_9, c_10, c_11, c_12, c_14, c_16, c_19, c_20, c_24, c_31, c_32, c_35, c_48, c_57, c_59, c_63, c_97, c_100, c_122, c_127, c_169, c_255, c_600, c_1000, c_32767, Nat.le_refl, Nat.zero_le, Nat.add_zero, Nat.lt_irrefl, eq_self, o_sub, Nat.sub_zero, Nat.not_lt_zero, ↓ng_d, o_le, o_lt, o_eq, o_add, o_mul, o_cl, o_inT, o_and, n_31, o_shr, o_shl1, o_or, m_lt, m_ge, m_le, m_gt, m_ne, m_ne2, Option.some.injEq, exists_eq_left', true_and, and_true, true_implies, false_implies, implies_true, not_true_eq_false, not_false_eq_true, bI_0, bI_1, bI_01, b01, true_or, or_true, Nat.reduceEqDiff, Bool.not_eq_false, Bool.not_eq_true, Bool.true_eq_false, Bool.false_eq_true, hpos, s1, s2, s3, s4, ec, pI_sJ, pJ_sJ, pK_sJ, hor, Nat.reduceEqDiff, and_false, if_false]
      exact h1
theorem lex_of {a b : Nat → Nat} : ∀ n, (∀ y, y < n → a y ≤ b y) → a n < b n → ∃ k, k ≤ n ∧ a k < b k ∧ ∀ j, j < k → a j = b j := by
  intro n
  induction n using Nat.strongRecOn with
  | _ n ih =>
    intro h1 h2
    by_cases q : ∃ y, y < n ∧ a y < b y
    · obtain ⟨y, hy, hlt⟩ := q
      obtain ⟨k, k1, k2, k3⟩ := ih y hy (fun z hz => h1 z (by omega)) hlt
      exact ⟨k, by omega, k2, k3⟩
    · exact ⟨n, Nat.le_refl _, h2, fun j hj => by
        have := h1 j hj
        apply Classical.byContradiction
        intro z
        exact q ⟨j, hj, by omega⟩⟩
theorem Fre_n {P d : Nat → Nat} (hw : Pwf P) {x w : Nat} (hx : x < P 0) (hd : Dwf d) (hw5 : w < 5) (hb : (d x).testBit w = true) (hf : Fre P d x) : Fre P (ud d x (2 ^ w)) (x + 1) := fun c hc => by
  rcases hf c hc with h | h
  · refine Or.inl (fun b hbA => h b (fun k hk => ?_))
    have := hbA k hk
    by_cases q : (cK P c).2.1 k = x
    · rw [q, ud_s] at this
      rw [q]
      have h2 := this.2
      rw [dm_pow_tb w hw5 _ this.1] at h2
      have : b x = w := by simpa using h2
      rw [this]
      exact ⟨hw5, hb⟩
    · rw [ud_n _ _ q] at this
      exact this
  · refine Or.inr (fun k hk hlt => ?_)
    by_cases q : (cK P c).2.1 k = x
    · rw [q, ud_s]; exact ⟨w, hw5, rfl⟩
    · rw [ud_n _ _ q]; exact h k hk (by omega)
theorem Fre_s {P d e : Nat → Nat} {x : Nat} (ho : opn P d (P 1) e) (he : e x = 0) (hf : Fre P d x) : Fre P d (x + 1) := fun c hc => by
  rcases hf c hc with h | h
  · exact Or.inl h
  · rcases ho.2 c hc with h2 | h2
    · exact Or.inl h2
    · refine Or.inr (fun k hk hlt => h k hk ?_)
      have h3 := h2.1 k hk
      have : (cK P c).2.1 k ≠ x := fun q => by rw [q, he] at h3; omega
      omega
/-- the values before v of one variable have been gone through -/
def PLp (P d : Nat → Nat) (x v cnt cnt' : Nat) (L L' : Int64) (U U' : Nat → Nat) : Prop := cnt' = cnt + sN (fun w => if w < v ∧ (d x).testBit w = true then nF (sK P) (ud d x (2 ^ w)) else 0) 5 ∧ ((cnt ≠ 0 ∨ ¬ ∃ b, Ful (sK P) d b ∧ b x < v) → L' = L) ∧ (cnt = 0 → (∃ b, Ful (sK P) d b ∧ b x < v) → ∃ a, Lea (sK P) d a ∧ (∀ y, y < x → y < P 0 → a y = pick5 (dF (d y))) ∧ L' = pk (oneOf (sK P) a)) ∧ (∀ y, y < P 0 → ∀ u, u < 5 → ((U' y).testBit u = true ↔ (U y).testBit u = true ∨ ∃ b, Ful (sK P) d b ∧ b x < v ∧ b y = u)) ∧ ∀ y, P 0 ≤ y → y < 7 → U' y = U y
theorem sN_lts {f : Nat → Nat} {p : Nat → Bool} {v : Nat} (hv : v < 5) : sN (fun w => if w < v + 1 ∧ p w = true then f w else 0) 5 = sN (fun w => if w < v ∧ p w = true then f w else 0) 5 + (if p v = true then f v else 0) := by
  simp only [sN]
  rcases lt5 hv with rfl | rfl | rfl | rfl | rfl <;> simp <;> omega
theorem Ful_ud {P d b : Nat → Nat} (hw : Pwf P) {x w : Nat} (hx : x < P 0) (hd : Dwf d) (hw5 : w < 5) (hb : (d x).testBit w = true) : Ful (sK P) (ud d x (2 ^ w)) b ↔ (Ful (sK P) d b ∧ b x = w) := by
  have hκ := sK_wf hw
  constructor
  · rintro ⟨h1, h2⟩
    have h3 := (ud_asg hκ (p := x) hx hw5 hd).mp h1
    exact ⟨⟨asg_of_ud hκ (p := x) hx hw5 hd hb h1, h2⟩, h3.1⟩
  · rintro ⟨⟨h1, h2⟩, h3⟩
    have h4 := asg_ud hκ (p := x) hx hd h1
    have e : b ((sK P).2.1 x) = w := h3
    rw [e] at h4
    exact ⟨h4, h2⟩
theorem q_addFrom {S0 : PS} {pb : Nat} {P : Nat → Nat} {D : Int64} (hp0 : PRep S0 pb P) (hw : Pwf P) : ∀ (dep var : Nat) (d : Nat → Nat) (cnt : Nat) (L : Int64) (U : Nat → Nat) (S : PS) (Q : PS → Prop), var ≤ P 0 → P 0 - var < dep → Dwf d → (∀ x, P 0 ≤ x → x < 7 → d x = 0) → Fre P d var → cnt + nF (sK P) d ≤ 100000 → fr [83] S0 S → FSt D S cnt L U →
    (∀ S' cnt' L' U', fr [83] S0 S' → FSt D S' cnt' L' U' → FSp P d var cnt cnt' L L' U U' → Q S') → wpX7_addFrom dep S 83 pb (pk d) (nI var) Q := by
  have hκ := sK_wf hw
  have hP0 := hw.1
  intro dep
  induction dep with
  | zero => intro var d cnt L U S Q _ h; omega
  | succ dep ihd =>
    intro var d cnt L U S Q hvar hdep hd hz hfre hbound hf0 hS hQ
    have hA85 : ∀ a, a ∈ [83] → a < 85 ∨ (87 ≤ a ∧ a < 107) := fun a ha => by rw [List.mem_singleton] at ha; omega
    have hp := PRep_fr hf0 hA85 hp0
    unfold wpX7_addFrom
    refine ⟨hp.2.2.1, q_openScope hp hw hd (fun hex => ?_) (fun e ho => ?_)⟩
    · obtain ⟨c, hc, hno⟩ := hex
      have h1 := hQ S cnt L U hf0 hS (FSp_0 hw (fun ⟨b, hb1, hb2⟩ => by
        have := sK_ok.mp hb2 c hc
        rw [hno b (Asg_c hw hc hb1)] at this
        cases this))
      have e1 : (lg_cmp ngL ngL = nI 0) = True := by rw [lg_0]; simp
      simp (disch := omega) only [c_0, c_1, c_2, c_3, c_4, c_5, c_6, c_7, c_8, c_9, c_10, c_11, c_12, c_14, c_16, c_19, c_20, c_24, c_31, c_32, c_35, c_48, c_57, c_59, c_63, c_97, c_100, c_122, c_127, c_169, c_255, c_600, c_1000, c_32767, Nat.le_refl, Nat.zero_le, Nat.add_zero, Nat.lt_irrefl, eq_self, o_sub, Nat.sub_zero, Nat.not_lt_zero, ↓ng_d, o_le, o_lt, o_eq, o_add, o_mul, o_cl, o_inT, o_and, n_31, o_shr, o_shl1, o_or, m_lt, m_ge, m_le, m_gt, m_ne, m_ne2, Option.some.injEq, exists_eq_left', true_and, and_true, true_implies, false_implies, implies_true, not_true_eq_false, not_false_eq_true, bI_0, bI_1, bI_01, b01, true_or, or_true, Nat.reduceEqDiff, Bool.not_eq_false, Bool.not_eq_true, Bool.true_eq_false, Bool.false_eq_true, ngL_d, e1]
      exact h1
    · have e1 : (lg_cmp (pk e) ngL = nI 0) = False := by
        rw [lg_0]
        exact propext ⟨fun q => neg1_pk ho.1 q, fun q => q.elim⟩
      -- at the next variable
      have at49 : ∀ x, var ≤ x → x ≤ P 0 → Fre P d x → wpX7_addFrom_b49 (wpX7_addFrom dep) Q S 83 pb (pk d) (nI var) (pk e) (nI x) := by
        intro x hvx hx hfx
        by_cases hxN : x < P 0
        · have hx7 : x < 7 := by omega
          have hsp := nF_split hκ (d := d) (q := x) hxN
          have loop : ∀ r v cnt' L' U' S', v + r = 5 → fr [83] S0 S' → FSt D S' cnt' L' U' → PLp P d x v cnt cnt' L L' U U' → wpX7_addFrom_b75 (wpX7_addFrom dep) Q (r + 1) S' 83 pb (pk d) (nI var) (pk e) (nI x) (nI v) := by
            intro r
            induction r with
            | zero =>
              intro v cnt' L' U' S' hv hf hS' hPL
              have : v = 5 := by omega
              subst this
              obtain ⟨p1, p2, p3, p4, p5⟩ := hPL
              have hex : (∃ b, Ful (sK P) d b ∧ b x < 5) ↔ Can (sK P) d := ⟨fun ⟨b, q, _⟩ => ⟨b, q⟩, fun ⟨b, q⟩ => ⟨b, q, (q.1 x hxN).1⟩⟩
              have h1 := hQ S' cnt' L' U' hf hS' ⟨by
                rw [p1, hsp]
                congr 1
                apply sN_5
                intro w hw5
                have : (sK P).2.1 x = x := rfl
                rw [this]
                simp only [hw5, true_and], fun q => p2 (q.imp id (fun z y => z (hex.mp y))), fun q1 q2 => by
                obtain ⟨a, a1, a2, a3⟩ := p3 q1 (hex.mpr q2)
                exact ⟨a, a1, fun y hy hyN => a2 y (by omega) hyN, a3⟩, fun y hy u hu => by
                rw [p4 y hy u hu]
                constructor
                · rintro (q | ⟨b, b1, b2, b3⟩)
                  · exact Or.inl q
                  · exact Or.inr ⟨b, b1, b3⟩
                · rintro (q | ⟨b, b1, b3⟩)
                  · exact Or.inl q
                  · exact Or.inr ⟨b, b1, (b1.1 x hxN).1, b3⟩, p5⟩
              simp (disch := omega) only [wpX7_addFrom_b75, c_0, c_1, c_2, c_3, c_4, c_5, c_6, c_7, c_8, c_9, c_10, c_11, c_12, c_14, c_16, c_19, c_20, c_24, c_31, c_32, c_35, c_48, c_57, c_59, c_63, c_97, c_100, c_122, c_127, c_169, c_255, c_600, c_1000, c_32767, Nat.le_refl, Nat.zero_le, Nat.add_zero, Nat.lt_irrefl, eq_self, o_sub, Nat.sub_zero, Nat.not_lt_zero, ↓ng_d, o_le, o_lt, o_eq, o_add, o_mul, o_cl, o_inT, o_and, n_31, o_shr, o_shl1, o_or, m_lt, m_ge, m_le, m_gt, m_ne, m_ne2, Option.some.injEq, exists_eq_left', true_and, and_true, true_implies, false_implies, implies_true, not_true_eq_false, not_false_eq_true, bI_0, bI_1, bI_01, b01, true_or, or_true, Nat.reduceEqDiff, Bool.not_eq_false, Bool.not_eq_true, Bool.true_eq_false, Bool.false_eq_true]
              exact h1
            | succ r ih =>
              intro v cnt' L' U' S' hv hf hS' hPL
              have e5 : ¬ 5 ≤ v := by omega
              have hv5 : v < 5 := by omega
              have hn := ih (v + 1)
              generalize r + 1 = fu at hn ⊢
              obtain ⟨p1, p2, p3, p4, p5⟩ := hPL
              have hlts := sN_lts (f := fun w => nF (sK P) (ud d x (2 ^ w))) (p := fun w => (d x).testBit w) hv5
              cases hb : (d x).testBit v
              · have hnone : ∀ b, Ful (sK P) d b → (b x < v + 1 ↔ b x < v) := fun b hbF => by
                  have h3 := (hbF.1 x hxN).2
                  have h4 : (d x).testBit (b x) = true := h3
                  have : b x ≠ v := fun q => by rw [q, hb] at h4; cases h4
                  omega
                have hexi : (∃ b, Ful (sK P) d b ∧ b x < v + 1) ↔ ∃ b, Ful (sK P) d b ∧ b x < v := ⟨fun ⟨b, q1, q2⟩ => ⟨b, q1, (hnone b q1).mp q2⟩, fun ⟨b, q1, q2⟩ => ⟨b, q1, by omega⟩⟩
                have h1 := hn cnt' L' U' S' (by omega) hf hS' ⟨by rw [hlts]; simp only [hb, Bool.false_eq_true, if_false, Nat.add_zero]; exact p1, fun q => p2 (q.imp id (fun z y => z (hexi.mpr y))), fun q1 q2 => p3 q1 (hexi.mp q2), fun y hy u hu => by
                  rw [p4 y hy u hu]
                  constructor
                  · rintro (q | ⟨b, b1, b2, b3⟩)
                    · exact Or.inl q
                    · exact Or.inr ⟨b, b1, by omega, b3⟩
                  · rintro (q | ⟨b, b1, b2, b3⟩)
                    · exact Or.inl q
                    · exact Or.inr ⟨b, b1, (hnone b b1).mp b2, b3⟩, p5⟩
                simp (disch := omega) only [wpX7_addFrom_b75, c_0, c_1, c_2, c_3, c_4, c_5, c_6, c_7, c_8, c_9, c_10, c_11, c_12, c_14, c_16, c_19, c_20, c_24, c_31, c_32, c_35, c_48, c_57, c_59, c_63, c_97, c_100, c_122, c_127, c_169, c_255, c_600, c_1000, c_32767, Nat.le_refl, Nat.zero_le, Nat.add_zero, Nat.lt_irrefl, eq_self, o_sub, Nat.sub_zero, Nat.not_lt_zero, ↓ng_d, o_le, o_lt, o_eq, o_add, o_mul, o_cl, o_inT, o_and, n_31, o_shr, o_shl1, o_or, m_lt, m_ge, m_le, m_gt, m_ne, m_ne2, Option.some.injEq, exists_eq_left', true_and, and_true, true_implies, false_implies, implies_true, not_true_eq_false, not_false_eq_true, bI_0, bI_1, bI_01, b01, true_or, or_true, Nat.reduceEqDiff, Bool.not_eq_false, Bool.not_eq_true, Bool.true_eq_false, Bool.false_eq_true, e5, w_has5 hd hx7 hv5, hb]
                exact h1
              · have hap := and_pow _ (hd x hx7) v hv5 hb
                have hfu := fun b => Ful_ud (b := b) hw hxN hd hv5 hb
                have hnb : cnt' + nF (sK P) (ud d x (2 ^ v)) ≤ 100000 := by
                  have h3 : sN (fun w => if w < v + 1 ∧ (d x).testBit w = true then nF (sK P) (ud d x (2 ^ w)) else 0) 5 ≤ nF (sK P) d := by
                    rw [hsp]
                    have hle : ∀ w, (if w < v + 1 ∧ (d x).testBit w = true then nF (sK P) (ud d x (2 ^ w)) else 0) ≤ (if (d ((sK P).2.1 x)).testBit w = true then nF (sK P) (ud d ((sK P).2.1 x) (2 ^ w)) else 0) := fun w => by
                      have : (sK P).2.1 x = x := rfl
                      rw [this]
                      by_cases q : (d x).testBit w = true
                      · rw [if_pos q]; split <;> omega
                      · rw [if_neg (fun z => q z.2)]; exact Nat.zero_le _
                    have l0 := hle 0; have l1 := hle 1; have l2 := hle 2; have l3 := hle 3; have l4 := hle 4
                    simp only [sN]
                    omega
                  rw [hlts] at h3
                  simp only [hb, if_true] at h3
                  omega
                have hz2 : ∀ y, P 0 ≤ y → y < 7 → ud d x (2 ^ v) y = 0 := fun y h1 h2 => by rw [ud_n _ _ (by omega)]; exact hz y h1 h2
                have hrec := ihd (x + 1) (ud d x (2 ^ v)) cnt' L' U' S' (fun S6 => (wpX7_addFrom_b75 (wpX7_addFrom dep) Q fu S6 83 pb (pk d) (nI var) (pk e) (nI x) (nI (v + 1)))) (by omega) (by omega) (ud_wf hd (dm_pow_lt v hv5)) hz2 (Fre_n hw hxN hd hv5 hb hfx) hnb hf hS' (fun S2 cnt2 L2 U2 f2 s2 fs => by
                  obtain ⟨f1, f2', f3, f4, f5⟩ := fs
                  refine hn cnt2 L2 U2 S2 (by omega) f2 s2 ⟨?_, fun q => ?_, fun q1 q2 => ?_, fun y hy u hu => ?_, fun y h1 h2 => by rw [f5 y h1 h2]; exact p5 y h1 h2⟩
                  · rw [hlts]
                    simp only [hb, if_true]
                    omega
                  · -- nothing new to be the least
                    rcases q with q | q
                    · rw [f2' (Or.inl (by omega))]; exact p2 (Or.inl q)
                    · rw [f2' (Or.inr (fun ⟨b, hbF⟩ => q ⟨b, ((hfu b).mp hbF).1, by rw [((hfu b).mp hbF).2]; omega⟩))]
                      exact p2 (Or.inr (fun ⟨b, b1, b2⟩ => q ⟨b, b1, by omega⟩))
                  · by_cases hpre : ∃ b, Ful (sK P) d b ∧ b x < v
                    · obtain ⟨a, a1, a2, a3⟩ := p3 q1 hpre
                      refine ⟨a, a1, a2, ?_⟩
                      rw [f2' (Or.inl ?_), a3]
                      -- what came before is counted
                      obtain ⟨b, b1, b2⟩ := hpre
                      have hbb : b x < 5 ∧ (d x).testBit (b x) = true := b1.1 x hxN
                      have hpos : 0 < nF (sK P) (ud d x (2 ^ b x)) := (nF_pos hκ).mpr ⟨b, (Ful_ud hw hxN hd hbb.1 hbb.2).mpr ⟨b1, rfl⟩⟩
                      have : 0 < sN (fun w => if w < v ∧ (d x).testBit w = true then nF (sK P) (ud d x (2 ^ w)) else 0) 5 := sN_pos hbb.1 (by
                        show 0 < (if b x < v ∧ (d x).testBit (b x) = true then nF (sK P) (ud d x (2 ^ b x)) else 0)
                        rw [if_pos ⟨b2, hbb.2⟩]; exact hpos)
                      omega
                    · have hc0 : cnt' = 0 := by
                        have : sN (fun w => if w < v ∧ (d x).testBit w = true then nF (sK P) (ud d x (2 ^ w)) else 0) 5 = sN (fun _ => 0) 5 := by
                          apply sN_5
                          intro w hw5
                          by_cases z : w < v ∧ (d x).testBit w = true
                          · rw [if_pos z]
                            exact nF_0 hκ (fun ⟨b, hbF⟩ => by
                              have h3 := (Ful_ud hw hxN hd hw5 z.2).mp hbF
                              exact hpre ⟨b, h3.1, by rw [h3.2]; exact z.1⟩)
                          · rw [if_neg z]
                        rw [this] at p1
                        rw [p1, q1]; rfl
                      obtain ⟨b, b1, b2⟩ := q2
                      have hbv : b x = v := by
                        have : ¬ b x < v := fun z => hpre ⟨b, b1, z⟩
                        omega
                      obtain ⟨a, a1, a2, a3⟩ := f3 hc0 ⟨b, (hfu b).mpr ⟨b1, hbv⟩⟩
                      have haF := (hfu a).mp a1.1
                      have hpick : ∀ y, y < x → y < P 0 → a y = pick5 (dF (d y)) := fun y h1 h2 => by rw [a2 y (by omega) h2, ud_n _ _ (by omega)]
                      refine ⟨a, ⟨haF.1, fun b' hb' => ?_⟩, hpick, a3⟩
                      by_cases z : b' x = v
                      · exact a1.2 b' ((hfu b').mpr ⟨hb', z⟩)
                      · have hgt : v < b' x := by
                          have : ¬ b' x < v := fun z => hpre ⟨b', hb', z⟩
                          omega
                        obtain ⟨k, k1, k2, k3⟩ := lex_of (a := a) (b := b') x (fun y hy => by
                          have h3 : b' y < 5 ∧ (d y).testBit (b' y) = true := hb'.1 y (show y < P 0 by omega)
                          rw [hpick y hy (by omega)]
                          have hdy := hd y (by omega)
                          have hne : d y ≠ 0 := fun w => by rw [w] at h3; simp at h3
                          exact (lo1_tb _ hdy hne).2.2 _ h3.1 h3.2) (by rw [haF.2]; exact hgt)
                        exact Or.inr ⟨k, show k < P 0 by omega, k2, k3⟩
                  · rw [f4 y hy u hu, p4 y hy u hu]
                    constructor
                    · rintro ((q | ⟨b, b1, b2, b3⟩) | ⟨b, b1, b3⟩)
                      · exact Or.inl q
                      · exact Or.inr ⟨b, b1, by omega, b3⟩
                      · have h3 := (hfu b).mp b1
                        exact Or.inr ⟨b, h3.1, by rw [h3.2]; omega, b3⟩
                    · rintro (q | ⟨b, b1, b2, b3⟩)
                      · exact Or.inl (Or.inl q)
                      · by_cases z : b x = v
                        · exact Or.inr ⟨b, (hfu b).mpr ⟨b1, z⟩, b3⟩
                        · exact Or.inl (Or.inr ⟨b, b1, by omega, b3⟩))
                simp (disch := omega) only [wpX7_addFrom_b75, c_0, c_1, c_2, c_3, c_4, c_5, c_6, c_7, c_8, c_9, c_10, c_11, c_12, c_14, c_16, c_19, c_20, c_24, c_31, c_32, c_35, c_48, c_57, c_59, c_63, c_97, c_100, c_122, c_127, c_169, c_255, c_600, c_1000, c_32767, Nat.le_refl, Nat.zero_le, Nat.add_zero, Nat.lt_irrefl, eq_self, o_sub, Nat.sub_zero, Nat.not_lt_zero, ↓ng_d, o_le, o_lt, o_eq, o_add, o_mul, o_cl, o_inT, o_and, n_31, o_shr, o_shl1, o_or, m_lt, m_ge, m_le, m_gt, m_ne, m_ne2, Option.some.injEq, exists_eq_left', true_and, and_true, true_implies, false_implies, implies_true, not_true_eq_false, not_false_eq_true, bI_0, bI_1, bI_01, b01, true_or, or_true, Nat.reduceEqDiff, Bool.not_eq_false, Bool.not_eq_true, Bool.true_eq_false, Bool.false_eq_true, e5, w_has5 hd hx7 hv5, hb, w_narrowed hd hx7 hv5, hap]
                exact hrec
          have h1 := loop 5 0 cnt L U S rfl hf0 hS ⟨by simp [sN], fun _ => rfl, fun _ ⟨b, _, q⟩ => absurd q (Nat.not_lt_zero _), fun y _ u _ => ⟨Or.inl, fun q => q.elim id (fun ⟨b, _, q, _⟩ => absurd q (Nat.not_lt_zero _))⟩, fun _ _ _ => rfl⟩
          simp (disch := omega) only [wpX7_addFrom_b49, c_0, c_1, c_2, c_3, c_4, c_5, c_6, c_7, c_8, c_9, c_10, c_11, c_12, c_14, c_16, c_19, c_20, c_24, c_31, c_32, c_35, c_48, c_57, c_59, c_63, c_97, c_100, c_122, c_127, c_169, c_255, c_600, c_1000, c_32767, Nat.le_refl, Nat.zero_le, Nat.add_zero, Nat.lt_irrefl, eq_self, o_sub, Nat.sub_zero, Nat.not_lt_zero, ↓ng_d, o_le, o_lt, o_eq, o_add, o_mul, o_cl, o_inT, o_and, n_31, o_shr, o_shl1, o_or, m_lt, m_ge, m_le, m_gt, m_ne, m_ne2, Option.some.injEq, exists_eq_left', true_and, and_true, true_implies, false_implies, implies_true, not_true_eq_false, not_false_eq_true, bI_0, bI_1, bI_01, b01, true_or, or_true, Nat.reduceEqDiff, Bool.not_eq_false, Bool.not_eq_true, Bool.true_eq_false, Bool.false_eq_true, hp.2.2.1, hp.2.2.2.1, hxN]
          exact ⟨_, h1⟩
        · have hxe : x = P 0 := by omega
          have hnl : ¬ P 0 < P 0 := Nat.lt_irrefl _
          subst hxe
          have h1 : wpX5_assignments S (pk d) (pk (fun x => P (2 + x))) (fun r8 S9 => (pK S9 83 = 6 ∧ (wpX7_addAll S9 83 (pk d) r8 (fun S12 => (Q S12))))) := by
            refine q_assignments hd hw.2.2.1 ⟨hS.1, q_addAll hw hd hz ho hfx hS hbound (fun S' cnt' L' U' f1 s1 fs => hQ S' cnt' L' U' (fr_t hf0 f1) s1 fs)⟩
          have g6 := hp.2.2.2.2.2.1
          simp (disch := omega) only [wpX7_addFrom_b49, c_0, c_1, c_2, c_3, c_4, c_5, c_6, c_7, c_8, c_9, c_10, c_11, c_12, c_14, c_16, c_19, c_20, c_24, c_31, c_32, c_35, c_48, c_57, c_59, c_63, c_97, c_100, c_122, c_127, c_169, c_255, c_600, c_1000, c_32767, Nat.le_refl, Nat.zero_le, Nat.add_zero, Nat.lt_irrefl, eq_self, o_sub, Nat.sub_zero, Nat.not_lt_zero, ↓ng_d, o_le, o_lt, o_eq, o_add, o_mul, o_cl, o_inT, o_and, n_31, o_shr, o_shl1, o_or, m_lt, m_ge, m_le, m_gt, m_ne, m_ne2, Option.some.injEq, exists_eq_left', true_and, and_true, true_implies, false_implies, implies_true, not_true_eq_false, not_false_eq_true, bI_0, bI_1, bI_01, b01, true_or, or_true, Nat.reduceEqDiff, Bool.not_eq_false, Bool.not_eq_true, Bool.true_eq_false, Bool.false_eq_true, hp.2.2.1, hp.2.2.2.1, hnl, g6]
          exact h1
      have loop21 : ∀ r x, x + r = P 0 → var ≤ x → Fre P d x → wpX7_addFrom_b21 (wpX7_addFrom dep) Q (r + 1) S 83 pb (pk d) (nI var) (pk e) (nI x) := by
        intro r
        induction r with
        | zero =>
          intro x hx hvx hfx
          have h1 := at49 x hvx (by omega) hfx
          have : P 0 ≤ x := by omega
          simp (disch := omega) only [wpX7_addFrom_b21, c_0, c_1, c_2, c_3, c_4, c_5, c_6, c_7, c_8, c_9, c_10, c_11, c_12, c_14, c_16, c_19, c_20, c_24, c_31, c_32, c_35, c_48, c_57, c_59, c_63, c_97, c_100, c_122, c_127, c_169, c_255, c_600, c_1000, c_32767, Nat.le_refl, Nat.zero_le, Nat.add_zero, Nat.lt_irrefl, eq_self, o_sub, Nat.sub_zero, Nat.not_lt_zero, ↓ng_d, o_le, o_lt, o_eq, o_add, o_mul, o_cl, o_inT, o_and, n_31, o_shr, o_shl1, o_or, m_lt, m_ge, m_le, m_gt, m_ne, m_ne2, Option.some.injEq, exists_eq_left', true_and, and_true, true_implies, false_implies, implies_true, not_true_eq_false, not_false_eq_true, bI_0, bI_1, bI_01, b01, true_or, or_true, Nat.reduceEqDiff, Bool.not_eq_false, Bool.not_eq_true, Bool.true_eq_false, Bool.false_eq_true, hp.2.2.1, hp.2.2.2.1, this]
          exact h1
        | succ r ih =>
          intro x hx hvx hfx
          have hxN : ¬ P 0 ≤ x := by omega
          have hx7 : x < 7 := by omega
          have hn := ih (x + 1) (by omega) (by omega)
          generalize r + 1 = fu at hn ⊢
          have hz1 : (pk (sg x (e x)) = lN 0) = (e x = 0) := pq_sg0 (d := d) hx7 (ho.1 x hx7)
          have has : pk e &&& pk (sg x 31) = pk (sg x (e x)) := by rw [pq_asg ho.1 hx7 (by decide), dm_31 _ (ho.1 x hx7)]
          by_cases q : e x = 0
          · have hz2 : pk (sg x (e x)) = lN 0 := by rw [hz1]; exact q
            have h1 := hn (Fre_s ho q hfx)
            simp (disch := omega) only [wpX7_addFrom_b21, c_0, c_1, c_2, c_3, c_4, c_5, c_6, c_7, c_8, c_9, c_10, c_11, c_12, c_14, c_16, c_19, c_20, c_24, c_31, c_32, c_35, c_48, c_57, c_59, c_63, c_97, c_100, c_122, c_127, c_169, c_255, c_600, c_1000, c_32767, Nat.le_refl, Nat.zero_le, Nat.add_zero, Nat.lt_irrefl, eq_self, o_sub, Nat.sub_zero, Nat.not_lt_zero, ↓ng_d, o_le, o_lt, o_eq, o_add, o_mul, o_cl, o_inT, o_and, n_31, o_shr, o_shl1, o_or, m_lt, m_ge, m_le, m_gt, m_ne, m_ne2, Option.some.injEq, exists_eq_left', true_and, and_true, true_implies, false_implies, implies_true, not_true_eq_false, not_false_eq_true, bI_0, bI_1, bI_01, b01, true_or, or_true, Nat.reduceEqDiff, Bool.not_eq_false, Bool.not_eq_true, Bool.true_eq_false, Bool.false_eq_true, hp.2.2.1, hp.2.2.2.1, hxN, w_allOf hx7, has, l_0, lg_0, hz2]
            exact h1
          · have hz2 : ¬ pk (sg x (e x)) = lN 0 := by rw [hz1]; exact q
            have h1 := at49 x hvx (by omega) hfx
            simp (disch := omega) only [wpX7_addFrom_b21, c_0, c_1, c_2, c_3, c_4, c_5, c_6, c_7, c_8, c_9, c_10, c_11, c_12, c_14, c_16, c_19, c_20, c_24, c_31, c_32, c_35, c_48, c_57, c_59, c_63, c_97, c_100, c_122, c_127, c_169, c_255, c_600, c_1000, c_32767, Nat.le_refl, Nat.zero_le, Nat.add_zero, Nat.lt_irrefl, eq_self, o_sub, Nat.sub_zero, Nat.not_lt_zero, ↓ng_d, o_le, o_lt, o_eq, o_add, o_mul, o_cl, o_inT, o_and, n_31, o_shr, o_shl1, o_or, m_lt, m_ge, m_le, m_gt, m_ne, m_ne2, Option.some.injEq, exists_eq_left', true_and, and_true, true_implies, false_implies, implies_true, not_true_eq_false, not_false_eq_true, bI_0, bI_1, bI_01, b01, true_or, or_true, Nat.reduceEqDiff, Bool.not_eq_false, Bool.not_eq_true, Bool.true_eq_false, Bool.false_eq_true, hp.2.2.1, hp.2.2.2.1, hxN, w_allOf hx7, has, l_0, lg_0, hz2]
            exact h1
      have h1 := loop21 (P 0 - var) var (by omega) (Nat.le_refl _) hfre
      simp (disch := omega) only [c_0, c_1, c_2, c_3, c_4, c_5, c_6, c_7, c_8, c_9, c_10, c_11, c_12, c_14, c_16, c_19, c_20, c_24, c_31, c_32, c_35, c_48, c_57, c_59, c_63, c_97, c_100, c_122, c_127, c_169, c_255, c_600, c_1000, c_32767, Nat.le_refl, Nat.zero_le, Nat.add_zero, Nat.lt_irrefl, eq_self, o_sub, Nat.sub_zero, Nat.not_lt_zero, ↓ng_d, o_le, o_lt, o_eq, o_add, o_mul, o_cl, o_inT, o_and, n_31, o_shr, o_shl1, o_or, m_lt, m_ge, m_le, m_gt, m_ne, m_ne2, Option.some.injEq, exists_eq_left', true_and, and_true, true_implies, false_implies, implies_true, not_true_eq_false, not_false_eq_true, bI_0, bI_1, bI_01, b01, true_or, or_true, Nat.reduceEqDiff, Bool.not_eq_false, Bool.not_eq_true, Bool.true_eq_false, Bool.false_eq_true, ngL_d, e1]
      exact ⟨_, h1⟩

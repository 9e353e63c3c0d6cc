/-! HOW MANY FULFIL: the number, and the class's way to it -/
noncomputable def cF (κ : Kon) (d : Nat → Nat) : Nat → Nat → (Nat → Nat) → Nat
  | 0, _, a => if κ.2.2 a = true then 1 else 0
  | r + 1, p, a => sN (fun u => if (d (κ.2.1 p)).testBit u = true then cF κ d r (p + 1) (ud a (κ.2.1 p) u) else 0) 5
noncomputable def nF (κ : Kon) (d : Nat → Nat) : Nat := cF κ d κ.1 0 (fun _ => 0)
theorem cF_s (κ : Kon) (d : Nat → Nat) (r p : Nat) (a : Nat → Nat) : cF κ d (r + 1) p a = sN (fun u => if (d (κ.2.1 p)).testBit u = true then cF κ d r (p + 1) (ud a (κ.2.1 p) u) else 0) 5 := rfl
theorem sN_5 {f g : Nat → Nat} (h : ∀ u, u < 5 → f u = g u) : sN f 5 = sN g 5 := sN_cong h
theorem cF_d {κ : Kon} {d e : Nat → Nat} : ∀ (r p : Nat) (a : Nat → Nat), (∀ k, p ≤ k → k < p + r → d (κ.2.1 k) = e (κ.2.1 k)) → cF κ d r p a = cF κ e r p a := by
  intro r
  induction r with
  | zero => intro p a _; rfl
  | succ r ih =>
    intro p a h
    rw [cF_s, cF_s, h p (Nat.le_refl _) (by omega)]
    apply sN_5
    intro u _
    rw [ih (p + 1) _ (fun k h1 h2 => h k (by omega) (by omega))]
/-- the members' values alone matter -/
theorem cF_a {κ : Kon} (hκ : Kwf κ) {d : Nat → Nat} : ∀ (r p : Nat) (a b : Nat → Nat), p + r = κ.1 → (∀ k, k < p → a (κ.2.1 k) = b (κ.2.1 k)) → cF κ d r p a = cF κ d r p b := by
  intro r
  induction r with
  | zero =>
    intro p a b hp h
    unfold cF
    rw [hκ.2.2.2 a b (fun k hk => h k (by omega))]
  | succ r ih =>
    intro p a b hp h
    rw [cF_s, cF_s]
    apply sN_5
    intro u _
    rw [ih (p + 1) (ud a (κ.2.1 p) u) (ud b (κ.2.1 p) u) (by omega) (fun k hk => by
      by_cases e : κ.2.1 k = κ.2.1 p
      · rw [e, ud_s, ud_s]
      · rw [ud_n _ _ e, ud_n _ _ e]
        exact h k (by
          by_cases q : k = p
          · exact absurd (q ▸ rfl) e
          · omega))]
/-- all the ways from a on fulfil: it is a product -/
def pF (m : Nat → Nat) (d : Nat → Nat) : Nat → Nat → Nat
  | 0, _ => 1
  | r + 1, p => pcn 5 (d (m p)) * pF m d r (p + 1)
theorem pcn_sN : ∀ w, w < 32 → ∀ c, sN (fun u => if w.testBit u = true then c else 0) 5 = pcn 5 w * c := by
  intro w hw c
  have h : pcn 5 w = sN (fun u => if w.testBit u = true then 1 else 0) 5 := by
    have : ∀ w, w < 32 → pcn 5 w = sN (fun u => if w.testBit u = true then 1 else 0) 5 := by decide +kernel
    exact this w hw
  rw [h]
  simp only [sN]
  cases w.testBit 0 <;> cases w.testBit 1 <;> cases w.testBit 2 <;> cases w.testBit 3 <;> cases w.testBit 4 <;> simp <;> omega
def Cmp (κ : Kon) (d : Nat → Nat) (p : Nat) (a b : Nat → Nat) : Prop := (∀ k, k < p → b (κ.2.1 k) = a (κ.2.1 k)) ∧ ∀ k, p ≤ k → k < κ.1 → b (κ.2.1 k) < 5 ∧ (d (κ.2.1 k)).testBit (b (κ.2.1 k)) = true
theorem Cmp_s {κ : Kon} (hκ : Kwf κ) {d : Nat → Nat} {p u : Nat} {a b : Nat → Nat} (hp : p < κ.1) (hu : u < 5) (hb : (d (κ.2.1 p)).testBit u = true) (h : Cmp κ d (p + 1) (ud a (κ.2.1 p) u) b) : Cmp κ d p a b := by
  have hbp := h.1 p (by omega)
  rw [ud_s] at hbp
  refine ⟨fun k hk => ?_, fun k h1 h2 => ?_⟩
  · rw [h.1 k (by omega), ud_n _ _ (fun q => by have := hκ.2.2.1 k p (by omega) hp q; omega)]
  · by_cases e : k = p
    · subst e; rw [hbp]; exact ⟨hu, hb⟩
    · exact h.2 k (by omega) h2
theorem cF_0 {κ : Kon} (hκ : Kwf κ) {d : Nat → Nat} : ∀ (r p : Nat) (a : Nat → Nat), p + r = κ.1 → (∀ b, Cmp κ d p a b → κ.2.2 b = false) → cF κ d r p a = 0 := by
  intro r
  induction r with
  | zero =>
    intro p a hp h
    unfold cF
    rw [h a ⟨fun _ _ => rfl, fun k h1 h2 => by omega⟩]
    rfl
  | succ r ih =>
    intro p a hp h
    rw [cF_s]
    have : sN (fun u => if (d (κ.2.1 p)).testBit u = true then cF κ d r (p + 1) (ud a (κ.2.1 p) u) else 0) 5 = sN (fun _ => 0) 5 := by
      apply sN_5
      intro u hu
      by_cases e : (d (κ.2.1 p)).testBit u = true
      · rw [if_pos e]
        exact ih (p + 1) _ (by omega) (fun b hb => h b (Cmp_s hκ (by omega) hu e hb))
      · rw [if_neg e]
    rw [this]; rfl
theorem cF_1 {κ : Kon} (hκ : Kwf κ) {d : Nat → Nat} (hd : Dwf d) : ∀ (r p : Nat) (a : Nat → Nat), p + r = κ.1 → (∀ b, Cmp κ d p a b → κ.2.2 b = true) → cF κ d r p a = pF κ.2.1 d r p := by
  intro r
  induction r with
  | zero =>
    intro p a hp h
    unfold cF pF
    rw [h a ⟨fun _ _ => rfl, fun k h1 h2 => by omega⟩, if_pos rfl]
  | succ r ih =>
    intro p a hp h
    rw [cF_s]
    show _ = pcn 5 (d (κ.2.1 p)) * pF κ.2.1 d r (p + 1)
    rw [← pcn_sN _ (hd _ (hκ.2.1 p (by omega)))]
    apply sN_5
    intro u hu
    by_cases e : (d (κ.2.1 p)).testBit u = true
    · rw [if_pos e, if_pos e]
      exact ih (p + 1) _ (by omega) (fun b hb => h b (Cmp_s hκ (by omega) hu e hb))
    · rw [if_neg e, if_neg e]
/-- an alike value has as many -/
theorem cF_k {κ : Kon} (hκ : Kwf κ) {d : Nat → Nat} {p0 v w A : Nat} (hp0 : p0 < κ.1) (hA : alk κ v A) (hw : w < 5) (hb : A.testBit w = true) (hv : v < 5) : ∀ (r p : Nat) (a : Nat → Nat), p + r = κ.1 → p0 < p → (∀ j, j < κ.1 → a (κ.2.1 j) < 5) → a (κ.2.1 p0) = w → cF κ d r p (ud a (κ.2.1 p0) v) = cF κ d r p a := by
  intro r
  induction r with
  | zero =>
    intro p a hp hlt ha haw
    unfold cF
    rw [hA.2.2 w hw hb p0 hp0 a ha haw]
  | succ r ih =>
    intro p a hp hlt ha haw
    rw [cF_s, cF_s]
    apply sN_5
    intro u hu
    by_cases e : (d (κ.2.1 p)).testBit u = true
    · rw [if_pos e, if_pos e]
      have hne : κ.2.1 p0 ≠ κ.2.1 p := fun q => by have := hκ.2.2.1 p0 p hp0 (by omega) q; omega
      have hsw : ud (ud a (κ.2.1 p0) v) (κ.2.1 p) u = ud (ud a (κ.2.1 p) u) (κ.2.1 p0) v := funext fun y => by
        by_cases q1 : y = κ.2.1 p
        · rw [q1, ud_s, ud_n _ _ (Ne.symm hne), ud_s]
        · rw [ud_n _ _ q1]
          by_cases q2 : y = κ.2.1 p0
          · rw [q2, ud_s, ud_s]
          · rw [ud_n _ _ q2, ud_n _ _ q2, ud_n _ _ q1]
      rw [hsw]
      exact ih (p + 1) (ud a (κ.2.1 p) u) (by omega) (by omega) (fun j hj => by
        by_cases q : κ.2.1 j = κ.2.1 p
        · rw [q, ud_s]; exact hu
        · rw [ud_n _ _ q]; exact ha j hj) (by rw [ud_n _ _ hne]; exact haw)
    · rw [if_neg e, if_neg e]
/-! ===== assignments of a scope ===== -/
def pN7 (f : Nat → Nat) : Nat → Nat
  | 0 => 1
  | k + 1 => pN7 f k * f k
theorem pN7_cong {f g : Nat → Nat} {k : Nat} (h : ∀ i, i < k → f i = g i) : pN7 f k = pN7 g k := by
  induction k with
  | zero => rfl
  | succ k ih => simp only [pN7]; rw [ih (fun i hi => h i (by omega)), h k (by omega)]
/-- a product over the members is one over the variables -/
theorem mem_prod {κ : Kon} (hκ : Kwf κ) (f : Nat → Nat) : pN7 (fun x => if inM κ x = true then f x else 1) 7 = pN7 (fun k => f (κ.2.1 k)) κ.1 := by
  have h : ∀ n, n ≤ κ.1 → pN7 (fun x => if dB (∃ k, k < n ∧ κ.2.1 k = x) = true then f x else 1) 7 = pN7 (fun k => f (κ.2.1 k)) n := by
    intro n
    induction n with
    | zero =>
      intro _
      have : ∀ j, pN7 (fun x => if dB (∃ k, k < 0 ∧ κ.2.1 k = x) = true then f x else 1) j = 1 := by
        intro j
        induction j with
        | zero => rfl
        | succ j ih =>
          simp only [pN7]
          rw [ih, if_neg (fun q => by obtain ⟨k, q1, _⟩ := dB_t.mp q; omega)]
      exact this 7
    | succ n ih =>
      intro hn
      have h1 := ih (by omega)
      have h7 := hκ.2.1 n (by omega)
      have gen : ∀ j, pN7 (fun x => if dB (∃ k, k < n + 1 ∧ κ.2.1 k = x) = true then f x else 1) j = pN7 (fun x => if dB (∃ k, k < n ∧ κ.2.1 k = x) = true then f x else 1) j * (if κ.2.1 n < j then f (κ.2.1 n) else 1) := by
        intro j
        induction j with
        | zero => simp [pN7]
        | succ j ihj =>
          simp only [pN7]
          rw [ihj]
          by_cases e : κ.2.1 n = j
          · rw [if_pos (dB_t.mpr ⟨n, by omega, e⟩), if_neg (show ¬ dB (∃ k, k < n ∧ κ.2.1 k = j) = true from fun q => by
              obtain ⟨k, q1, q2⟩ := dB_t.mp q
              have := hκ.2.2.1 k n (by omega) (by omega) (q2.trans e.symm)
              omega), if_neg (show ¬ κ.2.1 n < j by omega), if_pos (show κ.2.1 n < j + 1 by omega), e, Nat.mul_one]
          · have t : dB (∃ k, k < n + 1 ∧ κ.2.1 k = j) = dB (∃ k, k < n ∧ κ.2.1 k = j) := dB_c ⟨fun ⟨k, q, w⟩ => ⟨k, Or.elim (Nat.lt_or_ge k n) id (fun z => absurd ((show k = n by omega) ▸ w) e), w⟩, fun ⟨k, q, w⟩ => ⟨k, by omega, w⟩⟩
            rw [t]
            have t2 : (if κ.2.1 n < j + 1 then f (κ.2.1 n) else 1) = (if κ.2.1 n < j then f (κ.2.1 n) else 1) := by
              by_cases z : κ.2.1 n < j
              · rw [if_pos z, if_pos (show κ.2.1 n < j + 1 by omega)]
              · rw [if_neg z, if_neg (show ¬ κ.2.1 n < j + 1 by omega)]
            rw [t2, Nat.mul_assoc, Nat.mul_assoc, Nat.mul_comm (if κ.2.1 n < j then f (κ.2.1 n) else 1)]
      rw [gen 7, h1, if_pos h7]
      rfl
  exact h κ.1 (Nat.le_refl _)
theorem pF_pN (m d : Nat → Nat) : ∀ r p, pN7 (fun k => pcn 5 (d (m k))) (p + r) = pN7 (fun k => pcn 5 (d (m k))) p * pF m d r p := by
  intro r
  induction r with
  | zero => intro p; simp [pF]
  | succ r ih =>
    intro p
    rw [show p + (r + 1) = (p + 1) + r by omega, ih (p + 1)]
    simp only [pN7, pF]
    rw [Nat.mul_assoc]
theorem pN7_1 {f : Nat → Nat} : ∀ n, (∀ i, i < n → f i = 1) → pN7 f n = 1 := by
  intro n
  induction n with
  | zero => intro _; rfl
  | succ n ih => intro h; simp only [pN7]; rw [ih (fun i hi => h i (by omega)), h n (by omega)]
/-- the product over a scope given by its mask -/
def asgN (d e : Nat → Nat) : Nat := pN7 (fun x => if e x = 0 then 1 else pcn 5 (d x)) 7
theorem q_assignments {S : PS} {d e : Nat → Nat} {Q : Int32 → PS → Prop} (hd : Dwf d) (he : Dwf e) (hQ : Q (nI (asgN d e)) S) : wpX5_assignments S (pk d) (pk e) Q := by
  have main : ∀ r k, k + r = 7 → wpX5_assignments_b6 Q (r + 1) S (pk d) (pk e) (nI (pN7 (fun x => if e x = 0 then 1 else pcn 5 (d x)) k)) (nI k) := by
    intro r
    induction r with
    | zero =>
      intro k hk
      have : k = 7 := by omega
      subst this
      simp (disch := omega) only [wpX5_assignments_b6, c_0, c_1, c_2, c_3, c_4, c_5, c_6, c_7, c_8, c_9, c_10, c_11, c_12, c_14, c_16, c_19, c_20, c_24, c_31, c_32, c_35, c_48, c_57, c_59, c_63, c_97, c_100, c_122, c_127, c_169, c_255, c_600, c_1000, c_32767, Nat.le_refl, Nat.zero_le, Nat.add_zero, Nat.lt_irrefl, eq_self, o_sub, Nat.sub_zero, Nat.not_lt_zero, ↓ng_d, o_le, o_lt, o_eq, o_add, o_mul, o_cl, o_inT, o_and, n_31, o_shr, o_shl1, o_or, m_lt, m_ge, m_le, m_gt, m_ne, m_ne2, Option.some.injEq, exists_eq_left', true_and, and_true, true_implies, false_implies, implies_true, not_true_eq_false, not_false_eq_true, bI_0, bI_1, bI_01, b01, true_or, or_true, Nat.reduceEqDiff, Bool.not_eq_false, Bool.not_eq_true, Bool.true_eq_false, Bool.false_eq_true]
      exact hQ
    | succ r ih =>
      intro k hk
      have e7 : ¬ 7 ≤ k := by omega
      have hk7 : k < 7 := by omega
      have hn := ih (k + 1) (by omega)
      generalize r + 1 = fu at hn ⊢
      simp only [pN7] at hn
      have hz : (pk (sg k (e k &&& 31)) = lN 0) = (e k = 0) := by rw [pq_sg0 (d := d) hk7 (dm_and_lt _ (he k hk7) _ (by decide)), dm_31 _ (he k hk7)]
      by_cases q : e k = 0
      · rw [if_pos q, Nat.mul_one] at hn
        have hz' : pk (sg k (e k &&& 31)) = lN 0 := by rw [hz]; exact q
        have hz2 : pk (sg k (e k)) = lN 0 := by rw [dm_31 _ (he k hk7)] at hz'; exact hz'
        simp (disch := omega) only [wpX5_assignments_b6, c_0, c_1, c_2, c_3, c_4, c_5, c_6, c_7, c_8, c_9, c_10, c_11, c_12, c_14, c_16, c_19, c_20, c_24, c_31, c_32, c_35, c_48, c_57, c_59, c_63, c_97, c_100, c_122, c_127, c_169, c_255, c_600, c_1000, c_32767, Nat.le_refl, Nat.zero_le, Nat.add_zero, Nat.lt_irrefl, eq_self, o_sub, Nat.sub_zero, Nat.not_lt_zero, ↓ng_d, o_le, o_lt, o_eq, o_add, o_mul, o_cl, o_inT, o_and, n_31, o_shr, o_shl1, o_or, m_lt, m_ge, m_le, m_gt, m_ne, m_ne2, Option.some.injEq, exists_eq_left', true_and, and_true, true_implies, false_implies, implies_true, not_true_eq_false, not_false_eq_true, bI_0, bI_1, bI_01, b01, true_or, or_true, Nat.reduceEqDiff, Bool.not_eq_false, Bool.not_eq_true, Bool.true_eq_false, Bool.false_eq_true, e7, w_allOf hk7, pq_asg he hk7, l_0, lg_0, hz', hz2]
        exact hn
      · rw [if_neg q] at hn
        have hz' : ¬ pk (sg k (e k &&& 31)) = lN 0 := by rw [hz]; exact q
        have hz2 : ¬ pk (sg k (e k)) = lN 0 := by rw [dm_31 _ (he k hk7)] at hz'; exact hz'
        simp (disch := omega) only [wpX5_assignments_b6, c_0, c_1, c_2, c_3, c_4, c_5, c_6, c_7, c_8, c_9, c_10, c_11, c_12, c_14, c_16, c_19, c_20, c_24, c_31, c_32, c_35, c_48, c_57, c_59, c_63, c_97, c_100, c_122, c_127, c_169, c_255, c_600, c_1000, c_32767, Nat.le_refl, Nat.zero_le, Nat.add_zero, Nat.lt_irrefl, eq_self, o_sub, Nat.sub_zero, Nat.not_lt_zero, ↓ng_d, o_le, o_lt, o_eq, o_add, o_mul, o_cl, o_inT, o_and, n_31, o_shr, o_shl1, o_or, m_lt, m_ge, m_le, m_gt, m_ne, m_ne2, Option.some.injEq, exists_eq_left', true_and, and_true, true_implies, false_implies, implies_true, not_true_eq_false, not_false_eq_true, bI_0, bI_1, bI_01, b01, true_or, or_true, Nat.reduceEqDiff, Bool.not_eq_false, Bool.not_eq_true, Bool.true_eq_false, Bool.false_eq_true, e7, w_allOf hk7, pq_asg he hk7, l_0, lg_0, hz', hz2, w_valuesOf hd hk7, w_bci, bci_5 _ (hd k hk7)]
        exact hn
  unfold wpX5_assignments
  exact ⟨_, main 7 0 rfl⟩
theorem asgN_scp {κ : Kon} (hκ : Kwf κ) (d : Nat → Nat) : asgN d (scp κ) = pN7 (fun k => pcn 5 (d (κ.2.1 k))) κ.1 := by
  rw [← mem_prod hκ (fun x => pcn 5 (d x))]
  unfold asgN
  apply pN7_cong
  intro x _
  cases hm : inM κ x
  · rw [scp_f hm]; rfl
  · rw [scp_t hm]; rfl
/-! ===== the class's count ===== -/
theorem sN_spl {f : Nat → Nat} (L A : Nat) (hL : L < 32) (hA : A < 32) : sN (fun u => if L.testBit u = true then f u else 0) 5 = sN (fun u => if (L &&& A).testBit u = true then f u else 0) 5 + sN (fun u => if (andn L (L &&& A)).testBit u = true then f u else 0) 5 := by
  have e : ∀ u, u < 5 → (andn L (L &&& A)).testBit u = (L.testBit u && !A.testBit u) := fun u hu => by
    rw [dm_andn_tb _ hL _ (dm_and_lt _ hL _ hA) u hu, Nat.testBit_and]
    cases L.testBit u <;> cases A.testBit u <;> rfl
  simp only [sN, Nat.testBit_and, e 0 (by decide), e 1 (by decide), e 2 (by decide), e 3 (by decide), e 4 (by decide)]
  have k : ∀ u, (if L.testBit u = true then f u else 0) = (if (L.testBit u && A.testBit u) = true then f u else 0) + (if (L.testBit u && !A.testBit u) = true then f u else 0) := fun u => by
    cases L.testBit u <;> cases A.testBit u <;> simp
  have k0 := k 0; have k1 := k 1; have k2 := k 2; have k3 := k 3; have k4 := k 4
  omega
theorem q_count {S : PS} {o : Nat} {κ : Kon} (hC : CC S o κ) (hκ : Kwf κ) : ∀ (dep r p : Nat) (d a : Nat → Nat) (Q : Int32 → PS → Prop), p + r = κ.1 → r < dep → Dwf d → (∀ k, k < p → a (κ.2.1 k) < 5 ∧ d (κ.2.1 k) = 2 ^ a (κ.2.1 k)) → (∀ k, k < κ.1 → a (κ.2.1 k) < 5) → Q (nI (cF κ d r p a)) S → wpX1_countFrom dep S o (pk d) (nI p) Q := by
  obtain ⟨h4, hc1, hc2, hc3, hver, halk⟩ := hC
  have hk7 := hκ.1
  intro dep
  induction dep with
  | zero => intro r p d a Q _ h; omega
  | succ dep ihd =>
    intro r p d a Q hpr hdep hd hfix ha5 hQ
    unfold wpX1_countFrom
    refine ⟨h4, hver d _ hd (fun v hv => ?_)⟩
    obtain ⟨hv2, hva⟩ := hv
    have hcmp : ∀ b, Cmp κ d p a b → Asg κ d b := fun b hb k hk => by
      by_cases e : k < p
      · rw [hb.1 k e, (hfix k e).2]
        exact ⟨(hfix k e).1, by rw [dm_pow_tb _ (hfix k e).1 _ (hfix k e).1]; simp⟩
      · exact hb.2 k (by omega) hk
    have hprod : asgN d (scp κ) = pF κ.2.1 d r p := by
      rw [asgN_scp hκ, ← hpr, pF_pN, pN7_1 p (fun i hi => by
        rw [(hfix i hi).2]
        have : ∀ v, v < 5 → pcn 5 (2 ^ v) = 1 := by decide +kernel
        exact this _ (hfix i hi).1), Nat.one_mul]
    have hall : v ≠ 0 → (v = 2 ∨ p = κ.1) → wpX1_countFrom_b28 (wpX1_countFrom dep) Q S o (pk d) (nI p) (nI v) := by
      intro hv0 hor
      refine ⟨h4, ?_⟩
      rw [hc2]
      refine q_assignments hd (scp_wf κ) ?_
      rw [hprod, ← cF_1 hκ hd r p a hpr (fun b hb => ?_)]
      · exact hQ
      · have h5 := hva b (hcmp b hb)
        by_cases e : v = 2
        · exact h5.2.1 e
        · have hp := hor.resolve_left e
          refine h5.2.2 (by omega) (fun k hk u hu hbu => ?_)
          have h6 := hfix k (by omega)
          rw [h6.2, dm_pow_tb _ h6.1 u hu] at hbu
          rw [hb.1 k (by omega)]
          simpa using hbu
    by_cases ev0 : v = 0
    · subst ev0
      rw [cF_0 hκ r p a hpr (fun b hb => (hva b (hcmp b hb)).1 rfl)] at hQ
      simp (disch := omega) only [c_0, c_1, c_2, c_3, c_4, c_5, c_6, c_7, c_8, c_9, c_10, c_11, c_12, c_14, c_16, c_19, c_20, c_24, c_31, c_32, c_35, c_48, c_57, c_59, c_63, c_97, c_100, c_122, c_127, c_169, c_255, c_600, c_1000, c_32767, Nat.le_refl, Nat.zero_le, Nat.add_zero, Nat.lt_irrefl, eq_self, o_sub, Nat.sub_zero, Nat.not_lt_zero, ↓ng_d, o_le, o_lt, o_eq, o_add, o_mul, o_cl, o_inT, o_and, n_31, o_shr, o_shl1, o_or, m_lt, m_ge, m_le, m_gt, m_ne, m_ne2, Option.some.injEq, exists_eq_left', true_and, and_true, true_implies, false_implies, implies_true, not_true_eq_false, not_false_eq_true, bI_0, bI_1, bI_01, b01, true_or, or_true, Nat.reduceEqDiff, Bool.not_eq_false, Bool.not_eq_true, Bool.true_eq_false, Bool.false_eq_true]
      exact hQ
    · by_cases ev2 : v = 2
      · have h1 := hall ev0 (Or.inl ev2)
        simp (disch := omega) only [c_0, c_1, c_2, c_3, c_4, c_5, c_6, c_7, c_8, c_9, c_10, c_11, c_12, c_14, c_16, c_19, c_20, c_24, c_31, c_32, c_35, c_48, c_57, c_59, c_63, c_97, c_100, c_122, c_127, c_169, c_255, c_600, c_1000, c_32767, Nat.le_refl, Nat.zero_le, Nat.add_zero, Nat.lt_irrefl, eq_self, o_sub, Nat.sub_zero, Nat.not_lt_zero, ↓ng_d, o_le, o_lt, o_eq, o_add, o_mul, o_cl, o_inT, o_and, n_31, o_shr, o_shl1, o_or, m_lt, m_ge, m_le, m_gt, m_ne, m_ne2, Option.some.injEq, exists_eq_left', true_and, and_true, true_implies, false_implies, implies_true, not_true_eq_false, not_false_eq_true, bI_0, bI_1, bI_01, b01, true_or, or_true, Nat.reduceEqDiff, Bool.not_eq_false, Bool.not_eq_true, Bool.true_eq_false, Bool.false_eq_true, ev0, ev2] at h1 ⊢
        exact h1
      · by_cases ep : p = κ.1
        · have h1 := hall ev0 (Or.inr ep)
          have e9 : ¬ p < κ.1 := by omega
          simp (disch := omega) only [c_0, c_1, c_2, c_3, c_4, c_5, c_6, c_7, c_8, c_9, c_10, c_11, c_12, c_14, c_16, c_19, c_20, c_24, c_31, c_32, c_35, c_48, c_57, c_59, c_63, c_97, c_100, c_122, c_127, c_169, c_255, c_600, c_1000, c_32767, Nat.le_refl, Nat.zero_le, Nat.add_zero, Nat.lt_irrefl, eq_self, o_sub, Nat.sub_zero, Nat.not_lt_zero, ↓ng_d, o_le, o_lt, o_eq, o_add, o_mul, o_cl, o_inT, o_and, n_31, o_shr, o_shl1, o_or, m_lt, m_ge, m_le, m_gt, m_ne, m_ne2, Option.some.injEq, exists_eq_left', true_and, and_true, true_implies, false_implies, implies_true, not_true_eq_false, not_false_eq_true, bI_0, bI_1, bI_01, b01, true_or, or_true, Nat.reduceEqDiff, Bool.not_eq_false, Bool.not_eq_true, Bool.true_eq_false, Bool.false_eq_true, ev0, ev2, hc1, e9, h4]
          exact h1
        · have ep2 : p < κ.1 := by omega
          obtain ⟨r, rfl⟩ : ∃ j, r = j + 1 := ⟨r - 1, by omega⟩
          have hx7 := hκ.2.1 p ep2
          have hdx := hd _ hx7
          rw [cF_s] at hQ
          have loop : ∀ r2 u left cnt, u + r2 = 5 → left < 32 → (∀ w, w < 5 → left.testBit w = true → (d (κ.2.1 p)).testBit w = true ∧ u ≤ w) → cnt + sN (fun w => if left.testBit w = true then cF κ d r (p + 1) (ud a (κ.2.1 p) w) else 0) 5 = sN (fun w => if (d (κ.2.1 p)).testBit w = true then cF κ d r (p + 1) (ud a (κ.2.1 p) w) else 0) 5 → wpX1_countFrom_b58 (wpX1_countFrom dep) Q (r2 + 1) S o (pk d) (nI p) (nI v) (nI (κ.2.1 p)) (nI left) (nI cnt) (nI u) := by
            intro r2
            induction r2 with
            | zero =>
              intro u left cnt hu hl hsub hsum
              have : u = 5 := by omega
              subst this
              have hz : sN (fun w => if left.testBit w = true then cF κ d r (p + 1) (ud a (κ.2.1 p) w) else 0) 5 = 0 := by
                have : sN (fun w => if left.testBit w = true then cF κ d r (p + 1) (ud a (κ.2.1 p) w) else 0) 5 = sN (fun _ => 0) 5 := by
                  apply sN_5
                  intro w hw
                  rw [if_neg (fun q => by have := (hsub w hw q).2; omega)]
                rw [this]; rfl
              rw [hz, Nat.add_zero] at hsum
              rw [← hsum] at hQ
              simp (disch := omega) only [wpX1_countFrom_b58, c_0, c_1, c_2, c_3, c_4, c_5, c_6, c_7, c_8, c_9, c_10, c_11, c_12, c_14, c_16, c_19, c_20, c_24, c_31, c_32, c_35, c_48, c_57, c_59, c_63, c_97, c_100, c_122, c_127, c_169, c_255, c_600, c_1000, c_32767, Nat.le_refl, Nat.zero_le, Nat.add_zero, Nat.lt_irrefl, eq_self, o_sub, Nat.sub_zero, Nat.not_lt_zero, ↓ng_d, o_le, o_lt, o_eq, o_add, o_mul, o_cl, o_inT, o_and, n_31, o_shr, o_shl1, o_or, m_lt, m_ge, m_le, m_gt, m_ne, m_ne2, Option.some.injEq, exists_eq_left', true_and, and_true, true_implies, false_implies, implies_true, not_true_eq_false, not_false_eq_true, bI_0, bI_1, bI_01, b01, true_or, or_true, Nat.reduceEqDiff, Bool.not_eq_false, Bool.not_eq_true, Bool.true_eq_false, Bool.false_eq_true]
              exact hQ
            | succ r2 ih2 =>
              intro u left cnt hu hl hsub hsum
              generalize r2 + 1 = fu at ih2 ⊢
              have e5 : ¬ 5 ≤ u := by omega
              have hu5 : u < 5 := by omega
              cases hb : left.testBit u
              · have hz : (left >>> u) &&& 1 = 0 := by rw [lf_bit, hb]; rfl
                have h1 := ih2 (u + 1) left cnt (by omega) hl (fun w hw hbw => ⟨(hsub w hw hbw).1, by
                  have h2 := (hsub w hw hbw).2
                  have : w ≠ u := fun q => by rw [q, hb] at hbw; cases hbw
                  omega⟩) hsum
                simp (disch := omega) only [wpX1_countFrom_b58, c_0, c_1, c_2, c_3, c_4, c_5, c_6, c_7, c_8, c_9, c_10, c_11, c_12, c_14, c_16, c_19, c_20, c_24, c_31, c_32, c_35, c_48, c_57, c_59, c_63, c_97, c_100, c_122, c_127, c_169, c_255, c_600, c_1000, c_32767, Nat.le_refl, Nat.zero_le, Nat.add_zero, Nat.lt_irrefl, eq_self, o_sub, Nat.sub_zero, Nat.not_lt_zero, ↓ng_d, o_le, o_lt, o_eq, o_add, o_mul, o_cl, o_inT, o_and, n_31, o_shr, o_shl1, o_or, m_lt, m_ge, m_le, m_gt, m_ne, m_ne2, Option.some.injEq, exists_eq_left', true_and, and_true, true_implies, false_implies, implies_true, not_true_eq_false, not_false_eq_true, bI_0, bI_1, bI_01, b01, true_or, or_true, Nat.reduceEqDiff, Bool.not_eq_false, Bool.not_eq_true, Bool.true_eq_false, Bool.false_eq_true, e5, o_ushr, hz]
                exact h1
              · have hz : (left >>> u) &&& 1 = 1 := by rw [lf_bit, hb]; rfl
                have n10 : ¬ (1 : Nat) = 0 := by decide
                have hbd := (hsub u hu5 hb).1
                have hap2 := and_pow _ hdx u hu5 hbd
                have hal : ∀ A, alk κ u A → wpX5_narrowed S (pk d) (nI (κ.2.1 p)) (nI u) (fun r7 S8 => (wpJ6_bitCount_0f7a4 S8 (nI left &&& nI A) (fun r9 S10 => (wpX1_countFrom dep S10 o r7 (nI (p + 1)) (fun r11 S12 => (wpX1_countFrom_b58 (wpX1_countFrom dep) Q fu S12 o (pk d) (nI p) (nI v) (nI (κ.2.1 p)) (nI left &&& ((nI left &&& nI A) ^^^ ngI)) (nI cnt + (r9 * r11)) (nI (u + 1)))))))) := by
                  intro A hA
                  rw [w_narrowed hd hx7 hu5, w_bci, o_and, bci_5 _ (dm_and_lt _ hl _ hA.1), hap2]
                  have hd2 := ud_wf hd (x := κ.2.1 p) (dm_pow_lt u hu5)
                  refine ihd r (p + 1) (ud d (κ.2.1 p) (2 ^ u)) (ud a (κ.2.1 p) u) _ (by omega) (by omega) hd2 (fun k hk => ?_) (fun k hk => ?_) ?_
                  · by_cases q : k = p
                    · subst q; rw [ud_s, ud_s]; exact ⟨hu5, rfl⟩
                    · have hne : κ.2.1 k ≠ κ.2.1 p := fun z => q (hκ.2.2.1 k p (by omega) ep2 z)
                      rw [ud_n _ _ hne, ud_n _ _ hne]
                      exact hfix k (by omega)
                  · by_cases q : κ.2.1 k = κ.2.1 p
                    · rw [q, ud_s]; exact hu5
                    · rw [ud_n _ _ q]; exact ha5 k hk
                  · rw [cF_d (d := ud d (κ.2.1 p) (2 ^ u)) (e := d) r (p + 1) (ud a (κ.2.1 p) u) (fun k h1 h2 => ud_n _ _ (fun z => by have := hκ.2.2.1 k p (by omega) ep2 z; omega))]
                    rw [o_mul, o_add, dm_andn _ hl _ (dm_and_lt _ hl _ hA.1)]
                    refine ih2 (u + 1) (andn left (left &&& A)) _ (by omega) (dm_andn_lt _ hl _ (dm_and_lt _ hl _ hA.1)) (fun w hw hbw => ?_) ?_
                    · rw [dm_andn_tb _ hl _ (dm_and_lt _ hl _ hA.1) w hw, Nat.testBit_and] at hbw
                      simp only [Bool.and_eq_true] at hbw
                      have h2 := hsub w hw hbw.1
                      refine ⟨h2.1, ?_⟩
                      have : w ≠ u := fun q => by rw [q, hA.2.1, hb] at hbw; simp at hbw
                      omega
                    · rw [← hsum, sN_spl left A hl hA.1]
                      have hsame : sN (fun w => if (left &&& A).testBit w = true then cF κ d r (p + 1) (ud a (κ.2.1 p) w) else 0) 5 = pcn 5 (left &&& A) * cF κ d r (p + 1) (ud a (κ.2.1 p) u) := by
                        rw [← pcn_sN _ (dm_and_lt _ hl _ hA.1)]
                        apply sN_5
                        intro w hw
                        by_cases q : (left &&& A).testBit w = true
                        · rw [if_pos q, if_pos q]
                          rw [Nat.testBit_and, Bool.and_eq_true] at q
                          have h3 := cF_k hκ (d := d) ep2 hA hw q.2 hu5 r (p + 1) (ud a (κ.2.1 p) w) (by omega) (by omega) (fun j hj => by
                            by_cases z : κ.2.1 j = κ.2.1 p
                            · rw [z, ud_s]; exact hw
                            · rw [ud_n _ _ z]; exact ha5 j hj) (ud_s _ _ _)
                          rw [← h3]
                          congr 1
                          funext y
                          by_cases z : y = κ.2.1 p
                          · rw [z, ud_s, ud_s]
                          · rw [ud_n _ _ z, ud_n _ _ z, ud_n _ _ z]
                        · rw [if_neg q, if_neg q]
                      rw [hsame]
                      omega
                have h1 := halk u (fun r5 S6 => wpX5_narrowed S6 (pk d) (nI (κ.2.1 p)) (nI u) (fun r7 S8 => (wpJ6_bitCount_0f7a4 S8 (nI left &&& r5) (fun r9 S10 => (wpX1_countFrom dep S10 o r7 (nI (p + 1)) (fun r11 S12 => (wpX1_countFrom_b58 (wpX1_countFrom dep) Q fu S12 o (pk d) (nI p) (nI v) (nI (κ.2.1 p)) (nI left &&& ((nI left &&& r5) ^^^ ngI)) (nI cnt + (r9 * r11)) (nI (u + 1))))))))) hu5 hal
                simp (disch := omega) only [wpX1_countFrom_b58, e5, o_ushr, hz, n10, c_0, c_1, c_5, c_31, o_le, o_add, o_and, o_eq, not_false_eq_true, true_implies, false_implies, true_and, and_true, implies_true, h4, ng_d]
                try simp only [o_and] at h1
                exact h1
          have h1 := loop 5 0 (d (κ.2.1 p)) 0 rfl hdx (fun w hw h => ⟨h, Nat.zero_le _⟩) (Nat.zero_add _)
          simp (disch := omega) only [c_0, c_1, c_2, c_3, c_4, c_5, c_6, c_7, c_8, c_9, c_10, c_11, c_12, c_14, c_16, c_19, c_20, c_24, c_31, c_32, c_35, c_48, c_57, c_59, c_63, c_97, c_100, c_122, c_127, c_169, c_255, c_600, c_1000, c_32767, Nat.le_refl, Nat.zero_le, Nat.add_zero, Nat.lt_irrefl, eq_self, o_sub, Nat.sub_zero, Nat.not_lt_zero, ↓ng_d, o_le, o_lt, o_eq, o_add, o_mul, o_cl, o_inT, o_and, n_31, o_shr, o_shl1, o_or, m_lt, m_ge, m_le, m_gt, m_ne, m_ne2, Option.some.injEq, exists_eq_left', true_and, and_true, true_implies, false_implies, implies_true, not_true_eq_false, not_false_eq_true, bI_0, bI_1, bI_01, b01, true_or, or_true, Nat.reduceEqDiff, Bool.not_eq_false, Bool.not_eq_true, Bool.true_eq_false, Bool.false_eq_true, ev0, ev2, hc1, ep2, h4, w_variableAt h4 hc3 hκ ep2, w_valuesOf hd hx7]
          exact ⟨_, h1⟩

/-! LEARNING: the reference -/
theorem m7_clr : ∀ d, d < 128 → ∀ v, v < 7 → nI d &&& (nI (2 ^ v) ^^^ ngI) = nI (d &&& (127 ^^^ 2 ^ v)) := by decide +kernel
theorem m7_tb : ∀ d, d < 128 → ∀ v, v < 7 → ∀ u, u < 7 → (d &&& (127 ^^^ 2 ^ v)).testBit u = (d.testBit u && decide (u ≠ v)) := by
  intro d _ v _ u hu
  rw [Nat.testBit_and, Nat.testBit_xor, show (127 : Nat) = 2 ^ 7 - 1 from rfl, Nat.testBit_two_pow_sub_one, Nat.testBit_two_pow, decide_eq_true hu, Bool.true_xor, decide_not]
  by_cases e : v = u
  · rw [decide_eq_true e, decide_eq_true e.symm]
  · rw [decide_eq_false e, decide_eq_false (fun q => e q.symm)]
theorem m7_ng : ∀ d, d < 128 → nI d &&& ngI = nI d := by decide +kernel
theorem m7_ext {a b : Nat} (ha : a < 128) (hb : b < 128) (h : ∀ u, u < 7 → (a.testBit u = true ↔ b.testBit u = true)) : a = b := by
  apply Nat.eq_of_testBit_eq
  intro i
  by_cases hi : i < 7
  · have := h i hi
    cases h1 : a.testBit i <;> cases h2 : b.testBit i
    · rfl
    · exact absurd (this.mpr h2) (by rw [h1]; decide)
    · exact absurd (this.mp h1) (by rw [h2]; decide)
    · rfl
  · have e1 : a.testBit i = false := Nat.testBit_lt_two_pow (Nat.lt_of_lt_of_le ha (show 2 ^ 7 ≤ 2 ^ i from Nat.pow_le_pow_right (by decide) (by omega)))
    have e2 : b.testBit i = false := Nat.testBit_lt_two_pow (Nat.lt_of_lt_of_le hb (show 2 ^ 7 ≤ 2 ^ i from Nat.pow_le_pow_right (by decide) (by omega)))
    rw [e1, e2]
theorem svN_128 {m : Nat → Bool} {n : Nat} (hn : n ≤ 7) : svN m n < 128 := Nat.lt_of_lt_of_le (svN_lt m n) (show 2 ^ n ≤ 2 ^ 7 from Nat.pow_le_pow_right (by decide) hn)
theorem svN_clr {m : Nat → Bool} {n k : Nat} (hn : n ≤ 7) (hk : k < n) : nI (svN m n) &&& (nI (2 ^ k) ^^^ ngI) = nI (svN (ud m k false) n) := by
  rw [m7_clr _ (svN_128 hn) _ (by omega)]
  have h1 : svN m n &&& (127 ^^^ 2 ^ k) = svN (ud m k false) n := by
    refine m7_ext (Nat.lt_of_le_of_lt Nat.and_le_left (svN_128 hn)) (svN_128 hn) (fun u hu => ?_)
    rw [m7_tb _ (svN_128 hn) _ (by omega) _ hu, Bool.and_eq_true, svN_tb, svN_tb, decide_eq_true_iff]
    by_cases e : u = k
    · rw [e, ud_s]
      simp
    · rw [ud_n _ _ e]
      exact ⟨fun h => h.1, fun h => ⟨h, e⟩⟩
  rw [h1]
theorem svN_all {n : Nat} (hn : n ≤ 7) : nI 1 <<< (nI n &&& nI 31) - nI 1 = nI (svN (fun k => decide (k < n)) n) := by
  rw [one_shl31 (by omega), o_sub (Nat.two_pow_pos n)]
  have h1 : 2 ^ n - 1 = svN (fun k => decide (k < n)) n := by
    apply Nat.eq_of_testBit_eq
    intro i
    rw [Nat.testBit_two_pow_sub_one]
    have h2 := svN_tb (p := fun k => decide (k < n)) (x := i) n
    by_cases e : i < n
    · rw [decide_eq_true e]
      exact (h2.mpr ⟨e, decide_eq_true e⟩).symm
    · rw [decide_eq_false e]
      cases hb : (svN (fun k => decide (k < n)) n).testBit i
      · rfl
      · exact absurd (h2.mp hb).1 e
  rw [h1]
theorem svN_cg {m m' : Nat → Bool} : ∀ n, (∀ k, k < n → m k = m' k) → svN m n = svN m' n := by
  intro n
  induction n with
  | zero => exact fun _ => rfl
  | succ n ih =>
    intro h
    unfold svN
    rw [h n (by omega), ih (fun k hk => h k (by omega))]
theorem pcn_svN : ∀ n (m : Nat → Bool), pcn n (svN m n) = cN m n := by
  have key : ∀ n (m : Nat → Bool), svN m (n + 1) % 2 = (if m 0 = true then 1 else 0) ∧ svN m (n + 1) / 2 = svN (fun k => m (k + 1)) n := by
    intro n m
    constructor
    · have h := svN_tb (p := m) (x := 0) (n + 1)
      rw [Nat.testBit_zero] at h
      by_cases e : m 0 = true
      · rw [if_pos e]
        exact of_decide_eq_true (h.mpr ⟨by omega, e⟩)
      · rw [if_neg e]
        have : ¬ svN m (n + 1) % 2 = 1 := fun q => e (h.mp (decide_eq_true q)).2
        omega
    · apply Nat.eq_of_testBit_eq
      intro i
      rw [Nat.testBit_div_two]
      have h1 := svN_tb (p := m) (x := i + 1) (n + 1)
      have h2 := svN_tb (p := fun k => m (k + 1)) (x := i) n
      cases ha : (svN m (n + 1)).testBit (i + 1) <;> cases hb : (svN (fun k => m (k + 1)) n).testBit i
      · rfl
      · have := h2.mp hb
        exact absurd (h1.mpr ⟨by omega, this.2⟩) (by rw [ha]; decide)
      · have := h1.mp ha
        exact absurd (h2.mpr ⟨by omega, this.2⟩) (by rw [hb]; decide)
      · rfl
  have cnt : ∀ n (m : Nat → Bool), cN m (n + 1) = (if m 0 = true then 1 else 0) + cN (fun k => m (k + 1)) n := by
    intro n
    induction n with
    | zero =>
      intro m
      rw [cN_s]
      show 0 + _ = _ + 0
      omega
    | succ n ih =>
      intro m
      rw [cN_s, ih m, cN_s]
      omega
  intro n
  induction n with
  | zero => exact fun _ => rfl
  | succ n ih =>
    intro m
    simp only [pcn]
    rw [(key n m).1, (key n m).2, ih, cnt]
theorem q_makeFail {S : PS} {P : Nat → Nat} {ss : List Nat} {ds : List (Nat × Nat)} {σ : St} {n : Nat} {m : Nat → Bool} {Q : Int32 → PS → Prop} (hJ : MJ S P ss ds σ n) (hV : VI P ss ds σ) (h0 : 0 < ds.length)
    (hQ : ∀ S', fr [96, 104] S S' → Q (bI (mkF P ss σ.2 ds m)) S') : wpX12_makeFail S 87 (nI (svN m ds.length)) Q := by
  obtain ⟨hM, hp, hs0, hd, hT, hmD, h8, h10, h11⟩ := hJ
  have hw := hV.1
  have hP0 := hw.1
  have hl7 := Dok_len hw hV.2.2.2.2.2.1
  have t2 := hT.2.1
  have hs := Tok_sm hw hV.2.2.2.1.1
  have hds := Dds_of hw hV.2.2.2.2.2.1
  have hLv := hV.2.2.2.2.1
  have hsv := svN_128 (m := m) hl7
  have loop3 : ∀ r k S', k + r = ds.length → fr [96, 104] S S' → rD S' 104 (stD P σ.2 ds m k) → wpX12_makeFail_b89 Q (r + 1) S' 87 (nI (svN m ds.length)) (nI k) := by
    intro r
    induction r with
    | zero =>
      intro k S' hk hf hd4
      have hM' := hf.M hM
      have e : k = ds.length := by omega
      rw [e] at hd4 ⊢
      have h8' : pI S' 87 8 = nI ds.length := by rw [hf.I (by decide)]; exact h8
      unfold wpX12_makeFail_b89
      rw [h8', c_0, c_1]
      refine ⟨msk hM', fun _ => ⟨104, msr_start hM', ?_⟩, fun z => absurd (Eq.mpr (o_le (by omega) (by omega)) (Nat.le_refl _)) z⟩
      have hsum : dsum (stD P σ.2 ds m ds.length, ([] : List FT)).1 + (stD P σ.2 ds m ds.length, ([] : List FT)).2.length ≤ 35 := dsum_le _
      refine q_sweeps (re := false) (a := 104) (A := [104, 96]) (F := []) (ss := ss) (l := ds.length) (σ0 := (stD P σ.2 ds m ds.length, [])) SwH_f hM' (hf.P (by decide) hp) hw h8' ((mf_fr (F := []) hf (by decide)).S (by decide) (by decide) hs0) hV.2.1 hd4.2.2.2 hsum (stD_nf hV h0 m) ⟨⟨fr_r _ _, fun _ _ => ⟨rfl, rfl⟩⟩, hd4, fun q => by cases q⟩ (fun S2 hI2 => ?_)
      have hf2 : fr [96, 104] S S2 := by
        refine fr_t hf ⟨hI2.1.1.1, hI2.1.1.2.1, hI2.1.1.2.2.1, hI2.1.1.2.2.2.1, fun a ha => ?_⟩
        by_cases q : a = 87
        · rw [q]
          exact ⟨funext fun k => (hI2.1.2 k (by simp)).1, funext fun k => (hI2.1.2 k (by simp)).2⟩
        · exact hI2.1.1.2.2.2.2 a (fun q2 => by
            simp only [List.mem_cons, List.not_mem_nil, or_false] at q2 ha
            omega)
      have h1 := hQ S2 hf2
      rw [mkF_l ds.length, bI_0]
      cases hb : mkF P ss σ.2 ds m
      · rw [hb] at h1
        exact ⟨fun _ => h1, fun z => absurd z (by decide)⟩
      · rw [hb] at h1
        exact ⟨fun z => absurd rfl z, fun _ => h1⟩
    | succ r ih =>
      intro k S' hk hf hd4
      have hM' := hf.M hM
      have hkl : k < ds.length := by omega
      have h8' : pI S' 87 8 = nI ds.length := by rw [hf.I (by decide)]; exact h8
      have hdk := hds k hkl
      have hm := mDs_fr hf (by decide) hmD k hkl
      have hstep : stD P σ.2 ds m (k + 1) = if m k = true then ud (stD P σ.2 ds m k) (dG ds k).1 (2 ^ (dG ds k).2) else stD P σ.2 ds m k := rfl
      have hn := ih (k + 1)
      generalize r + 1 = fu at hn ⊢
      rw [hstep] at hn
      have htb : (svN m ds.length).testBit k = m k := by
        have := svN_tb (p := m) (x := k) ds.length
        cases h1 : m k
        · cases h2 : (svN m ds.length).testBit k
          · rfl
          · exact absurd (this.mp h2).2 (by rw [h1]; decide)
        · exact this.mpr ⟨hkl, h1⟩
      unfold wpX12_makeFail_b89
      simp (disch := omega) only [c_0, c_1, c_2, c_31, h8', o_mul, o_add, o_cl, hm.1, hm.2, one_shl31]
      refine ⟨msk hM', fun z => ?_, fun _ => ?_⟩
      · rw [o_le (by omega) (by omega)] at z
        omega
      · rw [w_has (by omega) (by omega), htb]
        refine ⟨fun z => ?_, fun z => ⟨msk hM', 104, msr_start hM', 92, msr_decs hM', msk_decs hM', ?_, ?_, msk_start hM', ?_, ?_⟩⟩
        · rw [bI_0] at z
          rw [if_neg (by rw [z]; decide)] at hn
          exact hn S' (by omega) hf hd4
        · rw [msl_decs hM', o_inT (by omega) (by omega)]
          trivial
        · rw [msl_decs hM', o_inT (by omega) (by omega)]
          trivial
        · rw [hm.1, msl_start hM', o_inT (by omega) (by omega)]
          trivial
        · rw [bI_0, Bool.not_eq_false] at z
          rw [if_pos z] at hn
          rw [hm.1, hm.2, o_cl (by omega), one_shl31 (by omega)]
          exact hn _ (by omega) (fr_t hf (fr_sI _ _ _ (by decide))) (rD_sI hd4 (dm_pow_lt _ hdk.2.1))
  have loop2 : ∀ r k S', k + r = σ.2.length → fr [96, 104] S S' → rD S' 104 (wEf P σ.2 (fun i => decide ((fG σ.2 i).2.2.2.1 = 0)) k) → wpX12_makeFail_b30 Q (r + 1) S' 87 (nI (svN m ds.length)) (nI k) := by
    intro r
    induction r with
    | zero =>
      intro k S' hk hf hd4
      have hM' := hf.M hM
      have hT' := hf.T (by decide) (by decide) hT
      have e : k = σ.2.length := by omega
      rw [e] at hd4 ⊢
      unfold wpX12_makeFail_b30
      rw [hT'.1, c_0]
      exact ⟨msk hM', fun _ => ⟨_, loop3 ds.length 0 S' (Nat.zero_add _) hf hd4⟩, fun z => absurd (Eq.mpr (o_le (by omega) (by omega)) (Nat.le_refl _)) z⟩
    | succ r ih =>
      intro k S' hk hf hd4
      have hM' := hf.M hM
      have hT' := hf.T (by decide) (by decide) hT
      have hkl : k < σ.2.length := by omega
      have hsk := hs k hkl
      have hLk := hLv k hkl
      obtain ⟨f0, f1, f2, f3, f4⟩ := hT'.2.2 k hkl
      have hstep : wEf P σ.2 (fun i => decide ((fG σ.2 i).2.2.2.1 = 0)) (k + 1) = if decide ((fG σ.2 k).2.2.2.1 = 0) = true then ud (wEf P σ.2 (fun i => decide ((fG σ.2 i).2.2.2.1 = 0)) k) (fG σ.2 k).1 (clr (wEf P σ.2 (fun i => decide ((fG σ.2 i).2.2.2.1 = 0)) k (fG σ.2 k).1) (fG σ.2 k).2.1) else wEf P σ.2 (fun i => decide ((fG σ.2 i).2.2.2.1 = 0)) k := rfl
      have hn := ih (k + 1)
      generalize r + 1 = fu at hn ⊢
      rw [hstep] at hn
      have hwf := hd4.2.2.2 _ hsk.1
      unfold wpX12_makeFail_b30
      simp (disch := omega) only [c_0, c_1, c_2, c_3, c_5, c_31, ↓ng_d, hT'.1, o_mul, o_add, o_cl, one_shl31]
      refine ⟨msk hM', fun z => ?_, fun _ => ⟨91, msr_facts hM', msk_facts hM', ?_, fun z => ?_, fun z => ⟨104, msr_start hM', ?_, msk_start hM', ?_, ?_, ?_, ?_⟩⟩⟩
      · rw [o_le (by omega) (by omega)] at z
        omega
      · rw [msl_facts hM', o_inT (by omega) (by omega)]
        trivial
      · rw [f3, o_eq (by omega) (by omega)] at z
        have hg : gD P σ.2 = wEf P σ.2 (fun i => decide ((fG σ.2 i).2.2.2.1 = 0)) k := wEf_stop (fun j h1 h2 => decide_eq_false (fun q => by
          by_cases e : j = k
          · rw [e] at q
            exact z q
          · have := (hLv j h2).2 k (by omega)
            omega)) _ (by omega) (Nat.le_refl _)
        exact ⟨_, loop3 ds.length 0 S' (Nat.zero_add _) hf (by
          show rD S' 104 (gD P σ.2)
          rw [hg]
          exact hd4)⟩
      · rw [msl_facts hM', o_inT (by omega) (by omega)]
        trivial
      · rw [f0, msl_start hM', o_inT (by omega) (by omega)]
        trivial
      · rw [msl_facts hM', o_inT (by omega) (by omega)]
        trivial
      · rw [f0, msl_start hM', o_inT (by omega) (by omega)]
        trivial
      · rw [f3, o_eq (by omega) (by omega)] at z
        rw [if_pos (decide_eq_true z)] at hn
        rw [f0, f1, o_cl (by omega), hd4.2.2.1 _ hsk.1, one_shl31 (by omega), dm_clr _ hwf _ hsk.2]
        exact hn _ (by omega) (fr_t hf (fr_sI _ _ _ (by decide))) (rD_sI hd4 (dm_clr_lt _ hwf _ hsk.2))
  have loop1 : ∀ r x S', x + r = 7 → fr [96, 104] S S' → (∀ y, y < x → pI S' 104 y = nI (P (2 + y))) → wpX12_makeFail_b2 Q (r + 1) S' 87 (nI (svN m ds.length)) (nI x) := by
    intro r
    induction r with
    | zero =>
      intro x S' hx hf hd4
      have e : x = 7 := by omega
      subst e
      have h1 := loop2 σ.2.length 0 S' (Nat.zero_add _) hf ⟨msk_start (hf.M hM), msl_start (hf.M hM), fun y hy => hd4 y hy, hw.2.2.1⟩
      unfold wpX12_makeFail_b2
      exact ⟨fun _ => ⟨_, h1⟩, fun z => absurd (by decide) z⟩
    | succ r ih =>
      intro x S' hx hf hd4
      have hM' := hf.M hM
      have hp' := hf.P (by decide) hp
      have hle : ¬ 7 ≤ x := by omega
      have h1 := ih (x + 1) (sI S' 104 x (nI (P (2 + x)))) (by omega) (fr_t hf (fr_sI _ _ _ (by decide))) (fun y hy => by
        rw [pI_sI]
        by_cases e : y = x
        · rw [if_pos ⟨rfl, e⟩, e]
        · rw [if_neg (fun q => e q.2)]
          exact hd4 y (by omega))
      generalize r + 1 = fu at h1 ⊢
      simp (disch := omega) only [wpX12_makeFail_b2, c_0, c_1, c_2, c_3, c_4, c_5, c_6, c_7, c_8, c_9, c_10, c_11, c_12, c_14, c_16, c_19, c_20, c_24, c_31, c_32, c_35, c_48, c_57, c_59, c_63, c_97, c_100, c_122, c_127, c_169, c_255, c_600, c_1000, c_32767, Nat.le_refl, Nat.zero_le, Nat.add_zero, Nat.lt_irrefl, eq_self, o_sub, Nat.sub_zero, Nat.not_lt_zero, ↓ng_d, o_le, o_lt, o_eq, o_add, o_mul, o_cl, o_inT, o_and, n_31, o_shr, o_shl1, o_or, m_lt, m_ge, m_le, m_gt, m_ne, m_ne2, Option.some.injEq, exists_eq_left', true_and, and_true, true_implies, false_implies, implies_true, not_true_eq_false, not_false_eq_true, bI_0, bI_1, bI_01, b01, true_or, or_true, Nat.reduceEqDiff, Bool.not_eq_false, Bool.not_eq_true, Bool.true_eq_false, Bool.false_eq_true, hle, msk hM', msr_start hM', msk_start hM', msl_start hM', msr_p hM', msk_p hM', msl_p hM', hp' (2 + x) (by omega)]
      exact h1
  exact ⟨_, loop1 7 0 S rfl (fr_r _ _) (fun y hy => absurd hy (Nat.not_lt_zero _))⟩
theorem q_learns {S : PS} {P : Nat → Nat} {ss : List Nat} {ds : List (Nat × Nat)} {σ : St} {n : Nat} {Q : Int32 → PS → Prop} (hJ : MJ S P ss ds σ n) (hV : VI P ss ds σ) (h0 : 0 < ds.length)
    (hQ : ∀ S', mf [90, 91, 93, 96, 104] [7, 8, 9, 11] S S' → MJ S' P (lrnS P ss ds σ) (ds.take (ds.length - 1)) (lrnT P ss ds σ) n → Q (nI (cN (lrM P ss σ.2 ds ds.length) ds.length)) S') : wpX12_learns S 87 Q := by
  have hw := hV.1
  have hl7 := Dok_len hw hV.2.2.2.2.2.1
  have hds := Dds_of hw hV.2.2.2.2.2.1
  obtain ⟨M, eM⟩ : ∃ M, M = lrM P ss σ.2 ds ds.length := ⟨_, rfl⟩
  obtain ⟨s, es⟩ : ∃ s, s = lrS M ds ds.length := ⟨_, rfl⟩
  have hlen' : (ds.take (ds.length - 1)).length = ds.length - 1 := by
    rw [List.length_take]
    exact Nat.min_eq_left (by omega)
  have hss12 := hV.2.2.1
  -- the end: the set is laid, the decision taken back, propagation
  have tail : ∀ S' ss1, mf [90, 91, 93, 96, 104] [7, 8, 9, 11] S S' → MJ S' P ss1 ds σ n → ss1.length < 12 → lrnS P ss ds σ = ss1 ++ [s] → ∀ y, wpX12_learns_b156 Q S' 87 (nI (svN M ds.length)) (nI s) y := fun S' ss1 hf hJ' hl1 hk y => by
    have hJ0 := hJ'
    obtain ⟨hM, hp, hs0, hd, hT, hmD, h8, h10, h11⟩ := hJ'
    have hV0 := VI_lrn0 hV h0
    have hVb := VI_back hV h0
    unfold wpX12_learns_b156 wpX12_learns_b199
    simp (disch := omega) only [c_0, c_1, ↓ng_d, hs0.1, o_cl]
    refine ⟨msk hM, 93, msr_sets hM, msk_sets hM, ?_, ?_⟩
    · rw [msl_sets hM, o_inT (by omega) (by omega)]
      trivial
    · rw [show pI (sI S' 93 ss1.length (nI s)) 87 9 = nI ss1.length by rw [pI_sI, if_neg (fun q => absurd q.1 (by decide))]; exact hs0.1, o_add]
      have f1 : mf [93] [9] S' (sI (sI S' 93 ss1.length (nI s)) 87 9 (nI (ss1.length + 1))) := mf_t (mf_row _ _ _ (by decide) (by decide)) (mf_sI _ _ (by decide))
      have hM1 := f1.M hM
      have hs1 : rSS (sI (sI S' 93 ss1.length (nI s)) 87 9 (nI (ss1.length + 1))) (ss1 ++ [s]) := by
        refine ⟨by rw [pI_sI, if_pos ⟨rfl, rfl⟩, List.length_append, List.length_singleton], by rw [List.length_append, List.length_singleton]; omega, fun i hi => ?_⟩
        rw [List.length_append, List.length_singleton] at hi
        rw [pI_sI, if_neg (fun q => absurd q.1 (by decide)), pI_sI]
        by_cases e : i = ss1.length
        · rw [if_pos ⟨rfl, e⟩, e, getD_app2]
        · rw [if_neg (fun q => e q.2), getD_app1 (by omega)]
          exact hs0.2.2 i (by omega)
      refine q_takesBack hM1 hw (f1.D (by decide) hd) (f1.T (by decide) (by decide) hT) hV.2.2.2.1 hV.2.2.2.2.1 h0 hl7 (by rw [f1.F (by decide)]; exact h8) (fun S2 hf2 hd2 hT2 h82 h112 => ?_)
      have f2 : mf [90, 93] [7, 8, 9, 11] S' S2 := mf_t (mf_w f1 (by decide) (by decide)) (mf_w hf2 (by decide) (by decide))
      have hM2 := f2.M hM
      have hs2 : rSS S2 (ss1 ++ [s]) := hf2.S (by decide) (by decide) hs1
      refine ⟨msk hM2, 90, msr_domain hM2, ?_⟩
      rw [← hk] at hs2
      have hsum := VI_sum hV0
      refine q_sweeps (re := true) (a := 90) (A := [90, 91, 96]) (F := [7]) (ss := lrnS P ss ds σ) (l := ds.length - 1) (σ0 := (dI P (tkB σ.2 ds.length), tkB σ.2 ds.length)) SwH_t hM2 (f2.P (by decide) hp) hw h82 hs2 hV0.2.1 hd2.2.2.2 hsum hVb.2 ⟨⟨fr_r _ _, fun _ _ => ⟨rfl, rfl⟩⟩, hd2, fun _ => hT2⟩ (fun S3 hI3 => ?_)
      have f3 : mf [90, 91, 93, 96] [7, 8, 9, 11] S' S3 := mf_t (mf_w f2 (by decide) (by decide)) (mf_w hI3.1 (by decide) (by decide))
      have hM3 := f3.M hM
      have hT3 := hI3.2.2 rfl
      have fin : ∀ b : Bool, fl (P 0) (lrnT P ss ds σ).1 = b → Q (nI (cN M ds.length)) (sI S3 87 11 (bI b)) := fun b hb => by
        have f4 : mf [90, 91, 93, 96] [7, 8, 9, 11] S' (sI S3 87 11 (bI b)) := mf_t f3 (mf_sI _ _ (by decide))
        have g5 : mf [] [11] S3 (sI S3 87 11 (bI b)) := mf_sI _ _ (by decide)
        rw [eM]
        refine hQ _ (mf_t hf (mf_w f4 (by decide) (by decide))) ⟨f4.M hM, f4.P (by decide) hp, g5.S (by decide) (by decide) (hI3.1.S (by decide) (by decide) hs2), g5.D (by decide) hI3.2.1, g5.T (by decide) (by decide) hT3, fun k hk2 => ?_, by rw [hlen', g5.F (by decide), hI3.1.F (by decide)]; exact h82, by rw [f4.F (by decide)]; exact h10, by rw [pI_sI, if_pos ⟨rfl, rfl⟩, hb]⟩
        rw [hlen'] at hk2
        rw [dG_take hk2, f4.1.I (by decide), f4.1.I (by decide)]
        exact hmD k (by omega)
      have hsz : ∀ S4, Q (nI (cN M ds.length)) S4 → wpX12_sizeOf S4 (nI (svN M ds.length)) (fun r3 S5 => Q r3 S5) := fun S4 hq => by
        refine q_sizeOf (k := 7) (by decide) (svN_128 hl7) ?_
        rw [pcn_up (svN_lt M ds.length) hl7, pcn_svN]
        exact hq
      have hge : (nI 0 ≤ nI (σ.2.length - bkN σ.2 ds.length σ.2.length)) := by
        have := hT.2.1
        rw [o_le (by omega) (by omega)]
        exact Nat.zero_le _
      rw [bI_0]
      refine ⟨fun z => ⟨msk hM3, Or.inl trivial, fun _ => hsz _ ?_, fun z2 => absurd hge z2⟩, fun z => ⟨msk hM3, Or.inr trivial, fun _ => hsz _ ?_, fun z2 => absurd hge z2⟩⟩
      · refine fin false ?_
        cases hc : fl (P 0) (prE P (lrnS P ss ds σ) (ds.length - 1) (dI P (tkB σ.2 ds.length), tkB σ.2 ds.length)).1
        · exact hc
        · rw [hc] at z
          exact absurd rfl z
      · refine fin true ?_
        cases hc : fl (P 0) (prE P (lrnS P ss ds σ) (ds.length - 1) (dI P (tkB σ.2 ds.length), tkB σ.2 ds.length)).1
        · rw [hc] at z
          cases z
        · exact hc
  -- the oldest set goes
  have shift : ∀ r k S', k + r = 11 → ss.length = 12 → mf [93, 96, 104] [9] S S' → pI S' 87 9 = nI 11 → (∀ i, i < k → pI S' 93 i = nI (ss.getD (i + 1) 0)) → (∀ i, k ≤ i → i < 12 → pI S' 93 i = nI (ss.getD i 0)) → wpX12_learns_b128 Q (r + 1) S' 87 (nI (svN M ds.length)) (nI s) (nI k) := by
    intro r
    induction r with
    | zero =>
      intro k S' hk h12 hf h9 hlo hhi
      have e : k = 11 := by omega
      subst e
      obtain ⟨hM, hp, hs0, hd, hT, hmD, h8, h10, h11⟩ := hJ
      have hM' := hf.M hM
      have hlr : lrnS P ss ds σ = ss.drop 1 ++ [s] := by
        unfold lrnS kpS
        rw [if_pos h12, es, eM]
      have hdl : (ss.drop 1).length = 11 := by rw [List.length_drop]; omega
      have hJ' : MJ S' P (ss.drop 1) ds σ n := ⟨hM', hf.P (by decide) hp, ⟨by rw [hdl]; exact h9, by omega, fun i hi => by rw [hdl] at hi; rw [getD_drop1]; exact hlo i hi⟩, hf.D (by decide) hd, hf.T (by decide) (by decide) hT, mDs_fr hf.1 (by decide) hmD, by rw [hf.F (by decide)]; exact h8, by rw [hf.F (by decide)]; exact h10, by rw [hf.F (by decide)]; exact h11⟩
      have h1 := tail S' (ss.drop 1) (mf_w hf (by decide) (by decide)) hJ' (by omega) hlr
      unfold wpX12_learns_b128
      rw [h9]
      exact ⟨msk hM', fun _ => h1 _, fun z => absurd (Eq.mpr (o_le (by omega) (by omega)) (Nat.le_refl _)) z⟩
    | succ r ih =>
      intro k S' hk h12 hf h9 hlo hhi
      have hM' := hf.M hJ.1
      have hn := ih (k + 1)
      generalize r + 1 = fu at hn ⊢
      have hk1 := hhi (k + 1) (by omega) (by omega)
      unfold wpX12_learns_b128
      simp (disch := omega) only [c_0, c_1, h9, o_add, o_cl]
      refine ⟨msk hM', fun z => ?_, fun _ => ⟨93, msr_sets hM', msk_sets hM', ?_, ?_, ?_⟩⟩
      · rw [o_le (by omega) (by omega)] at z
        omega
      · rw [msl_sets hM', o_inT (by omega) (by omega)]
        trivial
      · rw [msl_sets hM', o_inT (by omega) (by omega)]
        trivial
      · rw [hk1]
        refine hn _ (by omega) h12 (mf_t hf (mf_row _ _ _ (by decide) (by decide))) (by rw [pI_sI, if_neg (fun q => absurd q.1 (by decide))]; exact h9) (fun i hi => ?_) (fun i h1 h2 => ?_)
        · rw [pI_sI]
          by_cases e : i = k
          · rw [if_pos ⟨rfl, e⟩, e]
          · rw [if_neg (fun q => e q.2)]
            exact hlo i (by omega)
        · rw [pI_sI, if_neg (fun q => absurd q.2 (by omega))]
          exact hhi i (by omega) h2
  -- the set is told
  have tell : ∀ r k S', k + r = ds.length → fr [96, 104] S S' → wpX12_learns_b55 Q (r + 1) S' 87 (nI (svN M ds.length)) (nI (lrS M ds k)) (nI k) := by
    intro r
    induction r with
    | zero =>
      intro k S' hk hf
      have e : k = ds.length := by omega
      rw [e, ← es]
      have hf2 : mf [96, 104] [] S S' := mf_fr hf (by decide)
      have hJ' : MJ S' P ss ds σ n := MJ_mf hf2 (by decide) (by decide) hJ
      have hJ2 := hJ'
      obtain ⟨hM, hp, hs0, hd, hT, hmD, h8, h10, h11⟩ := hJ'
      have h12' : ss.length ≤ 12 := hss12
      unfold wpX12_learns_b55
      simp (disch := omega) only [c_0, c_1, c_12, h8, hs0.1]
      refine ⟨msk hM, fun _ => ⟨fun z => ?_, fun z => ?_⟩, fun z => absurd (Eq.mpr (o_le (by omega) (by omega)) (Nat.le_refl _)) z⟩
      · rw [o_eq (by omega) (by omega)] at z
        have hlr : lrnS P ss ds σ = ss ++ [s] := by
          unfold lrnS kpS
          rw [if_neg z, es, eM]
        exact tail S' ss (mf_w hf2 (by decide) (by decide)) hJ2 (by omega) hlr _
      · rw [o_eq (by omega) (by omega)] at z
        rw [z, o_sub (by decide)]
        exact ⟨_, shift 11 0 _ rfl z (mf_t (mf_w hf2 (by decide) (by decide)) (mf_sI _ _ (by decide))) (by rw [pI_sI, if_pos ⟨rfl, rfl⟩]) (fun i hi => absurd hi (Nat.not_lt_zero _)) (fun i _ hi => by
          rw [pI_sI, if_neg (fun q => absurd q.1 (by decide))]
          exact hs0.2.2 i (by omega))⟩
    | succ r ih =>
      intro k S' hk hf
      have hM' := hf.M hJ.1
      have hkl : k < ds.length := by omega
      have hdk := hds k hkl
      have h8' : pI S' 87 8 = nI ds.length := by rw [hf.I (by decide)]; exact hJ.2.2.2.2.2.2.1
      have hm := mDs_fr hf (by decide) hJ.2.2.2.2.2.1 k hkl
      have hstep : lrS M ds (k + 1) = if M k = true then lrS M ds k ||| ((dG ds k).2 + 1) * 2 ^ (3 * (dG ds k).1) else lrS M ds k := rfl
      have hlt := lrS_lt (m := M) hds k (by omega)
      have hn := ih (k + 1) S' (by omega) hf
      generalize r + 1 = fu at hn ⊢
      rw [hstep] at hn
      have htb : (svN M ds.length).testBit k = M k := by
        have := svN_tb (p := M) (x := k) ds.length
        cases h1 : M k
        · cases h2 : (svN M ds.length).testBit k
          · rfl
          · exact absurd (this.mp h2).2 (by rw [h1]; decide)
        · exact this.mpr ⟨hkl, h1⟩
      have hsh : nI ((dG ds k).2 + 1) <<< (nI (3 * (dG ds k).1) &&& nI 31) = nI (((dG ds k).2 + 1) * 2 ^ (3 * (dG ds k).1)) := by
        rw [o_and31 (by omega), o_shl (by omega)]
        have h1 : ((dG ds k).2 + 1) * 2 ^ (3 * (dG ds k).1) < 2 ^ 3 * 2 ^ (3 * (dG ds k).1) := Nat.mul_lt_mul_of_pos_right (by omega) (Nat.two_pow_pos _)
        have h2 : 2 ^ 3 * 2 ^ (3 * (dG ds k).1) ≤ 2 ^ 21 := by
          rw [← Nat.pow_add]
          exact Nat.pow_le_pow_right (by decide) (by omega)
        have h3 : (2 : Nat) ^ 21 ≤ 2 ^ 32 := by decide
        omega
      unfold wpX12_learns_b55
      simp (disch := omega) only [c_0, c_1, c_2, c_3, c_31, h8', o_mul, o_add, o_cl, hm.1, hm.2, hsh, o_or, Nat.or_zero]
      refine ⟨msk hM', fun z => ?_, fun _ => ?_⟩
      · rw [o_le (by omega) (by omega)] at z
        omega
      · rw [w_has (by have := svN_128 (m := M) hl7; omega) (by omega), htb]
        refine ⟨fun z => ?_, fun z => ⟨msk hM', 92, msr_decs hM', msk_decs hM', ?_, ?_, ?_⟩⟩
        · rw [bI_0] at z
          rw [if_neg (by rw [z]; decide)] at hn
          exact hn
        · rw [msl_decs hM', o_inT (by omega) (by omega)]
          trivial
        · rw [msl_decs hM', o_inT (by omega) (by omega)]
          trivial
        · rw [bI_0, Bool.not_eq_false] at z
          rw [if_pos z] at hn
          rw [hm.1, hm.2, o_add, o_mul, hsh, o_or]
          exact hn
  -- each decision is tried
  have try1 : ∀ r k S', k + r = ds.length → fr [96, 104] S S' → wpX12_learns_b11 Q (r + 1) S' 87 (nI (svN (lrM P ss σ.2 ds k) ds.length)) (nI k) := by
    intro r
    induction r with
    | zero =>
      intro k S' hk hf
      have e : k = ds.length := by omega
      rw [e, ← eM]
      have hM' := hf.M hJ.1
      have h8' : pI S' 87 8 = nI ds.length := by rw [hf.I (by decide)]; exact hJ.2.2.2.2.2.2.1
      unfold wpX12_learns_b11
      rw [h8', c_0]
      exact ⟨msk hM', fun _ => ⟨_, tell ds.length 0 S' (Nat.zero_add _) hf⟩, fun z => absurd (Eq.mpr (o_le (by omega) (by omega)) (Nat.le_refl _)) z⟩
    | succ r ih =>
      intro k S' hk hf
      have hM' := hf.M hJ.1
      have hkl : k < ds.length := by omega
      have h8' : pI S' 87 8 = nI ds.length := by rw [hf.I (by decide)]; exact hJ.2.2.2.2.2.2.1
      have hstep : lrM P ss σ.2 ds (k + 1) = if mkF P ss σ.2 ds (ud (lrM P ss σ.2 ds k) k false) = true then ud (lrM P ss σ.2 ds k) k false else lrM P ss σ.2 ds k := rfl
      have hn := ih (k + 1)
      generalize r + 1 = fu at hn ⊢
      rw [hstep] at hn
      have hf2 : mf [96, 104] [] S S' := mf_fr hf (by decide)
      have hJ' : MJ S' P ss ds σ n := MJ_mf hf2 (by decide) (by decide) hJ
      unfold wpX12_learns_b11
      simp (disch := omega) only [c_0, c_1, c_31, ↓ng_d, h8', o_add, one_shl31, svN_clr hl7 hkl, m7_ng _ (svN_128 hl7)]
      refine ⟨msk hM', fun z => ?_, fun _ => ?_⟩
      · rw [o_le (by omega) (by omega)] at z
        omega
      · refine q_makeFail hJ' hV h0 (fun S2 hf3 => ?_)
        rw [bI_0]
        refine ⟨fun z => ?_, fun z => ?_⟩
        · rw [if_neg (by rw [z]; decide)] at hn
          exact hn S2 (by omega) (fr_t hf hf3)
        · rw [Bool.not_eq_false] at z
          rw [if_pos z] at hn
          exact hn S2 (by omega) (fr_t hf hf3)
  have h1 := try1 ds.length 0 S (Nat.zero_add _) (fr_r _ _)
  have h8 := hJ.2.2.2.2.2.2.1
  unfold wpX12_learns
  rw [h8, c_0, c_1, c_31, svN_all hl7]
  exact ⟨msk hJ.1, _, h1⟩

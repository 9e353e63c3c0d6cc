/-! THE REFERENCE: decisions -/
theorem mf_w {A B F E : List Nat} {S S' : PS} (h : mf A F S S') (hs : ∀ a ∈ A, a ∈ B) (hE : ∀ k ∈ F, k ∈ E) : mf B E S S' := mf_m hs hE h
/-- the kept decisions -/
def mDs (S : PS) (ds : List (Nat × Nat)) : Prop := ∀ k, k < ds.length → pI S 92 (2 * k) = nI (dG ds k).1 ∧ pI S 92 (2 * k + 1) = nI (dG ds k).2
/-- the reference's object holds a problem, sets, decisions, a trail, a number of decisions made -/
def MJ (S : PS) (P : Nat → Nat) (ss : List Nat) (ds : List (Nat × Nat)) (σ : St) (n : Nat) : Prop := MShape S ∧ rP S P ∧ rSS S ss ∧ rD S 90 σ.1 ∧ rT S σ.2 ∧ mDs S ds ∧ pI S 87 8 = nI ds.length ∧ pI S 87 10 = nI n ∧ pI S 87 11 = bI (fl (P 0) σ.1)
theorem mDs_fr {A : List Nat} {S S' : PS} {ds : List (Nat × Nat)} (h : fr A S S') (hA : 92 ∉ A) (hD : mDs S ds) : mDs S' ds := fun k hk => by
  rw [h.I hA, h.I hA]
  exact hD k hk
theorem MJ_mf {A F : List Nat} {S S' : PS} {P : Nat → Nat} {ss : List Nat} {ds : List (Nat × Nat)} {σ : St} {n : Nat} (h : mf A F S S') (hA : 88 ∉ 87 :: A ∧ 90 ∉ 87 :: A ∧ 91 ∉ 87 :: A ∧ 92 ∉ 87 :: A ∧ 93 ∉ 87 :: A) (hF : 7 ∉ F ∧ 8 ∉ F ∧ 9 ∉ F ∧ 10 ∉ F ∧ 11 ∉ F) (hJ : MJ S P ss ds σ n) : MJ S' P ss ds σ n := by
  obtain ⟨a1, a2, a3, a4, a5, a6, a7, a8, a9⟩ := hJ
  exact ⟨h.M a1, h.P hA.1 a2, h.S hA.2.2.2.2 hF.2.2.1 a3, h.D hA.2.1 a4, h.T hA.2.2.1 hF.1 a5, mDs_fr h.1 hA.2.2.2.1 a6, by rw [h.F hF.2.1]; exact a7, by rw [h.F hF.2.2.2.1]; exact a8, by rw [h.F hF.2.2.2.2]; exact a9⟩
/-- a decision may be made -/
def dOK (P : Nat → Nat) (σ : St) (x v : Int32) (y w : Nat) : Prop := y < P 0 ∧ x = nI y ∧ w < 5 ∧ v = nI w ∧ (σ.1 y).testBit w = true
/-- the value is not in the domain -/
def noD (σ : St) (v : Int32) (y : Nat) : Prop := ∀ w, w < 5 → v = nI w → (σ.1 y).testBit w = false
theorem q_misValue {S : PS} {d : Nat → Nat} {y : Nat} {v : Int32} {Q : Int32 → PS → Prop} (hM : MShape S) (hd : rD S 90 d) (hy : y < 7) (hQ1 : ∀ w, w < 5 → v = nI w → (d y).testBit w = true → Q (nI 1) S) (hQ0 : (∀ w, w < 5 → v = nI w → (d y).testBit w = false) → Q (nI 0) S) : wpX12_isValue S 87 (nI y) v Q := by
  unfold wpX12_isValue
  rw [c_0, c_1]
  rcases i_split v (N := 5) (by decide) with ⟨w, hw5, rfl⟩ | hv
  · rw [w_in4n hw5]
    have hdy := hd.2.2.2 y hy
    have hro := hd.2.2.1 y hy
    refine ⟨fun z => absurd z (by decide), fun _ => ⟨msk hM, 90, msr_domain hM, msk_domain hM, ?_, ?_⟩⟩
    · rw [msl_domain hM, o_inT (by omega) (by omega)]
      trivial
    · rw [o_cl (by omega), hro, w_has (by omega) (by omega)]
      refine ⟨fun z => ?_, fun z => ?_⟩
      · rw [bI_0] at z
        refine hQ0 (fun u hu e => ?_)
        have e2 : w = u := Eq.mp (o_eq (by omega) (by omega)) e
        rw [← e2]
        exact z
      · rw [bI_0, Bool.not_eq_false] at z
        exact hQ1 w hw5 rfl z
  · rw [w_in40n hv]
    exact ⟨fun _ => hQ0 (fun w hw e => (out_no (by decide) hv hw e).elim), fun z => absurd rfl z⟩
theorem q_mayDecide {S : PS} {P : Nat → Nat} {σ : St} {x v : Int32} {Q : Int32 → PS → Prop} (hM : MShape S) (hp : rP S P) (hw : Pwf P) (hd : rD S 90 σ.1) (h0 : pI S 87 0 = nI 0) (h11 : pI S 87 11 = bI (fl (P 0) σ.1))
    (hQ : ∀ y w, dOK P σ x v y w → 1 < pcn 5 (σ.1 y) → fl (P 0) σ.1 = false → Q (nI 1) S)
    (hX1 : (x < nI 0 ∨ nI (P 0) ≤ x) → Q (nI 0) (sI S 87 0 (nI 1)))
    (hX2 : ∀ y, y < P 0 → x = nI y → noD σ v y → Q (nI 0) (sI S 87 0 (nI 2)))
    (hX3 : ∀ y w, dOK P σ x v y w → (pcn 5 (σ.1 y) ≤ 1 ∨ fl (P 0) σ.1 = true) → Q (nI 0) (sI S 87 0 (nI 3))) : wpX12_mayDecide S 87 x v Q := by
  have hP0 := hw.1
  unfold wpX12_mayDecide wpX12_mayDecide_b52 wpX12_mayDecide_b53
  rw [c_0, c_1, c_2, c_3]
  refine ⟨msk hM, ?_⟩
  rcases i_split x (N := P 0) (by omega) with ⟨y, hy, rfl⟩ | hx
  · have hy7 : y < 7 := by omega
    rw [w_mvar hM hp hw hy]
    refine ⟨msk hM, ?_⟩
    rw [w_may1 hM h0]
    refine ⟨fun z => absurd z (by decide), fun _ => ⟨msk hM, q_misValue hM hd hy7 (fun w hw5 ev hb => ⟨msk hM, ?_⟩) (fun hno => ⟨msk hM, ?_⟩)⟩⟩
    · rw [w_may1 hM h0]
      have hok : dOK P σ (nI y) v y w := ⟨hy, rfl, hw5, ev, hb⟩
      refine ⟨fun z => absurd z (by decide), fun _ => ⟨msk hM, 90, msr_domain hM, msk_domain hM, ?_, ?_⟩⟩
      · rw [msl_domain hM, o_inT (by omega) (by omega)]
        trivial
      · rw [o_cl (by omega), hd.2.2.1 y hy7]
        refine q_sizeOf (k := 5) (by decide) (hd.2.2.2 y hy7) ?_
        have hpc := pcn_le 5 (σ.1 y)
        rw [o_le (by omega) (by omega), w_may0 hM (by decide) (by decide) h0, w_may1 hM h0, h11, bI_0]
        refine ⟨fun z => ⟨msk hM, fun _ => hX3 y w hok (Or.inl z), fun z2 => absurd rfl z2⟩, fun z => ⟨msk hM, fun z2 => ⟨msk hM, fun _ => hX3 y w hok (Or.inr (by rw [← Bool.not_eq_false]; exact z2)), fun z3 => absurd rfl z3⟩, fun z2 => ⟨msk hM, fun z3 => absurd z3 (by decide), fun _ => hQ y w hok (by omega) z2⟩⟩⟩
    · rw [w_may0 hM (by decide) (by decide) h0]
      exact ⟨fun _ => hX2 y hy rfl hno, fun z => absurd rfl z⟩
  · rw [w_mvar0 hM hp hw hx]
    refine ⟨msk hM, ?_⟩
    rw [w_may0 hM (by decide) (by decide) h0]
    exact ⟨fun _ => hX1 hx, fun z => absurd rfl z⟩
theorem fl_as {P : Nat → Nat} {x v l : Nat} {σ : St} (hP0 : P 0 ≤ 7) (hx : x < P 0) (hv : v < 5) (hd : Dwf σ.1) (hb : (σ.1 x).testBit v = true) (hnf : fl (P 0) σ.1 = false) : fl (P 0) (asS x v l 5 σ).1 = false := by
  refine fl_f.mpr (fun y hy => ?_)
  rw [asS_d (by omega) hv hd hb y (by omega)]
  by_cases e : y = x
  · rw [e, ud_s]
    have := Nat.two_pow_pos v
    omega
  · rw [ud_n _ _ e]
    exact fl_f.mp hnf y hy
theorem q_decides {S : PS} {P : Nat → Nat} {ss : List Nat} {σ : St} {x v l : Nat} {Q : Int32 → PS → Prop} (hM : MShape S) (hp : rP S P) (hw : Pwf P) (hd : rD S 90 σ.1) (hT : rT S σ.2) (hs0 : rSS S ss) (hsw : SSw P ss) (hl : pI S 87 8 = nI l) (hl7 : l < 7) (hx : x < P 0) (hv : v < 5) (hb : (σ.1 x).testBit v = true) (hsum : dsum σ.1 + σ.2.length ≤ 35) (hnf : fl (P 0) σ.1 = false)
    (hQ : ∀ S', mf [90, 91, 92, 96] [7, 8, 11] S S' → rD S' 90 (prE P ss (l + 1) (asS x v (l + 1) 5 σ)).1 → rT S' (prE P ss (l + 1) (asS x v (l + 1) 5 σ)).2 → pI S' 87 8 = nI (l + 1) → pI S' 87 11 = bI (fl (P 0) (prE P ss (l + 1) (asS x v (l + 1) 5 σ)).1) → pI S' 92 (2 * l) = nI x → pI S' 92 (2 * l + 1) = nI v → (∀ k, k < 2 * l → pI S' 92 k = pI S 92 k) → Q (nI ((prE P ss (l + 1) (asS x v (l + 1) 5 σ)).2.length - σ.2.length)) S') : wpX12_decides S 87 (nI x) (nI v) Q := by
  have hP0 := hw.1
  have hx7 : x < 7 := by omega
  have t2 := hT.2.1
  obtain ⟨S1, eS1⟩ : ∃ S1, S1 = sI (sI (sI S 92 (2 * l) (nI x)) 92 (2 * l + 1) (nI v)) 87 8 (nI (l + 1)) := ⟨_, rfl⟩
  have f01 : mf [90, 91, 92, 96] [7, 8, 11] S S1 := by
    rw [eS1]
    exact mf_t (mf_t (mf_row _ _ _ (by decide) (by decide)) (mf_row _ _ _ (by decide) (by decide))) (mf_sI _ _ (by decide))
  have hM1 := f01.M hM
  have hp1 := f01.P (by decide) hp
  have hs1 := f01.S (by decide) (by decide) hs0
  have hl1 : pI S1 87 8 = nI (l + 1) := by rw [eS1, pI_sI, if_pos ⟨rfl, rfl⟩]
  have r1 : ∀ a k, a ≠ 92 → a ≠ 87 → pI S1 a k = pI S a k := fun a k h1 h2 => by
    rw [eS1, pI_sI, if_neg (fun q => h2 q.1), pI_sI, if_neg (fun q => h1 q.1), pI_sI, if_neg (fun q => h1 q.1)]
  have r87 : ∀ k, k ≠ 8 → pI S1 87 k = pI S 87 k := fun k h => by
    rw [eS1, pI_sI, if_neg (fun q => h q.2), pI_sI, if_neg (fun q => absurd q.1 (by decide)), pI_sI, if_neg (fun q => absurd q.1 (by decide))]
  have hT1 : rT S1 σ.2 := ⟨by rw [r87 7 (by decide)]; exact hT.1, t2, fun i hi => by
    rw [r1 91 _ (by decide) (by decide), r1 91 _ (by decide) (by decide), r1 91 _ (by decide) (by decide), r1 91 _ (by decide) (by decide), r1 91 _ (by decide) (by decide)]
    exact hT.2.2 i hi⟩
  have hd1 : rD S1 90 σ.1 := ⟨msk_domain hM1, msl_domain hM1, fun y hy => by rw [r1 90 _ (by decide) (by decide)]; exact hd.2.2.1 y hy, hd.2.2.2⟩
  have w0 : pI S1 92 (2 * l) = nI x := by
    rw [eS1, pI_sI, if_neg (fun q => absurd q.1 (by decide)), pI_sI, if_neg (fun q => absurd q.2 (by omega)), pI_sI, if_pos ⟨rfl, rfl⟩]
  have w1 : pI S1 92 (2 * l + 1) = nI v := by
    rw [eS1, pI_sI, if_neg (fun q => absurd q.1 (by decide)), pI_sI, if_pos ⟨rfl, rfl⟩]
  have w2 : ∀ k, k < 2 * l → pI S1 92 k = pI S 92 k := fun k hk => by
    rw [eS1, pI_sI, if_neg (fun q => absurd q.1 (by decide)), pI_sI, if_neg (fun q => absurd q.2 (by omega)), pI_sI, if_neg (fun q => absurd q.2 (by omega))]
  have hsA := asS_sum (v := v) (l := l + 1) hx7 hd.2.2.2 hsum
  have loop : ∀ r u S', u + r = 5 → mf [91] [7] S1 S' → rT S' (asS x v (l + 1) u σ).2 → wpX12_decides_b44 Q (r + 1) S' 87 (nI x) (nI v) (nI σ.2.length) (nI u) := by
    intro r
    induction r with
    | zero =>
      intro u S' hu hf hTu
      have e : u = 5 := by omega
      subst e
      have hM' := hf.M hM1
      have hd' := hf.D (by decide) hd1
      unfold wpX12_decides_b44 wpX12_decides_b112
      rw [c_0, c_1, c_31, one_shl31 (by omega), o_cl (by omega)]
      refine ⟨fun _ => ⟨msk hM', 90, msr_domain hM', msk_domain hM', ?_, ?_⟩, fun z => absurd (by decide) z⟩
      · rw [msl_domain hM', o_inT (by omega) (by omega)]
        trivial
      · have f2 : mf [90, 91, 92, 96] [7, 8, 11] S (sI S' 90 x (nI (2 ^ v))) := mf_t f01 (mf_t (mf_w hf (by decide) (by decide)) (mf_row _ _ _ (by decide) (by decide)))
        have f3 : mf [90, 91, 96] [7] S1 (sI S' 90 x (nI (2 ^ v))) := mf_t (mf_w hf (by decide) (by decide)) (mf_row _ _ _ (by decide) (by decide))
        have hM2 := f2.M hM
        have hd2 : rD (sI S' 90 x (nI (2 ^ v))) 90 (asS x v (l + 1) 5 σ).1 := rD_cg (rD_sI hd' (dm_pow_lt v hv)) (fun y hy => (asS_d hx7 hv hd.2.2.2 hb y hy).symm)
        have hT2 : rT (sI S' 90 x (nI (2 ^ v))) (asS x v (l + 1) 5 σ).2 := (mf_row (A := [90]) (F := []) S' x (nI (2 ^ v)) (by decide) (by decide)).T (by decide) (by decide) hTu
        refine q_sweeps (re := true) (a := 90) (A := [90, 91, 96]) (F := [7]) (ss := ss) (l := l + 1) (σ0 := asS x v (l + 1) 5 σ) SwH_t hM2 (f2.P (by decide) hp) hw (by rw [f3.F (by decide)]; exact hl1) (f2.S (by decide) (by decide) hs0) hsw (hsA 5 (Nat.le_refl _)).1 (hsA 5 (Nat.le_refl _)).2 (fl_as hP0 hx hv hd.2.2.2 hb hnf) ⟨⟨fr_r _ _, fun _ _ => ⟨rfl, rfl⟩⟩, hd2, fun _ => hT2⟩ (fun S3 hI3 => ?_)
        have hM3 := hI3.1.M hM2
        have hlen := (hI3.2.2 rfl).1
        have hge : σ.2.length ≤ (prE P ss (l + 1) (asS x v (l + 1) 5 σ)).2.length := by
          have h1 := asS_ap (x := x) (v := v) (l := l + 1) (σ := σ) 5 (Nat.le_refl _) (fun τ => σ.2.length ≤ τ.2.length) (fun τ f h _ _ => by
            show σ.2.length ≤ (τ.2 ++ [f]).length
            rw [List.length_append]
            omega) (Nat.le_refl _)
          exact prE_ap (P := P) (ss := ss) (l := l + 1) (asS x v (l + 1) 5 σ) (fun τ => σ.2.length ≤ τ.2.length) (fun τ f h _ _ => by
            show σ.2.length ≤ (τ.2 ++ [f]).length
            rw [List.length_append]
            omega) h1
        have fin : ∀ b : Bool, fl (P 0) (prE P ss (l + 1) (asS x v (l + 1) 5 σ)).1 = b → Q (nI ((prE P ss (l + 1) (asS x v (l + 1) 5 σ)).2.length - σ.2.length)) (sI S3 87 11 (bI b)) := fun b hbb => by
          have f4 : mf [90, 91, 96] [7, 11] S1 (sI S3 87 11 (bI b)) := mf_t (mf_t (mf_w f3 (by decide) (by decide)) (mf_w hI3.1 (by decide) (by decide))) (mf_sI _ _ (by decide))
          refine hQ _ (mf_t f01 (mf_w f4 (by decide) (by decide))) ?_ ?_ ?_ ?_ ?_ ?_ ?_
          · exact (mf_sI (A := []) (F := [11]) S3 (bI b) (by decide)).D (by decide) hI3.2.1
          · exact (mf_sI (A := []) (F := [11]) S3 (bI b) (by decide)).T (by decide) (by decide) (hI3.2.2 rfl)
          · rw [f4.F (by decide)]
            exact hl1
          · rw [pI_sI, if_pos ⟨rfl, rfl⟩, hbb]
          · rw [f4.1.I (by decide)]
            exact w0
          · rw [f4.1.I (by decide)]
            exact w1
          · intro k hk
            rw [f4.1.I (by decide)]
            exact w2 k hk
        unfold wpX12_factsFrom
        rw [bI_0]
        have hsub : ∀ b : Bool, pI (sI S3 87 11 (bI b)) 87 7 - nI σ.2.length = nI ((prE P ss (l + 1) (asS x v (l + 1) 5 σ)).2.length - σ.2.length) := fun b => by
          rw [pI_sI, if_neg (fun q => absurd q.2 (by decide)), hlen, o_sub hge]
        refine ⟨fun z => ⟨msk hM3, Or.inl rfl, msk hM3, msk hM3, ?_⟩, fun z => ⟨msk hM3, Or.inr rfl, msk hM3, msk hM3, ?_⟩⟩
        · have hff : fl (P 0) (prE P ss (l + 1) (asS x v (l + 1) 5 σ)).1 = false := by
            cases hc : fl (P 0) (prE P ss (l + 1) (asS x v (l + 1) 5 σ)).1
            · rfl
            · rw [hc] at z
              exact absurd rfl z
          have h1 := fin false hff
          rw [← hsub false] at h1
          exact h1
        · have hff : fl (P 0) (prE P ss (l + 1) (asS x v (l + 1) 5 σ)).1 = true := by
            cases hc : fl (P 0) (prE P ss (l + 1) (asS x v (l + 1) 5 σ)).1
            · rw [hc] at z
              cases z
            · rfl
          have h1 := fin true hff
          rw [← hsub true] at h1
          exact h1
    | succ r ih =>
      intro u S' hu hf hTu
      have hu5 : u < 5 := by omega
      have hM' := hf.M hM1
      have hd' := hf.D (by decide) hd1
      have hro := hd'.2.2.1 x hx7
      have hdx := hd.2.2.2 x hx7
      have hsu := hsA u (by omega)
      have htb := asS_tb (v := v) (l := l + 1) hx7 hd.2.2.2 u (by omega) u hu5
      rw [decide_eq_false (Nat.lt_irrefl u), Bool.false_and, Bool.not_false, Bool.and_true] at htb
      have hstep : asS x v (l + 1) (u + 1) σ = if (decide (u ≠ v) && ((asS x v (l + 1) u σ).1 x).testBit u) = true then (ud (asS x v (l + 1) u σ).1 x (clr ((asS x v (l + 1) u σ).1 x) u), (asS x v (l + 1) u σ).2 ++ [(x, u, ngI, l + 1, 0)]) else asS x v (l + 1) u σ := rfl
      have hn := ih (u + 1)
      generalize r + 1 = fu at hn ⊢
      rw [hstep] at hn
      unfold wpX12_decides_b44
      simp only [c_0, c_1, c_5, ↓ng_d, o_add]
      refine ⟨fun z => ?_, fun _ => ⟨fun z => ?_, fun z => ⟨msk hM', 90, msr_domain hM', msk_domain hM', ?_, ?_⟩⟩⟩
      · rw [o_le (by omega) (by omega)] at z
        omega
      · rw [o_eq (by omega) (by omega)] at z
        rw [if_neg (by rw [decide_eq_false (fun q => q z)]; simp)] at hn
        exact hn S' (by omega) hf hTu
      · rw [msl_domain hM', o_inT (by omega) (by omega)]
        trivial
      · rw [o_eq (by omega) (by omega)] at z
        rw [o_cl (by omega), hro, w_has (by omega) (by omega)]
        refine ⟨fun z2 => ?_, fun z2 => ⟨msk hM', ?_⟩⟩
        · rw [bI_0] at z2
          rw [if_neg (by rw [htb, z2]; simp)] at hn
          exact hn S' (by omega) hf hTu
        · rw [bI_0, Bool.not_eq_false] at z2
          rw [if_pos (by rw [htb, z2, decide_eq_true (show u ≠ v from z)]; rfl)] at hn
          have hpos := dsum_pos hsu.1 hx7 hu5 (by rw [htb]; exact z2)
          refine q_lays hM' hTu (by omega) (by rw [hf.F (by decide)]; exact hl1) (fun S2 hf2 hT2 => ?_)
          exact hn S2 (by omega) (mf_t hf hf2) hT2
  have h5 : ∃ n9 : Nat, wpX12_decides_b44 Q n9 S1 87 (nI x) (nI v) (nI σ.2.length) (nI 0) := ⟨_, loop 5 0 S1 rfl ⟨fr_r _ _, fun _ _ => ⟨rfl, rfl⟩⟩ hT1⟩
  rw [eS1] at h5
  unfold wpX12_decides
  have g1 : pI (sI S 92 (2 * l) (nI x)) 87 8 = nI l := by
    rw [pI_sI, if_neg (fun q => absurd q.1 (by decide))]
    exact hl
  have g2 : pI (sI (sI S 92 (2 * l) (nI x)) 92 (2 * l + 1) (nI v)) 87 8 = nI l := by
    rw [pI_sI, if_neg (fun q => absurd q.1 (by decide))]
    exact g1
  rw [c_0, c_1, c_2, hl, o_mul, o_cl (by omega), hT.1]
  refine ⟨msk hM, 92, msr_decs hM, msk_decs hM, ?_, ?_, ?_⟩
  · rw [msl_decs hM, o_inT (by omega) (by omega)]
    trivial
  · rw [g1, o_mul, o_add, msl_decs hM, o_inT (by omega) (by omega)]
    trivial
  · rw [g1, o_mul, o_add, o_cl (by omega), g2, o_add]
    exact h5
theorem q_takesBack {S : PS} {P : Nat → Nat} {σ : St} {L : Nat} {Q : Int32 → PS → Prop} (hM : MShape S) (hw : Pwf P) (hd : rD S 90 σ.1) (hT : rT S σ.2) (hTI : TI P σ) (hLv : Lv σ.2 L) (hL : 0 < L) (hL7 : L ≤ 7) (hl : pI S 87 8 = nI L)
    (hQ : ∀ S', mf [90] [7, 8, 11] S S' → rD S' 90 (dI P (tkB σ.2 L)) → rT S' (tkB σ.2 L) → pI S' 87 8 = nI (L - 1) → pI S' 87 11 = nI 0 → Q (nI (σ.2.length - bkN σ.2 L σ.2.length)) S') : wpX12_takesBack S 87 Q := by
  have t2 := hT.2.1
  have fin : ∀ m S', m ≤ σ.2.length → mf [90] [7] S S' → rD S' 90 (dI P (σ.2.take m)) → rT S' (σ.2.take m) → m = bkN σ.2 L σ.2.length → wpX12_takesBack_b79 Q S' 87 (nI σ.2.length) := fun m S' hm hf hdm hTm he => by
    have hM' := hf.M hM
    have hlen : (σ.2.take m).length = m := by rw [List.length_take]; exact Nat.min_eq_left hm
    have e3 : tkB σ.2 L = σ.2.take m := by unfold tkB; rw [← he]
    have hl' : pI S' 87 8 = nI L := by rw [hf.F (by decide)]; exact hl
    have f2 : mf [] [8, 11] S' (sI (sI S' 87 8 (nI (L - 1))) 87 11 (nI 0)) := mf_t (mf_sI _ _ (by decide)) (mf_sI _ _ (by decide))
    have f3 : mf [90] [7, 8, 11] S (sI (sI S' 87 8 (nI (L - 1))) 87 11 (nI 0)) := mf_t (mf_w hf (by decide) (by decide)) (mf_t (mf_sI _ _ (by decide)) (mf_sI _ _ (by decide)))
    have h1 := hQ _ f3 (by rw [e3]; exact f2.D (by decide) hdm) (by rw [e3]; exact f2.T (by decide) (by decide) hTm) (by rw [pI_sI, if_neg (fun q => absurd q.2 (by decide)), pI_sI, if_pos ⟨rfl, rfl⟩]) (by rw [pI_sI, if_pos ⟨rfl, rfl⟩])
    unfold wpX12_takesBack_b79
    rw [c_0, c_1, hl', o_sub hL, pI_sI, if_neg (fun q => absurd q.2 (by decide)), pI_sI, if_neg (fun q => absurd q.2 (by decide)), hTm.1, hlen, o_sub hm, he]
    exact ⟨msk hM', h1⟩
  have loop : ∀ m S', m ≤ σ.2.length → mf [90] [7] S S' → rD S' 90 (dI P (σ.2.take m)) → rT S' (σ.2.take m) → bkN σ.2 L m = bkN σ.2 L σ.2.length → wpX12_takesBack_b5 Q (m + 1) S' 87 (nI σ.2.length) := by
    intro m
    induction m with
    | zero =>
      intro S' hm hf hdm hTm he
      have hM' := hf.M hM
      have h7 := hTm.1
      unfold wpX12_takesBack_b5
      rw [c_0, h7]
      exact ⟨msk hM', fun _ => fin 0 S' hm hf hdm hTm he, fun z => absurd (Eq.mpr (o_le (by decide) (by decide)) (Nat.le_refl 0)) z⟩
    | succ m ih =>
      intro S' hm hf hdm hTm he
      have hM' := hf.M hM
      have hml : m < σ.2.length := by omega
      have hlen : (σ.2.take (m + 1)).length = m + 1 := by rw [List.length_take]; exact Nat.min_eq_left (by omega)
      have hlen2 : (σ.2.take m).length = m := by rw [List.length_take]; exact Nat.min_eq_left (by omega)
      have hs := Tok_sm hw hTI.1 m hml
      have h7 : pI S' 87 7 = nI (m + 1) := by rw [hTm.1, hlen]
      have hl' : pI S' 87 8 = nI L := by rw [hf.F (by decide)]; exact hl
      have eG : fG (σ.2.take (m + 1)) m = fG σ.2 m := fG_take (Nat.lt_succ_self m)
      obtain ⟨f0, f1, f2, f3, f4⟩ := hTm.2.2 m (by omega)
      rw [eG] at f0 f1 f3
      have hlv := (hLv m hml).1
      have hbk : bkN σ.2 L (m + 1) = if L ≤ (fG σ.2 m).2.2.2.1 then bkN σ.2 L m else m + 1 := rfl
      rw [hbk] at he
      have fin2 := fin (m + 1) S' (by omega) hf hdm hTm
      have hn := ih
      generalize hfu : m + 1 = fu at hn ⊢
      have e53 : nI (5 * (m + 1)) - nI 2 = nI (5 * m + 3) := by rw [o_sub (by omega)]; rw [show 5 * (m + 1) - 2 = 5 * m + 3 by omega]
      have e71 : nI (m + 1) - nI 1 = nI m := by rw [o_sub (by omega)]; rw [show m + 1 - 1 = m by omega]
      have g7 : pI (sI S' 87 7 (nI m)) 87 7 = nI m := by rw [pI_sI, if_pos ⟨rfl, rfl⟩]
      have g0 : pI (sI S' 87 7 (nI m)) 91 (5 * m) = nI (fG σ.2 m).1 := by
        rw [pI_sI, if_neg (fun q => absurd q.1 (by decide))]
        exact f0
      have g1 : pI (sI S' 87 7 (nI m)) 91 (5 * m + 1) = nI (fG σ.2 m).2.1 := by
        rw [pI_sI, if_neg (fun q => absurd q.1 (by decide))]
        exact f1
      have g9 : pI (sI S' 87 7 (nI m)) 90 (fG σ.2 m).1 = nI (dI P (σ.2.take (m + 1)) (fG σ.2 m).1) := by
        rw [pI_sI, if_neg (fun q => absurd q.1 (by decide))]
        exact hdm.2.2.1 _ hs.1
      unfold wpX12_takesBack_b5
      simp (disch := omega) only [c_0, c_1, c_2, c_5, c_31, h7, hl', o_mul, e53, e71, g7, o_add, o_cl, g0, g1, g9, f3, one_shl31, o_or, msr_facts hM', msr_domain hM', Option.some.injEq, exists_eq_left']
      refine ⟨msk hM', fun z => ?_, fun _ => ⟨msk_facts hM', ?_, fun z => ?_, fun z => ⟨?_, msk_domain hM', ?_, ?_, ?_, ?_⟩⟩⟩
      · rw [o_le (by omega) (by omega)] at z
        omega
      · rw [msl_facts hM', o_inT (by omega) (by omega)]
        trivial
      · rw [o_eq (by omega) (by omega)] at z
        rw [if_neg (by omega)] at he
        exact fin2 he
      · rw [msl_facts hM', o_inT (by omega) (by omega)]
        trivial
      · rw [msl_domain hM', o_inT (by omega) (by omega)]
        trivial
      · rw [msl_facts hM', o_inT (by omega) (by omega)]
        trivial
      · rw [msl_domain hM', o_inT (by omega) (by omega)]
        trivial
      · rw [o_eq (by omega) (by omega)] at z
        rw [if_pos (by omega)] at he
        have hd7 : rD (sI S' 87 7 (nI m)) 90 (dI P (σ.2.take (m + 1))) := (mf_sI (A := []) (F := [7]) S' (nI m) (by decide)).D (by decide) hdm
        refine hn _ (by omega) (mf_t hf (mf_t (mf_sI _ _ (by decide)) (mf_row _ _ _ (by decide) (by decide)))) (rD_cg (rD_sI hd7 (dm_or_lt _ (hdm.2.2.2 _ hs.1) _ (dm_pow_lt _ hs.2))) (dI_backp hw hTI.1 hml)) ⟨?_, by omega, fun i hi => ?_⟩ he
        · rw [pI_sI, if_neg (fun q => absurd q.1 (by decide)), g7, hlen2]
        · have him : i < m := by omega
          have g := hTm.2.2 i (by omega)
          rw [fG_take (show i < m + 1 by omega)] at g
          rw [fG_take him]
          simp only [pI_sI, show ¬ (91 : Nat) = 90 by decide, show ¬ (91 : Nat) = 87 by decide, false_and, if_false]
          exact g
  have ht : σ.2.take σ.2.length = σ.2 := List.take_length
  unfold wpX12_takesBack
  rw [hT.1]
  refine ⟨msk hM, _, loop σ.2.length S (Nat.le_refl _) ⟨fr_r _ _, fun _ _ => ⟨rfl, rfl⟩⟩ (by rw [ht]; exact rD_cg hd hTI.2.2) (by rw [ht]; exact hT) rfl⟩

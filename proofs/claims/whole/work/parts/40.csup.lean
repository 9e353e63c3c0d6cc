/-! SUPPORT: the class's questions about support -/
theorem out_no {x : Int32} {N y : Nat} (hN : N < 2147483648) (h : x < nI 0 ∨ nI N ≤ x) (hy : y < N) (e : x = nI y) : False := by
  subst e
  rw [o_lt (by omega) (by omega), o_le (by omega) (by omega)] at h
  omega
theorem w_hasVar0 {S : PS} {o : Nat} {x : Int32} {Q : Int32 → PS → Prop} (h : x < nI 0 ∨ nI 7 ≤ x) : wpX1_hasVariable S o x Q = Q (nI 0) S := by
  unfold wpX1_hasVariable
  rw [c_0, c_7]
  by_cases h1 : x < nI 0
  · simp only [h1, not_true_eq_false, true_implies, false_implies, and_true, eq_self]
  · have h2 : nI 7 ≤ x := h.resolve_left h1
    simp only [h1, h2, not_true_eq_false, not_false_eq_true, true_implies, false_implies, and_true, true_and, eq_self]
theorem w_isValue0 {S : PS} {x : Int32} {Q : Int32 → PS → Prop} (h : x < nI 0 ∨ nI 5 ≤ x) : wpX11_isValue S x Q = Q (nI 0) S := by
  unfold wpX11_isValue
  rw [c_0, c_5]
  by_cases h1 : x < nI 0
  · simp only [h1, not_true_eq_false, true_implies, false_implies, and_true, eq_self]
  · have h2 : nI 5 ≤ x := h.resolve_left h1
    simp only [h1, h2, not_true_eq_false, not_false_eq_true, true_implies, false_implies, and_true, true_and, eq_self]
theorem w_isValue1 {S : PS} {v : Nat} {Q : Int32 → PS → Prop} (h : v < 5) : wpX11_isValue S (nI v) Q = Q (nI 1) S := by
  rw [w_isValue (by omega), decide_eq_true h]
  rfl
theorem q_cmemb {S : PS} {o : Nat} {κ : Kon} {x : Int32} {Q : Int32 → PS → Prop} (h4 : pC4 S o) (h2 : pJ S o 2 = pk (scp κ)) (hQ1 : ∀ y, y < 7 → x = nI y → inM κ y = true → Q (nI 1) S) (hQ0 : (∀ y, y < 7 → x = nI y → inM κ y = false) → Q (nI 0) S) : wpX1_hasVariable S o x Q := by
  rcases i_split x (N := 7) (by decide) with ⟨y, hy, rfl⟩ | h
  · rw [w_hasVariable h4 h2 hy]
    cases hb : inM κ y
    · refine hQ0 (fun z hz e => ?_)
      have e2 : y = z := Eq.mp (o_eq (by omega) (by omega)) e
      rw [← e2]
      exact hb
    · exact hQ1 y hy rfl hb
  · rw [w_hasVar0 h]
    exact hQ0 (fun y hy e => (out_no (by decide) h hy e).elim)
theorem sups_nar {κ : Kon} {d : Nat → Nat} {y w : Nat} (hd : Dwf d) (hy : y < 7) (hw : w < 5) (hin : inM κ y = true) : Can κ (ud d y (d y &&& 2 ^ w)) ↔ sups κ d y w := by
  by_cases hb : (d y).testBit w = true
  · rw [and_pow _ (hd y hy) _ hw hb]
    exact ⟨fun h => ⟨hb, h⟩, fun h => h.2⟩
  · have h0 : d y &&& 2 ^ w = 0 := (dm_bit0 _ (hd y hy) _ hw).mpr (by rw [← Bool.not_eq_true]; exact hb)
    rw [h0]
    refine ⟨fun ⟨a, ha⟩ => ?_, fun h => absurd h.1 hb⟩
    obtain ⟨k, hk, e⟩ := inM_t.mp hin
    have h1 := (ha.1 k hk).2
    rw [e, ud_s, Nat.zero_testBit] at h1
    cases h1
theorem q_cpres {S : PS} {N l o : Nat} {κ : Kon} {σ : St} {y w : Nat} {Q : Int64 → PS → Prop} (hc : CSh S) (hT : cT S 6 N l σ) (hC : CC S o κ) (hκ : Kwf κ) (hy : y < 7) (hw : w < 5) (hin : inM κ y = true) (hQ0 : ¬ sups κ σ.1 y w → Q (lN 0) S) (hQ1 : ∀ a, sups κ σ.1 y w → Lea κ (ud σ.1 y (2 ^ w)) a → ¬ pk (oneOf κ a) = lN 0 → Q (pk (oneOf κ a)) S) : wpX11_presentSupport S 0 o (nI y) (nI w) Q := by
  obtain ⟨t1, t2, t3, t4, t5, t6, _⟩ := hT
  obtain ⟨k, hk, e⟩ := inM_t.mp hin
  have hT6 := hc.2.2.2.2.2.2.2.2.2.2.2.1
  have hn7 := hκ.1
  unfold wpX11_presentSupport
  refine ⟨hc.1, 6, hc.2.2.1, hT6.1, ?_⟩
  rw [t4, w_narrowed t5 hy hw, c_0]
  refine q_least hC hκ 9 κ.1 0 _ _ (Nat.zero_add _) (by omega) (ud_wf t5 (dm_and_lt _ (t5 y hy) _ (dm_pow_lt _ hw))) (fun j hj => absurd hj (Nat.not_lt_zero _)) (by omega) (fun res hr => ?_)
  have h0 := Lres_0 hκ (by omega) hr
  rw [show Can κ (ud σ.1 y (σ.1 y &&& 2 ^ w)) = sups κ σ.1 y w from propext (sups_nar t5 hy hw hin)] at h0
  by_cases hs : sups κ σ.1 y w
  · rcases hr with ⟨_, z⟩ | ⟨a, ha, e2⟩
    · exact absurd ((sups_nar t5 hy hw hin).mpr hs) z
    · rw [and_pow _ (t5 y hy) _ hw hs.1] at ha
      have hne : ¬ res = lN 0 := fun q => absurd hs (Eq.mp h0 q)
      rw [e2] at hne ⊢
      exact hQ1 a hs ha hne
  · have e2 : res = lN 0 := Eq.mpr h0 hs
    rw [e2]
    exact hQ0 hs
theorem oneOf_in {κ : Kon} {a : Nat → Nat} {x : Nat} (h : inM κ x = true) : oneOf κ a x = 2 ^ a x := by
  unfold oneOf
  rw [if_pos h]
theorem Lea_5 {κ : Kon} {d a : Nat → Nat} (h : Lea κ d a) : ∀ k, k < κ.1 → a (κ.2.1 k) < 5 := fun k hk => (h.1.1 k hk).1
theorem inM_lt {P : Nat → Nat} (hw : Pwf P) {c y : Nat} (hc : c < P 1) (h : inM (cK P c) y = true) : y < P 0 := by
  obtain ⟨k, hk, e⟩ := inM_t.mp h
  rw [← e]
  exact mK_lt hw hc k hk
theorem noM_c {P : Nat → Nat} (hw : Pwf P) {c x : Int32} (h : c < nI 0 ∨ nI (P 1) ≤ c) : noM P c x := fun k y hk ec _ _ => (out_no (by have := hw.2.1; omega) h hk ec).elim
theorem noM_x {P : Nat → Nat} (hw : Pwf P) {k : Nat} {x : Int32} (hk : k < P 1) (h : ∀ y, y < 7 → x = nI y → inM (cK P k) y = false) : noM P (nI k) x := fun j y hj ej hy ey => by
  have := hw.2.1
  have e : k = j := Eq.mp (o_eq (by omega) (by omega)) ej
  rw [← e]
  exact h y hy ey
theorem c_isSupported {S : PS} {P : Nat → Nat} {pb l : Nat} {σ : St} {c x v : Int32} {Q : Int32 → PS → Prop} {X : String → PS → Prop} (hc : CSh S) (hpb : pR S 0 6 = some pb) (hp : PRep S pb P) (hw : Pwf P) (hT : cT S 6 (P 0) l σ)
    (hQ : ∀ k y w, isM P c x k y → w < 5 → v = nI w → Q (bI (dB (sups (cK P k) σ.1 y w))) S)
    (hX : noM P c x → ∀ n, X "java/lang/IndexOutOfBoundsException" (sSkip S n))
    (hX2 : ∀ k y, isM P c x k y → (v < nI 0 ∨ nI 5 ≤ v) → ∀ n, X "java/lang/IllegalArgumentException" (sSkip S n)) : wpX11_isSupported S 0 c x v Q X := by
  have hP0 := hw.1
  have hP1 := hw.2.1
  unfold wpX11_isSupported wpX11_isSupported_b24
  rw [c_0, c_1]
  refine ⟨hc.1, pb, hpb, hp.2.2.1, ?_⟩
  rcases i_split c (N := P 1) (by omega) with ⟨k, hk, rfl⟩ | hcn
  · refine q_constraintAt hp hw hk (fun o ho hK => ⟨fun z => (nomatch z), fun o7 e7 => ?_⟩)
    cases e7
    have hC := CC_of hK (hw.2.2.2.2.2 k hk) hw.1
    have hκ := cK_wf (hw.2.2.2.2.2 k hk) hw.1
    refine ⟨hC.1, q_cmemb hC.1 hC.2.2.1 (fun y hy ex hi => ⟨fun _ => ?_, fun z => absurd z (by decide)⟩) (fun hno => ⟨fun z => absurd rfl z, fun _ => ⟨fun z => (nomatch z), fun o1 _ => hX (noM_x hw hk hno)⟩⟩)⟩
    subst ex
    have hy0 := inM_lt hw hk hi
    have m1 : isM P (nI k) (nI y) k y := ⟨hk, rfl, hy0, rfl, hi⟩
    rcases i_split v (N := 5) (by decide) with ⟨w, hw5, rfl⟩ | hv
    · rw [w_isValue1 hw5]
      have h1 := hQ k y w m1 hw5 rfl
      refine ⟨fun _ => ⟨hc.1, q_cpres hc hT hC hκ hy hw5 hi (fun hs => ?_) (fun a hs ha hne => ?_)⟩, fun z => absurd z (by decide)⟩
      · rw [dB_f.mpr hs] at h1
        rw [l_0, lg_0]
        exact ⟨fun _ => h1, fun z => absurd rfl z⟩
      · rw [dB_t.mpr hs] at h1
        rw [l_0, lg_0]
        exact ⟨fun z => absurd z hne, fun _ => h1⟩
    · rw [w_isValue0 hv]
      exact ⟨fun z => absurd rfl z, fun _ => hX2 k y m1 hv⟩
  · exact q_constraintAt0 hp hcn ⟨fun _ => ⟨fun _ => hX (noM_c hw hcn), fun o1 z => (nomatch z)⟩, fun o7 z => (nomatch z)⟩
theorem c_support {S : PS} {P : Nat → Nat} {pb l : Nat} {σ : St} {c x v y : Int32} {Q : Int32 → PS → Prop} {X : String → PS → Prop} (hc : CSh S) (hpb : pR S 0 6 = some pb) (hp : PRep S pb P) (hw : Pwf P) (hT : cT S 6 (P 0) l σ)
    (hQ : ∀ k i w j a, isM P c x k i → isM P c y k j → w < 5 → v = nI w → sups (cK P k) σ.1 i w → Lea (cK P k) (ud σ.1 i (2 ^ w)) a → Q (nI (a j)) S)
    (hX : (noM P c x ∨ noM P c y) → ∀ n, X "java/lang/IndexOutOfBoundsException" (sSkip S n))
    (hX2 : ∀ k i j, isM P c x k i → isM P c y k j → (v < nI 0 ∨ nI 5 ≤ v) → ∀ n, X "java/lang/IllegalArgumentException" (sSkip S n))
    (hX3 : ∀ k i w j, isM P c x k i → isM P c y k j → w < 5 → v = nI w → ¬ sups (cK P k) σ.1 i w → ∀ n, X "java/util/NoSuchElementException" (sSkip S n)) : wpX11_support S 0 c x v y Q X := by
  have hP0 := hw.1
  have hP1 := hw.2.1
  unfold wpX11_support wpX11_support_b34
  rw [c_0]
  refine ⟨hc.1, pb, hpb, hp.2.2.1, ?_⟩
  rcases i_split c (N := P 1) (by omega) with ⟨k, hk, rfl⟩ | hcn
  · refine q_constraintAt hp hw hk (fun o ho hK => ⟨fun z => (nomatch z), fun o7 e7 => ?_⟩)
    cases e7
    have hC := CC_of hK (hw.2.2.2.2.2 k hk) hw.1
    have hκ := cK_wf (hw.2.2.2.2.2 k hk) hw.1
    refine ⟨hC.1, q_cmemb hC.1 hC.2.2.1 (fun i hi ex hin => ⟨fun z => absurd z (by decide), fun _ => ⟨hC.1, ?_⟩⟩) (fun hno => ⟨fun _ => ⟨fun z => (nomatch z), fun o1 _ => hX (Or.inl (noM_x hw hk hno))⟩, fun z => absurd rfl z⟩)⟩
    refine q_cmemb hC.1 hC.2.2.1 (fun j hj ey hjn => ⟨fun _ => ?_, fun z => absurd z (by decide)⟩) (fun hno => ⟨fun z => absurd rfl z, fun _ => ⟨fun z => (nomatch z), fun o1 _ => hX (Or.inr (noM_x hw hk hno))⟩⟩)
    subst ex
    subst ey
    have m1 : isM P (nI k) (nI i) k i := ⟨hk, rfl, inM_lt hw hk hin, rfl, hin⟩
    have m2 : isM P (nI k) (nI j) k j := ⟨hk, rfl, inM_lt hw hk hjn, rfl, hjn⟩
    rcases i_split v (N := 5) (by decide) with ⟨w, hw5, rfl⟩ | hv
    · rw [w_isValue1 hw5]
      refine ⟨fun _ => ⟨hc.1, q_cpres hc hT hC hκ hi hw5 hin (fun hs => ?_) (fun a hs ha hne => ?_)⟩, fun z => absurd z (by decide)⟩
      · rw [l_0, lg_0]
        exact ⟨fun z => absurd rfl z, fun _ => hX3 k i w j m1 m2 hw5 rfl hs⟩
      · rw [l_0, lg_0]
        refine ⟨fun _ => ?_, fun z => absurd z hne⟩
        have h5 := Lea_5 ha
        obtain ⟨q, hq, eq⟩ := inM_t.mp hjn
        have haj := h5 q hq
        rw [eq] at haj
        refine q_leastValue (oneOf_wf h5) hj ?_ ?_
        · rw [oneOf_in hjn]
          have := Nat.two_pow_pos (a j)
          omega
        · rw [oneOf_in hjn, pick_pow _ haj]
          exact hQ k i w j a m1 m2 hw5 rfl hs ha
    · rw [w_isValue0 hv]
      exact ⟨fun z => absurd rfl z, fun _ => hX2 k i j m1 m2 hv⟩
  · exact q_constraintAt0 hp hcn ⟨fun _ => ⟨fun _ => hX (Or.inl (noM_c hw hcn)), fun o1 z => (nomatch z)⟩, fun o7 z => (nomatch z)⟩
theorem pz00 : pk (fun _ => 0) = lN 0 := by decide +kernel
theorem w_has50 {S : PS} {x v : Nat} {Q : Int32 → PS → Prop} (hx : x < 7) (hv : v < 5) : wpX5_has S (lN 0) (nI x) (nI v) Q = Q (nI 0) S := by
  rw [← pz00, w_has5 (fun _ _ => by decide) hx hv, Nat.zero_testBit]
  rfl
theorem sN_z {f : Nat → Nat} {n : Nat} : ∀ r, (∀ i, i < r → f (n + i) = 0) → sN f (n + r) = sN f n := by
  intro r
  induction r with
  | zero => intro _; rfl
  | succ r ih =>
    intro h
    show sN f (n + r) + f (n + r) = _
    rw [h r (by omega), ih (fun i hi => h i (by omega))]
    rfl
theorem q_cwatIn {S : PS} {N l o : Nat} {κ : Kon} {σ : St} {x v : Nat} {Q : Int32 → PS → Prop} (hc : CSh S) (hT : cT S 6 N l σ) (hC : CC S o κ) (hκ : Kwf κ) (hx : x < 7) (hv : v < 5) (hin : inM κ x = true) (hQ : Q (nI (sN (watG κ σ.1 x v) (5 * κ.1))) S) : wpX11_watchersIn S 0 o (nI x) (nI v) Q := by
  have hn7 := hκ.1
  have outer : ∀ r k, k + r = κ.1 → wpX11_watchersIn_b6 Q (r + 1) S 0 o (nI x) (nI v) (nI (sN (watG κ σ.1 x v) (5 * k))) (nI k) := by
    intro r
    induction r with
    | zero =>
      intro k hk
      have hle : κ.1 ≤ k := by omega
      have e : k = κ.1 := by omega
      have h1 := hQ
      rw [← e] at h1
      simp (disch := omega) only [wpX11_watchersIn_b6, c_0, c_1, c_2, c_3, c_4, c_5, c_6, c_7, c_8, c_9, c_10, c_11, c_12, c_14, c_16, c_19, c_20, c_24, c_31, c_32, c_35, c_48, c_57, c_59, c_63, c_97, c_100, c_122, c_127, c_169, c_255, c_600, c_1000, c_32767, Nat.le_refl, Nat.zero_le, Nat.add_zero, Nat.lt_irrefl, eq_self, o_sub, Nat.sub_zero, Nat.not_lt_zero, ↓ng_d, o_le, o_lt, o_eq, o_add, o_mul, o_cl, o_inT, o_and, n_31, o_shr, o_shl1, o_or, m_lt, m_ge, m_le, m_gt, m_ne, m_ne2, Option.some.injEq, exists_eq_left', true_and, and_true, true_implies, false_implies, implies_true, not_true_eq_false, not_false_eq_true, bI_0, bI_1, bI_01, b01, true_or, or_true, Nat.reduceEqDiff, Bool.not_eq_false, Bool.not_eq_true, Bool.true_eq_false, Bool.false_eq_true, hC.1, hC.2.1, hle]
      exact h1
    | succ r ih =>
      intro k hk
      have hle : ¬ κ.1 ≤ k := by omega
      have hkn : k < κ.1 := by omega
      have hn := ih (k + 1) (by omega)
      generalize r + 1 = fu at hn ⊢
      have hy := hκ.2.1 k hkn
      have hyin : inM κ (κ.2.1 k) = true := inM_t.mpr ⟨k, hkn, rfl⟩
      have hwl := watG_le κ σ.1 x v
      have inner : κ.2.1 k ≠ x → ∀ q w, w + q = 5 → wpX11_watchersIn_b26 (wpX11_watchersIn_b6 Q fu) Q (q + 1) S 0 o (nI x) (nI v) (nI (sN (watG κ σ.1 x v) (5 * k + w))) (nI k) (nI (κ.2.1 k)) (nI w) := by
        intro hne q
        induction q with
        | zero =>
          intro w hw
          have e : w = 5 := by omega
          subst e
          have hle5 : 5 ≤ 5 := Nat.le_refl _
          simp (disch := omega) only [wpX11_watchersIn_b26, c_0, c_1, c_2, c_3, c_4, c_5, c_6, c_7, c_8, c_9, c_10, c_11, c_12, c_14, c_16, c_19, c_20, c_24, c_31, c_32, c_35, c_48, c_57, c_59, c_63, c_97, c_100, c_122, c_127, c_169, c_255, c_600, c_1000, c_32767, Nat.le_refl, Nat.zero_le, Nat.add_zero, Nat.lt_irrefl, eq_self, o_sub, Nat.sub_zero, Nat.not_lt_zero, ↓ng_d, o_le, o_lt, o_eq, o_add, o_mul, o_cl, o_inT, o_and, n_31, o_shr, o_shl1, o_or, m_lt, m_ge, m_le, m_gt, m_ne, m_ne2, Option.some.injEq, exists_eq_left', true_and, and_true, true_implies, false_implies, implies_true, not_true_eq_false, not_false_eq_true, bI_0, bI_1, bI_01, b01, true_or, or_true, Nat.reduceEqDiff, Bool.not_eq_false, Bool.not_eq_true, Bool.true_eq_false, Bool.false_eq_true]
          exact hn
        | succ q ih2 =>
          intro w hw
          have hle5 : ¬ 5 ≤ w := by omega
          have hw5 : w < 5 := by omega
          have hn2 := ih2 (w + 1) (by omega)
          generalize q + 1 = fv at hn2 ⊢
          have i1 : (5 * k + w) / 5 = k := by omega
          have i2 : (5 * k + w) % 5 = w := by omega
          have hst : sN (watG κ σ.1 x v) (5 * k + (w + 1)) = sN (watG κ σ.1 x v) (5 * k + w) + watG κ σ.1 x v (5 * k + w) := rfl
          have main : wpX11_presentSupport S 0 o (nI (κ.2.1 k)) (nI w) (fun r2 S3 => (wpX5_has S3 r2 (nI x) (nI v) (fun r4 S5 => ((r4 = nI 0 → (wpX11_watchersIn_b26 (wpX11_watchersIn_b6 Q fu) Q fv S5 0 o (nI x) (nI v) (nI (sN (watG κ σ.1 x v) (5 * k + w))) (nI k) (nI (κ.2.1 k)) (nI w + nI 1))) ∧ (¬ r4 = nI 0 → (wpX11_watchersIn_b26 (wpX11_watchersIn_b6 Q fu) Q fv S5 0 o (nI x) (nI v) (nI (sN (watG κ σ.1 x v) (5 * k + w)) + nI 1) (nI k) (nI (κ.2.1 k)) (nI w + nI 1))))))) := by
            simp only [o_add]
            refine q_cpres hc hT hC hκ hy hw5 hyin (fun hs => ?_) (fun a hs ha hne2 => ?_)
            · rw [w_has50 hx hv]
              rw [hst, watG_0 (by rw [i1, i2]; exact hs), Nat.add_zero] at hn2
              exact ⟨fun _ => hn2, fun z => absurd rfl z⟩
            · have h5 := Lea_5 ha
              obtain ⟨j, hj, ej⟩ := inM_t.mp hin
              have hax := h5 j hj
              rw [ej] at hax
              rw [hst, watG_1 (a := a) (by rw [i1]; exact hne) (by rw [i1, i2]; exact hs) (by rw [i1, i2]; exact ha) hin] at hn2
              rw [w_has5 (oneOf_wf h5) hx hv, oneOf_in hin, dm_pow_tb _ hax _ hv]
              by_cases e : a x = v
              · rw [if_pos e] at hn2
                rw [decide_eq_true e.symm]
                exact ⟨fun z => absurd z (by decide), fun _ => hn2⟩
              · rw [if_neg e, Nat.add_zero] at hn2
                rw [decide_eq_false (fun q2 => e q2.symm)]
                exact ⟨fun _ => hn2, fun z => absurd rfl z⟩
          have hne3 : ¬ κ.2.1 k = x := hne
          simp (disch := omega) only [wpX11_watchersIn_b26, c_0, c_1, c_5, o_le, o_eq, hle5, hne3, hc.1, eq_self, false_implies, true_and, not_false_eq_true, true_implies]
          exact main
      have h2 : ∃ n9 : Nat, wpX11_watchersIn_b26 (wpX11_watchersIn_b6 Q fu) Q n9 S 0 o (nI x) (nI v) (nI (sN (watG κ σ.1 x v) (5 * k))) (nI k) (nI (κ.2.1 k)) (nI 0) := by
        by_cases hne : κ.2.1 k = x
        · have e5 : sN (watG κ σ.1 x v) (5 * (k + 1)) = sN (watG κ σ.1 x v) (5 * k) := by
            show sN (watG κ σ.1 x v) (5 * k + 5) = _
            exact sN_z 5 (fun i hi => watG_s (by rw [show (5 * k + i) / 5 = k by omega]; exact hne))
          rw [e5] at hn
          refine ⟨0 + 1, ?_⟩
          have n50 : ¬ 5 ≤ 0 := by decide
          simp (disch := omega) only [wpX11_watchersIn_b26, c_0, c_1, c_2, c_3, c_4, c_5, c_6, c_7, c_8, c_9, c_10, c_11, c_12, c_14, c_16, c_19, c_20, c_24, c_31, c_32, c_35, c_48, c_57, c_59, c_63, c_97, c_100, c_122, c_127, c_169, c_255, c_600, c_1000, c_32767, Nat.le_refl, Nat.zero_le, Nat.add_zero, Nat.lt_irrefl, eq_self, o_sub, Nat.sub_zero, Nat.not_lt_zero, ↓ng_d, o_le, o_lt, o_eq, o_add, o_mul, o_cl, o_inT, o_and, n_31, o_shr, o_shl1, o_or, m_lt, m_ge, m_le, m_gt, m_ne, m_ne2, Option.some.injEq, exists_eq_left', true_and, and_true, true_implies, false_implies, implies_true, not_true_eq_false, not_false_eq_true, bI_0, bI_1, bI_01, b01, true_or, or_true, Nat.reduceEqDiff, Bool.not_eq_false, Bool.not_eq_true, Bool.true_eq_false, Bool.false_eq_true, n50, hne]
          exact hn
        · exact ⟨_, inner hne 5 0 rfl⟩
      simp (disch := omega) only [wpX11_watchersIn_b6, c_0, c_1, c_2, c_3, c_4, c_5, c_6, c_7, c_8, c_9, c_10, c_11, c_12, c_14, c_16, c_19, c_20, c_24, c_31, c_32, c_35, c_48, c_57, c_59, c_63, c_97, c_100, c_122, c_127, c_169, c_255, c_600, c_1000, c_32767, Nat.le_refl, Nat.zero_le, Nat.add_zero, Nat.lt_irrefl, eq_self, o_sub, Nat.sub_zero, Nat.not_lt_zero, ↓ng_d, o_le, o_lt, o_eq, o_add, o_mul, o_cl, o_inT, o_and, n_31, o_shr, o_shl1, o_or, m_lt, m_ge, m_le, m_gt, m_ne, m_ne2, Option.some.injEq, exists_eq_left', true_and, and_true, true_implies, false_implies, implies_true, not_true_eq_false, not_false_eq_true, bI_0, bI_1, bI_01, b01, true_or, or_true, Nat.reduceEqDiff, Bool.not_eq_false, Bool.not_eq_true, Bool.true_eq_false, Bool.false_eq_true, hC.1, hC.2.1, hle, w_variableAt hC.1 hC.2.2.2.1 hκ hkn]
      exact h2
  unfold wpX11_watchersIn
  exact ⟨_, outer κ.1 0 (Nat.zero_add _)⟩
theorem c_watchers {S : PS} {P : Nat → Nat} {pb l : Nat} {σ : St} {x v : Int32} {Q : Int32 → PS → Prop} {X : String → PS → Prop} (hc : CSh S) (hpb : pR S 0 6 = some pb) (hp : PRep S pb P) (hw : Pwf P) (hT : cT S 6 (P 0) l σ)
    (hQ : ∀ y w, y < P 0 → x = nI y → w < 5 → v = nI w → Q (nI (sN (watC P σ.1 y w) (P 1))) S)
    (hX : (x < nI 0 ∨ nI (P 0) ≤ x) → ∀ n, X "java/lang/IndexOutOfBoundsException" (sSkip S n))
    (hX2 : ∀ y, y < P 0 → x = nI y → (v < nI 0 ∨ nI 5 ≤ v) → ∀ n, X "java/lang/IllegalArgumentException" (sSkip S n)) : wpX11_watchers S 0 x v Q X := by
  have hP0 := hw.1
  have hP1 := hw.2.1
  unfold wpX11_watchers
  rw [c_0]
  refine ⟨hc.1, ?_⟩
  rcases i_split x (N := P 0) (by omega) with ⟨y, hy, rfl⟩ | hx
  · rw [w_cvar hc hpb hp hw hy]
    refine ⟨fun _ => ?_, fun z => absurd z (by decide)⟩
    rcases i_split v (N := 5) (by decide) with ⟨w, hw5, rfl⟩ | hv
    · rw [w_isValue1 hw5]
      refine ⟨fun _ => ?_, fun z => absurd z (by decide)⟩
      have hQ1 := hQ y w hy rfl hw5 rfl
      have g3 := hp.2.2.1
      have g5 := hp.2.2.2.2.1
      have loop : ∀ r c, c + r = P 1 → wpX11_watchers_b40 Q X (r + 1) S 0 (nI y) (nI w) (nI (sN (watC P σ.1 y w) c)) (nI c) := by
        intro r
        induction r with
        | zero =>
          intro c hcr
          have hle : P 1 ≤ c := by omega
          have e : c = P 1 := by omega
          have h1 := hQ1
          rw [← e] at h1
          simp (disch := omega) only [wpX11_watchers_b40, c_0, c_1, c_2, c_3, c_4, c_5, c_6, c_7, c_8, c_9, c_10, c_11, c_12, c_14, c_16, c_19, c_20, c_24, c_31, c_32, c_35, c_48, c_57, c_59, c_63, c_97, c_100, c_122, c_127, c_169, c_255, c_600, c_1000, c_32767, Nat.le_refl, Nat.zero_le, Nat.add_zero, Nat.lt_irrefl, eq_self, o_sub, Nat.sub_zero, Nat.not_lt_zero, ↓ng_d, o_le, o_lt, o_eq, o_add, o_mul, o_cl, o_inT, o_and, n_31, o_shr, o_shl1, o_or, m_lt, m_ge, m_le, m_gt, m_ne, m_ne2, Option.some.injEq, exists_eq_left', true_and, and_true, true_implies, false_implies, implies_true, not_true_eq_false, not_false_eq_true, bI_0, bI_1, bI_01, b01, true_or, or_true, Nat.reduceEqDiff, Bool.not_eq_false, Bool.not_eq_true, Bool.true_eq_false, Bool.false_eq_true, hc.1, hpb, g3, g5, hle]
          exact h1
        | succ r ih =>
          intro c hcr
          have hle : ¬ P 1 ≤ c := by omega
          have hcn : c < P 1 := by omega
          have hn := ih (c + 1) (by omega)
          generalize r + 1 = fu at hn ⊢
          have hst : sN (watC P σ.1 y w) (c + 1) = sN (watC P σ.1 y w) c + watC P σ.1 y w c := rfl
          rw [hst] at hn
          have hκ := cK_wf (hw.2.2.2.2.2 c hcn) hw.1
          have main : wpX6_constraintAt S pb (nI c) (fun r4 S5 => ((r4 = none → (wpX11_watchers_b40 Q X fu S5 0 (nI y) (nI w) (nI (sN (watC P σ.1 y w) c)) (nI c + nI 1))) ∧ (∀ o6, r4 = some o6 → (pC4 S5 o6 ∧ (wpX1_hasVariable S5 o6 (nI y) (fun r8 S9 => ((r8 = nI 0 → (wpX11_watchers_b40 Q X fu S9 0 (nI y) (nI w) (nI (sN (watC P σ.1 y w) c)) (nI c + nI 1))) ∧ (¬ r8 = nI 0 → (pK S9 0 = 10 ∧ (wpX11_watchersIn S9 0 o6 (nI y) (nI w) (fun r11 S12 => (wpX11_watchers_b40 Q X fu S12 0 (nI y) (nI w) (nI (sN (watC P σ.1 y w) c) + r11) (nI c + nI 1))))))))))))) := by
            simp only [o_add]
            refine q_constraintAt hp hw hcn (fun o ho hK => ⟨fun z => (nomatch z), fun o7 e7 => ?_⟩)
            cases e7
            have hC := CC_of hK (hw.2.2.2.2.2 c hcn) hw.1
            refine ⟨hC.1, ?_⟩
            rw [w_hasVariable hC.1 hC.2.2.1 (by omega)]
            cases hb : inM (cK P c) y
            · have h0 : watC P σ.1 y w c = 0 := by unfold watC; rw [hb]; rfl
              rw [h0, Nat.add_zero] at hn
              exact ⟨fun _ => hn, fun z => absurd rfl z⟩
            · have h0 : watC P σ.1 y w c = sN (watG (cK P c) σ.1 y w) (5 * (cK P c).1) := by unfold watC; rw [if_pos hb]
              rw [h0] at hn
              refine ⟨fun z => absurd z (by decide), fun _ => ⟨hc.1, q_cwatIn hc hT hC hκ (by omega) hw5 hb ?_⟩⟩
              rw [o_add]
              exact hn
          simp (disch := omega) only [wpX11_watchers_b40, c_0, c_1, o_le, hle, hc.1, hpb, g3, g5, eq_self, false_implies, true_and, not_false_eq_true, true_implies, Option.some.injEq, exists_eq_left']
          exact main
      exact ⟨_, loop (P 1) 0 (Nat.zero_add _)⟩
    · rw [w_isValue0 hv]
      exact ⟨fun z => absurd rfl z, fun _ => hX2 y hy rfl hv⟩
  · rw [w_cvar0 hc hpb hp hx]
    exact ⟨fun z => absurd rfl z, fun _ => hX hx⟩
theorem c_tuples {S : PS} {P : Nat → Nat} {pb l : Nat} {σ : St} {c : Int32} {Q : Int32 → PS → Prop} {X : String → PS → Prop} (hc : CSh S) (hpb : pR S 0 6 = some pb) (hp : PRep S pb P) (hw : Pwf P) (hT : cT S 6 (P 0) l σ)
    (hQ : ∀ k, k < P 1 → c = nI k → Q (nI (nF (cK P k) σ.1)) S)
    (hX : (c < nI 0 ∨ nI (P 1) ≤ c) → ∀ n, X "java/lang/IndexOutOfBoundsException" (sSkip S n)) : wpX11_tuples S 0 c Q X := by
  obtain ⟨t1, t2, t3, t4, t5, t6, _⟩ := hT
  have hP0 := hw.1
  have hP1 := hw.2.1
  have hT6 := hc.2.2.2.2.2.2.2.2.2.2.2.1
  unfold wpX11_tuples
  rw [c_0]
  refine ⟨hc.1, pb, hpb, hp.2.2.1, ?_⟩
  rcases i_split c (N := P 1) (by omega) with ⟨k, hk, rfl⟩ | hcn
  · refine q_constraintAt hp hw hk (fun o ho hK => ⟨fun z => (nomatch z), fun o7 e7 => ?_⟩)
    cases e7
    have hC := CC_of hK (hw.2.2.2.2.2 k hk) hw.1
    have hκ := cK_wf (hw.2.2.2.2.2 k hk) hw.1
    have hn7 := hκ.1
    refine ⟨hc.1, 6, hc.2.2.1, hT6.1, ?_⟩
    rw [t4]
    exact q_count hC hκ 9 (cK P k).1 0 σ.1 (fun _ => 0) _ (Nat.zero_add _) (by omega) t5 (fun j hj => absurd hj (Nat.not_lt_zero _)) (fun _ _ => by decide) (hQ k hk rfl)
  · exact q_constraintAt0 hp hcn ⟨fun _ => hX hcn, fun o7 z => (nomatch z)⟩
theorem m_tuples {S : PS} {P d : Nat → Nat} {c : Int32} {Q : Int32 → PS → Prop} (hM : MShape S) (hp : rP S P) (hw : Pwf P) (hd : rD S 90 d)
    (hQ : ∀ S' k, mf [101] [0] S S' → pI S' 87 0 = nI 0 → k < P 1 → c = nI k → Q (nI (nF (cK P k) d)) S')
    (hX : ∀ S', mf [101] [0] S S' → pI S' 87 0 = nI 1 → (c < nI 0 ∨ nI (P 1) ≤ c) → Q (nI 0) S') : wpX12_tuples S 87 c Q := by
  have hP0 := hw.1
  have hf : mf [101] [0] S (sI S 87 0 (nI 0)) := mf_sI _ _ (by decide)
  have h0 : pI (sI S 87 0 (nI 0)) 87 0 = nI 0 := by rw [pI_sI, if_pos ⟨rfl, rfl⟩]
  have hM1 := hf.M hM
  have hp1 := hf.P (by decide) hp
  have hd1 := hf.D (by decide) hd
  unfold wpX12_tuples
  rw [show ((0 : Int32)) = nI 0 from rfl]
  refine ⟨msk hM, q_mcon hM1 hp1 hw (fun k hk ec => ⟨msk hM1, ?_⟩) (fun hno => ⟨msk hM1, ?_⟩)⟩
  · rw [w_may1 hM1 h0]
    refine ⟨fun z => absurd z (by decide), fun _ => ⟨msk hM1, ?_⟩⟩
    subst ec
    exact q_tuplesOf hM1 hp1 hw hk hd1 (fun S' hf2 => hQ S' k (mf_frs hf hf2 (by decide)) (by rw [hf2.I (by decide)]; exact h0) hk rfl)
  · rw [show ((1 : Int32)) = nI 1 from rfl, w_may0 hM1 (by decide) (by decide) h0]
    have h1 := hX (sI (sI S 87 0 (nI 0)) 87 0 (nI 1)) (mf_t hf (mf_sI _ _ (by decide))) (by rw [pI_sI, if_pos ⟨rfl, rfl⟩]) hno
    exact ⟨fun _ => h1, fun z => absurd rfl z⟩

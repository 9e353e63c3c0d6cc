/-! EXPLANATIONS: what they are -/
/-- what is known of a trail's facts -/
def Tok (P : Nat → Nat) (T : List FT) : Prop := ∀ i, i < T.length → (fG T i).1 < P 0 ∧ (fG T i).2.1 < 5 ∧ (P (2 + (fG T i).1)).testBit (fG T i).2.1 = true ∧ (∀ j, j < i → ¬ ((fG T j).1 = (fG T i).1 ∧ (fG T j).2.1 = (fG T i).2.1)) ∧ ((∃ k, k < P 1 ∧ (fG T i).2.2.1 = nI k ∧ inM (cK P k) (fG T i).1 = true) ∨ ((fG T i).2.2.1 = nI 100 ∧ Swf (fG T i).2.2.2.2 ∧ 0 < (fG T i).2.2.2.2 ∧ inM (lK (fG T i).2.2.2.2) (fG T i).1 = true) ∨ (fG T i).2.2.1 < nI 0)
theorem Tok_sm {P : Nat → Nat} {T : List FT} (hw : Pwf P) (h : Tok P T) : Tsm T := fun i hi => ⟨by have := (h i hi).1; have := hw.1; omega, (h i hi).2.1⟩
/-- two facts are not the same pair -/
def Tds (T : List FT) (n : Nat) : Prop := ∀ i, i < n → ∀ j, j < i → ¬ ((fG T j).1 = (fG T i).1 ∧ (fG T j).2.1 = (fG T i).2.1)
theorem Tds_of {P : Nat → Nat} {T : List FT} (h : Tok P T) : Tds T T.length := fun i hi j hj => (h i hi).2.2.2.1 j hj
theorem Tds_le {T : List FT} {n m : Nat} (h : Tds T n) (hm : m ≤ n) : Tds T m := fun i hi => h i (by omega)
theorem Tds_ne {T : List FT} {n i j : Nat} (h : Tds T n) (hi : i < n) (hj : j < n) (hne : i ≠ j) : ¬ ((fG T j).1 = (fG T i).1 ∧ (fG T j).2.1 = (fG T i).2.1) := by
  rcases Nat.lt_or_ge j i with q | q
  · exact h i hi j q
  · exact fun z => h j hj i (by omega) ⟨z.1.symm, z.2.symm⟩
/-- a set of pairs has the pair of a fact -/
def tbF (T : List FT) (e : Nat → Nat) (k : Nat) : Bool := (e (fG T k).1).testBit (fG T k).2.1
/-- a set of pairs without the pair of a fact -/
def clE (T : List FT) (e : Nat → Nat) (k : Nat) : Nat → Nat := ud e (fG T k).1 (clr (e (fG T k).1) (fG T k).2.1)
/-- the initial domains without a set of pairs -/
def dW (P e : Nat → Nat) : Nat → Nat := fun x => andn (P (2 + x)) (e x)
/-- the pairs of a constraint's variables that were removed before -/
noncomputable def e0F (κ : Kon) (T : List FT) : Nat → Nat → Nat
  | 0 => fun _ => 0
  | k + 1 => if inM κ (fG T k).1 = true then ud (e0F κ T k) (fG T k).1 (e0F κ T k (fG T k).1 ||| 2 ^ (fG T k).2.1) else e0F κ T k
noncomputable def exS (κ : Kon) (P : Nat → Nat) (T : List FT) (x v k : Nat) (e : Nat → Nat) : Nat → Nat := if (tbF T e k && !dB (Can κ (ud (dW P (clE T e k)) x (2 ^ v)))) = true then clE T e k else e
noncomputable def exR (κ : Kon) (P : Nat → Nat) (T : List FT) (x v : Nat) : Nat → (Nat → Nat) → Nat → Nat
  | 0, e => e
  | k + 1, e => exR κ P T x v k (exS κ P T x v k e)
noncomputable def exK (P : Nat → Nat) (f : FT) : Kon := if f.2.2.1 = nI 100 then lK f.2.2.2.2 else cK P f.2.2.1.toNatClampNeg
/-- the explanation of a fact -/
noncomputable def exE (P : Nat → Nat) (T : List FT) (i : Nat) : Nat → Nat := if (fG T i).2.2.1 < nI 0 then (fun _ => 0) else exR (exK P (fG T i)) P T (fG T i).1 (fG T i).2.1 i (e0F (exK P (fG T i)) T i)
/-- a set of pairs of the first facts alone -/
def eSb (T : List FT) (i : Nat) (e : Nat → Nat) : Prop := Dwf e ∧ ∀ x, x < 7 → ∀ v, v < 5 → (e x).testBit v = true → ∃ j, j < i ∧ (fG T j).1 = x ∧ (fG T j).2.1 = v
theorem eSb_0 (T : List FT) (i : Nat) : eSb T i (fun _ => 0) := ⟨dz, fun x _ v _ h => by rw [Nat.zero_testBit] at h; cases h⟩
theorem eSb_up {T : List FT} {i j : Nat} {e : Nat → Nat} (h : eSb T i e) (hij : i ≤ j) : eSb T j e := ⟨h.1, fun x hx v hv hb => by
  obtain ⟨k, hk, q⟩ := h.2 x hx v hv hb
  exact ⟨k, by omega, q⟩⟩
theorem or_tb5 : ∀ d, d < 32 → ∀ v, v < 5 → ∀ u, u < 5 → (d ||| 2 ^ v).testBit u = (d.testBit u || decide (u = v)) := by decide +kernel
theorem e0F_S {κ : Kon} {T : List FT} (hs : Tsm T) : ∀ k, k ≤ T.length → eSb T k (e0F κ T k) := by
  intro k
  induction k with
  | zero => exact fun _ => eSb_0 T 0
  | succ k ih =>
    intro hk
    have h1 := eSb_up (ih (by omega)) (Nat.le_succ k)
    have h2 := hs k (by omega)
    unfold e0F
    by_cases hb : inM κ (fG T k).1 = true
    · rw [if_pos hb]
      refine ⟨ud_wf h1.1 (dm_or_lt _ (h1.1 _ h2.1) _ (dm_pow_lt _ h2.2)), fun x hx v hv hq => ?_⟩
      by_cases e : x = (fG T k).1
      · subst e
        rw [ud_s, or_tb5 _ (h1.1 _ hx) _ h2.2 _ hv, Bool.or_eq_true, decide_eq_true_iff] at hq
        rcases hq with hq | hq
        · exact h1.2 _ hx v hv hq
        · exact ⟨k, by omega, rfl, hq.symm⟩
      · rw [ud_n _ _ e] at hq
        exact h1.2 x hx v hv hq
    · rw [if_neg hb]
      exact h1
theorem e0F_tb {κ : Kon} {T : List FT} (hs : Tsm T) : ∀ k, k ≤ T.length → ∀ j, j < T.length → (∀ i, i < T.length → i ≠ j → ¬ ((fG T i).1 = (fG T j).1 ∧ (fG T i).2.1 = (fG T j).2.1)) → tbF T (e0F κ T k) j = (decide (j < k) && inM κ (fG T j).1) := by
  intro k
  induction k with
  | zero =>
    intro _ j hj hne
    show Nat.testBit 0 _ = _
    rw [Nat.zero_testBit]
    rfl
  | succ k ih =>
    intro hk j hj hne
    have h1 := ih (by omega) j hj hne
    have h2 := hs k (by omega)
    have h3 := e0F_S (κ := κ) hs k (by omega)
    have h4 := hs j hj
    have hle : decide (j < k + 1) = (decide (j < k) || decide (j = k)) := by
      rw [← Bool.decide_or]
      exact decide_eq_decide.mpr (by omega)
    rw [hle]
    unfold e0F tbF
    unfold tbF at h1
    by_cases hb : inM κ (fG T k).1 = true
    · rw [if_pos hb]
      by_cases e : (fG T j).1 = (fG T k).1
      · rw [e, ud_s, or_tb5 _ (h3.1 _ h2.1) _ h2.2 _ h4.2]
        rw [e] at h1
        rw [h1, hb]
        by_cases ej : j = k
        · subst ej
          simp
        · have : ¬ (fG T j).2.1 = (fG T k).2.1 := fun z => hne k (by omega) (fun z2 => ej z2.symm) ⟨e.symm, z.symm⟩
          simp [ej, this]
      · rw [ud_n _ _ e, h1]
        have ej : ¬ j = k := fun z => e (by rw [z])
        simp [ej]
    · rw [if_neg hb, h1]
      by_cases ej : j = k
      · subst ej
        simp [hb]
      · simp [ej]
theorem clE_wf {T : List FT} {e : Nat → Nat} {k : Nat} (he : Dwf e) (h : (fG T k).1 < 7 ∧ (fG T k).2.1 < 5) : Dwf (clE T e k) := ud_wf he (dm_clr_lt _ (he _ h.1) _ h.2)
theorem clE_S {T : List FT} {i k : Nat} {e : Nat → Nat} (he : eSb T i e) (h : (fG T k).1 < 7 ∧ (fG T k).2.1 < 5) : eSb T i (clE T e k) := ⟨clE_wf he.1 h, fun x hx v hv hq => by
  unfold clE at hq
  by_cases q : x = (fG T k).1
  · subst q
    rw [ud_s, dm_clr_tb _ (he.1 _ hx) _ h.2 _ hv, Bool.and_eq_true] at hq
    exact he.2 _ hx v hv hq.1
  · rw [ud_n _ _ q] at hq
    exact he.2 x hx v hv hq⟩
theorem clE_tb {T : List FT} {e : Nat → Nat} {k j : Nat} (he : Dwf e) (h : (fG T k).1 < 7 ∧ (fG T k).2.1 < 5) (hj : (fG T j).1 < 7 ∧ (fG T j).2.1 < 5) (hne : ¬ ((fG T j).1 = (fG T k).1 ∧ (fG T j).2.1 = (fG T k).2.1)) : tbF T (clE T e k) j = tbF T e j := by
  unfold tbF clE
  by_cases q : (fG T j).1 = (fG T k).1
  · rw [q, ud_s, dm_clr_tb _ (he _ h.1) _ h.2 _ hj.2]
    have : (fG T j).2.1 ≠ (fG T k).2.1 := fun z => hne ⟨q, z⟩
    simp [this]
  · rw [ud_n _ _ q]
theorem clE_tk {T : List FT} {e : Nat → Nat} {k : Nat} (he : Dwf e) (h : (fG T k).1 < 7 ∧ (fG T k).2.1 < 5) : tbF T (clE T e k) k = false := by
  unfold tbF clE
  rw [ud_s, dm_clr_tb _ (he _ h.1) _ h.2 _ h.2]
  simp
theorem exS_S {κ : Kon} {P : Nat → Nat} {T : List FT} {x v k i : Nat} {e : Nat → Nat} (he : eSb T i e) (h : (fG T k).1 < 7 ∧ (fG T k).2.1 < 5) : eSb T i (exS κ P T x v k e) := by
  unfold exS
  split
  · exact clE_S he h
  · exact he
theorem exR_S {κ : Kon} {P : Nat → Nat} {T : List FT} {x v i : Nat} (hs : Tsm T) : ∀ k e, k ≤ T.length → eSb T i e → eSb T i (exR κ P T x v k e) := by
  intro k
  induction k with
  | zero => exact fun e _ he => he
  | succ k ih => exact fun e hk he => ih _ (by omega) (exS_S he (hs k (by omega)))
theorem exE_S {P : Nat → Nat} {T : List FT} {i : Nat} (hs : Tsm T) (hi : i ≤ T.length) : eSb T i (exE P T i) := by
  unfold exE
  split
  · exact eSb_0 T i
  · exact exR_S hs i _ hi (e0F_S hs i hi)
/-! an explanation depends on the facts up to its own -/
theorem e0F_c {κ : Kon} {T T' : List FT} : ∀ k, (∀ j, j < k → fG T j = fG T' j) → e0F κ T k = e0F κ T' k := by
  intro k
  induction k with
  | zero => exact fun _ => rfl
  | succ k ih =>
    intro h
    unfold e0F
    rw [ih (fun j hj => h j (by omega)), h k (by omega)]
theorem exR_c {κ : Kon} {P : Nat → Nat} {T T' : List FT} {x v : Nat} : ∀ k e, (∀ j, j < k → fG T j = fG T' j) → exR κ P T x v k e = exR κ P T' x v k e := by
  intro k
  induction k with
  | zero => exact fun _ _ => rfl
  | succ k ih =>
    intro e h
    unfold exR
    rw [ih _ (fun j hj => h j (by omega))]
    have e2 : exS κ P T x v k e = exS κ P T' x v k e := by
      unfold exS tbF clE
      rw [h k (by omega)]
    rw [e2]
theorem exE_c {P : Nat → Nat} {T T' : List FT} {i : Nat} (h : ∀ j, j ≤ i → fG T j = fG T' j) : exE P T i = exE P T' i := by
  unfold exE
  rw [h i (Nat.le_refl _), e0F_c i (fun j hj => h j (by omega)), exR_c i _ (fun j hj => h j (by omega))]
/-! how many facts they have -/
theorem cN_one {p q : Nat → Bool} {k : Nat} : ∀ n, k < n → (∀ j, j < n → j ≠ k → q j = p j) → p k = true → q k = false → cN q n + 1 = cN p n := by
  intro n
  induction n with
  | zero => exact fun h => absurd h (Nat.not_lt_zero _)
  | succ n ih =>
    intro hk hne hp hq
    rw [cN_s, cN_s]
    by_cases e : k = n
    · subst e
      rw [if_pos hp, if_neg (by rw [hq]; decide), cN_cong (f := q) (g := p) (fun i hi => hne i (by omega) (by omega))]
    · have h1 := ih (by omega) (fun j hj => hne j (by omega)) hp hq
      rw [hne n (by omega) (fun z => e z.symm)]
      omega
theorem cN_clE {T : List FT} {e : Nat → Nat} {n k : Nat} (he : Dwf e) (hs : ∀ j, j < n → (fG T j).1 < 7 ∧ (fG T j).2.1 < 5) (hds : Tds T n) (hk : k < n) (hb : tbF T e k = true) : cN (tbF T (clE T e k)) n + 1 = cN (tbF T e) n :=
  cN_one n hk (fun j hj hne => clE_tb he (hs k hk) (hs j hj) (Tds_ne hds hk hj (fun z => hne z.symm))) hb (clE_tk he (hs k hk))
theorem cN_clB {T : List FT} {e : Nat → Nat} {n k : Nat} (he : Dwf e) (hs : ∀ j, j < n → (fG T j).1 < 7 ∧ (fG T j).2.1 < 5) (hds : Tds T n) (hk : k < n) : cN (tbF T (clE T e k)) k = cN (tbF T e) k :=
  cN_cong (fun j hj => clE_tb he (hs k hk) (hs j (by omega)) (Tds_ne hds hk (by omega) (fun z => by omega)))
theorem dsum_z {e : Nat → Nat} (h : ∀ x, x < 7 → e x = 0) : dsum e = 0 := by
  unfold dsum
  rw [sN_cong (g := fun _ => 0) (fun i hi => by rw [h i hi]; rfl)]
  rfl
theorem dsum_cnt {T : List FT} : ∀ n e, (∀ j, j < n → (fG T j).1 < 7 ∧ (fG T j).2.1 < 5) → Tds T n → eSb T n e → dsum e = cN (tbF T e) n := by
  intro n
  induction n with
  | zero =>
    intro e _ _ he
    refine dsum_z (fun x hx => (dm_0 _ (he.1 x hx)).mpr (fun v hv => ?_))
    rw [← Bool.not_eq_true]
    intro hq
    obtain ⟨j, hj, _⟩ := he.2 x hx v hv hq
    exact absurd hj (Nat.not_lt_zero _)
  | succ n ih =>
    intro e hs hds he
    have hsn := hs n (by omega)
    rw [cN_s]
    cases hb : tbF T e n
    · rw [if_neg (by decide), Nat.add_zero]
      refine ih e (fun j hj => hs j (by omega)) (Tds_le hds (by omega)) ⟨he.1, fun x hx v hv hq => ?_⟩
      obtain ⟨j, hj, q1, q2⟩ := he.2 x hx v hv hq
      have : j ≠ n := by
        rintro rfl
        unfold tbF at hb
        rw [q1, q2, hq] at hb
        cases hb
      exact ⟨j, by omega, q1, q2⟩
    · rw [if_pos rfl]
      have h1 := dsum_clr he.1 hsn.1 hsn.2 hb
      have h2 : dsum (clE T e n) = cN (tbF T (clE T e n)) n := by
        refine ih _ (fun j hj => hs j (by omega)) (Tds_le hds (by omega)) ⟨clE_wf he.1 hsn, fun x hx v hv hq => ?_⟩
        obtain ⟨j, hj, q1, q2⟩ := (clE_S he hsn).2 x hx v hv hq
        have : j ≠ n := by
          rintro rfl
          have h3 := clE_tk (T := T) he.1 hsn
          unfold tbF at h3
          rw [q1, q2, hq] at h3
          cases h3
        exact ⟨j, by omega, q1, q2⟩
      rw [cN_clB he.1 hs hds (Nat.lt_succ_self n)] at h2
      unfold clE at h2
      omega
theorem exE_cnt {P : Nat → Nat} {T : List FT} {i : Nat} (hw : Pwf P) (hT : Tok P T) (hi : i < T.length) : dsum (exE P T i) = cN (tbF T (exE P T i)) i :=
  dsum_cnt i _ (fun j hj => Tok_sm hw hT j (by omega)) (Tds_le (Tds_of hT) (by omega)) (exE_S (Tok_sm hw hT) (by omega))
theorem dW_wf {P e : Nat → Nat} (hw : Pwf P) (he : Dwf e) : Dwf (dW P e) := fun x hx => dm_andn_lt _ (hw.2.2.1 x hx) _ (he x hx)
/-- the fact's own value is in the initial domains without what was removed before -/
theorem dW_own {P : Nat → Nat} {T : List FT} {i : Nat} {e : Nat → Nat} (hw : Pwf P) (hT : Tok P T) (hi : i < T.length) (he : eSb T i e) : ((dW P e) (fG T i).1).testBit (fG T i).2.1 = true := by
  have h1 := Tok_sm hw hT i hi
  have h2 := hT i hi
  unfold dW
  rw [dm_andn_tb _ (hw.2.2.1 _ h1.1) _ (he.1 _ h1.1) _ h1.2, h2.2.2.1]
  cases hb : (e (fG T i).1).testBit (fG T i).2.1
  · rfl
  · obtain ⟨j, hj, q1, q2⟩ := he.2 _ h1.1 _ h1.2 hb
    exact absurd ⟨q1, q2⟩ (h2.2.2.2.1 j hj)
/-! depths -/
def dpF (g : Nat → Nat) (b : Nat → Bool) : Nat → Nat
  | 0 => 0
  | k + 1 => if b k = true then (if dpF g b k < g k + 1 then g k + 1 else dpF g b k) else dpF g b k
noncomputable def dpA (P : Nat → Nat) (T : List FT) : Nat → Nat → Nat
  | 0 => fun _ => 0
  | i + 1 => ud (dpA P T i) i (dpF (dpA P T i) (tbF T (exE P T i)) i)
theorem dpF_le {g : Nat → Nat} {b : Nat → Bool} {m : Nat} : ∀ n, (∀ k, k < n → g k ≤ m) → dpF g b n ≤ m + 1 := by
  intro n
  induction n with
  | zero => exact fun _ => Nat.zero_le _
  | succ n ih =>
    intro h
    have h1 := ih (fun k hk => h k (by omega))
    have h2 := h n (by omega)
    unfold dpF
    split
    · split <;> omega
    · exact h1
theorem dpA_le {P : Nat → Nat} {T : List FT} : ∀ i j, dpA P T i j ≤ i := by
  intro i
  induction i with
  | zero => exact fun j => Nat.le_refl _
  | succ i ih =>
    intro j
    unfold dpA
    by_cases e : j = i
    · subst e
      rw [ud_s]
      exact dpF_le j (fun k _ => ih k)
    · rw [ud_n _ _ e]
      have := ih j
      omega
theorem dpF_0 {g : Nat → Nat} {b : Nat → Bool} : ∀ n, cN b n = 0 → dpF g b n = 0 := by
  intro n
  induction n with
  | zero => exact fun _ => rfl
  | succ n ih =>
    intro h
    rw [cN_s] at h
    unfold dpF
    by_cases hb : b n = true
    · rw [if_pos hb] at h
      omega
    · rw [if_neg hb]
      rw [if_neg hb] at h
      exact ih h

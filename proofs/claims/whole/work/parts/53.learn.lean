/-! LEARNING: what is learnt -/
/-- the domains that the facts of level 0 and some decisions leave -/
def stD (P : Nat → Nat) (T : List FT) (ds : List (Nat × Nat)) (m : Nat → Bool) : Nat → Nat → Nat
  | 0 => gD P T
  | k + 1 => if m k = true then ud (stD P T ds m k) (dG ds k).1 (2 ^ (dG ds k).2) else stD P T ds m k
/-- some decisions make propagation fail -/
noncomputable def mkF (P : Nat → Nat) (ss : List Nat) (T : List FT) (ds : List (Nat × Nat)) (m : Nat → Bool) : Bool := fl (P 0) (prE P ss 0 (stD P T ds m ds.length, [])).1
/-- the decisions that stay after the first ones were tried -/
noncomputable def lrM (P : Nat → Nat) (ss : List Nat) (T : List FT) (ds : List (Nat × Nat)) : Nat → Nat → Bool
  | 0 => fun k => decide (k < ds.length)
  | k + 1 => if mkF P ss T ds (ud (lrM P ss T ds k) k false) = true then ud (lrM P ss T ds k) k false else lrM P ss T ds k
/-- a set of decisions as a number -/
def lrS (m : Nat → Bool) (ds : List (Nat × Nat)) : Nat → Nat
  | 0 => 0
  | k + 1 => if m k = true then lrS m ds k ||| ((dG ds k).2 + 1) * 2 ^ (3 * (dG ds k).1) else lrS m ds k
/-- and as a set of pairs -/
def eD (m : Nat → Bool) (ds : List (Nat × Nat)) : Nat → Nat → Nat
  | 0 => fun _ => 0
  | k + 1 => if m k = true then ud (eD m ds k) (dG ds k).1 (2 ^ (dG ds k).2) else eD m ds k
/-- the decisions are of distinct variables, with values -/
def Dds (ds : List (Nat × Nat)) : Prop := ∀ k, k < ds.length → (dG ds k).1 < 7 ∧ (dG ds k).2 < 5 ∧ ∀ j, j < k → (dG ds j).1 ≠ (dG ds k).1
theorem Dds_of {P : Nat → Nat} {T : List FT} {ds : List (Nat × Nat)} (hw : Pwf P) (h : Dok P T ds) : Dds ds := fun k hk => ⟨by have := (h k hk).1; have := hw.1; omega, (h k hk).2.1, (h k hk).2.2.2.2.2⟩
theorem Dds_ne {ds : List (Nat × Nat)} (h : Dds ds) {i j : Nat} (hi : i < ds.length) (hj : j < ds.length) (hne : i ≠ j) : (dG ds i).1 ≠ (dG ds j).1 := by
  rcases Nat.lt_or_ge i j with q | q
  · exact (h j hj).2.2 i q
  · exact fun e => (h i hi).2.2 j (by omega) e.symm
theorem eD_at {m : Nat → Bool} {ds : List (Nat × Nat)} (h : Dds ds) : ∀ n, n ≤ ds.length → (∀ k, k < n → m k = true → eD m ds n (dG ds k).1 = 2 ^ (dG ds k).2) ∧ ∀ x, (∀ k, k < n → m k = true → (dG ds k).1 ≠ x) → eD m ds n x = 0 := by
  intro n
  induction n with
  | zero => exact fun _ => ⟨fun k hk => absurd hk (Nat.not_lt_zero _), fun _ _ => rfl⟩
  | succ n ih =>
    intro hn
    obtain ⟨h1, h2⟩ := ih (by omega)
    unfold eD
    by_cases hm : m n = true
    · rw [if_pos hm]
      refine ⟨fun k hk hmk => ?_, fun x hx => ?_⟩
      · by_cases e : k = n
        · rw [e, ud_s]
        · rw [ud_n _ _ (Dds_ne h (by omega) (by omega) e)]
          exact h1 k (by omega) hmk
      · rw [ud_n _ _ (fun q => hx n (by omega) hm q.symm)]
        exact h2 x (fun k hk => hx k (by omega))
    · rw [if_neg hm]
      refine ⟨fun k hk hmk => ?_, fun x hx => h2 x (fun k hk => hx k (by omega))⟩
      by_cases e : k = n
      · rw [e] at hmk
        exact absurd hmk hm
      · exact h1 k (by omega) hmk
theorem eD_cs {m : Nat → Bool} {ds : List (Nat × Nat)} (h : Dds ds) (n : Nat) (hn : n ≤ ds.length) (x : Nat) : (∃ k, k < n ∧ m k = true ∧ (dG ds k).1 = x ∧ eD m ds n x = 2 ^ (dG ds k).2) ∨ (eD m ds n x = 0 ∧ ∀ k, k < n → m k = true → (dG ds k).1 ≠ x) := by
  obtain ⟨h1, h2⟩ := eD_at (m := m) h n hn
  by_cases q : ∃ k, k < n ∧ m k = true ∧ (dG ds k).1 = x
  · obtain ⟨k, k1, k2, k3⟩ := q
    left
    refine ⟨k, k1, k2, k3, ?_⟩
    rw [← k3]
    exact h1 k k1 k2
  · right
    have h3 : ∀ k, k < n → m k = true → (dG ds k).1 ≠ x := fun k k1 k2 k3 => q ⟨k, k1, k2, k3⟩
    exact ⟨h2 x h3, h3⟩
theorem eD_wf {m : Nat → Bool} {ds : List (Nat × Nat)} (h : Dds ds) {n : Nat} (hn : n ≤ ds.length) : Dwf (eD m ds n) := fun x _ => by
  rcases eD_cs (m := m) h n hn x with ⟨k, k1, k2, k3, e⟩ | ⟨e, _⟩
  · rw [e]
    exact dm_pow_lt _ (h k (by omega)).2.1
  · rw [e]
    decide
theorem dg_or (a b x : Nat) : dg (a ||| b) x = dg a x ||| dg b x := by
  unfold dg
  rw [Nat.shiftRight_or_distrib, Nat.and_or_distrib_right]
theorem dg_one : ∀ c, c < 6 → ∀ y, y < 7 → ∀ x, x < 7 → dg (c * 2 ^ (3 * y)) x = if x = y then c else 0 := by decide +kernel
theorem dg_z (x : Nat) : dg 0 x = 0 := by
  unfold dg
  rw [Nat.zero_shiftRight, Nat.zero_and]
theorem lrS_dg {m : Nat → Bool} {ds : List (Nat × Nat)} (h : Dds ds) {x : Nat} (hx : x < 7) : ∀ n, n ≤ ds.length → (∃ k, k < n ∧ m k = true ∧ (dG ds k).1 = x ∧ dg (lrS m ds n) x = (dG ds k).2 + 1) ∨ (dg (lrS m ds n) x = 0 ∧ ∀ k, k < n → m k = true → (dG ds k).1 ≠ x) := by
  intro n
  induction n with
  | zero => exact fun _ => Or.inr ⟨dg_z x, fun k hk => absurd hk (Nat.not_lt_zero _)⟩
  | succ n ih =>
    intro hn
    have hn2 := h n (by omega)
    have h1 := ih (by omega)
    unfold lrS
    by_cases hm : m n = true
    · rw [if_pos hm, dg_or, dg_one _ (by omega) _ hn2.1 _ hx]
      by_cases e : x = (dG ds n).1
      · left
        refine ⟨n, by omega, hm, e.symm, ?_⟩
        rw [if_pos e]
        rcases h1 with ⟨k, k1, k2, k3, k4⟩ | ⟨h2, h3⟩
        · exact absurd (k3.trans e) (Dds_ne h (by omega) (by omega) (by omega))
        · rw [h2, Nat.zero_or]
      · rw [if_neg e, Nat.or_zero]
        rcases h1 with ⟨k, k1, k2, k3, k4⟩ | ⟨h2, h3⟩
        · exact Or.inl ⟨k, by omega, k2, k3, k4⟩
        · refine Or.inr ⟨h2, fun k hk hmk => ?_⟩
          by_cases ek : k = n
          · rw [ek]
            exact fun q => e q.symm
          · exact h3 k (by omega) hmk
    · rw [if_neg hm]
      rcases h1 with ⟨k, k1, k2, k3, k4⟩ | ⟨h2, h3⟩
      · exact Or.inl ⟨k, by omega, k2, k3, k4⟩
      · refine Or.inr ⟨h2, fun k hk hmk => ?_⟩
        by_cases ek : k = n
        · rw [ek] at hmk
          exact absurd hmk hm
        · exact h3 k (by omega) hmk
theorem lrS_set {m : Nat → Bool} {ds : List (Nat × Nat)} (h : Dds ds) {n : Nat} (hn : n ≤ ds.length) : ∀ x, x < 7 → sset (lrS m ds n) x = eD m ds n x := fun x hx => by
  unfold sset
  rcases lrS_dg (m := m) h hx n hn with ⟨k, k1, k2, k3, k4⟩ | ⟨h2, h3⟩
  · rw [k4, if_neg (Nat.succ_ne_zero _), Nat.add_sub_cancel, ← k3]
    exact ((eD_at (m := m) h n hn).1 k k1 k2).symm
  · rw [h2, if_pos rfl]
    exact ((eD_at (m := m) h n hn).2 x h3).symm
theorem lrS_lt {m : Nat → Bool} {ds : List (Nat × Nat)} (h : Dds ds) : ∀ n, n ≤ ds.length → lrS m ds n < 2097152 := by
  intro n
  induction n with
  | zero => exact fun _ => (by decide : 0 < 2097152)
  | succ n ih =>
    intro hn
    have hn2 := h n (by omega)
    unfold lrS
    split
    · refine Nat.or_lt_two_pow (n := 21) (ih (by omega)) ?_
      have h1 : ((dG ds n).2 + 1) * 2 ^ (3 * (dG ds n).1) < 2 ^ 3 * 2 ^ (3 * (dG ds n).1) := Nat.mul_lt_mul_of_pos_right (by omega) (Nat.two_pow_pos _)
      have h2 : 2 ^ 3 * 2 ^ (3 * (dG ds n).1) ≤ 2 ^ 21 := by
        rw [← Nat.pow_add]
        exact Nat.pow_le_pow_right (by decide) (by omega)
      omega
    · exact ih (by omega)
theorem lrS_wf {P : Nat → Nat} {T : List FT} {m : Nat → Bool} {ds : List (Nat × Nat)} (hw : Pwf P) (h : Dok P T ds) : Swf (lrS m ds ds.length) ∧ ∀ x, P 0 ≤ x → x < 7 → dg (lrS m ds ds.length) x = 0 := by
  have hd := Dds_of hw h
  refine ⟨⟨lrS_lt hd _ (Nat.le_refl _), fun x hx => ?_⟩, fun x hx hx7 => ?_⟩
  · rcases lrS_dg (m := m) hd hx _ (Nat.le_refl _) with ⟨k, k1, k2, k3, k4⟩ | ⟨h2, h3⟩
    · have := (hd k k1).2.1
      omega
    · omega
  · rcases lrS_dg (m := m) hd hx7 _ (Nat.le_refl _) with ⟨k, k1, k2, k3, k4⟩ | ⟨h2, h3⟩
    · have := (h k k1).1
      omega
    · exact h2
/-- the sets when one more is kept: the oldest of twelve goes -/
def kpS (ss : List Nat) (s : Nat) : List Nat := (if ss.length = 12 then ss.drop 1 else ss) ++ [s]
theorem kpS_len {ss : List Nat} {s : Nat} (h : ss.length ≤ 12) : (kpS ss s).length = (if ss.length = 12 then 11 else ss.length) + 1 ∧ (kpS ss s).length ≤ 12 := by
  unfold kpS
  rw [List.length_append, List.length_singleton]
  split
  · rw [List.length_drop]
    omega
  · omega
theorem getD_app1 {l : List Nat} {s i : Nat} (h : i < l.length) : (l ++ [s]).getD i 0 = l.getD i 0 := by
  rw [List.getD_eq_getElem?_getD, List.getD_eq_getElem?_getD, List.getElem?_append_left h]
theorem getD_app2 {l : List Nat} {s : Nat} : (l ++ [s]).getD l.length 0 = s := by
  rw [List.getD_eq_getElem?_getD, List.getElem?_append_right (Nat.le_refl _), Nat.sub_self]
  rfl
theorem getD_drop1 {l : List Nat} {i : Nat} : (l.drop 1).getD i 0 = l.getD (i + 1) 0 := by
  rw [List.getD_eq_getElem?_getD, List.getD_eq_getElem?_getD, List.getElem?_drop, Nat.add_comm]
theorem kpS_SS {P : Nat → Nat} {ss : List Nat} {s : Nat} (h : SSw P ss) (hs : Swf s ∧ ∀ x, P 0 ≤ x → x < 7 → dg s x = 0) : SSw P (kpS ss s) := fun i hi => by
  unfold kpS at hi ⊢
  rw [List.length_append, List.length_singleton] at hi
  by_cases e : ss.length = 12
  · rw [if_pos e] at hi ⊢
    rw [List.length_drop] at hi
    by_cases ei : i = (ss.drop 1).length
    · rw [ei, getD_app2]
      exact hs
    · rw [List.length_drop] at ei
      rw [getD_app1 (by rw [List.length_drop]; omega), getD_drop1]
      exact h (i + 1) (by omega)
  · rw [if_neg e] at hi ⊢
    by_cases ei : i = ss.length
    · rw [ei, getD_app2]
      exact hs
    · rw [getD_app1 (by omega)]
      exact h i (by omega)
theorem gD_wf {P : Nat → Nat} {T : List FT} (hw : Pwf P) (hs : Tsm T) : Dwf (gD P T) := wEf_wf hw hs _ (Nat.le_refl _)
theorem stD_at {P : Nat → Nat} {T : List FT} {m : Nat → Bool} {ds : List (Nat × Nat)} (h : Dds ds) : ∀ n, n ≤ ds.length → ∀ x, stD P T ds m n x = if eD m ds n x = 0 then gD P T x else eD m ds n x := by
  intro n
  induction n with
  | zero => exact fun _ x => rfl
  | succ n ih =>
    intro hn x
    have h1 := ih (by omega) x
    unfold stD eD
    by_cases hm : m n = true
    · rw [if_pos hm, if_pos hm]
      by_cases e : x = (dG ds n).1
      · rw [e, ud_s, ud_s, if_neg (by have := Nat.two_pow_pos (dG ds n).2; omega)]
      · rw [ud_n _ _ e, ud_n _ _ e]
        exact h1
    · rw [if_neg hm, if_neg hm]
      exact h1
theorem stD_wf {P : Nat → Nat} {T : List FT} {m : Nat → Bool} {ds : List (Nat × Nat)} (hw : Pwf P) (hs : Tsm T) (h : Dds ds) {n : Nat} (hn : n ≤ ds.length) : Dwf (stD P T ds m n) := fun x hx => by
  rw [stD_at h n hn x]
  split
  · exact gD_wf hw hs x hx
  · exact eD_wf h hn x hx
/-- the decided values are in the domains of level 0 -/
theorem gD_dec {P : Nat → Nat} {T : List FT} {ds : List (Nat × Nat)} (hw : Pwf P) (hs : Tsm T) (h : Dok P T ds) {k : Nat} (hk : k < ds.length) : (gD P T (dG ds k).1).testBit (dG ds k).2 = true := by
  obtain ⟨g1, g2, g3, g4, g5, g6⟩ := h k hk
  have hP0 := hw.1
  unfold gD
  rw [wEf_tb hw hs (by omega) g2 _ (Nat.le_refl _)]
  refine ⟨g3, fun ⟨j, hj, q1, q2, q3⟩ => ?_⟩
  have := g5 j hj q2 q3
  have := of_decide_eq_true q1
  omega
/-- the facts of level 0 come first -/
theorem wEf_stop {P : Nat → Nat} {T : List FT} {L : Nat → Bool} {i : Nat} (h : ∀ j, i ≤ j → j < T.length → L j = false) : ∀ n, i ≤ n → n ≤ T.length → wEf P T L n = wEf P T L i := by
  intro n
  induction n with
  | zero =>
    intro h1 _
    rw [show i = 0 by omega]
  | succ n ih =>
    intro h1 h2
    by_cases e : i = n + 1
    · rw [e]
    · have hL : wEf P T L (n + 1) = if L n = true then ud (wEf P T L n) (fG T n).1 (clr (wEf P T L n (fG T n).1) (fG T n).2.1) else wEf P T L n := rfl
      rw [hL, if_neg (by rw [h n (by omega) (by omega)]; decide)]
      exact ih (by omega) (by omega)
theorem wEf_all {P : Nat → Nat} {T : List FT} {L : Nat → Bool} : ∀ n, (∀ j, j < n → L j = true) → wEf P T L n = wEf P T (fun _ => true) n := by
  intro n
  induction n with
  | zero => exact fun _ => rfl
  | succ n ih =>
    intro h
    have hL : wEf P T L (n + 1) = if L n = true then ud (wEf P T L n) (fG T n).1 (clr (wEf P T L n (fG T n).1) (fG T n).2.1) else wEf P T L n := rfl
    rw [hL, if_pos (h n (by omega)), ih (fun j hj => h j (by omega))]
    rfl
theorem gD_pre {P : Nat → Nat} {T : List FT} {l : Nat} (hLv : Lv T l) : gD P T = wEf P T (fun _ => true) (bkN T 1 T.length) := by
  have hle := bkN_le (T := T) (l := 1) T.length
  have hlo := bkN_lo hLv (l := 1) T.length (Nat.le_refl _)
  have hhi := bkN_hi (T := T) (l := 1) T.length
  unfold gD
  rw [wEf_stop (i := bkN T 1 T.length) (fun j h1 h2 => decide_eq_false (by have := hhi j h1 h2; omega)) T.length hle (Nat.le_refl _)]
  exact wEf_all _ (fun j hj => decide_eq_true (by have := hlo j hj; omega))
theorem gD_nf {P : Nat → Nat} {ss : List Nat} {ds : List (Nat × Nat)} {σ : St} (h : VI P ss ds σ) (h0 : 0 < ds.length) : fl (P 0) (gD P σ.2) = false := by
  have hLv := h.2.2.2.2.1
  rw [gD_pre hLv]
  have hlo := bkN_lo hLv (l := 1) σ.2.length (Nat.le_refl _)
  exact h.2.2.2.2.2.2 _ (bkN_le _) (fun i hi => by have := hlo i hi; omega)
theorem stD_nf {P : Nat → Nat} {ss : List Nat} {ds : List (Nat × Nat)} {σ : St} (h : VI P ss ds σ) (h0 : 0 < ds.length) (m : Nat → Bool) : fl (P 0) (stD P σ.2 ds m ds.length) = false := by
  refine fl_f.mpr (fun x hx => ?_)
  rw [stD_at (Dds_of h.1 h.2.2.2.2.2.1) _ (Nat.le_refl _) x]
  split
  · exact fl_f.mp (gD_nf h h0) x hx
  · assumption
theorem stD_0 {P : Nat → Nat} {T : List FT} {ds : List (Nat × Nat)} {m : Nat → Bool} (hw : Pwf P) (hs : Tsm T) (h : Dok P T ds) {x : Nat} (hx : P 0 ≤ x) (hx7 : x < 7) : stD P T ds m ds.length x = 0 := by
  have hd := Dds_of hw h
  have hg : gD P T x = 0 := by
    refine (dm_0 _ (gD_wf hw hs x hx7)).mpr (fun v hv => ?_)
    unfold gD
    rw [← Bool.not_eq_true, wEf_tb hw hs hx7 hv _ (Nat.le_refl _), hw.2.2.2.2.1 x hx hx7, Nat.zero_testBit]
    exact fun q => absurd q.1 (by decide)
  rw [stD_at hd _ (Nat.le_refl _) x]
  rcases eD_cs (m := m) hd _ (Nat.le_refl _) x with ⟨k, k1, k2, k3, e⟩ | ⟨e, _⟩
  · have := (h k k1).1
    omega
  · rw [if_pos e]
    exact hg
theorem mkF_l {P : Nat → Nat} {ss : List Nat} {T : List FT} {ds : List (Nat × Nat)} {m : Nat → Bool} (l : Nat) : fl (P 0) (prE P ss l (stD P T ds m ds.length, [])).1 = mkF P ss T ds m := by
  unfold mkF
  rw [(prE_lv (P := P) (ss := ss) (l := l) (m := 0) (σ := (stD P T ds m ds.length, [])) (τ := (stD P T ds m ds.length, [])) ⟨rfl, rfl⟩).1]
/-- what a learn leaves: the sets, the decisions, the trail -/
noncomputable def lrnS (P : Nat → Nat) (ss : List Nat) (ds : List (Nat × Nat)) (σ : St) : List Nat := kpS ss (lrS (lrM P ss σ.2 ds ds.length) ds ds.length)
noncomputable def lrnT (P : Nat → Nat) (ss : List Nat) (ds : List (Nat × Nat)) (σ : St) : St := prE P (lrnS P ss ds σ) (ds.length - 1) (dI P (tkB σ.2 ds.length), tkB σ.2 ds.length)
theorem VI_ss {P : Nat → Nat} {ss ss' : List Nat} {ds : List (Nat × Nat)} {σ : St} (h : VI P ss ds σ) (h1 : SSw P ss') (h2 : ss'.length ≤ 12) : VI P ss' ds σ := ⟨h.1, h1, h2, h.2.2.2⟩
theorem VI_lrn0 {P : Nat → Nat} {ss : List Nat} {ds : List (Nat × Nat)} {σ : St} (h : VI P ss ds σ) (h0 : 0 < ds.length) : VI P (lrnS P ss ds σ) (ds.take (ds.length - 1)) (dI P (tkB σ.2 ds.length), tkB σ.2 ds.length) :=
  VI_ss (VI_back h h0).1 (kpS_SS h.2.1 (lrS_wf h.1 h.2.2.2.2.2.1)) (kpS_len h.2.2.1).2
theorem VI_lrn {P : Nat → Nat} {ss : List Nat} {ds : List (Nat × Nat)} {σ : St} (h : VI P ss ds σ) (h0 : 0 < ds.length) : VI P (lrnS P ss ds σ) (ds.take (ds.length - 1)) (lrnT P ss ds σ) := by
  have h1 := VI_prE (VI_lrn0 h h0)
  rw [show (ds.take (ds.length - 1)).length = ds.length - 1 by rw [List.length_take]; exact Nat.min_eq_left (by omega)] at h1
  exact h1

/-! WHAT A CONSTRAINT IS: its variables, and which values of them fulfil it -/
abbrev Kon : Type := Nat × (Nat → Nat) × ((Nat → Nat) → Bool)
def Kwf (κ : Kon) : Prop := κ.1 ≤ 7 ∧ (∀ k, k < κ.1 → κ.2.1 k < 7) ∧ (∀ i j, i < κ.1 → j < κ.1 → κ.2.1 i = κ.2.1 j → i = j) ∧ (∀ a b : Nat → Nat, (∀ k, k < κ.1 → a (κ.2.1 k) = b (κ.2.1 k)) → κ.2.2 a = κ.2.2 b)
def Asg (κ : Kon) (d a : Nat → Nat) : Prop := ∀ k, k < κ.1 → a (κ.2.1 k) < 5 ∧ (d (κ.2.1 k)).testBit (a (κ.2.1 k)) = true
def Ful (κ : Kon) (d a : Nat → Nat) : Prop := Asg κ d a ∧ κ.2.2 a = true
def Can (κ : Kon) (d : Nat → Nat) : Prop := ∃ a, Ful κ d a
/-- where a variable stands among the first so many -/
def posOf (m : Nat → Nat) : Nat → Nat → Nat
  | 0, _ => 0
  | n + 1, y => if m n = y then n else posOf m n y
theorem posOf_m {m : Nat → Nat} {n : Nat} (h : ∀ i j, i < n → j < n → m i = m j → i = j) {k : Nat} (hk : k < n) : posOf m n (m k) = k := by
  induction n with
  | zero => omega
  | succ n ih =>
    unfold posOf
    by_cases e : m n = m k
    · rw [if_pos e]; exact h n k (by omega) hk e
    · rw [if_neg e]
      have hkn : k ≠ n := fun q => e (by rw [q])
      exact ih (fun i j hi hj => h i j (by omega) (by omega)) (by omega)
/-! ===== counts ===== -/
/-- how many of the first n variables have a value -/
def cnt (m : Nat → Nat) (a : Nat → Nat) (v n : Nat) : Nat := cN (fun k => decide (a (m k) = v)) n
noncomputable def okCounts (n : Nat) (m lo hi : Nat → Nat) (a : Nat → Nat) : Bool := dB (∀ v, v < 5 → lo v ≤ cnt m a v n ∧ cnt m a v n ≤ hi v)
/-- the model's test, by sets of values -/
def hallT (n : Nat) (m lo hi d : Nat → Nat) (s : Nat) : Prop := cN (fun k => decide (andn (d (m k)) s = 0)) n ≤ sN (fun v => if s.testBit v then hi v else 0) 5 ∧ sN (fun v => if s.testBit v then lo v else 0) 5 ≤ cN (fun k => decide (d (m k) &&& s ≠ 0)) n
def dF (d : Nat) : Nat → Bool := fun v => d.testBit v
def dL (m d : Nat → Nat) : Nat → List (Nat → Bool)
  | 0 => []
  | n + 1 => dL m d n ++ [dF (d (m n))]
theorem dm_sub : ∀ d, d < 32 → ∀ s, s < 32 → (bsub (dF d) (dF s) = decide (andn d s = 0)) := by decide +kernel
theorem dm_meet : ∀ d, d < 32 → ∀ s, s < 32 → (bmeet (dF d) (dF s) = decide (d &&& s ≠ 0)) := by decide +kernel
theorem cU_dL {m d : Nat → Nat} {n s : Nat} (hd : ∀ k, k < n → d (m k) < 32) (hs : s < 32) : cU (dL m d n) (dF s) = cN (fun k => decide (andn (d (m k)) s = 0)) n := by
  induction n with
  | zero => rfl
  | succ n ih =>
    simp only [dL, cN]
    rw [cU_app, ih (fun k hk => hd k (by omega))]
    simp only [cU, Nat.add_zero]
    rw [dm_sub _ (hd n (by omega)) _ hs]
    rfl
theorem cM_dL {m d : Nat → Nat} {n s : Nat} (hd : ∀ k, k < n → d (m k) < 32) (hs : s < 32) : cM (dL m d n) (dF s) = cN (fun k => decide (d (m k) &&& s ≠ 0)) n := by
  induction n with
  | zero => rfl
  | succ n ih =>
    simp only [dL, cN]
    rw [cM_app, ih (fun k hk => hd k (by omega))]
    simp only [cM, Nat.add_zero]
    rw [dm_meet _ (hd n (by omega)) _ hs]
    rfl
/-- a set of values as a number -/
def enc5 (S : Nat → Bool) : Nat := gB (S 0) + 2 * gB (S 1) + 4 * gB (S 2) + 8 * gB (S 3) + 16 * gB (S 4)
theorem enc5_tb (S : Nat → Bool) : enc5 S < 32 ∧ ∀ v, v < 5 → (enc5 S).testBit v = S v := by
  have h : ∀ a b c d e : Bool, gB a + 2 * gB b + 4 * gB c + 8 * gB d + 16 * gB e < 32 ∧ (gB a + 2 * gB b + 4 * gB c + 8 * gB d + 16 * gB e).testBit 0 = a ∧ (gB a + 2 * gB b + 4 * gB c + 8 * gB d + 16 * gB e).testBit 1 = b ∧ (gB a + 2 * gB b + 4 * gB c + 8 * gB d + 16 * gB e).testBit 2 = c ∧ (gB a + 2 * gB b + 4 * gB c + 8 * gB d + 16 * gB e).testBit 3 = d ∧ (gB a + 2 * gB b + 4 * gB c + 8 * gB d + 16 * gB e).testBit 4 = e := by decide +kernel
  obtain ⟨h1, h2, h3, h4, h5, h6⟩ := h (S 0) (S 1) (S 2) (S 3) (S 4)
  refine ⟨h1, fun v hv => ?_⟩
  rcases lt5 hv with rfl | rfl | rfl | rfl | rfl
  · exact h2
  · exact h3
  · exact h4
  · exact h5
  · exact h6
theorem bsub_cg (D : Nat → Bool) {S T : Nat → Bool} (h : ∀ v, v < 5 → S v = T v) : bsub D S = bsub D T := by
  unfold bsub
  rw [h 0 (by omega), h 1 (by omega), h 2 (by omega), h 3 (by omega), h 4 (by omega)]
theorem bmeet_cg (D : Nat → Bool) {S T : Nat → Bool} (h : ∀ v, v < 5 → S v = T v) : bmeet D S = bmeet D T := by
  unfold bmeet
  rw [h 0 (by omega), h 1 (by omega), h 2 (by omega), h 3 (by omega), h 4 (by omega)]
theorem cU_cg (L : List (Nat → Bool)) {S T : Nat → Bool} (h : ∀ v, v < 5 → S v = T v) : cU L S = cU L T := by
  induction L with
  | nil => rfl
  | cons D L ih => simp only [cU]; rw [ih, bsub_cg D h]
theorem cM_cg (L : List (Nat → Bool)) {S T : Nat → Bool} (h : ∀ v, v < 5 → S v = T v) : cM L S = cM L T := by
  induction L with
  | nil => rfl
  | cons D L ih => simp only [cM]; rw [ih, bmeet_cg D h]
theorem hsum_cg (f : Nat → Nat) {S T : Nat → Bool} (h : ∀ v, v < 5 → S v = T v) : hsum f S = hsum f T := by
  simp only [hsum, sum5]
  rw [h 0 (by omega), h 1 (by omega), h 2 (by omega), h 3 (by omega), h 4 (by omega)]
theorem hsum_sN (f : Nat → Nat) (s : Nat) : hsum f (dF s) = sN (fun v => if s.testBit v then f v else 0) 5 := by
  unfold hsum sum5 dF
  simp only [sN, Nat.zero_add]
theorem hall_iff {n : Nat} {m lo hi d : Nat → Nat} (hd : ∀ k, k < n → d (m k) < 32) : hall lo hi (dL m d n) ↔ ∀ s, s < 32 → hallT n m lo hi d s := by
  constructor
  · intro h s hs
    have h1 := h (dF s)
    rw [cU_dL hd hs, cM_dL hd hs, hsum_sN, hsum_sN] at h1
    exact h1
  · intro h S
    obtain ⟨e1, e2⟩ := enc5_tb S
    have h1 := h _ e1
    unfold hallT at h1
    rw [← cU_dL hd e1, ← cM_dL hd e1, ← hsum_sN, ← hsum_sN] at h1
    have e3 : ∀ v, v < 5 → dF (enc5 S) v = S v := e2
    rw [cU_cg _ e3, cM_cg _ e3, hsum_cg _ e3, hsum_cg _ e3] at h1
    exact h1
theorem fitA_app : ∀ {L1 L2 : List (Nat → Bool)} {A : List Nat}, fitA (L1 ++ L2) A → ∃ A1 A2, A = A1 ++ A2 ∧ fitA L1 A1 ∧ fitA L2 A2
  | [], L2, A, h => ⟨[], A, rfl, trivial, h⟩
  | D :: L1, L2, [], h => h.elim
  | D :: L1, L2, a :: A, h => by
    obtain ⟨A1, A2, e, f1, f2⟩ := fitA_app h.2.2
    exact ⟨a :: A1, A2, by rw [e]; rfl, ⟨h.1, h.2.1, f1⟩, f2⟩
theorem fitA_cat : ∀ {L1 L2 : List (Nat → Bool)} {A1 A2 : List Nat}, fitA L1 A1 → fitA L2 A2 → fitA (L1 ++ L2) (A1 ++ A2)
  | [], _, [], _, _, h2 => h2
  | [], _, _ :: _, _, h, _ => h.elim
  | _ :: _, _, [], _, h, _ => h.elim
  | D :: L1, L2, a :: A1, A2, h, h2 => ⟨h.1, h.2.1, fitA_cat h.2.2 h2⟩
theorem cntA_app (v : Nat) (A1 A2 : List Nat) : cntA v (A1 ++ A2) = cntA v A1 + cntA v A2 := by
  induction A1 with
  | nil => simp [cntA]
  | cons a A ih => simp only [List.cons_append, cntA, ih]; omega
theorem dL_fit {m d : Nat → Nat} {n : Nat} {A : List Nat} (h : fitA (dL m d n) A) : ∃ f : Nat → Nat, (∀ k, k < n → f k < 5 ∧ (d (m k)).testBit (f k) = true) ∧ ∀ v, cntA v A = cN (fun k => decide (f k = v)) n := by
  induction n generalizing A with
  | zero =>
    cases A with
    | nil => exact ⟨fun _ => 0, fun k hk => by omega, fun v => rfl⟩
    | cons a A => exact h.elim
  | succ n ih =>
    obtain ⟨A1, A2, e, f1, f2⟩ := fitA_app h
    obtain ⟨f, g1, g2⟩ := ih f1
    match A2, f2 with
    | [a], f2 =>
      refine ⟨ud f n a, fun k hk => ?_, fun v => ?_⟩
      · by_cases hkn : k = n
        · subst hkn; rw [ud_s]; exact ⟨f2.1, f2.2.1⟩
        · rw [ud_n _ _ hkn]; exact g1 k (by omega)
      · rw [e, cntA_app, g2]
        simp only [cN, cntA, Nat.add_zero, ud_s]
        rw [cN_cong (f := fun k => decide (ud f n a k = v)) (g := fun k => decide (f k = v)) (fun i hi => by simp only [ud_n _ _ (show i ≠ n by omega)])]
        rfl
    | [], f2 => exact f2.elim
    | a :: b :: A2, f2 => exact f2.2.2.elim
theorem fit_dL {m d a : Nat → Nat} {n : Nat} (h : ∀ k, k < n → a (m k) < 5 ∧ (d (m k)).testBit (a (m k)) = true) : ∃ A, fitA (dL m d n) A ∧ ∀ v, cntA v A = cnt m a v n := by
  induction n with
  | zero => exact ⟨[], trivial, fun v => rfl⟩
  | succ n ih =>
    obtain ⟨A, h1, h2⟩ := ih (fun k hk => h k (by omega))
    refine ⟨A ++ [a (m n)], fitA_cat h1 ⟨(h n (by omega)).1, (h n (by omega)).2, trivial⟩, fun v => ?_⟩
    rw [cntA_app, h2]
    rfl
theorem can_counts {n : Nat} {m lo hi d : Nat → Nat} (hm : ∀ i j, i < n → j < n → m i = m j → i = j) (hd : ∀ k, k < n → d (m k) < 32) (hlh : ∀ v, v < 5 → lo v ≤ hi v) : (∀ s, s < 32 → hallT n m lo hi d s) ↔ Can (n, m, okCounts n m lo hi) d := by
  rw [← hall_iff hd]
  constructor
  · intro h
    obtain ⟨A, h1, h2⟩ := hall_ex hlh _ _ (Nat.le_refl _) h
    obtain ⟨f, g1, g2⟩ := dL_fit h1
    refine ⟨fun y => f (posOf m n y), fun k hk => ?_, ?_⟩
    · show f (posOf m n (m k)) < 5 ∧ (d (m k)).testBit (f (posOf m n (m k))) = true
      rw [posOf_m hm hk]
      exact g1 k hk
    · show dB _ = true
      rw [dB_t]
      intro v hv
      have e : cnt m (fun y => f (posOf m n y)) v n = cntA v A := by
        rw [g2]
        exact cN_cong (fun i hi => by simp only [posOf_m hm hi])
      rw [e]
      exact h2 v hv
  · rintro ⟨a, h1, h2⟩
    obtain ⟨A, f1, f2⟩ := fit_dL (m := m) (d := d) (a := a) (n := n) h1
    refine ex_hall f1 (fun v hv => ?_)
    rw [f2]
    exact dB_t.mp h2 v hv

/-! WINDOWS: what the latest members can be, as bits of rows -/
theorem cN_rev (p : Nat → Bool) (n : Nat) : cN p n = cN (fun j => p (n - 1 - j)) n := by
  have h : ∀ k, k ≤ n → cN (fun j => p (n - 1 - j)) k + cN p (n - k) = cN p n := by
    intro k
    induction k with
    | zero => intro _; simp [cN]
    | succ k ih =>
      intro hk
      have h1 := ih (by omega)
      obtain ⟨q, hq⟩ : ∃ q, n - k = q + 1 := ⟨n - k - 1, by omega⟩
      rw [hq] at h1
      have e1 : n - 1 - k = q := by omega
      have e2 : n - (k + 1) = q := by omega
      rw [e2]
      show cN (fun j => p (n - 1 - j)) k + (if p (n - 1 - k) then 1 else 0) + cN p q = cN p n
      rw [e1]
      simp only [cN] at h1
      omega
  have := h n (Nat.le_refl _)
  rw [Nat.sub_self] at this
  simp only [cN, Nat.add_zero] at this
  exact this.symm
theorem pcn_cN (k x : Nat) : pcn k x = cN (fun j => x.testBit j) k := by
  have h : ∀ k x, pcn k x = cN (fun j => x.testBit j) k ∧ cN (fun j => x.testBit j) (k + 1) = x % 2 + cN (fun j => (x / 2).testBit j) k := by
    intro k
    induction k with
    | zero =>
      intro x
      refine ⟨rfl, ?_⟩
      show 0 + (if x.testBit 0 then 1 else 0) = x % 2 + 0
      rw [Nat.testBit_zero]
      have := Nat.mod_lt x (show 0 < 2 by decide)
      by_cases e : x % 2 = 1
      · simp [e]
      · simp [e]; omega
    | succ k ih =>
      intro x
      have h1 := ih (x / 2)
      have h2 := (ih x).2
      refine ⟨?_, ?_⟩
      · rw [h2]; simp only [pcn]; rw [h1.1]
      · rw [show cN (fun j => x.testBit j) (k + 1 + 1) = cN (fun j => x.testBit j) (k + 1) + (if x.testBit (k + 1) then 1 else 0) from rfl, h2]
        rw [show cN (fun j => (x / 2).testBit j) (k + 1) = cN (fun j => (x / 2).testBit j) k + (if (x / 2).testBit k then 1 else 0) from rfl]
        rw [Nat.testBit_succ]
        omega
  exact (h k x).1
/-- the latest w members' bits behind k of them -/
def rowOf (w s : Nat) (m a : Nat → Nat) : Nat → Nat
  | 0 => 0
  | k + 1 => (2 * rowOf w s m a k + (if s.testBit (a (m k)) then 1 else 0)) % 2 ^ w
theorem rowOf_lt (w s : Nat) (m a : Nat → Nat) (k : Nat) : rowOf w s m a k < 2 ^ w := by
  cases k with
  | zero => exact Nat.pow_pos (by decide)
  | succ k => exact Nat.mod_lt _ (Nat.pow_pos (by decide))
theorem rowOf_tb (w s : Nat) (m a : Nat → Nat) (k j : Nat) : (rowOf w s m a k).testBit j = (decide (j < w) && decide (j < k) && s.testBit (a (m (k - 1 - j)))) := by
  induction k generalizing j with
  | zero => simp [rowOf]
  | succ k ih =>
    unfold rowOf
    rw [Nat.testBit_mod_two_pow]
    cases j with
    | zero =>
      have e : (2 * rowOf w s m a k + (if s.testBit (a (m k)) then 1 else 0)).testBit 0 = s.testBit (a (m k)) := by
        rw [Nat.testBit_zero]
        cases s.testBit (a (m k))
        · simp
        · simp
      rw [e]
      simp
    | succ j =>
      rw [Nat.testBit_succ]
      have e : (2 * rowOf w s m a k + (if s.testBit (a (m k)) then 1 else 0)) / 2 = rowOf w s m a k := by split <;> omega
      rw [e, ih]
      rw [show k + 1 - 1 - (j + 1) = k - 1 - j by omega]
      by_cases h1 : j + 1 < w
      · have h2 : j < w := by omega
        simp [h1, h2]
      · simp [h1]
theorem rowOf_cg {w s : Nat} {m a b : Nat → Nat} {k : Nat} (h : ∀ j, j < k → a (m j) = b (m j)) : rowOf w s m a k = rowOf w s m b k := by
  induction k with
  | zero => rfl
  | succ k ih => unfold rowOf; rw [ih (fun j hj => h j (by omega)), h k (by omega)]
/-- how many of w members from i on are in the set -/
def wct (w s : Nat) (m a : Nat → Nat) (i : Nat) : Nat := cN (fun j => s.testBit (a (m (i + j)))) w
theorem rowOf_pc {w s : Nat} {m a : Nat → Nat} {k : Nat} (h : w ≤ k) : pcn w (rowOf w s m a k) = wct w s m a (k - w) := by
  rw [pcn_cN, cN_rev]
  unfold wct
  apply cN_cong
  intro j hj
  simp only [rowOf_tb]
  have h1 : w - 1 - j < w := by omega
  have h2 : w - 1 - j < k := by omega
  rw [show k - 1 - (w - 1 - j) = k - w + j by omega]
  simp [h1, h2]
theorem wct_cg {w s : Nat} {m a b : Nat → Nat} {i : Nat} (h : ∀ j, j < i + w → a (m j) = b (m j)) : wct w s m a i = wct w s m b i := by
  unfold wct
  exact cN_cong (fun j hj => by rw [h (i + j) (by omega)])
noncomputable def okWindow (n : Nat) (m : Nat → Nat) (w s lo hi : Nat) (a : Nat → Nat) : Bool := dB (∀ i, i + w ≤ n → lo ≤ wct w s m a i ∧ wct w s m a i ≤ hi)
/-- a row can be reached behind k members -/
def reach (w s lo hi : Nat) (m d : Nat → Nat) (k r : Nat) : Prop := ∃ a : Nat → Nat, (∀ j, j < k → a (m j) < 5 ∧ (d (m j)).testBit (a (m j)) = true) ∧ (∀ i, i + w ≤ k → lo ≤ wct w s m a i ∧ wct w s m a i ≤ hi) ∧ rowOf w s m a k = r
/-- the member can be in the set, or out of it -/
def canBit (s dx bit : Nat) : Prop := ∃ u, u < 5 ∧ dx.testBit u = true ∧ s.testBit u = decide (bit = 1)
theorem reach_0 {w s lo hi : Nat} {m d : Nat → Nat} (hw : 0 < w) (r : Nat) : reach w s lo hi m d 0 r ↔ r = 0 := by
  constructor
  · rintro ⟨a, -, -, h⟩; exact h.symm
  · rintro rfl
    exact ⟨fun _ => 0, fun j hj => by omega, fun i hi => by omega, rfl⟩
theorem reach_s {w s lo hi n : Nat} {m d : Nat → Nat} (hm : ∀ i j, i < n → j < n → m i = m j → i = j) {k : Nat} (hk : k < n) (hw : 0 < w) (t : Nat) :
    reach w s lo hi m d (k + 1) t ↔ ∃ r bit, bit < 2 ∧ reach w s lo hi m d k r ∧ t = (2 * r + bit) % 2 ^ w ∧ canBit s (d (m k)) bit ∧ (w ≤ k + 1 → lo ≤ pcn w t ∧ pcn w t ≤ hi) := by
  constructor
  · rintro ⟨a, h1, h2, h3⟩
    refine ⟨rowOf w s m a k, if s.testBit (a (m k)) then 1 else 0, by split <;> decide, ⟨a, fun j hj => h1 j (by omega), fun i hi => h2 i (by omega), rfl⟩, h3.symm, ⟨a (m k), (h1 k (by omega)).1, (h1 k (by omega)).2, ?_⟩, fun hwk => ?_⟩
    · cases s.testBit (a (m k)) <;> rfl
    · rw [← h3, rowOf_pc hwk]
      exact h2 _ (by omega)
  · rintro ⟨r, bit, hb, ⟨a, h1, h2, h3⟩, ht, ⟨u, hu, hd, hs⟩, hp⟩
    have ha : ∀ j, j < k → ud a (m k) u (m j) = a (m j) := fun j hj => ud_n _ _ (fun q => by have := hm j k (by omega) hk q; omega)
    have hr : rowOf w s m (ud a (m k) u) k = r := by rw [← h3]; exact rowOf_cg ha
    have hrow : rowOf w s m (ud a (m k) u) (k + 1) = t := by
      unfold rowOf
      rw [hr, ud_s, hs, ht]
      have : bit = 0 ∨ bit = 1 := by omega
      rcases this with rfl | rfl <;> rfl
    refine ⟨ud a (m k) u, fun j hj => ?_, fun i hi => ?_, hrow⟩
    · by_cases e : j = k
      · subst e; rw [ud_s]; exact ⟨hu, hd⟩
      · rw [ha j (by omega)]; exact h1 j (by omega)
    · by_cases e : i + w ≤ k
      · have : wct w s m (ud a (m k) u) i = wct w s m a i := wct_cg (fun j hj => ha j (by omega))
        rw [this]; exact h2 i e
      · have h4 := hp (by omega)
        rw [← hrow, rowOf_pc (by omega), show k + 1 - w = i by omega] at h4
        exact h4
theorem can_window {w s lo hi n : Nat} {m d : Nat → Nat} : (∃ r, reach w s lo hi m d n r) ↔ Can (n, m, okWindow n m w s lo hi) d := by
  constructor
  · rintro ⟨r, a, h1, h2, -⟩
    exact ⟨a, h1, dB_t.mpr h2⟩
  · rintro ⟨a, h1, h2⟩
    exact ⟨_, a, h1, dB_t.mp h2, rfl⟩
theorem reach_lt {w s lo hi : Nat} {m d : Nat → Nat} {k r : Nat} (h : reach w s lo hi m d k r) : r < 2 ^ w := by
  obtain ⟨a, -, -, h⟩ := h
  rw [← h]; exact rowOf_lt _ _ _ _ _
theorem canBit_1 : ∀ dx, dx < 32 → ∀ s, s < 32 → (canBit s dx 1 ↔ dx &&& s ≠ 0) := by
  intro dx hd s hs
  have h := dm_meet dx hd s hs
  constructor
  · rintro ⟨u, hu, h1, h2⟩
    have : bmeet (dF dx) (dF s) = true := (bmeet_iff _ _).mpr ⟨u, hu, h1, h2⟩
    rw [h] at this
    exact of_decide_eq_true this
  · intro hn
    rw [show (dx &&& s ≠ 0) = ((decide (dx &&& s ≠ 0)) = true) by simp, ← h, bmeet_iff] at hn
    obtain ⟨u, hu, h1, h2⟩ := hn
    exact ⟨u, hu, h1, h2⟩
theorem canBit_0 : ∀ dx, dx < 32 → ∀ s, s < 32 → (canBit s dx 0 ↔ andn dx s ≠ 0) := by
  intro dx hd s hs
  constructor
  · rintro ⟨u, hu, h1, h2⟩ hn
    have := dm_andn_tb dx hd s hs u hu
    rw [hn, h1, h2] at this
    simp at this
  · intro hn
    obtain ⟨u, hu, h1⟩ := dm_ex (dm_andn_lt dx hd s hs) hn
    rw [dm_andn_tb dx hd s hs u hu] at h1
    simp only [Bool.and_eq_true, Bool.not_eq_true'] at h1
    exact ⟨u, hu, h1.1, by rw [h1.2]; rfl⟩
/-! ===== comparisons ===== -/
def okLess (m : Nat → Nat) (a : Nat → Nat) : Bool := decide (a (m 0) < a (m 1))
def okDiffer (m : Nat → Nat) (a : Nat → Nat) : Bool := decide (a (m 0) ≠ a (m 1))
theorem less_1 : ∀ x, x < 32 → ∀ y, y < 32 → ∀ v, v < 5 → (y >>> (v + 1) ≠ 0 ↔ ∃ u, u < 5 ∧ y.testBit u = true ∧ v < u) := by decide +kernel
theorem can2 {m d : Nat → Nat} (hm : m 0 ≠ m 1) {ok : (Nat → Nat) → Bool} {R : Nat → Nat → Prop} (hok : ∀ a, ok a = true ↔ R (a (m 0)) (a (m 1))) : Can (2, m, ok) d ↔ ∃ v u, v < 5 ∧ u < 5 ∧ (d (m 0)).testBit v = true ∧ (d (m 1)).testBit u = true ∧ R v u := by
  constructor
  · rintro ⟨a, h1, h2⟩
    have q0 := h1 0 (show (0 : Nat) < 2 by decide)
    have q1 := h1 1 (show (1 : Nat) < 2 by decide)
    exact ⟨a (m 0), a (m 1), q0.1, q1.1, q0.2, q1.2, (hok a).mp h2⟩
  · rintro ⟨v, u, hv, hu, h0, h1, hr⟩
    refine ⟨fun y => if y = m 0 then v else u, fun k hk => ?_, (hok _).mpr ?_⟩
    · have hk2 : k < 2 := hk
      have : k = 0 ∨ k = 1 := by omega
      rcases this with rfl | rfl
      · show (if m 0 = m 0 then v else u) < 5 ∧ (d (m 0)).testBit (if m 0 = m 0 then v else u) = true
        rw [if_pos rfl]; exact ⟨hv, h0⟩
      · show (if m 1 = m 0 then v else u) < 5 ∧ (d (m 1)).testBit (if m 1 = m 0 then v else u) = true
        rw [if_neg (fun q => hm q.symm)]; exact ⟨hu, h1⟩
    · show R (if m 0 = m 0 then v else u) (if m 1 = m 0 then v else u)
      rw [if_pos rfl, if_neg (fun q => hm q.symm)]
      exact hr
theorem can_less {m d : Nat → Nat} (hm : m 0 ≠ m 1) (h1 : d (m 0) < 32) (h2 : d (m 1) < 32) : (∃ v, v < 5 ∧ (d (m 0)).testBit v = true ∧ d (m 1) >>> (v + 1) ≠ 0) ↔ Can (2, m, okLess m) d := by
  rw [can2 hm (R := fun v u => v < u) (fun a => by simp [okLess])]
  constructor
  · rintro ⟨v, hv, h3, h4⟩
    obtain ⟨u, hu, h5, h6⟩ := (less_1 _ h1 _ h2 v hv).mp h4
    exact ⟨v, u, hv, hu, h3, h5, h6⟩
  · rintro ⟨v, u, hv, hu, h3, h5, h6⟩
    exact ⟨v, hv, h3, (less_1 _ h1 _ h2 v hv).mpr ⟨u, hu, h5, h6⟩⟩
theorem differ_1 : ∀ x, x < 32 → ∀ y, y < 32 → ((x ≠ 0 ∧ y ≠ 0 ∧ (x = y → 1 < pcn 5 x)) ↔ ∃ v, v < 5 ∧ ∃ u, u < 5 ∧ x.testBit v = true ∧ y.testBit u = true ∧ v ≠ u) := by decide +kernel
theorem can_differ {m d : Nat → Nat} (hm : m 0 ≠ m 1) (h1 : d (m 0) < 32) (h2 : d (m 1) < 32) : (d (m 0) ≠ 0 ∧ d (m 1) ≠ 0 ∧ (d (m 0) = d (m 1) → 1 < pcn 5 (d (m 0)))) ↔ Can (2, m, okDiffer m) d := by
  rw [can2 hm (R := fun v u => v ≠ u) (fun a => by simp [okDiffer]), differ_1 _ h1 _ h2]
  constructor
  · rintro ⟨v, hv, u, hu, h3, h5, h6⟩
    exact ⟨v, u, hv, hu, h3, h5, h6⟩
  · rintro ⟨v, u, hv, hu, h3, h5, h6⟩
    exact ⟨v, hv, u, hu, h3, h5, h6⟩

/-! THE K-TH OF SOME NUMBERS; LEARNT SETS; A PROBLEM'S CONSTRAINTS -/
/-- the k-th number below n with p -/
def kt (p : Nat → Bool) : Nat → Nat → Nat
  | 0, _ => 0
  | n + 1, k => if p n = true ∧ cN p n = k then n else kt p n k
theorem cN_mono (p : Nat → Bool) {i j : Nat} (h : i ≤ j) : cN p i ≤ cN p j := by
  induction j with
  | zero => rw [show i = 0 by omega]; exact Nat.le_refl _
  | succ j ih =>
    by_cases e : i = j + 1
    · rw [e]; exact Nat.le_refl _
    · have := ih (by omega)
      simp only [cN]
      omega
theorem cN_lt {p : Nat → Bool} {i j : Nat} (h : i < j) (hp : p i = true) : cN p i < cN p j := by
  have := cN_mono p (show i + 1 ≤ j from h)
  simp only [cN, hp, if_true] at this
  omega
theorem kt_in {p : Nat → Bool} {n k : Nat} (h : k < cN p n) : kt p n k < n ∧ p (kt p n k) = true ∧ cN p (kt p n k) = k := by
  induction n with
  | zero => simp [cN] at h
  | succ n ih =>
    unfold kt
    by_cases e : p n = true ∧ cN p n = k
    · rw [if_pos e]; exact ⟨by omega, e.1, e.2⟩
    · rw [if_neg e]
      have h2 : k < cN p n := by
        simp only [cN] at h
        by_cases hp : p n = true
        · rw [if_pos hp] at h
          have : ¬ cN p n = k := fun q => e ⟨hp, q⟩
          omega
        · rw [if_neg hp] at h; exact h
      obtain ⟨h3, h4⟩ := ih h2
      exact ⟨by omega, h4⟩
theorem kt_uq {p : Nat → Bool} {i j : Nat} (hi : p i = true) (hj : p j = true) (h : cN p i = cN p j) : i = j := by
  by_cases h1 : i < j
  · have := cN_lt h1 hi; omega
  · by_cases h2 : j < i
    · have := cN_lt h2 hj; omega
    · omega
theorem kt_of {p : Nat → Bool} {n y : Nat} (hy : y < n) (hp : p y = true) : kt p n (cN p y) = y := by
  have h1 := kt_in (p := p) (n := n) (k := cN p y) (cN_lt hy hp)
  exact kt_uq h1.2.1 hp h1.2.2
theorem kt_inj {p : Nat → Bool} {n i j : Nat} (hi : i < cN p n) (hj : j < cN p n) (h : kt p n i = kt p n j) : i = j := by
  have h1 := (kt_in hi).2.2
  have h2 := (kt_in hj).2.2
  rw [h] at h1
  omega
/-- a learnt set's digit of a variable: its value and 1, or 0 -/
def dg (s x : Nat) : Nat := (s >>> (3 * x)) &&& 7
theorem dg_lt (s x : Nat) : dg s x < 8 := Nat.lt_of_le_of_lt Nat.and_le_right (by decide)
def lp (s : Nat) : Nat → Bool := fun x => decide (dg s x ≠ 0)
noncomputable def okLearnt (s : Nat) (a : Nat → Nat) : Bool := dB (∃ x, x < 7 ∧ dg s x ≠ 0 ∧ a x ≠ dg s x - 1)
noncomputable def lK (s : Nat) : Kon := (cN (lp s) 7, kt (lp s) 7, okLearnt s)
def Swf (s : Nat) : Prop := s < 2097152 ∧ ∀ x, x < 7 → dg s x ≤ 5
theorem lp_t {s x : Nat} : lp s x = true ↔ dg s x ≠ 0 := by simp [lp]
theorem lK_wf (s : Nat) : Kwf (lK s) := by
  refine ⟨cN_le _ _, fun k hk => (kt_in hk).1, fun i j hi hj h => kt_inj hi hj h, fun a b h => ?_⟩
  show dB _ = dB _
  apply dB_c
  have e : ∀ x, x < 7 → dg s x ≠ 0 → a x = b x := fun x hx h0 => by
    have h1 := kt_of hx (lp_t.mpr h0)
    have h2 := h (cN (lp s) x) (cN_lt hx (lp_t.mpr h0))
    have h3 : kt (lp s) 7 (cN (lp s) x) = x := h1
    have h4 : a (kt (lp s) 7 (cN (lp s) x)) = b (kt (lp s) 7 (cN (lp s) x)) := h2
    rw [h3] at h4
    exact h4
  constructor
  · rintro ⟨x, hx, h0, h1⟩; exact ⟨x, hx, h0, by rw [← e x hx h0]; exact h1⟩
  · rintro ⟨x, hx, h0, h1⟩; exact ⟨x, hx, h0, by rw [e x hx h0]; exact h1⟩
theorem pick_in {d : Nat} (h : d < 32) (h0 : d ≠ 0) : pick5 (dF d) < 5 ∧ d.testBit (pick5 (dF d)) = true := pick5_in (D := dF d) (by obtain ⟨v, hv, h1⟩ := dm_ex h h0; exact ⟨v, hv, h1⟩)
theorem can_leave {s : Nat} (hs : Swf s) {d : Nat → Nat} (hd : ∀ x, x < 7 → d x < 32) : ((∀ x, x < 7 → dg s x ≠ 0 → d x ≠ 0) ∧ ∃ x, x < 7 ∧ dg s x ≠ 0 ∧ clr (d x) (dg s x - 1) ≠ 0) ↔ Can (lK s) d := by
  constructor
  · rintro ⟨h1, x, hx, h0, h2⟩
    have hv : dg s x - 1 < 5 := by have := hs.2 x hx; omega
    obtain ⟨u, hu, h3⟩ := dm_ex (dm_clr_lt _ (hd x hx) _ hv) h2
    rw [dm_clr_tb _ (hd x hx) _ hv _ hu] at h3
    simp only [Bool.and_eq_true, decide_eq_true_eq] at h3
    refine ⟨ud (fun y => pick5 (dF (d y))) x u, fun k hk => ?_, dB_t.mpr ⟨x, hx, h0, by rw [ud_s]; exact h3.2⟩⟩
    have hk2 := kt_in (p := lp s) (n := 7) (k := k) hk
    show ud (fun y => pick5 (dF (d y))) x u (kt (lp s) 7 k) < 5 ∧ (d (kt (lp s) 7 k)).testBit (ud (fun y => pick5 (dF (d y))) x u (kt (lp s) 7 k)) = true
    generalize kt (lp s) 7 k = y at hk2
    by_cases e : y = x
    · subst e; rw [ud_s]; exact ⟨hu, h3.1⟩
    · rw [ud_n _ _ e]
      exact pick_in (hd y hk2.1) (h1 y hk2.1 (lp_t.mp hk2.2.1))
  · rintro ⟨a, h1, h2⟩
    have h3 : ∀ x, x < 7 → dg s x ≠ 0 → a x < 5 ∧ (d x).testBit (a x) = true := fun x hx h0 => by
      have h4 := h1 (cN (lp s) x) (cN_lt hx (lp_t.mpr h0))
      have h5 : kt (lp s) 7 (cN (lp s) x) = x := kt_of hx (lp_t.mpr h0)
      have h6 : a (kt (lp s) 7 (cN (lp s) x)) < 5 ∧ (d (kt (lp s) 7 (cN (lp s) x))).testBit (a (kt (lp s) 7 (cN (lp s) x))) = true := h4
      rw [h5] at h6
      exact h6
    obtain ⟨x, hx, h0, h4⟩ := dB_t.mp h2
    refine ⟨fun y hy hn q => ?_, x, hx, h0, fun q => ?_⟩
    · have := (h3 y hy hn).2
      rw [q] at this
      simp at this
    · have h5 := h3 x hx h0
      have hv : dg s x - 1 < 5 := by have := hs.2 x hx; omega
      have h6 := dm_clr_tb _ (hd x hx) _ hv _ h5.1
      rw [q, h5.2] at h6
      simp at h6
      exact h4 h6
/-! ===== a problem, as the numbers that the reference keeps of it ===== -/
noncomputable def cOk (P : Nat → Nat) (c : Nat) (a : Nat → Nat) : Bool := if P (9 + 20 * c) = 0 then okCounts (P (9 + 20 * c + 1)) (fun k => P (9 + 20 * c + (2 + k))) (fun v => P (9 + 20 * c + (9 + v))) (fun v => P (9 + 20 * c + (14 + v))) a else if P (9 + 20 * c) = 1 then okWindow (P (9 + 20 * c + 1)) (fun k => P (9 + 20 * c + (2 + k))) (P (9 + 20 * c + 9)) (P (9 + 20 * c + 10)) (P (9 + 20 * c + 11)) (P (9 + 20 * c + 12)) a else if P (9 + 20 * c) = 2 then okLess (fun k => P (9 + 20 * c + (2 + k))) a else okDiffer (fun k => P (9 + 20 * c + (2 + k))) a
noncomputable def cK (P : Nat → Nat) (c : Nat) : Kon := (P (9 + 20 * c + 1), (fun k => P (9 + 20 * c + (2 + k))), cOk P c)
/-- a well-formed constraint, of a problem with N variables -/
def Cwf (P : Nat → Nat) (c : Nat) : Prop := P (9 + 20 * c) ≤ 3 ∧ 0 < P (9 + 20 * c + 1) ∧ P (9 + 20 * c + 1) ≤ 7 ∧ (∀ k, k < P (9 + 20 * c + 1) → P (9 + 20 * c + (2 + k)) < P 0) ∧ (∀ i j, i < P (9 + 20 * c + 1) → j < P (9 + 20 * c + 1) → P (9 + 20 * c + (2 + i)) = P (9 + 20 * c + (2 + j)) → i = j)
  ∧ (P (9 + 20 * c) = 0 → ∀ v, v < 5 → P (9 + 20 * c + (9 + v)) ≤ P (9 + 20 * c + (14 + v)) ∧ P (9 + 20 * c + (14 + v)) ≤ 7)
  ∧ (P (9 + 20 * c) = 1 → 0 < P (9 + 20 * c + 9) ∧ P (9 + 20 * c + 9) ≤ 4 ∧ 0 < P (9 + 20 * c + 10) ∧ P (9 + 20 * c + 10) < 32 ∧ P (9 + 20 * c + 11) ≤ P (9 + 20 * c + 12) ∧ P (9 + 20 * c + 12) ≤ P (9 + 20 * c + 9))
  ∧ (2 ≤ P (9 + 20 * c) → P (9 + 20 * c + 1) = 2)
  ∧ (P (9 + 20 * c) = 0 → P (9 + 20 * c + 19) < 32 ∧ ∀ v, v < 5 → (P (9 + 20 * c + 19)).testBit v = false → P (9 + 20 * c + (9 + v)) = 0 ∧ P (9 + 20 * c + (14 + v)) = 7)
  ∧ (∀ j, j < 20 → P (9 + 20 * c + j) < 64) ∧ ∀ j, j < 7 → P (9 + 20 * c + (2 + j)) < 7
def Pwf (P : Nat → Nat) : Prop := P 0 ≤ 7 ∧ P 1 ≤ 8 ∧ (∀ x, x < 7 → P (2 + x) < 32) ∧ (∀ x, x < P 0 → P (2 + x) ≠ 0) ∧ (∀ x, P 0 ≤ x → x < 7 → P (2 + x) = 0) ∧ ∀ c, c < P 1 → Cwf P c
theorem cnt_cg {m a b : Nat → Nat} {v n : Nat} (h : ∀ k, k < n → a (m k) = b (m k)) : cnt m a v n = cnt m b v n := cN_cong (fun k hk => by simp only [h k hk])
theorem cK_wf {P : Nat → Nat} {c : Nat} (h : Cwf P c) (h0 : P 0 ≤ 7) : Kwf (cK P c) := by
  obtain ⟨hk, h1, h2, h3, h4, h5, h6, h7, h8, h9⟩ := h
  refine ⟨h2, fun k hk => Nat.lt_of_lt_of_le (h3 k hk) h0, h4, fun a b hab => ?_⟩
  show cOk P c a = cOk P c b
  have hab' : ∀ k, k < P (9 + 20 * c + 1) → a (P (9 + 20 * c + (2 + k))) = b (P (9 + 20 * c + (2 + k))) := hab
  unfold cOk
  by_cases e0 : P (9 + 20 * c) = 0
  · rw [if_pos e0, if_pos e0]
    apply dB_c
    constructor
    · intro q v hv; rw [← cnt_cg (a := a) (b := b) hab']; exact q v hv
    · intro q v hv; rw [cnt_cg (a := a) (b := b) hab']; exact q v hv
  · rw [if_neg e0, if_neg e0]
    by_cases e1 : P (9 + 20 * c) = 1
    · rw [if_pos e1, if_pos e1]
      apply dB_c
      constructor
      · intro q i hi; rw [← wct_cg (a := a) (b := b) (fun j hj => hab' j (by omega))]; exact q i hi
      · intro q i hi; rw [wct_cg (a := a) (b := b) (fun j hj => hab' j (by omega))]; exact q i hi
    · rw [if_neg e1, if_neg e1]
      have e2 := h7 (by omega)
      by_cases e3 : P (9 + 20 * c) = 2
      · rw [if_pos e3, if_pos e3]
        unfold okLess
        simp only [hab' 0 (by omega), hab' 1 (by omega)]
      · rw [if_neg e3, if_neg e3]
        unfold okDiffer
        simp only [hab' 0 (by omega), hab' 1 (by omega)]
theorem Can_cg {κ : Kon} {d e : Nat → Nat} (h : ∀ k, k < κ.1 → d (κ.2.1 k) = e (κ.2.1 k)) : Can κ d ↔ Can κ e := by
  constructor
  · rintro ⟨a, h1, h2⟩
    exact ⟨a, fun k hk => by rw [← h k hk]; exact h1 k hk, h2⟩
  · rintro ⟨a, h1, h2⟩
    exact ⟨a, fun k hk => by rw [h k hk]; exact h1 k hk, h2⟩

/-! PROPAGATION, as a function on domains and facts (variable, value, reason, level, set) -/
abbrev FT : Type := Nat × Nat × Int32 × Nat × Nat
abbrev St : Type := (Nat → Nat) × List FT
/-- a domain is empty -/
noncomputable def fl (N : Nat) (d : Nat → Nat) : Bool := dB (∃ x, x < N ∧ d x = 0)
theorem fl_f {N : Nat} {d : Nat → Nat} : fl N d = false ↔ ∀ x, x < N → d x ≠ 0 := by
  unfold fl
  rw [dB_f]
  constructor
  · intro h x hx h0; exact h ⟨x, hx, h0⟩
  · rintro h ⟨x, hx, h0⟩; exact h x hx h0
theorem fl_t {N : Nat} {d : Nat → Nat} : fl N d = true ↔ ∃ x, x < N ∧ d x = 0 := dB_t
/-- the value is removed: nothing has failed, it is there, it has no support -/
def gone (κ : Kon) (N x v : Nat) (d : Nat → Nat) : Prop := fl N d = false ∧ (d x).testBit v = true ∧ ¬ Can κ (ud d x (2 ^ v))
noncomputable def stp (κ : Kon) (N : Nat) (r : Int32) (l s x v : Nat) (σ : St) : St := if dB (gone κ N x v σ.1) = true then (ud σ.1 x (clr (σ.1 x) v), σ.2 ++ [(x, v, r, l, s)]) else σ
noncomputable def vls (κ : Kon) (N : Nat) (r : Int32) (l s x : Nat) : Nat → St → St
  | 0, σ => σ
  | j + 1, σ => stp κ N r l s x j (vls κ N r l s x j σ)
noncomputable def sw1 (κ : Kon) (N : Nat) (r : Int32) (l s : Nat) : Nat → St → St
  | 0, σ => σ
  | k + 1, σ => vls κ N r l s (κ.2.1 k) 5 (sw1 κ N r l s k σ)
/-- the constraints and learnt sets by their place, with reason and set -/
noncomputable def kl (P : Nat → Nat) (ss : List Nat) (c : Nat) : Kon × Int32 × Nat := if c < P 1 then (cK P c, nI c, 0) else (lK (ss.getD (c - P 1) 0), nI 100, ss.getD (c - P 1) 0)
noncomputable def rnd (P : Nat → Nat) (ss : List Nat) (l : Nat) : Nat → St → St
  | 0, σ => σ
  | k + 1, σ => sw1 (kl P ss k).1 (P 0) (kl P ss k).2.1 l (kl P ss k).2.2 (kl P ss k).1.1 (rnd P ss l k σ)
noncomputable def prp (P : Nat → Nat) (ss : List Nat) (l : Nat) : Nat → St → St
  | 0, σ => σ
  | n + 1, σ => if (rnd P ss l (P 1 + ss.length) σ).2.length = σ.2.length then rnd P ss l (P 1 + ss.length) σ else prp P ss l n (rnd P ss l (P 1 + ss.length) σ)
/-! what they keep -/
/-- from σ to σ': domains only lose values, each loss a fact -/
def dsum (d : Nat → Nat) : Nat := sN (fun x => pcn 5 (d x)) 7
def Dwf (d : Nat → Nat) : Prop := ∀ x, x < 7 → d x < 32
theorem sN_ud {f : Nat → Nat} {k v n : Nat} (h : k < n) : sN (ud f k v) n + f k = sN f n + v := by
  induction n with
  | zero => omega
  | succ n ih =>
    simp only [sN]
    by_cases e : k = n
    · subst e
      rw [ud_s, sN_cong (f := ud f k v) (g := f) (fun i hi => ud_n _ _ (by omega))]
      omega
    · rw [ud_n f v (show n ≠ k by omega)]
      have := ih (by omega)
      omega
theorem pcn_clr : ∀ d, d < 32 → ∀ v, v < 5 → d.testBit v = true → pcn 5 (clr d v) + 1 = pcn 5 d := by decide +kernel
theorem dsum_clr {d : Nat → Nat} (hd : Dwf d) {x v : Nat} (hx : x < 7) (hv : v < 5) (h : (d x).testBit v = true) : dsum (ud d x (clr (d x) v)) + 1 = dsum d := by
  unfold dsum
  have e : sN (fun y => pcn 5 (ud d x (clr (d x) v) y)) 7 = sN (ud (fun y => pcn 5 (d y)) x (pcn 5 (clr (d x) v))) 7 := by
    apply sN_cong
    intro i hi
    by_cases q : i = x
    · subst q; rw [ud_s, ud_s]
    · rw [ud_n _ _ q, ud_n _ _ q]
  rw [e]
  have h1 : sN (ud (fun y => pcn 5 (d y)) x (pcn 5 (clr (d x) v))) 7 + pcn 5 (d x) = sN (fun y => pcn 5 (d y)) 7 + pcn 5 (clr (d x) v) := sN_ud hx
  have h2 := pcn_clr _ (hd x hx) v hv h
  omega
theorem dsum_le (d : Nat → Nat) : dsum d ≤ 35 := sN_le (b := 5) (fun i _ => pcn_le 5 _)
/-- a step's relation: σ' is σ, or comes by removals with facts that keep R -/
def Dn (R : FT → Prop) (σ σ' : St) : Prop := Dwf σ'.1 ∧ dsum σ'.1 + σ'.2.length = dsum σ.1 + σ.2.length ∧ (∃ T, σ'.2 = σ.2 ++ T ∧ ∀ f ∈ T, R f) ∧ (∀ x, σ'.1 x ≠ σ.1 x → x < 7) ∧ (σ'.2.length = σ.2.length → σ' = σ)
theorem Dn_r {R : FT → Prop} {σ : St} (h : Dwf σ.1) : Dn R σ σ := ⟨h, rfl, ⟨[], (List.append_nil _).symm, fun f hf => by cases hf⟩, fun x hx => absurd rfl hx, fun _ => rfl⟩
theorem Dn_t {R : FT → Prop} {σ σ1 σ2 : St} (h : Dn R σ σ1) (h2 : Dn R σ1 σ2) : Dn R σ σ2 := by
  obtain ⟨a1, a2, ⟨T, a3, a4⟩, a5, a6⟩ := h
  obtain ⟨b1, b2, ⟨U, b3, b4⟩, b5, b6⟩ := h2
  refine ⟨b1, by omega, ⟨T ++ U, by rw [b3, a3, List.append_assoc], fun f hf => ?_⟩, fun x hx => ?_, fun e => ?_⟩
  · rcases List.mem_append.mp hf with q | q
    · exact a4 f q
    · exact b4 f q
  · by_cases q : σ1.1 x = σ.1 x
    · exact b5 x (fun w => hx (w.trans q))
    · exact a5 x q
  · have l1 : σ1.2.length = σ.2.length + T.length := by rw [a3, List.length_append]
    have l2 : σ2.2.length = σ1.2.length + U.length := by rw [b3, List.length_append]
    rw [b6 (by omega), a6 (by omega)]
theorem Dn_m {R R' : FT → Prop} (hR : ∀ f, R f → R' f) {σ σ1 : St} (h : Dn R σ σ1) : Dn R' σ σ1 := by
  obtain ⟨a1, a2, ⟨T, a3, a4⟩, a5, a6⟩ := h
  exact ⟨a1, a2, ⟨T, a3, fun f hf => hR f (a4 f hf)⟩, a5, a6⟩
theorem stp_dn {κ : Kon} {N : Nat} {r : Int32} {l s x v : Nat} {σ : St} (hd : Dwf σ.1) (hx : x < 7) (hv : v < 5) : Dn (fun f => f.1 = x ∧ f.2.1 = v ∧ f.2.2 = (r, l, s)) σ (stp κ N r l s x v σ) := by
  unfold stp
  by_cases e : dB (gone κ N x v σ.1) = true
  · rw [if_pos e]
    obtain ⟨-, e2, -⟩ := dB_t.mp e
    refine ⟨fun y hy => ?_, ?_, ⟨[(x, v, r, l, s)], rfl, fun f hf => ?_⟩, fun y hy => ?_, fun q => ?_⟩
    · show ud σ.1 x (clr (σ.1 x) v) y < 32
      by_cases q : y = x
      · subst q; rw [ud_s]; exact dm_clr_lt _ (hd y hy) v hv
      · rw [ud_n _ _ q]; exact hd y hy
    · have := dsum_clr hd hx hv e2
      show dsum (ud σ.1 x (clr (σ.1 x) v)) + (σ.2 ++ [(x, v, r, l, s)]).length = _
      rw [List.length_append, List.length_singleton]
      omega
    · have : f = (x, v, r, l, s) := by simpa using hf
      subst this
      exact ⟨rfl, rfl, rfl⟩
    · by_cases q : y = x
      · rw [q]; exact hx
      · exact absurd (ud_n σ.1 (clr (σ.1 x) v) q) hy
    · have : (σ.2 ++ [(x, v, r, l, s)]).length = σ.2.length := q
      rw [List.length_append, List.length_singleton] at this
      omega
  · rw [if_neg e]
    exact Dn_r hd
/-- nothing happens once it has failed -/
theorem stp_fl {κ : Kon} {N : Nat} {r : Int32} {l s x v : Nat} {σ : St} (h : fl N σ.1 = true) : stp κ N r l s x v σ = σ := by
  unfold stp
  rw [if_neg]
  intro e
  have := (dB_t.mp e).1
  rw [h] at this
  cases this
theorem vls_fl {κ : Kon} {N : Nat} {r : Int32} {l s x : Nat} {σ : St} (h : fl N σ.1 = true) (j : Nat) : vls κ N r l s x j σ = σ := by
  induction j with
  | zero => rfl
  | succ j ih => simp only [vls]; rw [ih, stp_fl h]
theorem sw1_fl {κ : Kon} {N : Nat} {r : Int32} {l s : Nat} {σ : St} (h : fl N σ.1 = true) (k : Nat) : sw1 κ N r l s k σ = σ := by
  induction k with
  | zero => rfl
  | succ k ih => simp only [sw1]; rw [ih, vls_fl h]
theorem rnd_fl {P : Nat → Nat} {ss : List Nat} {l : Nat} {σ : St} (h : fl (P 0) σ.1 = true) (k : Nat) : rnd P ss l k σ = σ := by
  induction k with
  | zero => rfl
  | succ k ih => simp only [rnd]; rw [ih, sw1_fl h]
theorem prp_fl {P : Nat → Nat} {ss : List Nat} {l : Nat} {σ : St} (h : fl (P 0) σ.1 = true) (n : Nat) : prp P ss l n σ = σ := by
  cases n with
  | zero => rfl
  | succ n => simp only [prp]; rw [rnd_fl h, if_pos rfl]
/-- the facts of a sweep: members of the constraint, its reason -/
def FR (κ : Kon) (r : Int32) (l s : Nat) (f : FT) : Prop := (∃ k, k < κ.1 ∧ f.1 = κ.2.1 k) ∧ f.2.1 < 5 ∧ f.2.2 = (r, l, s)
theorem vls_dn {κ : Kon} {N : Nat} {r : Int32} {l s k : Nat} {σ : St} (hκ : Kwf κ) (hk : k < κ.1) (hd : Dwf σ.1) : ∀ j, j ≤ 5 → Dn (FR κ r l s) σ (vls κ N r l s (κ.2.1 k) j σ) := by
  intro j
  induction j with
  | zero => intro _; exact Dn_r hd
  | succ j ih =>
    intro hj
    have h1 := ih (by omega)
    simp only [vls]
    exact Dn_t h1 (Dn_m (fun f hf => ⟨⟨k, hk, hf.1⟩, by rw [hf.2.1]; omega, hf.2.2⟩) (stp_dn h1.1 (hκ.2.1 k hk) (by omega)))
theorem sw1_dn {κ : Kon} {N : Nat} {r : Int32} {l s : Nat} {σ : St} (hκ : Kwf κ) (hd : Dwf σ.1) : ∀ k, k ≤ κ.1 → Dn (FR κ r l s) σ (sw1 κ N r l s k σ) := by
  intro k
  induction k with
  | zero => intro _; exact Dn_r hd
  | succ k ih =>
    intro hk
    have h1 := ih (by omega)
    simp only [sw1]
    exact Dn_t h1 (vls_dn hκ (by omega) h1.1 5 (Nat.le_refl _))
/-- a problem and its learnt sets are well-formed -/
def Ssf (ss : List Nat) : Prop := ∀ s ∈ ss, Swf s
theorem kl_wf {P : Nat → Nat} {ss : List Nat} (h : Pwf P) (c : Nat) : Kwf (kl P ss c).1 := by
  unfold kl
  by_cases e : c < P 1
  · rw [if_pos e]; exact cK_wf (h.2.2.2.2.2 c e) h.1
  · rw [if_neg e]; exact lK_wf _
/-- a fact of propagation -/
def FP1 (P : Nat → Nat) (ss : List Nat) (l : Nat) (f : FT) : Prop := ∃ c, c < P 1 + ss.length ∧ FR (kl P ss c).1 (kl P ss c).2.1 l (kl P ss c).2.2 f
theorem rnd_dn {P : Nat → Nat} {ss : List Nat} {l : Nat} {σ : St} (h : Pwf P) (hd : Dwf σ.1) : ∀ k, k ≤ P 1 + ss.length → Dn (FP1 P ss l) σ (rnd P ss l k σ) := by
  intro k
  induction k with
  | zero => intro _; exact Dn_r hd
  | succ k ih =>
    intro hk
    have h1 := ih (by omega)
    simp only [rnd]
    exact Dn_t h1 (Dn_m (fun f hf => ⟨k, by omega, hf⟩) (sw1_dn (kl_wf h k) h1.1 _ (Nat.le_refl _)))
theorem prp_dn {P : Nat → Nat} {ss : List Nat} {l : Nat} (h : Pwf P) : ∀ (n : Nat) (σ : St), Dwf σ.1 → Dn (FP1 P ss l) σ (prp P ss l n σ) := by
  intro n
  induction n with
  | zero => intro σ hd; exact Dn_r hd
  | succ n ih =>
    intro σ hd
    have h1 := rnd_dn (ss := ss) (l := l) h hd _ (Nat.le_refl _)
    simp only [prp]
    by_cases e : (rnd P ss l (P 1 + ss.length) σ).2.length = σ.2.length
    · rw [if_pos e]; exact h1
    · rw [if_neg e]; exact Dn_t h1 (ih _ h1.1)
/-- enough rounds are enough -/
theorem prp_up {P : Nat → Nat} {ss : List Nat} {l : Nat} (h : Pwf P) : ∀ (n m : Nat) (σ : St), Dwf σ.1 → dsum σ.1 < n → n ≤ m → prp P ss l m σ = prp P ss l n σ := by
  intro n
  induction n with
  | zero => intro m σ _ h1; omega
  | succ n ih =>
    intro m σ hd h1 h2
    obtain ⟨m, rfl⟩ : ∃ j, m = j + 1 := ⟨m - 1, by omega⟩
    have h3 := rnd_dn (ss := ss) (l := l) h hd _ (Nat.le_refl _)
    simp only [prp]
    by_cases e : (rnd P ss l (P 1 + ss.length) σ).2.length = σ.2.length
    · rw [if_pos e, if_pos e]
    · rw [if_neg e, if_neg e]
      obtain ⟨T, h4, -⟩ := h3.2.2.1
      have h5 := h3.2.1
      have h6 : (rnd P ss l (P 1 + ss.length) σ).2.length = σ.2.length + T.length := by rw [h4, List.length_append]
      exact ih m _ h3.1 (by omega) (by omega)
/-! the domains don't depend on the facts -/
theorem stp_T {κ : Kon} {N : Nat} {r : Int32} {l s x v : Nat} (d : Nat → Nat) (T : List FT) : stp κ N r l s x v (d, T) = ((stp κ N r l s x v (d, [])).1, T ++ (stp κ N r l s x v (d, [])).2) := by
  unfold stp
  by_cases e : dB (gone κ N x v d) = true
  · simp only [e, if_true, List.nil_append]
  · simp only [e, if_false, List.append_nil, Bool.false_eq_true]
theorem app_T {f : St → St} (h : ∀ d T, f (d, T) = ((f (d, [])).1, T ++ (f (d, [])).2)) {g : St → St} (h2 : ∀ d T, g (d, T) = ((g (d, [])).1, T ++ (g (d, [])).2)) (d : Nat → Nat) (T : List FT) : g (f (d, T)) = ((g (f (d, []))).1, T ++ (g (f (d, []))).2) := by
  rw [h d T]
  rw [h2 _ (T ++ (f (d, [])).2)]
  rw [show f (d, []) = ((f (d, [])).1, (f (d, [])).2) from rfl, h2 (f (d, [])).1 (f (d, [])).2]
  simp only [List.append_assoc]
theorem vls_T {κ : Kon} {N : Nat} {r : Int32} {l s x : Nat} : ∀ (j : Nat) (d : Nat → Nat) (T : List FT), vls κ N r l s x j (d, T) = ((vls κ N r l s x j (d, [])).1, T ++ (vls κ N r l s x j (d, [])).2) := by
  intro j
  induction j with
  | zero => intro d T; simp only [vls, List.append_nil]
  | succ j ih => intro d T; exact app_T (f := vls κ N r l s x j) (g := stp κ N r l s x j) ih (fun d T => stp_T d T) d T
theorem sw1_T {κ : Kon} {N : Nat} {r : Int32} {l s : Nat} : ∀ (k : Nat) (d : Nat → Nat) (T : List FT), sw1 κ N r l s k (d, T) = ((sw1 κ N r l s k (d, [])).1, T ++ (sw1 κ N r l s k (d, [])).2) := by
  intro k
  induction k with
  | zero => intro d T; simp only [sw1, List.append_nil]
  | succ k ih => intro d T; exact app_T (f := sw1 κ N r l s k) (g := vls κ N r l s (κ.2.1 k) 5) ih (fun d T => vls_T 5 d T) d T
theorem rnd_T {P : Nat → Nat} {ss : List Nat} {l : Nat} : ∀ (k : Nat) (d : Nat → Nat) (T : List FT), rnd P ss l k (d, T) = ((rnd P ss l k (d, [])).1, T ++ (rnd P ss l k (d, [])).2) := by
  intro k
  induction k with
  | zero => intro d T; simp only [rnd, List.append_nil]
  | succ k ih => intro d T; exact app_T (f := rnd P ss l k) (g := sw1 (kl P ss k).1 (P 0) (kl P ss k).2.1 l (kl P ss k).2.2 (kl P ss k).1.1) ih (fun d T => sw1_T _ d T) d T
theorem prp_T {P : Nat → Nat} {ss : List Nat} {l : Nat} : ∀ (n : Nat) (d : Nat → Nat) (T : List FT), prp P ss l n (d, T) = ((prp P ss l n (d, [])).1, T ++ (prp P ss l n (d, [])).2) := by
  intro n
  induction n with
  | zero => intro d T; simp only [prp, List.append_nil]
  | succ n ih =>
    intro d T
    simp only [prp]
    have h1 := rnd_T (P := P) (ss := ss) (l := l) (P 1 + ss.length) d T
    obtain ⟨⟨d2, U⟩, hU⟩ : ∃ q, q = rnd P ss l (P 1 + ss.length) (d, []) := ⟨_, rfl⟩
    rw [h1, ← hU]
    simp only [List.length_append, List.length_nil]
    by_cases e : U.length = 0
    · rw [if_pos (by omega), if_pos e]
    · rw [if_neg (by omega), if_neg e]
      rw [ih d2 (T ++ U), ih d2 U]
      simp only [List.append_assoc]
/-- the level of the facts is all that a level changes -/
def lvl (l : Nat) (T : List FT) : List FT := T.map (fun f => (f.1, f.2.1, f.2.2.1, l, f.2.2.2.2))

/-! SETS OF PAIRS as longs: seven digits of five bits -/
theorem l_0 : (0 : Int64) = lN 0 := rfl
theorem l_1 : (1 : Int64) = lN 1 := rfl
theorem l_31 : (31 : Int64) = lN 31 := rfl
theorem l_63 : (63 : Int64) = lN 63 := rfl
theorem l_27 : (27 : Int64) = lN 27 := rfl
theorem l_96 : (96 : Int64) = lN 96 := rfl
def ngL : Int64 := -1
theorem ngL_d : (-1 : Int64) = ngL := rfl
theorem ngL_n : ngL = lN (2 ^ 64 - 1) := by decide +kernel
theorem lN_and (a b : Nat) : lN a &&& lN b = lN (a &&& b) := by
  apply Int64.toBitVec_inj.1
  show BitVec.ofNat 64 a &&& BitVec.ofNat 64 b = BitVec.ofNat 64 (a &&& b)
  apply BitVec.eq_of_getLsbD_eq
  intro i hi
  simp [hi]
theorem lN_or (a b : Nat) : lN a ||| lN b = lN (a ||| b) := by
  apply Int64.toBitVec_inj.1
  show BitVec.ofNat 64 a ||| BitVec.ofNat 64 b = BitVec.ofNat 64 (a ||| b)
  apply BitVec.eq_of_getLsbD_eq
  intro i hi
  simp [hi]
theorem lN_xor (a b : Nat) : lN a ^^^ lN b = lN (a ^^^ b) := by
  apply Int64.toBitVec_inj.1
  show BitVec.ofNat 64 a ^^^ BitVec.ofNat 64 b = BitVec.ofNat 64 (a ^^^ b)
  apply BitVec.eq_of_getLsbD_eq
  intro i hi
  simp [hi]
theorem lN_inj {a b : Nat} (ha : a < 2 ^ 63) (hb : b < 2 ^ 63) : (lN a = lN b) = (a = b) := propext (pk_lEQ ha hb)
theorem lg_0 (x y : Int64) : (lg_cmp x y = nI 0) = (x = y) := by
  unfold lg_cmp
  apply propext
  by_cases h : x > y
  · rw [if_pos h]
    have h2 : ¬ x = y := fun q => by subst q; exact Int64.lt_irrefl h
    exact ⟨fun q => absurd q (by decide), fun q => absurd q h2⟩
  · rw [if_neg h]
    by_cases h2 : x = y
    · rw [if_pos h2]; exact ⟨fun _ => h2, fun _ => rfl⟩
    · rw [if_neg h2]; exact ⟨fun q => absurd q (by decide), fun q => absurd q h2⟩
theorem us64 : ∀ k, k < 64 → (((nI k).toInt64.toUInt64 &&& Int64.toUInt64 (lN 63)).toBitVec % 64).toNat = k := by decide +kernel
theorem ss64 : ∀ k, k < 64 → (((nI k).toInt64 &&& lN 63).toBitVec.smod 64).toNat = k := by decide +kernel
theorem l_ushr {n k : Nat} (hn : n < 2 ^ 64) (hk : k < 64) : ((lN n).toUInt64 >>> ((nI k).toInt64.toUInt64 &&& Int64.toUInt64 (lN 63))).toInt64 = lN (n >>> k) := by
  apply Int64.toBitVec_inj.1
  show BitVec.ofNat 64 n >>> (((nI k).toInt64.toUInt64 &&& Int64.toUInt64 (lN 63)).toBitVec % 64) = BitVec.ofNat 64 (n >>> k)
  apply BitVec.eq_of_toNat_eq
  rw [BitVec.ushiftRight_eq', us64 k hk, BitVec.toNat_ushiftRight, BitVec.toNat_ofNat, BitVec.toNat_ofNat, Nat.mod_eq_of_lt hn]
  have : n >>> k ≤ n := Nat.shiftRight_le _ _
  rw [Nat.mod_eq_of_lt (by omega)]
theorem l_shl {a k : Nat} (hk : k < 64) : lN a <<< ((nI k).toInt64 &&& lN 63) = lN (a * 2 ^ k) := by
  apply Int64.toBitVec_inj.1
  show BitVec.ofNat 64 a <<< (((nI k).toInt64 &&& lN 63).toBitVec.smod 64) = BitVec.ofNat 64 (a * 2 ^ k)
  apply BitVec.eq_of_toNat_eq
  rw [BitVec.shiftLeft_eq', ss64 k hk, BitVec.toNat_shiftLeft, BitVec.toNat_ofNat, BitVec.toNat_ofNat, Nat.shiftLeft_eq]
  exact Nat.mod_mul_mod _ _ _
/-- a family of sets of values as one long -/
def pk (d : Nat → Nat) : Int64 := lN (ds 5 d 7)
theorem p32 {d : Nat → Nat} (h : Dwf d) : ∀ i, i < 7 → d i < 2 ^ 5 := h
theorem pq_lt {d : Nat → Nat} (h : Dwf d) : ds 5 d 7 < 34359738368 := ds_lt (p32 h)
theorem pq_tb {d : Nat → Nat} (h : Dwf d) (i : Nat) : (ds 5 d 7).testBit i = (decide (i < 35) && (d (i / 5)).testBit (i % 5)) := ds_tb (by decide) (p32 h) i
theorem pq_cg {d e : Nat → Nat} (h : ∀ x, x < 7 → d x = e x) : pk d = pk e := by unfold pk; rw [ds_cong h]
theorem pq_of {n : Nat} {e : Nat → Nat} (he : Dwf e) (h : ∀ i, n.testBit i = (decide (i < 35) && (e (i / 5)).testBit (i % 5))) : lN n = pk e := by
  unfold pk
  rw [show n = ds 5 e 7 from Nat.eq_of_testBit_eq fun i => by rw [h, pq_tb he]]
theorem i5 {i : Nat} (h : i < 35) : i / 5 < 7 ∧ i % 5 < 5 := by omega
theorem pq_and {d e : Nat → Nat} (hd : Dwf d) (he : Dwf e) : pk d &&& pk e = pk (fun x => d x &&& e x) := by
  show lN _ &&& lN _ = _
  rw [lN_and]
  refine pq_of (fun x hx => dm_and_lt _ (hd x hx) _ (he x hx)) (fun i => ?_)
  rw [Nat.testBit_and, pq_tb hd, pq_tb he, Nat.testBit_and]
  cases decide (i < 35) <;> simp
theorem dm_or_lt : ∀ d, d < 32 → ∀ s, s < 32 → d ||| s < 32 := by decide +kernel
theorem pq_or {d e : Nat → Nat} (hd : Dwf d) (he : Dwf e) : pk d ||| pk e = pk (fun x => d x ||| e x) := by
  show lN _ ||| lN _ = _
  rw [lN_or]
  refine pq_of (fun x hx => dm_or_lt _ (hd x hx) _ (he x hx)) (fun i => ?_)
  rw [Nat.testBit_or, pq_tb hd, pq_tb he, Nat.testBit_or]
  cases decide (i < 35) <;> simp
theorem pq_andn {d e : Nat → Nat} (hd : Dwf d) (he : Dwf e) : pk d &&& (pk e ^^^ ngL) = pk (fun x => andn (d x) (e x)) := by
  show lN _ &&& (lN _ ^^^ _) = _
  rw [ngL_n, lN_xor, lN_and]
  refine pq_of (fun x hx => dm_andn_lt _ (hd x hx) _ (he x hx)) (fun i => ?_)
  rw [Nat.testBit_and, Nat.testBit_xor, Nat.testBit_two_pow_sub_one, pq_tb hd, pq_tb he]
  by_cases h : i < 35
  · rw [dm_andn_tb _ (hd _ (i5 h).1) _ (he _ (i5 h).1) _ (i5 h).2]
    have : i < 64 := by omega
    simp [h, this]
  · simp [h]
theorem pq_nar {d e p : Nat → Nat} (hd : Dwf d) (he : Dwf e) (hp : Dwf p) : pk d &&& ((pk e ^^^ ngL) ||| pk p) = pk (fun x => andn (d x) (e x) ||| (d x &&& p x)) := by
  show lN _ &&& ((lN _ ^^^ _) ||| lN _) = _
  rw [ngL_n, lN_xor, lN_or, lN_and]
  refine pq_of (fun x hx => dm_or_lt _ (dm_andn_lt _ (hd x hx) _ (he x hx)) _ (dm_and_lt _ (hd x hx) _ (hp x hx))) (fun i => ?_)
  rw [Nat.testBit_and, Nat.testBit_or, Nat.testBit_xor, Nat.testBit_two_pow_sub_one, pq_tb hd, pq_tb he, pq_tb hp]
  by_cases h : i < 35
  · rw [Nat.testBit_or, Nat.testBit_and, dm_andn_tb _ (hd _ (i5 h).1) _ (he _ (i5 h).1) _ (i5 h).2]
    have : i < 64 := by omega
    simp only [h, this, decide_true, Bool.true_and, Bool.xor_true]
    cases (d (i / 5)).testBit (i % 5) <;> cases (e (i / 5)).testBit (i % 5) <;> cases (p (i / 5)).testBit (i % 5) <;> rfl
  · simp [h]
theorem pq_inj {d e : Nat → Nat} (hd : Dwf d) (he : Dwf e) : (pk d = pk e) = (∀ x, x < 7 → d x = e x) := by
  unfold pk
  rw [lN_inj (by have := pq_lt hd; omega) (by have := pq_lt he; omega)]
  apply propext
  constructor
  · intro h x hx
    apply dm_ext _ (hd x hx) _ (he x hx)
    intro v hv
    have h1 := pq_tb hd (5 * x + v)
    rw [h, pq_tb he] at h1
    have e1 : (5 * x + v) / 5 = x := by omega
    have e2 : (5 * x + v) % 5 = v := by omega
    have e3 : 5 * x + v < 35 := by omega
    rw [e1, e2] at h1
    simpa [e3] using h1.symm
  · exact ds_cong
theorem dz : Dwf (fun _ => 0) := fun _ _ => (by decide : (0 : Nat) < 32)
theorem pq_z : lN 0 = pk (fun _ => 0) := by decide +kernel
theorem pq_0 {d : Nat → Nat} (hd : Dwf d) : (pk d = lN 0) = (∀ x, x < 7 → d x = 0) := by rw [pq_z, pq_inj hd dz]
/-- one variable's set -/
def sg (x w : Nat) : Nat → Nat := fun y => if y = x then w else 0
theorem sg_s (x w : Nat) : sg x w x = w := if_pos rfl
theorem sg_n {x w y : Nat} (h : y ≠ x) : sg x w y = 0 := if_neg h
theorem sg_wf {x w : Nat} (h : w < 32) : Dwf (sg x w) := fun y hy => by unfold sg; split <;> omega
theorem l_allOf : ∀ x, x < 7 → lN (31 * 2 ^ (5 * x)) = pk (sg x 31) := by decide +kernel
theorem l_pair : ∀ x, x < 7 → ∀ v, v < 5 → lN (1 * 2 ^ (5 * x + v)) = pk (sg x (2 ^ v)) := by decide +kernel
theorem dm_nar : ∀ d, d < 32 → ∀ p, p < 32 → andn d 31 ||| (d &&& p) = d &&& p := by decide +kernel
theorem dm_nar0 : ∀ d, d < 32 → andn d 0 ||| (d &&& 0) = d := by decide +kernel
theorem pq_nr {d : Nat → Nat} (hd : Dwf d) {x p : Nat} (hx : x < 7) (hp : p < 32) : pk d &&& ((pk (sg x 31) ^^^ ngL) ||| pk (sg x p)) = pk (ud d x (d x &&& p)) := by
  rw [pq_nar hd (sg_wf (by decide)) (sg_wf hp)]
  apply pq_cg
  intro y hy
  by_cases e : y = x
  · subst e; rw [sg_s, sg_s, ud_s]; exact dm_nar _ (hd y hy) _ hp
  · rw [sg_n e, sg_n e, ud_n _ _ e]; exact dm_nar0 _ (hd y hy)
theorem pq_asg {d : Nat → Nat} (hd : Dwf d) {x p : Nat} (hx : x < 7) (hp : p < 32) : pk d &&& pk (sg x p) = pk (sg x (d x &&& p)) := by
  rw [pq_and hd (sg_wf hp)]
  apply pq_cg
  intro y hy
  by_cases e : y = x
  · subst e; rw [sg_s, sg_s]
  · rw [sg_n e, sg_n e]; exact Nat.and_zero _
theorem dm_31 : ∀ d, d < 32 → d &&& 31 = d := by decide +kernel
theorem pq_v {d : Nat → Nat} (hd : Dwf d) {x : Nat} (hx : x < 7) : (ds 5 d 7 >>> (5 * x)) &&& 31 = d x := by
  apply Nat.eq_of_testBit_eq
  intro i
  rw [Nat.testBit_and, Nat.testBit_shiftRight, pq_tb hd, show (31 : Nat) = 2 ^ 5 - 1 from rfl, Nat.testBit_two_pow_sub_one]
  by_cases h : i < 5
  · have e1 : (5 * x + i) / 5 = x := by omega
    have e2 : (5 * x + i) % 5 = i := by omega
    have e3 : 5 * x + i < 35 := by omega
    rw [e1, e2]
    simp [h, e3]
  · have : (d x).testBit i = false := Nat.testBit_lt_two_pow (Nat.lt_of_lt_of_le (hd x hx) (show 2 ^ 5 ≤ 2 ^ i from Nat.pow_le_pow_right (by decide) (by omega)))
    simp [h, this]
/-! ===== how many bits: the JDK's ways ===== -/
def bci (x0 : Int32) : Int32 := ((((((((x0 - ((((x0).toUInt32 >>> (((1 : Int32)).toUInt32 &&& Int32.toUInt32 31)).toInt32) &&& (1431655765 : Int32))) &&& (858993459 : Int32)) + (((((x0 - ((((x0).toUInt32 >>> (((1 : Int32)).toUInt32 &&& Int32.toUInt32 31)).toInt32) &&& (1431655765 : Int32)))).toUInt32 >>> (((2 : Int32)).toUInt32 &&& Int32.toUInt32 31)).toInt32) &&& (858993459 : Int32))) + ((((((x0 - ((((x0).toUInt32 >>> (((1 : Int32)).toUInt32 &&& Int32.toUInt32 31)).toInt32) &&& (1431655765 : Int32))) &&& (858993459 : Int32)) + (((((x0 - ((((x0).toUInt32 >>> (((1 : Int32)).toUInt32 &&& Int32.toUInt32 31)).toInt32) &&& (1431655765 : Int32)))).toUInt32 >>> (((2 : Int32)).toUInt32 &&& Int32.toUInt32 31)).toInt32) &&& (858993459 : Int32)))).toUInt32 >>> (((4 : Int32)).toUInt32 &&& Int32.toUInt32 31)).toInt32)) &&& (252645135 : Int32)) + ((((((((x0 - ((((x0).toUInt32 >>> (((1 : Int32)).toUInt32 &&& Int32.toUInt32 31)).toInt32) &&& (1431655765 : Int32))) &&& (858993459 : Int32)) + (((((x0 - ((((x0).toUInt32 >>> (((1 : Int32)).toUInt32 &&& Int32.toUInt32 31)).toInt32) &&& (1431655765 : Int32)))).toUInt32 >>> (((2 : Int32)).toUInt32 &&& Int32.toUInt32 31)).toInt32) &&& (858993459 : Int32))) + ((((((x0 - ((((x0).toUInt32 >>> (((1 : Int32)).toUInt32 &&& Int32.toUInt32 31)).toInt32) &&& (1431655765 : Int32))) &&& (858993459 : Int32)) + (((((x0 - ((((x0).toUInt32 >>> (((1 : Int32)).toUInt32 &&& Int32.toUInt32 31)).toInt32) &&& (1431655765 : Int32)))).toUInt32 >>> (((2 : Int32)).toUInt32 &&& Int32.toUInt32 31)).toInt32) &&& (858993459 : Int32)))).toUInt32 >>> (((4 : Int32)).toUInt32 &&& Int32.toUInt32 31)).toInt32)) &&& (252645135 : Int32))).toUInt32 >>> (((8 : Int32)).toUInt32 &&& Int32.toUInt32 31)).toInt32)) + (((((((((x0 - ((((x0).toUInt32 >>> (((1 : Int32)).toUInt32 &&& Int32.toUInt32 31)).toInt32) &&& (1431655765 : Int32))) &&& (858993459 : Int32)) + (((((x0 - ((((x0).toUInt32 >>> (((1 : Int32)).toUInt32 &&& Int32.toUInt32 31)).toInt32) &&& (1431655765 : Int32)))).toUInt32 >>> (((2 : Int32)).toUInt32 &&& Int32.toUInt32 31)).toInt32) &&& (858993459 : Int32))) + ((((((x0 - ((((x0).toUInt32 >>> (((1 : Int32)).toUInt32 &&& Int32.toUInt32 31)).toInt32) &&& (1431655765 : Int32))) &&& (858993459 : Int32)) + (((((x0 - ((((x0).toUInt32 >>> (((1 : Int32)).toUInt32 &&& Int32.toUInt32 31)).toInt32) &&& (1431655765 : Int32)))).toUInt32 >>> (((2 : Int32)).toUInt32 &&& Int32.toUInt32 31)).toInt32) &&& (858993459 : Int32)))).toUInt32 >>> (((4 : Int32)).toUInt32 &&& Int32.toUInt32 31)).toInt32)) &&& (252645135 : Int32)) + ((((((((x0 - ((((x0).toUInt32 >>> (((1 : Int32)).toUInt32 &&& Int32.toUInt32 31)).toInt32) &&& (1431655765 : Int32))) &&& (858993459 : Int32)) + (((((x0 - ((((x0).toUInt32 >>> (((1 : Int32)).toUInt32 &&& Int32.toUInt32 31)).toInt32) &&& (1431655765 : Int32)))).toUInt32 >>> (((2 : Int32)).toUInt32 &&& Int32.toUInt32 31)).toInt32) &&& (858993459 : Int32))) + ((((((x0 - ((((x0).toUInt32 >>> (((1 : Int32)).toUInt32 &&& Int32.toUInt32 31)).toInt32) &&& (1431655765 : Int32))) &&& (858993459 : Int32)) + (((((x0 - ((((x0).toUInt32 >>> (((1 : Int32)).toUInt32 &&& Int32.toUInt32 31)).toInt32) &&& (1431655765 : Int32)))).toUInt32 >>> (((2 : Int32)).toUInt32 &&& Int32.toUInt32 31)).toInt32) &&& (858993459 : Int32)))).toUInt32 >>> (((4 : Int32)).toUInt32 &&& Int32.toUInt32 31)).toInt32)) &&& (252645135 : Int32))).toUInt32 >>> (((8 : Int32)).toUInt32 &&& Int32.toUInt32 31)).toInt32))).toUInt32 >>> (((16 : Int32)).toUInt32 &&& Int32.toUInt32 31)).toInt32)) &&& (63 : Int32))
theorem bci_5 : ∀ d, d < 32 → bci (nI d) = nI (pcn 5 d) := by decide +kernel
theorem w_bci (S : PS) (x : Int32) (Q : Int32 → PS → Prop) : wpJ6_bitCount_0f7a4 S x Q = Q (bci x) S := rfl
def us (k : Int32) (x : Int64) : Int64 := (x.toUInt64 >>> (k.toInt64.toUInt64 &&& Int64.toUInt64 63)).toInt64
def b_a (x : Int64) : Int64 := x - (us 1 x &&& 6148914691236517205)
def b_b (x : Int64) : Int64 := (x &&& 3689348814741910323) + (us 2 x &&& 3689348814741910323)
def b_c (x : Int64) : Int64 := (x + us 4 x) &&& 1085102592571150095
def b_d (k : Int32) (x : Int64) : Int64 := x + us k x
def bcl (x : Int64) : Int32 := (b_d 32 (b_d 16 (b_d 8 (b_c (b_b (b_a x)))))).toInt32 &&& 127
theorem w_bcl (S : PS) (x : Int64) (Q : Int32 → PS → Prop) : wpJ13_bitCount_95d88 S x Q = Q (bcl x) S := rfl
theorem us_n {n k : Nat} (hn : n < 2 ^ 64) (hk : k < 64) : us (nI k) (lN n) = lN (n >>> k) := l_ushr hn hk
/-- bytes -/
theorem d8_and {f g : Nat → Nat} {n : Nat} (hf : ∀ i, i < n → f i < 2 ^ 8) (hg : ∀ i, i < n → g i < 2 ^ 8) : ds 8 f n &&& ds 8 g n = ds 8 (fun i => f i &&& g i) n := by
  apply Nat.eq_of_testBit_eq
  intro i
  rw [Nat.testBit_and, ds_tb (by decide) hf, ds_tb (by decide) hg, ds_tb (by decide) (fun i hi => Nat.lt_of_le_of_lt Nat.and_le_left (hf i hi)), Nat.testBit_and]
  cases decide (i < 8 * n) <;> simp
/-- a shift of all, masked so that no bit crosses -/
theorem d8_shr {f : Nat → Nat} {k M : Nat} (hf : ∀ i, i < 5 → f i < 2 ^ 8) (hk : k ≤ 8) (hM : M < 2 ^ (8 - k)) {W : Nat} (hW : ∀ i, i < 40 → W.testBit i = M.testBit (i % 8)) : (ds 8 f 5 >>> k) &&& W = ds 8 (fun i => (f i >>> k) &&& M) 5 := by
  have hM8 : M < 2 ^ 8 := Nat.lt_of_lt_of_le hM (Nat.pow_le_pow_right (by decide) (by omega))
  apply Nat.eq_of_testBit_eq
  intro i
  rw [Nat.testBit_and, Nat.testBit_shiftRight, ds_tb (by decide) hf, ds_tb (by decide) (fun i hi => Nat.lt_of_le_of_lt Nat.and_le_right hM8), Nat.testBit_and, Nat.testBit_shiftRight]
  by_cases h : i < 40
  · rw [hW i h]
    by_cases h2 : i % 8 < 8 - k
    · have e1 : (k + i) / 8 = i / 8 := by omega
      have e2 : (k + i) % 8 = k + i % 8 := by omega
      have e3 : k + i < 8 * 5 := by omega
      have e4 : i < 8 * 5 := by omega
      rw [e1, e2]
      simp [e3, e4]
    · have : M.testBit (i % 8) = false := Nat.testBit_lt_two_pow (Nat.lt_of_lt_of_le hM (Nat.pow_le_pow_right (by decide) (by omega)))
      simp [this]
  · have e3 : ¬ k + i < 8 * 5 := by omega
    have e4 : ¬ i < 8 * 5 := by omega
    simp [e3, e4]
theorem m5_tb : ∀ i, i < 40 → (6148914691236517205 : Nat).testBit i = (85 : Nat).testBit (i % 8) := by decide +kernel
theorem m3_tb : ∀ i, i < 40 → (3689348814741910323 : Nat).testBit i = (51 : Nat).testBit (i % 8) := by decide +kernel
theorem mf_tb : ∀ i, i < 40 → (1085102592571150095 : Nat).testBit i = (15 : Nat).testBit (i % 8) := by decide +kernel
theorem ds_sub {f g : Nat → Nat} {k : Nat} : ∀ n, (∀ i, i < n → g i ≤ f i) → ds k g n ≤ ds k f n ∧ ds k f n - ds k g n = ds k (fun i => f i - g i) n := by
  intro n
  induction n with
  | zero => intro _; exact ⟨Nat.le_refl _, rfl⟩
  | succ n ih =>
    intro h
    obtain ⟨h1, h2⟩ := ih (fun i hi => h i (by omega))
    have h3 := h n (by omega)
    have h4 : 2 ^ (k * n) * g n ≤ 2 ^ (k * n) * f n := Nat.mul_le_mul_left _ h3
    simp only [ds]
    rw [Nat.mul_sub]
    omega
theorem ds_add {f g : Nat → Nat} {k : Nat} : ∀ n, ds k f n + ds k g n = ds k (fun i => f i + g i) n := by
  intro n
  induction n with
  | zero => rfl
  | succ n ih => simp only [ds]; rw [Nat.mul_add, ← ih]; omega
def by_a (b : Nat) : Nat := b - ((b >>> 1) &&& 85)
def by_b (b : Nat) : Nat := ((b >>> 0) &&& 51) + ((b >>> 2) &&& 51)
def by_c (b : Nat) : Nat := ((b + b >>> 4) >>> 0) &&& 15
theorem by_a1 : ∀ b, b < 256 → (b >>> 1) &&& 85 ≤ b ∧ by_a b < 256 := by decide +kernel
theorem by_b1 : ∀ b, b < 256 → by_b (by_a b) < 256 ∧ by_b (by_a b) % 16 ≤ 4 ∧ by_b (by_a b) / 16 ≤ 4 ∧ by_b (by_a b) % 16 + by_b (by_a b) / 16 = pcn 8 b := by decide +kernel
theorem ds5 (g : Nat → Nat) : ds 8 g 5 = g 0 + 256 * g 1 + 65536 * g 2 + 16777216 * g 3 + 4294967296 * g 4 := by
  simp only [ds, Nat.reduceMul, Nat.reducePow]
  omega
theorem n15 : ∀ c, c < 16 → ∀ t, t < 16 → ((c + 16 * t) >>> 0) &&& 15 = c := by decide +kernel
theorem c_low (b0 b1 b2 b3 b4 : Nat) (h0 : b0 < 256) (h1 : b1 < 256) (h2 : b2 < 256) (h3 : b3 < 256) (h4 : b4 < 256) :
    (b0 + 256 * b1 + 65536 * b2 + 16777216 * b3 + 4294967296 * b4) + (b0 + 256 * b1 + 65536 * b2 + 16777216 * b3 + 4294967296 * b4) / 16 = ((b0 % 16 + b0 / 16) + 16 * (b0 / 16 + b1 % 16)) + 256 * ((b1 % 16 + b1 / 16) + 16 * (b1 / 16 + b2 % 16)) + 65536 * ((b2 % 16 + b2 / 16) + 16 * (b2 / 16 + b3 % 16)) + 16777216 * ((b3 % 16 + b3 / 16) + 16 * (b3 / 16 + b4 % 16)) + 4294967296 * ((b4 % 16 + b4 / 16) + 16 * (b4 / 16)) := by
  omega
theorem bcl_n {f : Nat → Nat} (hf : ∀ i, i < 5 → f i < 256) : bcl (lN (ds 8 f 5)) = nI (pcn 8 (f 0) + pcn 8 (f 1) + pcn 8 (f 2) + pcn 8 (f 3) + pcn 8 (f 4)) := by
  have h40 : ∀ {g : Nat → Nat}, (∀ i, i < 5 → g i < 256) → ds 8 g 5 < 1099511627776 := fun {g} hg => ds_lt (k := 8) (n := 5) hg
  have ha : b_a (lN (ds 8 f 5)) = lN (ds 8 (fun i => by_a (f i)) 5) := by
    unfold b_a
    rw [show (1 : Int32) = nI 1 from rfl, us_n (by have := h40 hf; omega) (by decide), show (6148914691236517205 : Int64) = lN 6148914691236517205 from rfl, lN_and, d8_shr hf (by decide) (show 85 < 2 ^ (8 - 1) by decide) m5_tb]
    have h1 := ds_sub (f := f) (g := fun i => (f i >>> 1) &&& 85) (k := 8) 5 (fun i hi => (by_a1 _ (hf i hi)).1)
    rw [lN_sub h1.1, h1.2]
    rfl
  have hfa : ∀ i, i < 5 → by_a (f i) < 256 := fun i hi => (by_a1 _ (hf i hi)).2
  have hb : b_b (lN (ds 8 (fun i => by_a (f i)) 5)) = lN (ds 8 (fun i => by_b (by_a (f i))) 5) := by
    unfold b_b
    have k0 := d8_shr (k := 0) (W := 3689348814741910323) hfa (by decide) (show 51 < 2 ^ (8 - 0) by decide) m3_tb
    rw [Nat.shiftRight_zero] at k0
    rw [show (2 : Int32) = nI 2 from rfl, us_n (by have := h40 hfa; omega) (by decide), show (3689348814741910323 : Int64) = lN 3689348814741910323 from rfl, lN_and, lN_and, k0, d8_shr hfa (by decide) (show 51 < 2 ^ (8 - 2) by decide) m3_tb, lN_add, ds_add]
    rfl
  have hB : ∀ i, i < 5 → by_b (by_a (f i)) < 256 ∧ by_b (by_a (f i)) % 16 ≤ 4 ∧ by_b (by_a (f i)) / 16 ≤ 4 ∧ by_b (by_a (f i)) % 16 + by_b (by_a (f i)) / 16 = pcn 8 (f i) := fun i hi => by_b1 _ (hf i hi)
  obtain ⟨g, hg⟩ : ∃ g : Nat → Nat, g = fun i => by_b (by_a (f i)) := ⟨_, rfl⟩
  have hc : b_c (lN (ds 8 g 5)) = lN (ds 8 (fun i => pcn 8 (f i)) 5) := by
    unfold b_c
    have hg5 : ∀ i, i < 5 → g i < 256 := fun i hi => by rw [hg]; exact (hB i hi).1
    rw [show (4 : Int32) = nI 4 from rfl, us_n (by have := h40 hg5; omega) (by decide), lN_add, Nat.shiftRight_eq_div_pow, show (1085102592571150095 : Int64) = lN 1085102592571150095 from rfl, lN_and]
    have e : ds 8 g 5 + ds 8 g 5 / 2 ^ 4 = ds 8 (fun i => (g i % 16 + g i / 16) + 16 * (g i / 16 + (if i < 4 then g (i + 1) % 16 else 0))) 5 := by
      rw [ds5, ds5]
      exact c_low _ _ _ _ _ (hg5 0 (by omega)) (hg5 1 (by omega)) (hg5 2 (by omega)) (hg5 3 (by omega)) (hg5 4 (by omega))
    have hq : ∀ i, i < 5 → g i % 16 ≤ 4 ∧ g i / 16 ≤ 4 ∧ g i % 16 + g i / 16 = pcn 8 (f i) := fun i hi => by rw [hg]; exact (hB i hi).2
    have hn : ∀ i, i < 5 → (if i < 4 then g (i + 1) % 16 else 0) ≤ 4 := fun i hi => by
      by_cases h : i < 4
      · rw [if_pos h]; exact (hq (i + 1) (by omega)).1
      · rw [if_neg h]; omega
    have k0 := d8_shr (k := 0) (W := 1085102592571150095) (f := fun i => (g i % 16 + g i / 16) + 16 * (g i / 16 + (if i < 4 then g (i + 1) % 16 else 0))) (fun i hi => by have := hq i hi; have := hn i hi; show _ + 16 * (_ + (if i < 4 then g (i + 1) % 16 else 0)) < 256; omega) (by decide) (show 15 < 2 ^ (8 - 0) by decide) mf_tb
    rw [Nat.shiftRight_zero] at k0
    rw [e, k0]
    congr 1
    apply ds_cong
    intro i hi
    have h1 := hq i hi
    have h2 := hn i hi
    show ((g i % 16 + g i / 16 + 16 * (g i / 16 + (if i < 4 then g (i + 1) % 16 else 0))) >>> 0) &&& 15 = pcn 8 (f i)
    rw [n15 _ (by omega) _ (by omega)]
    exact h1.2.2
  unfold bcl
  rw [ha, hb, ← hg, hc, ds5]
  have p0 := pcn_le 8 (f 0)
  have p1 := pcn_le 8 (f 1)
  have p2 := pcn_le 8 (f 2)
  have p3 := pcn_le 8 (f 3)
  have p4 := pcn_le 8 (f 4)
  generalize pcn 8 (f 0) = q0 at *
  generalize pcn 8 (f 1) = q1 at *
  generalize pcn 8 (f 2) = q2 at *
  generalize pcn 8 (f 3) = q3 at *
  generalize pcn 8 (f 4) = q4 at *
  unfold b_d
  rw [show (8 : Int32) = nI 8 from rfl, show (16 : Int32) = nI 16 from rfl, show (32 : Int32) = nI 32 from rfl]
  have f1 : (q0 + 256 * q1 + 65536 * q2 + 16777216 * q3 + 4294967296 * q4) / 2 ^ 8 = q1 + 256 * q2 + 65536 * q3 + 16777216 * q4 := by omega
  have f2 : (q0 + 256 * q1 + 65536 * q2 + 16777216 * q3 + 4294967296 * q4 + (q1 + 256 * q2 + 65536 * q3 + 16777216 * q4)) / 2 ^ 16 = (q2 + q3) + 256 * (q3 + q4) + 65536 * q4 := by omega
  have f3 : (q0 + 256 * q1 + 65536 * q2 + 16777216 * q3 + 4294967296 * q4 + (q1 + 256 * q2 + 65536 * q3 + 16777216 * q4) + ((q2 + q3) + 256 * (q3 + q4) + 65536 * q4)) / 2 ^ 32 = q4 := by omega
  rw [us_n (by omega) (by decide), lN_add, Nat.shiftRight_eq_div_pow, f1]
  rw [us_n (by omega) (by decide), lN_add, Nat.shiftRight_eq_div_pow, f2]
  rw [us_n (by omega) (by decide), lN_add, Nat.shiftRight_eq_div_pow, f3]
  rw [lN_i, show (127 : Int32) = nI 127 from rfl, o_and, show (127 : Nat) = 2 ^ 7 - 1 from rfl, Nat.and_two_pow_sub_one_eq_mod]
  congr 1
  omega
theorem pcn_split (a b n : Nat) : pcn (a + b) n = pcn a n + pcn b (n / 2 ^ a) := by
  induction a generalizing n with
  | zero => simp [pcn]
  | succ a ih =>
    rw [show a + 1 + b = (a + b) + 1 by omega]
    simp only [pcn]
    rw [ih, Nat.div_div_eq_div_mul, Nat.pow_succ, Nat.mul_comm 2 (2 ^ a)]
    omega
theorem pcn_mod (a n : Nat) : pcn a (n % 2 ^ a) = pcn a n := by
  induction a generalizing n with
  | zero => rfl
  | succ a ih =>
    simp only [pcn]
    have h1 : n % 2 ^ (a + 1) % 2 = n % 2 := by rw [Nat.pow_succ, Nat.mul_comm]; exact Nat.mod_mul_right_mod n 2 (2 ^ a)
    have h2 : n % 2 ^ (a + 1) / 2 = (n / 2) % 2 ^ a := by rw [Nat.pow_succ, Nat.mul_comm]; exact Nat.mod_mul_right_div_self n 2 (2 ^ a)
    rw [h1, h2, ih]
theorem bcl_40 {n : Nat} (h : n < 1099511627776) : bcl (lN n) = nI (pcn 40 n) := by
  have hf : ∀ i, i < 5 → (fun i => n / 2 ^ (8 * i) % 2 ^ 8) i < 256 := fun i hi => Nat.mod_lt _ (by decide)
  have e : ds 8 (fun i => n / 2 ^ (8 * i) % 2 ^ 8) 5 = n := by
    rw [ds5]
    simp only [Nat.reduceMul, Nat.reducePow]
    omega
  have h1 := bcl_n hf
  rw [e] at h1
  rw [h1]
  apply congrArg nI
  have s1 : pcn 40 n = pcn 8 n + pcn 32 (n / 2 ^ 8) := pcn_split 8 32 n
  have s2 : pcn 32 (n / 2 ^ 8) = pcn 8 (n / 2 ^ 8) + pcn 24 (n / 2 ^ 8 / 2 ^ 8) := pcn_split 8 24 _
  have s3 : pcn 24 (n / 2 ^ 8 / 2 ^ 8) = pcn 8 (n / 2 ^ 8 / 2 ^ 8) + pcn 16 (n / 2 ^ 8 / 2 ^ 8 / 2 ^ 8) := pcn_split 8 16 _
  have s4 : pcn 16 (n / 2 ^ 8 / 2 ^ 8 / 2 ^ 8) = pcn 8 (n / 2 ^ 8 / 2 ^ 8 / 2 ^ 8) + pcn 8 (n / 2 ^ 8 / 2 ^ 8 / 2 ^ 8 / 2 ^ 8) := pcn_split 8 8 _
  have d2 : n / 2 ^ 8 / 2 ^ 8 = n / 2 ^ (8 * 2) := Nat.div_div_eq_div_mul n (2 ^ 8) (2 ^ 8)
  have d3 : n / 2 ^ 8 / 2 ^ 8 / 2 ^ 8 = n / 2 ^ (8 * 3) := by rw [d2]; exact Nat.div_div_eq_div_mul n (2 ^ 16) (2 ^ 8)
  have d4 : n / 2 ^ 8 / 2 ^ 8 / 2 ^ 8 / 2 ^ 8 = n / 2 ^ (8 * 4) := by rw [d3]; exact Nat.div_div_eq_div_mul n (2 ^ 24) (2 ^ 8)
  rw [d4, d3] at s4
  rw [d3, d2] at s3
  rw [d2] at s2
  have m : ∀ i, pcn 8 (n / 2 ^ (8 * i) % 2 ^ 8) = pcn 8 (n / 2 ^ (8 * i)) := fun i => pcn_mod 8 _
  have m0 : pcn 8 (n / 2 ^ (8 * 0)) = pcn 8 n := by rw [Nat.mul_zero, Nat.pow_zero, Nat.div_one]
  have m1 : pcn 8 (n / 2 ^ (8 * 1)) = pcn 8 (n / 2 ^ 8) := rfl
  show pcn 8 (n / 2 ^ (8 * 0) % 2 ^ 8) + pcn 8 (n / 2 ^ (8 * 1) % 2 ^ 8) + pcn 8 (n / 2 ^ (8 * 2) % 2 ^ 8) + pcn 8 (n / 2 ^ (8 * 3) % 2 ^ 8) + pcn 8 (n / 2 ^ (8 * 4) % 2 ^ 8) = pcn 40 n
  rw [m 0, m 1, m 2, m 3, m 4, m0, m1]
  omega
theorem pq_pcn {d : Nat → Nat} (hd : Dwf d) : pcn 40 (ds 5 d 7) = dsum d := by
  have hl : ds 5 d 7 < 2 ^ 35 := pq_lt hd
  rw [pcn_up (k := 35) hl (by decide)]
  have e : ∀ x, x < 7 → pcn 5 (ds 5 d 7 / 2 ^ (5 * x)) = pcn 5 (d x) := fun x hx => by
    have h1 := pq_v hd hx
    rw [show (31 : Nat) = 2 ^ 5 - 1 from rfl, Nat.and_two_pow_sub_one_eq_mod, Nat.shiftRight_eq_div_pow] at h1
    rw [← h1, pcn_mod]
  obtain ⟨n, hn⟩ : ∃ n, n = ds 5 d 7 := ⟨_, rfl⟩
  rw [← hn] at e ⊢
  have s1 : pcn 35 n = pcn 5 n + pcn 30 (n / 2 ^ 5) := pcn_split 5 30 n
  have s2 : pcn 30 (n / 2 ^ 5) = pcn 5 (n / 2 ^ 5) + pcn 25 (n / 2 ^ 5 / 2 ^ 5) := pcn_split 5 25 _
  have s3 : pcn 25 (n / 2 ^ 5 / 2 ^ 5) = pcn 5 (n / 2 ^ 5 / 2 ^ 5) + pcn 20 (n / 2 ^ 5 / 2 ^ 5 / 2 ^ 5) := pcn_split 5 20 _
  have s4 : pcn 20 (n / 2 ^ 5 / 2 ^ 5 / 2 ^ 5) = pcn 5 (n / 2 ^ 5 / 2 ^ 5 / 2 ^ 5) + pcn 15 (n / 2 ^ 5 / 2 ^ 5 / 2 ^ 5 / 2 ^ 5) := pcn_split 5 15 _
  have s5 : pcn 15 (n / 2 ^ 5 / 2 ^ 5 / 2 ^ 5 / 2 ^ 5) = pcn 5 (n / 2 ^ 5 / 2 ^ 5 / 2 ^ 5 / 2 ^ 5) + pcn 10 (n / 2 ^ 5 / 2 ^ 5 / 2 ^ 5 / 2 ^ 5 / 2 ^ 5) := pcn_split 5 10 _
  have s6 : pcn 10 (n / 2 ^ 5 / 2 ^ 5 / 2 ^ 5 / 2 ^ 5 / 2 ^ 5) = pcn 5 (n / 2 ^ 5 / 2 ^ 5 / 2 ^ 5 / 2 ^ 5 / 2 ^ 5) + pcn 5 (n / 2 ^ 5 / 2 ^ 5 / 2 ^ 5 / 2 ^ 5 / 2 ^ 5 / 2 ^ 5) := pcn_split 5 5 _
  have d2 : n / 2 ^ 5 / 2 ^ 5 = n / 2 ^ (5 * 2) := Nat.div_div_eq_div_mul n (2 ^ 5) (2 ^ 5)
  have d3 : n / 2 ^ 5 / 2 ^ 5 / 2 ^ 5 = n / 2 ^ (5 * 3) := by rw [d2]; exact Nat.div_div_eq_div_mul n (2 ^ 10) (2 ^ 5)
  have d4 : n / 2 ^ 5 / 2 ^ 5 / 2 ^ 5 / 2 ^ 5 = n / 2 ^ (5 * 4) := by rw [d3]; exact Nat.div_div_eq_div_mul n (2 ^ 15) (2 ^ 5)
  have d5 : n / 2 ^ 5 / 2 ^ 5 / 2 ^ 5 / 2 ^ 5 / 2 ^ 5 = n / 2 ^ (5 * 5) := by rw [d4]; exact Nat.div_div_eq_div_mul n (2 ^ 20) (2 ^ 5)
  have d6 : n / 2 ^ 5 / 2 ^ 5 / 2 ^ 5 / 2 ^ 5 / 2 ^ 5 / 2 ^ 5 = n / 2 ^ (5 * 6) := by rw [d5]; exact Nat.div_div_eq_div_mul n (2 ^ 25) (2 ^ 5)
  have e0 := e 0 (by omega)
  rw [Nat.mul_zero, Nat.pow_zero, Nat.div_one] at e0
  have e1 : pcn 5 (n / 2 ^ 5) = pcn 5 (d 1) := e 1 (by omega)
  have e2 := e 2 (by omega)
  have e3 := e 3 (by omega)
  have e4 := e 4 (by omega)
  have e5 := e 5 (by omega)
  have e6 := e 6 (by omega)
  rw [← d2] at e2
  rw [← d3] at e3
  rw [← d4] at e4
  rw [← d5] at e5
  rw [← d6] at e6
  show pcn 35 n = 0 + pcn 5 (d 0) + pcn 5 (d 1) + pcn 5 (d 2) + pcn 5 (d 3) + pcn 5 (d 4) + pcn 5 (d 5) + pcn 5 (d 6)
  omega
theorem bcl_pk {d : Nat → Nat} (hd : Dwf d) : bcl (pk d) = nI (dsum d) := by
  unfold pk
  rw [bcl_40 (by have := pq_lt hd; omega), pq_pcn hd]

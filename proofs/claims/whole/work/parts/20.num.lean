/-! NUMBERS: small numbers as Int32 and Int64, sets of five values as numbers below 32 -/
def ngI : Int32 := -1
theorem ng_d : (-1 : Int32) = ngI := rfl
theorem ng_2 : (-2 : Int32) = ngI + ngI := by decide
theorem c_0 : (0 : Int32) = nI 0 := rfl
theorem c_1 : (1 : Int32) = nI 1 := rfl
theorem c_2 : (2 : Int32) = nI 2 := rfl
theorem c_3 : (3 : Int32) = nI 3 := rfl
theorem c_4 : (4 : Int32) = nI 4 := rfl
theorem c_5 : (5 : Int32) = nI 5 := rfl
theorem c_6 : (6 : Int32) = nI 6 := rfl
theorem c_7 : (7 : Int32) = nI 7 := rfl
theorem c_8 : (8 : Int32) = nI 8 := rfl
theorem c_9 : (9 : Int32) = nI 9 := rfl
theorem c_10 : (10 : Int32) = nI 10 := rfl
theorem c_11 : (11 : Int32) = nI 11 := rfl
theorem c_12 : (12 : Int32) = nI 12 := rfl
theorem c_14 : (14 : Int32) = nI 14 := rfl
theorem c_16 : (16 : Int32) = nI 16 := rfl
theorem c_19 : (19 : Int32) = nI 19 := rfl
theorem c_20 : (20 : Int32) = nI 20 := rfl
theorem c_24 : (24 : Int32) = nI 24 := rfl
theorem c_31 : (31 : Int32) = nI 31 := rfl
theorem c_32 : (32 : Int32) = nI 32 := rfl
theorem c_35 : (35 : Int32) = nI 35 := rfl
theorem c_48 : (48 : Int32) = nI 48 := rfl
theorem c_57 : (57 : Int32) = nI 57 := rfl
theorem c_59 : (59 : Int32) = nI 59 := rfl
theorem c_63 : (63 : Int32) = nI 63 := rfl
theorem c_97 : (97 : Int32) = nI 97 := rfl
theorem c_100 : (100 : Int32) = nI 100 := rfl
theorem c_122 : (122 : Int32) = nI 122 := rfl
theorem c_127 : (127 : Int32) = nI 127 := rfl
theorem c_169 : (169 : Int32) = nI 169 := rfl
theorem c_255 : (255 : Int32) = nI 255 := rfl
theorem c_600 : (600 : Int32) = nI 600 := rfl
theorem c_1000 : (1000 : Int32) = nI 1000 := rfl
theorem c_32767 : (32767 : Int32) = nI 32767 := rfl
theorem c_252645135 : (252645135 : Int32) = nI 252645135 := rfl
theorem c_858993459 : (858993459 : Int32) = nI 858993459 := rfl
theorem c_1431655765 : (1431655765 : Int32) = nI 1431655765 := rfl
theorem o_le {a b : Nat} (ha : a < 2147483648) (hb : b < 2147483648) : (nI a ≤ nI b) = (a ≤ b) := propext (nI_leI ha hb)
theorem o_lt {a b : Nat} (ha : a < 2147483648) (hb : b < 2147483648) : (nI a < nI b) = (a < b) := propext (nI_ltI ha hb)
theorem o_eq {a b : Nat} (ha : a < 2147483648) (hb : b < 2147483648) : (nI a = nI b) = (a = b) := propext (nI_eq ha hb)
theorem o_add (a b : Nat) : nI a + nI b = nI (a + b) := nI_add a b
theorem o_mul (a b : Nat) : nI a * nI b = nI (a * b) := pk_mul a b
theorem o_sub {a b : Nat} (h : b ≤ a) : nI a - nI b = nI (a - b) := pk_sub h
theorem o_cl {a : Nat} (h : a < 2147483648) : (nI a).toNatClampNeg = a := nI_clamp h
theorem o_in {a n : Nat} (h : a < 2147483648) : vp_in (nI a) n = (a < n) := by
  apply propext
  rw [vp_in_iff, nI_toInt h]
  omega
theorem o_inT {a n : Nat} (h : a < 2147483648) (h2 : a < n) : vp_in (nI a) n = True := by rw [o_in h]; exact propext ⟨fun _ => trivial, fun _ => h2⟩
theorem b01 (b : Bool) : (b = false ∨ b = true) = True := by cases b <;> simp
theorem o_toInt {a : Nat} (h : a < 2147483648) : (nI a).toInt = (a : Int) := nI_toInt h
theorem m_lt (b : Nat) (hb : b < 2147483648) : (ngI < nI b) = True := by
  apply propext
  rw [Int32.lt_iff_toInt_lt, nI_toInt hb]
  have : ngI.toInt = -1 := rfl
  rw [this]
  constructor
  · intro _; trivial
  · intro _; omega
theorem m_ge (b : Nat) (hb : b < 2147483648) : (nI b ≤ ngI) = False := by
  apply propext
  rw [Int32.le_iff_toInt_le, nI_toInt hb]
  have : ngI.toInt = -1 := rfl
  rw [this]
  constructor
  · intro h; omega
  · intro h; exact h.elim
theorem m_le (b : Nat) (hb : b < 2147483648) : (ngI ≤ nI b) = True := by
  apply propext
  rw [Int32.le_iff_toInt_le, nI_toInt hb]
  have : ngI.toInt = -1 := rfl
  rw [this]
  constructor
  · intro _; trivial
  · intro _; omega
theorem m_gt (b : Nat) (hb : b < 2147483648) : (nI b < ngI) = False := by
  apply propext
  rw [Int32.lt_iff_toInt_lt, nI_toInt hb]
  have : ngI.toInt = -1 := rfl
  rw [this]
  constructor
  · intro h; omega
  · intro h; exact h.elim
theorem m_ne (b : Nat) (hb : b < 2147483648) : (nI b = ngI) = False := by
  apply propext
  constructor
  · intro h
    have h1 := congrArg Int32.toInt h
    rw [nI_toInt hb] at h1
    have : ngI.toInt = -1 := rfl
    rw [this] at h1
    omega
  · intro h; exact h.elim
theorem m_ne2 (b : Nat) (hb : b < 2147483648) : (ngI = nI b) = False := by
  apply propext
  constructor
  · intro h
    have := (m_ne b hb).mp h.symm
    exact this
  · intro h; exact h.elim
theorem o_neg0 {a : Nat} (h : a < 2147483648) : (nI a < nI 0) = False := by
  rw [o_lt h (by omega)]
  apply propext
  constructor
  · intro h; omega
  · intro h; exact h.elim
theorem o_ge0 {a : Nat} (h : a < 2147483648) : (nI 0 ≤ nI a) = True := by
  rw [o_le (by omega) h]
  apply propext
  constructor
  · intro _; trivial
  · intro _; omega
theorem o_and (a b : Nat) : nI a &&& nI b = nI (a &&& b) := by
  apply Int32.toBitVec_inj.1
  show BitVec.ofNat 32 a &&& BitVec.ofNat 32 b = BitVec.ofNat 32 (a &&& b)
  apply BitVec.eq_of_getLsbD_eq
  intro i hi
  simp [hi]
theorem o_or (a b : Nat) : nI a ||| nI b = nI (a ||| b) := by
  apply Int32.toBitVec_inj.1
  show BitVec.ofNat 32 a ||| BitVec.ofNat 32 b = BitVec.ofNat 32 (a ||| b)
  apply BitVec.eq_of_getLsbD_eq
  intro i hi
  simp [hi]
theorem o_and31 {v : Nat} (h : v < 32) : nI v &&& nI 31 = nI v := by
  have e : v &&& 31 = v % 32 := Nat.and_two_pow_sub_one_eq_mod v 5
  rw [o_and, e, Nat.mod_eq_of_lt h]
theorem sm32 : ∀ v, v < 32 → ((nI v).toBitVec.smod 32).toNat = v := by decide +kernel
theorem um32 : ∀ v, v < 32 → (((nI v).toUInt32 &&& Int32.toUInt32 31).toBitVec % 32).toNat = v := by decide +kernel
theorem o_shr {a v : Nat} (ha : a < 2147483648) (hv : v < 32) : nI a >>> nI v = nI (a >>> v) := by
  rw [pk_shrN ha _ v (sm32 v hv), Nat.shiftRight_eq_div_pow]
theorem o_shl {a v : Nat} (hv : v < 32) (h : a * 2 ^ v < 2 ^ 32) : nI a <<< nI v = nI (a * 2 ^ v) := pk_shlN _ v (sm32 v hv) h
theorem o_shl1 {v : Nat} (hv : v < 31) : nI 1 <<< nI v = nI (2 ^ v) := by
  have h : 2 ^ v < 2 ^ 32 := Nat.pow_lt_pow_right (by decide) (by omega)
  rw [o_shl (by omega) (by omega), Nat.one_mul]
theorem o_ushr {a v : Nat} (ha : a < 2147483648) (hv : v < 32) : ((nI a).toUInt32 >>> ((nI v).toUInt32 &&& Int32.toUInt32 (nI 31))).toInt32 = nI (a >>> v) := by
  have h := pk_ushrN (n := a) (by omega) (nI v) v (um32 v hv)
  rw [Nat.shiftRight_eq_div_pow]
  exact h
theorem o_has (d v : Nat) : (nI ((d >>> v) &&& 1) = nI 1) = (d.testBit v = true) := by
  have h1 : (d >>> v) &&& 1 < 2 := Nat.lt_of_le_of_lt Nat.and_le_right (by decide)
  rw [o_eq (by omega) (by omega), Nat.testBit]
  rw [Nat.and_comm]
  apply propext
  have h2 : 1 &&& (d >>> v) < 2 := Nat.lt_of_le_of_lt Nat.and_le_left (by decide)
  generalize 1 &&& (d >>> v) = z at h2
  have h3 : z = 0 ∨ z = 1 := by omega
  rcases h3 with rfl | rfl <;> simp
theorem o_has0 (d v : Nat) : (nI ((d >>> v) &&& 1) = nI 0) = (d.testBit v = false) := by
  have h1 : (d >>> v) &&& 1 < 2 := Nat.lt_of_le_of_lt Nat.and_le_right (by decide)
  rw [o_eq (by omega) (by omega), Nat.testBit]
  rw [Nat.and_comm]
  apply propext
  have h2 : 1 &&& (d >>> v) < 2 := Nat.lt_of_le_of_lt Nat.and_le_left (by decide)
  generalize 1 &&& (d >>> v) = z at h2
  have h3 : z = 0 ∨ z = 1 := by omega
  rcases h3 with rfl | rfl <;> simp
/-- a truth as a number -/
def bI (b : Bool) : Int32 := if b then nI 1 else nI 0
theorem bI_t : bI true = nI 1 := rfl
theorem bI_f : bI false = nI 0 := rfl
theorem bI_0 (b : Bool) : (bI b = nI 0) = (b = false) := by
  cases b
  · simp [bI]
  · simp only [bI, if_true]; rw [o_eq (by omega) (by omega)]; simp
theorem bI_1 (b : Bool) : (bI b = nI 1) = (b = true) := by
  cases b
  · simp only [bI, Bool.false_eq_true, if_false]; rw [o_eq (by omega) (by omega)]; simp
  · simp [bI]
theorem bI_01 (b : Bool) : (bI b = nI 0 ∨ bI b = nI 1) = True := by
  rw [bI_0, bI_1]
  cases b <;> simp
/-- five values as a number below 32 -/
def clr (d v : Nat) : Nat := d &&& (31 ^^^ (2 ^ v))
theorem dm_clr : ∀ d, d < 32 → ∀ v, v < 5 → nI d &&& (nI (2 ^ v) ^^^ ngI) = nI (clr d v) := by decide +kernel
theorem dm_clr_lt : ∀ d, d < 32 → ∀ v, v < 5 → clr d v < 32 := by decide +kernel
theorem dm_clr_tb : ∀ d, d < 32 → ∀ v, v < 5 → ∀ u, u < 5 → (clr d v).testBit u = (d.testBit u && decide (u ≠ v)) := by decide +kernel
def andn (d s : Nat) : Nat := d &&& (31 ^^^ s)
theorem dm_andn : ∀ d, d < 32 → ∀ s, s < 32 → nI d &&& (nI s ^^^ ngI) = nI (andn d s) := by decide +kernel
theorem dm_andn_tb : ∀ d, d < 32 → ∀ s, s < 32 → ∀ u, u < 5 → (andn d s).testBit u = (d.testBit u && !s.testBit u) := by decide +kernel
theorem dm_andn_lt : ∀ d, d < 32 → ∀ s, s < 32 → andn d s < 32 := by decide +kernel
theorem dm_and_lt : ∀ d, d < 32 → ∀ s, s < 32 → d &&& s < 32 := by decide +kernel
theorem dm_0 : ∀ d, d < 32 → (d = 0 ↔ ∀ v, v < 5 → d.testBit v = false) := by decide +kernel
theorem dm_ex {d : Nat} (h : d < 32) (h0 : d ≠ 0) : ∃ v, v < 5 ∧ d.testBit v = true := by
  apply Classical.byContradiction
  intro hn
  apply h0
  rw [dm_0 d h]
  intro v hv
  cases hb : d.testBit v
  · rfl
  · exact absurd ⟨v, hv, hb⟩ hn
theorem dm_ext : ∀ d, d < 32 → ∀ s, s < 32 → (∀ v, v < 5 → d.testBit v = s.testBit v) → d = s := by decide +kernel
theorem dm_pow_tb : ∀ v, v < 5 → ∀ u, u < 5 → (2 ^ v).testBit u = decide (u = v) := by decide +kernel
theorem dm_pow_lt : ∀ v, v < 5 → 2 ^ v < 32 := by decide +kernel
theorem dm_hi : ∀ d, d < 32 → ∀ u, u < 40 → 5 ≤ u → d.testBit u = false := by decide +kernel
/-- how many bits, of so many -/
def pcn : Nat → Nat → Nat
  | 0, _ => 0
  | k + 1, d => d % 2 + pcn k (d / 2)
theorem pcn_le (k d : Nat) : pcn k d ≤ k := by
  induction k generalizing d with
  | zero => exact Nat.le_refl _
  | succ k ih =>
    have := ih (d / 2)
    have h2 := Nat.mod_lt d (show 0 < 2 by decide)
    simp only [pcn]
    omega
theorem pcn_0 (k : Nat) : pcn k 0 = 0 := by
  induction k with
  | zero => rfl
  | succ k ih => simp [pcn, ih]
theorem pcn_up {k m d : Nat} (h : d < 2 ^ k) (hk : k ≤ m) : pcn m d = pcn k d := by
  induction k generalizing m d with
  | zero =>
    have : d = 0 := by simpa using h
    rw [this, pcn_0, pcn_0]
  | succ k ih =>
    obtain ⟨m, rfl⟩ : ∃ j, m = j + 1 := ⟨m - 1, by omega⟩
    simp only [pcn]
    rw [ih (m := m) (by rw [Nat.pow_succ] at h; omega) (by omega)]
/-- a sum of digits, k bits each -/
def ds (k : Nat) (f : Nat → Nat) : Nat → Nat
  | 0 => 0
  | n + 1 => ds k f n + 2 ^ (k * n) * f n
theorem ds_lt {k : Nat} {f : Nat → Nat} {n : Nat} (h : ∀ i, i < n → f i < 2 ^ k) : ds k f n < 2 ^ (k * n) := by
  induction n with
  | zero => simp [ds]
  | succ n ih =>
    have h1 := ih (fun i hi => h i (by omega))
    have h2 := h n (by omega)
    simp only [ds]
    rw [show k * (n + 1) = k * n + k by rw [Nat.mul_add, Nat.mul_one], Nat.pow_add]
    have h3 : 2 ^ (k * n) * (f n + 1) ≤ 2 ^ (k * n) * 2 ^ k := Nat.mul_le_mul_left _ h2
    rw [Nat.mul_add, Nat.mul_one] at h3
    omega
theorem ds_tb {k : Nat} (hk : 0 < k) {f : Nat → Nat} {n : Nat} (h : ∀ i, i < n → f i < 2 ^ k) (i : Nat) : (ds k f n).testBit i = (decide (i < k * n) && (f (i / k)).testBit (i % k)) := by
  induction n with
  | zero => simp [ds]
  | succ n ih =>
    have h1 := ih (fun i hi => h i (by omega))
    have h2 := h n (by omega)
    have h3 := ds_lt (k := k) (f := f) (n := n) (fun i hi => h i (by omega))
    simp only [ds]
    rw [Nat.add_comm, Nat.testBit_two_pow_mul_add _ h3]
    by_cases hi : i < k * n
    · rw [if_pos hi, h1]
      have : i < k * (n + 1) := by rw [Nat.mul_add]; omega
      simp [hi, this]
    · rw [if_neg hi]
      by_cases hj : i < k * (n + 1)
      · have hd : i / k = n := by
          apply Nat.div_eq_of_lt_le
          · rw [Nat.mul_comm]; omega
          · rw [Nat.mul_comm]; exact hj
        have hm : i % k = i - k * n := by
          have := Nat.div_add_mod i k
          rw [hd] at this
          omega
        rw [hd, hm]
        simp [hj]
      · have hge : k ≤ i - k * n := by rw [Nat.mul_add, Nat.mul_one] at hj; omega
        have : (f n).testBit (i - k * n) = false := Nat.testBit_lt_two_pow (Nat.lt_of_lt_of_le h2 (Nat.pow_le_pow_right (by decide) hge))
        simp [hj, this]
theorem ds_cong {k : Nat} {f g : Nat → Nat} {n : Nat} (h : ∀ i, i < n → f i = g i) : ds k f n = ds k g n := by
  induction n with
  | zero => rfl
  | succ n ih => simp only [ds]; rw [ih (fun i hi => h i (by omega)), h n (by omega)]
/-- a sum, a count, below a bound -/
def sN (f : Nat → Nat) : Nat → Nat
  | 0 => 0
  | k + 1 => sN f k + f k
def cN (p : Nat → Bool) : Nat → Nat
  | 0 => 0
  | k + 1 => cN p k + (if p k then 1 else 0)
theorem cN_s (p : Nat → Bool) (k : Nat) : cN p (k + 1) = cN p k + (if p k = true then 1 else 0) := rfl
theorem sN_s (f : Nat → Nat) (k : Nat) : sN f (k + 1) = sN f k + f k := rfl
theorem cN_le (p : Nat → Bool) (k : Nat) : cN p k ≤ k := by
  induction k with
  | zero => exact Nat.le_refl _
  | succ k ih => simp only [cN]; split <;> omega
theorem sN_le {f : Nat → Nat} {b : Nat} : ∀ {k : Nat}, (∀ i, i < k → f i ≤ b) → sN f k ≤ k * b := by
  intro k
  induction k with
  | zero => intro h; simp [sN]
  | succ k ih =>
    intro h
    have h1 := ih (fun i hi => h i (by omega))
    have h2 := h k (by omega)
    simp only [sN]
    rw [Nat.add_mul]
    omega
theorem sN_cong {f g : Nat → Nat} {k : Nat} (h : ∀ i, i < k → f i = g i) : sN f k = sN g k := by
  induction k with
  | zero => rfl
  | succ k ih => simp only [sN]; rw [ih (fun i hi => h i (by omega)), h k (by omega)]
theorem cN_cong {f g : Nat → Bool} {k : Nat} (h : ∀ i, i < k → f i = g i) : cN f k = cN g k := by
  induction k with
  | zero => rfl
  | succ k ih => simp only [cN]; rw [ih (fun i hi => h i (by omega)), h k (by omega)]
/-- a function changed at a place -/
def ud {α : Type} (f : Nat → α) (k : Nat) (v : α) : Nat → α := fun j => if j = k then v else f j
theorem ud_s {α : Type} (f : Nat → α) (k : Nat) (v : α) : ud f k v k = v := if_pos rfl
theorem ud_n {α : Type} (f : Nat → α) {k j : Nat} (v : α) (h : j ≠ k) : ud f k v j = f j := if_neg h
/-- a truth of a statement -/
noncomputable def dB (p : Prop) : Bool := @decide p (Classical.propDecidable p)
theorem dB_t {p : Prop} : dB p = true ↔ p := @decide_eq_true_iff p (Classical.propDecidable p)
theorem dB_f {p : Prop} : dB p = false ↔ ¬ p := @decide_eq_false_iff_not p (Classical.propDecidable p)
theorem dB_eq {p : Prop} {b : Bool} (h : b = true ↔ p) : b = dB p := by
  cases b
  · exact (dB_f.mpr (fun q => absurd (h.mpr q) (by decide))).symm
  · exact (dB_t.mpr (h.mp rfl)).symm
theorem dB_c {p q : Prop} (h : p ↔ q) : dB p = dB q := by rw [propext h]
/-- the pool but for some rows' numbers -/
def fr (A : List Nat) (S S' : PS) : Prop := pN S' = pN S ∧ pK S' = pK S ∧ pL S' = pL S ∧ pR S' = pR S ∧ ∀ a, a ∉ A → pI S' a = pI S a ∧ pJ S' a = pJ S a
theorem fr_r (A : List Nat) (S : PS) : fr A S S := ⟨rfl, rfl, rfl, rfl, fun _ _ => ⟨rfl, rfl⟩⟩
theorem fr_t {A : List Nat} {S S' S2 : PS} (h : fr A S S') (h2 : fr A S' S2) : fr A S S2 := ⟨h2.1.trans h.1, h2.2.1.trans h.2.1, h2.2.2.1.trans h.2.2.1, h2.2.2.2.1.trans h.2.2.2.1, fun a ha => ⟨(h2.2.2.2.2 a ha).1.trans (h.2.2.2.2 a ha).1, (h2.2.2.2.2 a ha).2.trans (h.2.2.2.2 a ha).2⟩⟩
theorem fr_m {A B : List Nat} (hs : ∀ a ∈ A, a ∈ B) {S S' : PS} (h : fr A S S') : fr B S S' := ⟨h.1, h.2.1, h.2.2.1, h.2.2.2.1, fun a ha => h.2.2.2.2 a (fun q => ha (hs a q))⟩
theorem fr_sI {A : List Nat} (S : PS) {a : Nat} (k : Nat) (v : Int32) (ha : a ∈ A) : fr A S (sI S a k v) := ⟨rfl, rfl, rfl, rfl, fun x hx => ⟨funext fun j => by rw [pI_sI, if_neg (show ¬ (x = a ∧ j = k) from fun q => hx (q.1 ▸ ha))], rfl⟩⟩
theorem fr_sJ {A : List Nat} (S : PS) {a : Nat} (k : Nat) (v : Int64) (ha : a ∈ A) : fr A S (sJ S a k v) := ⟨rfl, rfl, rfl, rfl, fun x hx => ⟨rfl, funext fun j => by rw [pJ_sJ, if_neg (show ¬ (x = a ∧ j = k) from fun q => hx (q.1 ▸ ha))]⟩⟩
theorem fr.N {A : List Nat} {S S' : PS} (h : fr A S S') : pN S' = pN S := h.1
theorem fr.K {A : List Nat} {S S' : PS} (h : fr A S S') (a : Nat) : pK S' a = pK S a := congrFun h.2.1 a
theorem fr.L {A : List Nat} {S S' : PS} (h : fr A S S') (a : Nat) : pL S' a = pL S a := congrFun h.2.2.1 a
theorem fr.R {A : List Nat} {S S' : PS} (h : fr A S S') (a k : Nat) : pR S' a k = pR S a k := congrFun (congrFun h.2.2.2.1 a) k
theorem fr.I {A : List Nat} {S S' : PS} (h : fr A S S') {a : Nat} (ha : a ∉ A) (k : Nat) : pI S' a k = pI S a k := congrFun (h.2.2.2.2 a ha).1 k
theorem fr.J {A : List Nat} {S S' : PS} (h : fr A S S') {a : Nat} (ha : a ∉ A) (k : Nat) : pJ S' a k = pJ S a k := congrFun (h.2.2.2.2 a ha).2 k
/-! the reference: object 87, its rows 88 .. 104 -/
def MShape (S : PS) : Prop := pK S 87 = 11 ∧ (pR S 87 1 = some 88 ∧ pK S 88 = 13 ∧ pL S 88 = 169) ∧ (pR S 87 2 = some 89 ∧ pK S 89 = 13 ∧ pL S 89 = 169) ∧ (pR S 87 3 = some 90 ∧ pK S 90 = 13 ∧ pL S 90 = 7) ∧ (pR S 87 4 = some 91 ∧ pK S 91 = 13 ∧ pL S 91 = 175) ∧ (pR S 87 5 = some 92 ∧ pK S 92 = 13 ∧ pL S 92 = 14) ∧ (pR S 87 6 = some 93 ∧ pK S 93 = 13 ∧ pL S 93 = 12) ∧ (pR S 87 12 = some 94 ∧ pK S 94 = 13 ∧ pL S 94 = 600) ∧ (pR S 87 22 = some 95 ∧ pK S 95 = 14 ∧ pL S 95 = 7) ∧ (pR S 87 23 = some 96 ∧ pK S 96 = 13 ∧ pL S 96 = 7) ∧ (pR S 87 24 = some 97 ∧ pK S 97 = 15 ∧ pL S 97 = 35) ∧ (pR S 87 25 = some 98 ∧ pK S 98 = 13 ∧ pL S 98 = 7) ∧ (pR S 87 26 = some 99 ∧ pK S 99 = 13 ∧ pL S 99 = 35) ∧ (pR S 87 27 = some 100 ∧ pK S 100 = 13 ∧ pL S 100 = 7) ∧ (pR S 87 28 = some 101 ∧ pK S 101 = 13 ∧ pL S 101 = 7) ∧ (pR S 87 29 = some 102 ∧ pK S 102 = 13 ∧ pL S 102 = 7) ∧ (pR S 87 30 = some 103 ∧ pK S 103 = 13 ∧ pL S 103 = 7) ∧ (pR S 87 31 = some 104 ∧ pK S 104 = 13 ∧ pL S 104 = 7)
theorem msk {S : PS} (h : MShape S) : pK S 87 = 11 := h.1
theorem msr_p {S : PS} (h : MShape S) : pR S 87 1 = some 88 := (h.2.1).1
theorem msk_p {S : PS} (h : MShape S) : pK S 88 = 13 := (h.2.1).2.1
theorem msl_p {S : PS} (h : MShape S) : pL S 88 = 169 := (h.2.1).2.2
theorem msr_told {S : PS} (h : MShape S) : pR S 87 2 = some 89 := (h.2.2.1).1
theorem msk_told {S : PS} (h : MShape S) : pK S 89 = 13 := (h.2.2.1).2.1
theorem msl_told {S : PS} (h : MShape S) : pL S 89 = 169 := (h.2.2.1).2.2
theorem msr_domain {S : PS} (h : MShape S) : pR S 87 3 = some 90 := (h.2.2.2.1).1
theorem msk_domain {S : PS} (h : MShape S) : pK S 90 = 13 := (h.2.2.2.1).2.1
theorem msl_domain {S : PS} (h : MShape S) : pL S 90 = 7 := (h.2.2.2.1).2.2
theorem msr_facts {S : PS} (h : MShape S) : pR S 87 4 = some 91 := (h.2.2.2.2.1).1
theorem msk_facts {S : PS} (h : MShape S) : pK S 91 = 13 := (h.2.2.2.2.1).2.1
theorem msl_facts {S : PS} (h : MShape S) : pL S 91 = 175 := (h.2.2.2.2.1).2.2
theorem msr_decs {S : PS} (h : MShape S) : pR S 87 5 = some 92 := (h.2.2.2.2.2.1).1
theorem msk_decs {S : PS} (h : MShape S) : pK S 92 = 13 := (h.2.2.2.2.2.1).2.1
theorem msl_decs {S : PS} (h : MShape S) : pL S 92 = 14 := (h.2.2.2.2.2.1).2.2
theorem msr_sets {S : PS} (h : MShape S) : pR S 87 6 = some 93 := (h.2.2.2.2.2.2.1).1
theorem msk_sets {S : PS} (h : MShape S) : pK S 93 = 13 := (h.2.2.2.2.2.2.1).2.1
theorem msl_sets {S : PS} (h : MShape S) : pL S 93 = 12 := (h.2.2.2.2.2.2.1).2.2
theorem msr_text {S : PS} (h : MShape S) : pR S 87 12 = some 94 := (h.2.2.2.2.2.2.2.1).1
theorem msk_text {S : PS} (h : MShape S) : pK S 94 = 13 := (h.2.2.2.2.2.2.2.1).2.1
theorem msl_text {S : PS} (h : MShape S) : pL S 94 = 600 := (h.2.2.2.2.2.2.2.1).2.2
theorem msr_names {S : PS} (h : MShape S) : pR S 87 22 = some 95 := (h.2.2.2.2.2.2.2.2.1).1
theorem msk_names {S : PS} (h : MShape S) : pK S 95 = 14 := (h.2.2.2.2.2.2.2.2.1).2.1
theorem msl_names {S : PS} (h : MShape S) : pL S 95 = 7 := (h.2.2.2.2.2.2.2.2.1).2.2
theorem msr_trial {S : PS} (h : MShape S) : pR S 87 23 = some 96 := (h.2.2.2.2.2.2.2.2.2.1).1
theorem msk_trial {S : PS} (h : MShape S) : pK S 96 = 13 := (h.2.2.2.2.2.2.2.2.2.1).2.1
theorem msl_trial {S : PS} (h : MShape S) : pL S 96 = 7 := (h.2.2.2.2.2.2.2.2.2.1).2.2
theorem msr_isLeft {S : PS} (h : MShape S) : pR S 87 24 = some 97 := (h.2.2.2.2.2.2.2.2.2.2.1).1
theorem msk_isLeft {S : PS} (h : MShape S) : pK S 97 = 15 := (h.2.2.2.2.2.2.2.2.2.2.1).2.1
theorem msl_isLeft {S : PS} (h : MShape S) : pL S 97 = 35 := (h.2.2.2.2.2.2.2.2.2.2.1).2.2
theorem msr_without {S : PS} (h : MShape S) : pR S 87 25 = some 98 := (h.2.2.2.2.2.2.2.2.2.2.2.1).1
theorem msk_without {S : PS} (h : MShape S) : pK S 98 = 13 := (h.2.2.2.2.2.2.2.2.2.2.2.1).2.1
theorem msl_without {S : PS} (h : MShape S) : pL S 98 = 7 := (h.2.2.2.2.2.2.2.2.2.2.2.1).2.2
theorem msr_depths {S : PS} (h : MShape S) : pR S 87 26 = some 99 := (h.2.2.2.2.2.2.2.2.2.2.2.2.1).1
theorem msk_depths {S : PS} (h : MShape S) : pK S 99 = 13 := (h.2.2.2.2.2.2.2.2.2.2.2.2.1).2.1
theorem msl_depths {S : PS} (h : MShape S) : pL S 99 = 35 := (h.2.2.2.2.2.2.2.2.2.2.2.2.1).2.2
theorem msr_least {S : PS} (h : MShape S) : pR S 87 27 = some 100 := (h.2.2.2.2.2.2.2.2.2.2.2.2.2.1).1
theorem msk_least {S : PS} (h : MShape S) : pK S 100 = 13 := (h.2.2.2.2.2.2.2.2.2.2.2.2.2.1).2.1
theorem msl_least {S : PS} (h : MShape S) : pL S 100 = 7 := (h.2.2.2.2.2.2.2.2.2.2.2.2.2.1).2.2
theorem msr_given {S : PS} (h : MShape S) : pR S 87 28 = some 101 := (h.2.2.2.2.2.2.2.2.2.2.2.2.2.2.1).1
theorem msk_given {S : PS} (h : MShape S) : pK S 101 = 13 := (h.2.2.2.2.2.2.2.2.2.2.2.2.2.2.1).2.1
theorem msl_given {S : PS} (h : MShape S) : pL S 101 = 7 := (h.2.2.2.2.2.2.2.2.2.2.2.2.2.2.1).2.2
theorem msr_firstOne {S : PS} (h : MShape S) : pR S 87 29 = some 102 := (h.2.2.2.2.2.2.2.2.2.2.2.2.2.2.2.1).1
theorem msk_firstOne {S : PS} (h : MShape S) : pK S 102 = 13 := (h.2.2.2.2.2.2.2.2.2.2.2.2.2.2.2.1).2.1
theorem msl_firstOne {S : PS} (h : MShape S) : pL S 102 = 7 := (h.2.2.2.2.2.2.2.2.2.2.2.2.2.2.2.1).2.2
theorem msr_possible {S : PS} (h : MShape S) : pR S 87 30 = some 103 := (h.2.2.2.2.2.2.2.2.2.2.2.2.2.2.2.2.1).1
theorem msk_possible {S : PS} (h : MShape S) : pK S 103 = 13 := (h.2.2.2.2.2.2.2.2.2.2.2.2.2.2.2.2.1).2.1
theorem msl_possible {S : PS} (h : MShape S) : pL S 103 = 7 := (h.2.2.2.2.2.2.2.2.2.2.2.2.2.2.2.2.1).2.2
theorem msr_start {S : PS} (h : MShape S) : pR S 87 31 = some 104 := (h.2.2.2.2.2.2.2.2.2.2.2.2.2.2.2.2.2).1
theorem msk_start {S : PS} (h : MShape S) : pK S 104 = 13 := (h.2.2.2.2.2.2.2.2.2.2.2.2.2.2.2.2.2).2.1
theorem msl_start {S : PS} (h : MShape S) : pL S 104 = 7 := (h.2.2.2.2.2.2.2.2.2.2.2.2.2.2.2.2.2).2.2

/-! HALL'S CONDITION for counts: sets of the values 0..4 as functions to Bool; a list of domains; least and greatest numbers of each value. -/
def gB (p : Bool) : Nat := if p then 1 else 0
def sum5 (f : Nat → Nat) : Nat := f 0 + f 1 + f 2 + f 3 + f 4
def hsum (f : Nat → Nat) (S : Nat → Bool) : Nat := sum5 (fun v => if S v then f v else 0)
def bsub (D S : Nat → Bool) : Bool := (!D 0 || S 0) && (!D 1 || S 1) && (!D 2 || S 2) && (!D 3 || S 3) && (!D 4 || S 4)
def bmeet (D S : Nat → Bool) : Bool := (D 0 && S 0) || (D 1 && S 1) || (D 2 && S 2) || (D 3 && S 3) || (D 4 && S 4)
theorem lt5 {v : Nat} (h : v < 5) : v = 0 ∨ v = 1 ∨ v = 2 ∨ v = 3 ∨ v = 4 := by omega
theorem bsub_iff (D S : Nat → Bool) : bsub D S = true ↔ ∀ v, v < 5 → D v = true → S v = true := by
  constructor
  · intro h v hv hD
    simp only [bsub, Bool.and_eq_true, Bool.or_eq_true, Bool.not_eq_true'] at h
    obtain ⟨⟨⟨⟨h0, h1⟩, h2⟩, h3⟩, h4⟩ := h
    rcases lt5 hv with rfl | rfl | rfl | rfl | rfl
    · exact h0.resolve_left (by rw [hD]; decide)
    · exact h1.resolve_left (by rw [hD]; decide)
    · exact h2.resolve_left (by rw [hD]; decide)
    · exact h3.resolve_left (by rw [hD]; decide)
    · exact h4.resolve_left (by rw [hD]; decide)
  · intro h
    have k : ∀ v, v < 5 → (D v = false ∨ S v = true) := fun v hv => by
      cases hD : D v
      · exact Or.inl rfl
      · exact Or.inr (h v hv hD)
    simp only [bsub, Bool.and_eq_true, Bool.or_eq_true, Bool.not_eq_true']
    exact ⟨⟨⟨⟨k 0 (by omega), k 1 (by omega)⟩, k 2 (by omega)⟩, k 3 (by omega)⟩, k 4 (by omega)⟩
theorem bmeet_iff (D S : Nat → Bool) : bmeet D S = true ↔ ∃ v, v < 5 ∧ D v = true ∧ S v = true := by
  constructor
  · intro h
    simp only [bmeet, Bool.and_eq_true, Bool.or_eq_true] at h
    rcases h with (((h | h) | h) | h) | h
    · exact ⟨0, by omega, h⟩
    · exact ⟨1, by omega, h⟩
    · exact ⟨2, by omega, h⟩
    · exact ⟨3, by omega, h⟩
    · exact ⟨4, by omega, h⟩
  · rintro ⟨v, hv, hD, hS⟩
    simp only [bmeet, Bool.and_eq_true, Bool.or_eq_true]
    rcases lt5 hv with rfl | rfl | rfl | rfl | rfl
    · exact Or.inl (Or.inl (Or.inl (Or.inl ⟨hD, hS⟩)))
    · exact Or.inl (Or.inl (Or.inl (Or.inr ⟨hD, hS⟩)))
    · exact Or.inl (Or.inl (Or.inr ⟨hD, hS⟩))
    · exact Or.inl (Or.inr ⟨hD, hS⟩)
    · exact Or.inr ⟨hD, hS⟩
theorem gB_le {a b : Bool} (h : a = true → b = true) : gB a ≤ gB b := by
  cases a
  · exact Nat.zero_le _
  · rw [h rfl]; exact Nat.le_refl _
theorem gB_t {a : Bool} (h : a = true) : gB a = 1 := by rw [h]; rfl
theorem gB_f {a : Bool} (h : ¬ a = true) : gB a = 0 := by
  cases a
  · rfl
  · exact absurd rfl h
theorem gB_1 (a : Bool) : gB a ≤ 1 := by cases a <;> decide
def sUn (S T : Nat → Bool) : Nat → Bool := fun v => S v || T v
def sIn (S T : Nat → Bool) : Nat → Bool := fun v => S v && T v
def sDi (S T : Nat → Bool) : Nat → Bool := fun v => S v && !T v
theorem hsum_mod (f : Nat → Nat) (S T : Nat → Bool) : hsum f (sUn S T) + hsum f (sIn S T) = hsum f S + hsum f T := by
  have k : ∀ v, (if sUn S T v = true then f v else 0) + (if sIn S T v = true then f v else 0) = (if S v = true then f v else 0) + (if T v = true then f v else 0) := by
    intro v
    unfold sUn sIn
    cases S v <;> cases T v <;> simp
  have k0 := k 0; have k1 := k 1; have k2 := k 2; have k3 := k 3; have k4 := k 4
  simp only [hsum, sum5]
  omega
theorem hsum_di (f : Nat → Nat) (S T : Nat → Bool) : hsum f (sDi S T) + hsum f (sIn S T) = hsum f S := by
  have k : ∀ v, (if sDi S T v = true then f v else 0) + (if sIn S T v = true then f v else 0) = (if S v = true then f v else 0) := by
    intro v
    unfold sDi sIn
    cases S v <;> cases T v <;> simp
  have k0 := k 0; have k1 := k 1; have k2 := k 2; have k3 := k 3; have k4 := k 4
  simp only [hsum, sum5]
  omega
theorem hsum_cm (f : Nat → Nat) (S T : Nat → Bool) : hsum f (sIn S T) = hsum f (sIn T S) := by
  have k : sIn S T = sIn T S := funext fun v => Bool.and_comm _ _
  rw [k]
theorem hsum_le {f g : Nat → Nat} (h : ∀ v, v < 5 → f v ≤ g v) (S : Nat → Bool) : hsum f S ≤ hsum g S := by
  have k : ∀ v, v < 5 → (if S v = true then f v else 0) ≤ (if S v = true then g v else 0) := by
    intro v hv
    have := h v hv
    cases S v <;> simp [this]
  have k0 := k 0 (by omega); have k1 := k 1 (by omega); have k2 := k 2 (by omega); have k3 := k 3 (by omega); have k4 := k 4 (by omega)
  simp only [hsum, sum5]
  omega
def cU : List (Nat → Bool) → (Nat → Bool) → Nat
  | [], _ => 0
  | D :: L, S => gB (bsub D S) + cU L S
def cM : List (Nat → Bool) → (Nat → Bool) → Nat
  | [], _ => 0
  | D :: L, S => gB (bmeet D S) + cM L S
theorem cU_app (L1 L2 : List (Nat → Bool)) (S : Nat → Bool) : cU (L1 ++ L2) S = cU L1 S + cU L2 S := by
  induction L1 with
  | nil => simp [cU]
  | cons D L ih => simp only [List.cons_append, cU, ih]; omega
theorem cM_app (L1 L2 : List (Nat → Bool)) (S : Nat → Bool) : cM (L1 ++ L2) S = cM L1 S + cM L2 S := by
  induction L1 with
  | nil => simp [cM]
  | cons D L ih => simp only [List.cons_append, cM, ih]; omega
/-- one domain: the two inequalities and the mixed one -/
theorem eU (D S T : Nat → Bool) : gB (bsub D S) + gB (bsub D T) ≤ gB (bsub D (sUn S T)) + gB (bsub D (sIn S T)) := by
  have h1 : bsub D S = true → bsub D (sUn S T) = true := fun h => (bsub_iff _ _).mpr fun v hv hD => by simp [sUn, (bsub_iff _ _).mp h v hv hD]
  have h2 : bsub D T = true → bsub D (sUn S T) = true := fun h => (bsub_iff _ _).mpr fun v hv hD => by simp [sUn, (bsub_iff _ _).mp h v hv hD]
  have h3 : bsub D S = true → bsub D T = true → bsub D (sIn S T) = true := fun h h' => (bsub_iff _ _).mpr fun v hv hD => by simp [sIn, (bsub_iff _ _).mp h v hv hD, (bsub_iff _ _).mp h' v hv hD]
  by_cases a : bsub D S = true <;> by_cases b : bsub D T = true
  · rw [gB_t a, gB_t b, gB_t (h1 a), gB_t (h3 a b)]; exact Nat.le_refl _
  · rw [gB_t a, gB_f b, gB_t (h1 a)]; omega
  · rw [gB_f a, gB_t b, gB_t (h2 b)]; omega
  · rw [gB_f a, gB_f b]; omega
theorem eM (D S T : Nat → Bool) : gB (bmeet D (sUn S T)) + gB (bmeet D (sIn S T)) ≤ gB (bmeet D S) + gB (bmeet D T) := by
  have h1 : bmeet D (sUn S T) = true → bmeet D S = true ∨ bmeet D T = true := fun h => by
    obtain ⟨v, hv, hD, hS⟩ := (bmeet_iff _ _).mp h
    simp only [sUn, Bool.or_eq_true] at hS
    rcases hS with hS | hS
    · exact Or.inl ((bmeet_iff _ _).mpr ⟨v, hv, hD, hS⟩)
    · exact Or.inr ((bmeet_iff _ _).mpr ⟨v, hv, hD, hS⟩)
  have h2 : bmeet D (sIn S T) = true → bmeet D S = true ∧ bmeet D T = true := fun h => by
    obtain ⟨v, hv, hD, hS⟩ := (bmeet_iff _ _).mp h
    simp only [sIn, Bool.and_eq_true] at hS
    exact ⟨(bmeet_iff _ _).mpr ⟨v, hv, hD, hS.1⟩, (bmeet_iff _ _).mpr ⟨v, hv, hD, hS.2⟩⟩
  have := gB_1 (bmeet D (sUn S T))
  by_cases b : bmeet D (sIn S T) = true
  · rw [gB_t (h2 b).1, gB_t (h2 b).2, gB_t b]; omega
  · rw [gB_f b]
    by_cases a : bmeet D (sUn S T) = true
    · rcases h1 a with h | h
      · rw [gB_t h]; omega
      · rw [gB_t h]; omega
    · rw [gB_f a]; omega
theorem eX (D S T : Nat → Bool) : gB (bsub D S) + gB (bmeet D (sDi T S)) ≤ gB (bsub D (sDi S T)) + gB (bmeet D T) := by
  have h1 : bmeet D (sDi T S) = true → bmeet D T = true ∧ ¬ bsub D S = true := fun h => by
    obtain ⟨v, hv, hD, hS⟩ := (bmeet_iff _ _).mp h
    simp only [sDi, Bool.and_eq_true, Bool.not_eq_true'] at hS
    refine ⟨(bmeet_iff _ _).mpr ⟨v, hv, hD, hS.1⟩, fun q => ?_⟩
    have := (bsub_iff _ _).mp q v hv hD
    rw [hS.2] at this; cases this
  have h2 : bsub D S = true → ¬ bmeet D T = true → bsub D (sDi S T) = true := fun h h' => (bsub_iff _ _).mpr fun v hv hD => by
    have a := (bsub_iff _ _).mp h v hv hD
    cases hT : T v
    · simp [sDi, a, hT]
    · exact absurd ((bmeet_iff _ _).mpr ⟨v, hv, hD, hT⟩) h'
  by_cases a : bmeet D (sDi T S) = true
  · rw [gB_t (h1 a).1, gB_f (h1 a).2, gB_t a]; omega
  · rw [gB_f a]
    by_cases b : bsub D S = true
    · by_cases c : bmeet D T = true
      · rw [gB_t b, gB_t c]; omega
      · rw [gB_t b, gB_t (h2 b c)]; omega
    · rw [gB_f b]; omega
theorem lU (L : List (Nat → Bool)) (S T : Nat → Bool) : cU L S + cU L T ≤ cU L (sUn S T) + cU L (sIn S T) := by
  induction L with
  | nil => simp [cU]
  | cons D L ih => have := eU D S T; simp only [cU]; omega
theorem lM (L : List (Nat → Bool)) (S T : Nat → Bool) : cM L (sUn S T) + cM L (sIn S T) ≤ cM L S + cM L T := by
  induction L with
  | nil => simp [cM]
  | cons D L ih => have := eM D S T; simp only [cM]; omega
theorem lX (L : List (Nat → Bool)) (S T : Nat → Bool) : cU L S + cM L (sDi T S) ≤ cU L (sDi S T) + cM L T := by
  induction L with
  | nil => simp [cU, cM]
  | cons D L ih => have := eX D S T; simp only [cU, cM]; omega
def hall (lo hi : Nat → Nat) (L : List (Nat → Bool)) : Prop := ∀ S : Nat → Bool, cU L S ≤ hsum hi S ∧ hsum lo S ≤ cM L S
def dWo (D : Nat → Bool) (u : Nat) : Nat → Bool := fun v => D v && decide (v ≠ u)
theorem dWo_of {D : Nat → Bool} {u v : Nat} (h : D v = true) (hn : v ≠ u) : dWo D u v = true := by simp [dWo, h, hn]
theorem dWo_to {D : Nat → Bool} {u v : Nat} (h : dWo D u v = true) : D v = true ∧ v ≠ u := by simpa [dWo] using h
/-- what a failing removal tells -/
theorem fail_at {lo hi : Nat → Nat} {L1 L2 : List (Nat → Bool)} {D : Nat → Bool} (h : hall lo hi (L1 ++ D :: L2)) {u : Nat} (hf : ¬ hall lo hi (L1 ++ dWo D u :: L2)) :
    (∃ S, bsub (dWo D u) S = true ∧ ¬ bsub D S = true ∧ cU (L1 ++ D :: L2) S = hsum hi S) ∨ (∃ S, ¬ bmeet (dWo D u) S = true ∧ bmeet D S = true ∧ cM (L1 ++ D :: L2) S = hsum lo S) := by
  obtain ⟨S, hS⟩ := Classical.not_forall.mp hf
  have hu := (h S).1
  have hl := (h S).2
  by_cases hc : cU (L1 ++ dWo D u :: L2) S ≤ hsum hi S
  · right
    have hc2 : ¬ hsum lo S ≤ cM (L1 ++ dWo D u :: L2) S := fun q => hS ⟨hc, q⟩
    refine ⟨S, ?_⟩
    rw [cM_app] at hc2 hl ⊢
    simp only [cM] at hc2 hl ⊢
    have b1 := gB_1 (bmeet D S)
    by_cases a : bmeet (dWo D u) S = true
    · rw [gB_t a] at hc2; omega
    · rw [gB_f a] at hc2
      by_cases b : bmeet D S = true
      · refine ⟨a, b, ?_⟩
        rw [gB_t b] at hl ⊢; omega
      · rw [gB_f b] at hl; omega
  · left
    refine ⟨S, ?_⟩
    rw [cU_app] at hc hu ⊢
    simp only [cU] at hc hu ⊢
    have b1 := gB_1 (bsub (dWo D u) S)
    by_cases a : bsub D S = true
    · rw [gB_t a] at hu; omega
    · rw [gB_f a] at hu ⊢
      by_cases b : bsub (dWo D u) S = true
      · refine ⟨b, a, ?_⟩
        rw [gB_t b] at hc; omega
      · rw [gB_f b] at hc; omega
theorem wo_u {D S : Nat → Bool} {u : Nat} (h1 : bsub (dWo D u) S = true) (h2 : ¬ bsub D S = true) : ¬ S u = true := fun q => h2 ((bsub_iff _ _).mpr fun v hv hD => by
  by_cases e : v = u
  · rw [e]; exact q
  · exact (bsub_iff _ _).mp h1 v hv (dWo_of hD e))
theorem wo_m {D S : Nat → Bool} {u : Nat} (h1 : ¬ bmeet (dWo D u) S = true) {v : Nat} (hv : v < 5) (hD : D v = true) (hn : v ≠ u) : ¬ S v = true := fun q => h1 ((bmeet_iff _ _).mpr ⟨v, hv, dWo_of hD hn, q⟩)
theorem wo_m2 {D S : Nat → Bool} {u : Nat} (h1 : ¬ bmeet (dWo D u) S = true) (h2 : bmeet D S = true) : S u = true := by
  obtain ⟨v, hv, hD, hS⟩ := (bmeet_iff _ _).mp h2
  by_cases e : v = u
  · rw [← e]; exact hS
  · exact absurd hS (wo_m h1 hv hD e)
theorem hall_mix {lo hi : Nat → Nat} (hlh : ∀ v, v < 5 → lo v ≤ hi v) {L1 L2 : List (Nat → Bool)} {D : Nat → Bool} (h : hall lo hi (L1 ++ D :: L2)) {u v : Nat} (hu : u < 5) (hv : v < 5) (hn : u ≠ v) (hDu : D u = true) (hDv : D v = true)
    {S T : Nat → Bool} (s1 : bsub (dWo D u) S = true) (s2 : ¬ bsub D S = true) (s3 : cU (L1 ++ D :: L2) S = hsum hi S) (t1 : ¬ bmeet (dWo D v) T = true) (t2 : bmeet D T = true) (t3 : cM (L1 ++ D :: L2) T = hsum lo T) : False := by
  have a1 := (h (sDi S T)).1
  have a2 := (h (sDi T S)).2
  have m1 := lX L1 S T
  have m2 := lX L2 S T
  have hvS : S v = true := (bsub_iff _ _).mp s1 v hv (dWo_of hDv (Ne.symm hn))
  have e1 : ¬ bmeet D (sDi T S) = true := fun q => by
    obtain ⟨w, hw, hDw, hTw⟩ := (bmeet_iff _ _).mp q
    simp only [sDi, Bool.and_eq_true, Bool.not_eq_true'] at hTw
    by_cases e : w = v
    · rw [e, hvS] at hTw; cases hTw.2
    · exact wo_m t1 hw hDw e hTw.1
  rw [cU_app] at s3 a1
  rw [cM_app] at t3 a2
  simp only [cU, cM] at s3 a1 t3 a2
  rw [gB_f s2] at s3
  rw [gB_t t2] at t3
  rw [gB_f e1] at a2
  have b1 := gB_1 (bsub D (sDi S T))
  have e2 : ¬ bsub D (sDi S T) = true := fun q => s2 ((bsub_iff _ _).mpr fun w hw hDw => by
    have := (bsub_iff _ _).mp q w hw hDw
    simp only [sDi, Bool.and_eq_true] at this
    exact this.1)
  rw [gB_f e2] at a1
  have d1 := hsum_di hi S T
  have d2 := hsum_di lo T S
  have d3 := hsum_cm lo T S
  have d4 := hsum_le hlh (sIn S T)
  omega
/-- of two values of a domain, one may go -/
theorem hall_step {lo hi : Nat → Nat} (hlh : ∀ v, v < 5 → lo v ≤ hi v) {L1 L2 : List (Nat → Bool)} {D : Nat → Bool} (h : hall lo hi (L1 ++ D :: L2)) {u v : Nat} (hu : u < 5) (hv : v < 5) (hn : u ≠ v) (hDu : D u = true) (hDv : D v = true) : hall lo hi (L1 ++ dWo D u :: L2) ∨ hall lo hi (L1 ++ dWo D v :: L2) := by
  apply Classical.byContradiction
  intro hno
  have n1 : ¬ hall lo hi (L1 ++ dWo D u :: L2) := fun q => hno (Or.inl q)
  have n2 : ¬ hall lo hi (L1 ++ dWo D v :: L2) := fun q => hno (Or.inr q)
  rcases fail_at h n1 with ⟨S, s1, s2, s3⟩ | ⟨S, s1, s2, s3⟩ <;> rcases fail_at h n2 with ⟨T, t1, t2, t3⟩ | ⟨T, t1, t2, t3⟩
  · have a1 := (h (sUn S T)).1
    have a2 := (h (sIn S T)).1
    have m1 := lU L1 S T
    have m2 := lU L2 S T
    have md := hsum_mod hi S T
    have e1 : bsub D (sUn S T) = true := (bsub_iff _ _).mpr fun w hw hDw => by
      by_cases e : w = u
      · have : T w = true := (bsub_iff _ _).mp t1 w hw (dWo_of hDw (by rw [e]; exact hn))
        simp [sUn, this]
      · have : S w = true := (bsub_iff _ _).mp s1 w hw (dWo_of hDw e)
        simp [sUn, this]
    rw [cU_app] at s3 t3 a1 a2
    simp only [cU] at s3 t3 a1 a2
    rw [gB_f s2] at s3
    rw [gB_f t2] at t3
    rw [gB_t e1] at a1
    omega
  · exact hall_mix hlh h hu hv hn hDu hDv s1 s2 s3 t1 t2 t3
  · exact hall_mix hlh h hv hu (Ne.symm hn) hDv hDu t1 t2 t3 s1 s2 s3
  · have a1 := (h (sUn S T)).2
    have a2 := (h (sIn S T)).2
    have m1 := lM L1 S T
    have m2 := lM L2 S T
    have md := hsum_mod lo S T
    have e1 : ¬ bmeet D (sIn S T) = true := fun q => by
      obtain ⟨w, hw, hDw, hw2⟩ := (bmeet_iff _ _).mp q
      simp only [sIn, Bool.and_eq_true] at hw2
      by_cases e : w = u
      · exact wo_m t1 hw hDw (by rw [e]; exact hn) hw2.2
      · exact wo_m s1 hw hDw e hw2.1
    rw [cM_app] at s3 t3 a1 a2
    simp only [cM] at s3 t3 a1 a2
    rw [gB_t s2] at s3
    rw [gB_t t2] at t3
    rw [gB_f e1] at a2
    have b1 := gB_1 (bmeet D (sUn S T))
    omega
def dsz (D : Nat → Bool) : Nat := gB (D 0) + gB (D 1) + gB (D 2) + gB (D 3) + gB (D 4)
def lsz : List (Nat → Bool) → Nat
  | [] => 0
  | D :: L => dsz D + lsz L
theorem lsz_app (L1 L2 : List (Nat → Bool)) : lsz (L1 ++ L2) = lsz L1 + lsz L2 := by
  induction L1 with
  | nil => simp [lsz]
  | cons D L ih => simp only [List.cons_append, lsz, ih]; omega
theorem dsz_wo {D : Nat → Bool} {u : Nat} (hu : u < 5) (h : D u = true) : dsz (dWo D u) < dsz D := by
  have k : ∀ v, gB (dWo D u v) ≤ gB (D v) := fun v => gB_le fun q => (dWo_to q).1
  have k0 := k 0; have k1 := k 1; have k2 := k 2; have k3 := k 3; have k4 := k 4
  have ku : gB (dWo D u u) = 0 := gB_f (fun q => (dWo_to q).2 rfl)
  have kd : gB (D u) = 1 := gB_t h
  unfold dsz
  rcases lt5 hu with rfl | rfl | rfl | rfl | rfl <;> omega
def fitA : List (Nat → Bool) → List Nat → Prop
  | [], [] => True
  | D :: L, a :: A => a < 5 ∧ D a = true ∧ fitA L A
  | _, _ => False
def cntA (v : Nat) : List Nat → Nat
  | [] => 0
  | a :: A => gB (decide (a = v)) + cntA v A
theorem fitA_mono {D D' : Nat → Bool} (hD : ∀ v, D' v = true → D v = true) : ∀ (L1 L2 : List (Nat → Bool)) (A : List Nat), fitA (L1 ++ D' :: L2) A → fitA (L1 ++ D :: L2) A
  | [], L2, [], h => h.elim
  | [], L2, a :: A, h => ⟨h.1, hD _ h.2.1, h.2.2⟩
  | E :: L1, L2, [], h => h.elim
  | E :: L1, L2, a :: A, h => ⟨h.1, h.2.1, fitA_mono hD L1 L2 A h.2.2⟩
def pick5 (D : Nat → Bool) : Nat := if D 0 then 0 else if D 1 then 1 else if D 2 then 2 else if D 3 then 3 else 4
theorem pick5_in {D : Nat → Bool} (h : ∃ v, v < 5 ∧ D v = true) : pick5 D < 5 ∧ D (pick5 D) = true := by
  unfold pick5
  by_cases h0 : D 0 = true
  · rw [if_pos h0]; exact ⟨by omega, h0⟩
  · rw [if_neg h0]
    by_cases h1 : D 1 = true
    · rw [if_pos h1]; exact ⟨by omega, h1⟩
    · rw [if_neg h1]
      by_cases h2 : D 2 = true
      · rw [if_pos h2]; exact ⟨by omega, h2⟩
      · rw [if_neg h2]
        by_cases h3 : D 3 = true
        · rw [if_pos h3]; exact ⟨by omega, h3⟩
        · rw [if_neg h3]
          obtain ⟨v, hv, hD⟩ := h
          rcases lt5 hv with rfl | rfl | rfl | rfl | rfl
          · exact absurd hD h0
          · exact absurd hD h1
          · exact absurd hD h2
          · exact absurd hD h3
          · exact ⟨by omega, hD⟩
def one5 (v : Nat) : Nat → Bool := fun w => decide (w = v)
theorem hsum_one (f : Nat → Nat) {v : Nat} (hv : v < 5) : hsum f (one5 v) = f v := by
  unfold hsum sum5 one5
  rcases lt5 hv with rfl | rfl | rfl | rfl | rfl <;> simp
theorem cnt_one {L : List (Nat → Bool)} (hne : ∀ D ∈ L, ∃ v, v < 5 ∧ D v = true) (hun : ∀ D ∈ L, ∀ u v, u < 5 → v < 5 → D u = true → D v = true → u = v) {v : Nat} (hv : v < 5) : cU L (one5 v) = cntA v (L.map pick5) ∧ cM L (one5 v) = cntA v (L.map pick5) := by
  induction L with
  | nil => exact ⟨rfl, rfl⟩
  | cons D L ih =>
    obtain ⟨i1, i2⟩ := ih (fun E hE => hne E (List.mem_cons_of_mem _ hE)) (fun E hE => hun E (List.mem_cons_of_mem _ hE))
    have hp := pick5_in (hne D List.mem_cons_self)
    have hu := hun D List.mem_cons_self
    have e1 : bsub D (one5 v) = decide (pick5 D = v) := by
      by_cases e : pick5 D = v
      · rw [decide_eq_true e]
        exact (bsub_iff _ _).mpr fun w hw hDw => by simp [one5, hu w (pick5 D) hw hp.1 hDw hp.2, e]
      · rw [decide_eq_false e]
        cases hb : bsub D (one5 v)
        · rfl
        · have := (bsub_iff _ _).mp hb _ hp.1 hp.2
          simp [one5] at this
          exact absurd this e
    have e2 : bmeet D (one5 v) = decide (pick5 D = v) := by
      by_cases e : pick5 D = v
      · rw [decide_eq_true e]
        exact (bmeet_iff _ _).mpr ⟨_, hp.1, hp.2, by simp [one5, e]⟩
      · rw [decide_eq_false e]
        cases hb : bmeet D (one5 v)
        · rfl
        · obtain ⟨w, hw, hDw, hS⟩ := (bmeet_iff _ _).mp hb
          simp [one5] at hS
          exact absurd ((hu _ w hp.1 hw hp.2 hDw).trans hS) e
    simp only [cU, cM, List.map_cons, cntA, e1, e2, i1, i2]
    exact ⟨trivial, trivial⟩
theorem fit_pick {L : List (Nat → Bool)} (hne : ∀ D ∈ L, ∃ v, v < 5 ∧ D v = true) : fitA L (L.map pick5) := by
  induction L with
  | nil => exact trivial
  | cons D L ih =>
    have hp := pick5_in (hne D List.mem_cons_self)
    exact ⟨hp.1, hp.2, ih (fun E hE => hne E (List.mem_cons_of_mem _ hE))⟩
theorem cU_pos {L : List (Nat → Bool)} {D : Nat → Bool} (h : D ∈ L) {S : Nat → Bool} (hs : bsub D S = true) : 0 < cU L S := by
  induction L with
  | nil => cases h
  | cons E L ih =>
    simp only [cU]
    rcases List.mem_cons.mp h with e | h
    · rw [← e, gB_t hs]; omega
    · have := ih h; omega
theorem hsum_no (f : Nat → Nat) : hsum f (fun _ => false) = 0 := by simp [hsum, sum5]
/-- Hall's condition gives an assignment with the numbers asked for -/
theorem hall_ex {lo hi : Nat → Nat} (hlh : ∀ v, v < 5 → lo v ≤ hi v) : ∀ (n : Nat) (L : List (Nat → Bool)), lsz L ≤ n → hall lo hi L → ∃ A, fitA L A ∧ ∀ v, v < 5 → lo v ≤ cntA v A ∧ cntA v A ≤ hi v := by
  intro n
  induction n with
  | zero =>
    intro L hL h
    cases L with
    | nil =>
      refine ⟨[], trivial, fun v hv => ?_⟩
      have := h (one5 v)
      rw [hsum_one hi hv, hsum_one lo hv] at this
      exact ⟨this.2, this.1⟩
    | cons D L =>
      exfalso
      have h0 := (h (fun _ => false)).1
      rw [hsum_no] at h0
      have hD : dsz D = 0 := by simp only [lsz] at hL; omega
      have hs : bsub D (fun _ => false) = true := (bsub_iff _ _).mpr fun v hv q => by
        have := gB_t q
        unfold dsz at hD
        rcases lt5 hv with rfl | rfl | rfl | rfl | rfl <;> omega
      have := cU_pos (L := D :: L) List.mem_cons_self hs
      omega
  | succ n ih =>
    intro L hL h
    by_cases hx : ∃ (L1 L2 : List (Nat → Bool)) (D : Nat → Bool) (u v : Nat), L = L1 ++ D :: L2 ∧ u < 5 ∧ v < 5 ∧ u ≠ v ∧ D u = true ∧ D v = true
    · obtain ⟨L1, L2, D, u, v, rfl, hu, hv, hn, hDu, hDv⟩ := hx
      have small : ∀ w, w < 5 → D w = true → lsz (L1 ++ dWo D w :: L2) ≤ n := fun w hw hDw => by
        have := dsz_wo hw hDw
        rw [lsz_app] at hL ⊢
        simp only [lsz] at hL ⊢
        omega
      rcases hall_step hlh h hu hv hn hDu hDv with h | h
      · obtain ⟨A, h1, h2⟩ := ih _ (small u hu hDu) h
        exact ⟨A, fitA_mono (fun w q => (dWo_to q).1) _ _ _ h1, h2⟩
      · obtain ⟨A, h1, h2⟩ := ih _ (small v hv hDv) h
        exact ⟨A, fitA_mono (fun w q => (dWo_to q).1) _ _ _ h1, h2⟩
    · have hun : ∀ D ∈ L, ∀ u v, u < 5 → v < 5 → D u = true → D v = true → u = v := by
        intro D hD u v hu hv hDu hDv
        apply Classical.byContradiction
        intro hn
        obtain ⟨L1, L2, e⟩ := List.append_of_mem hD
        exact hx ⟨L1, L2, D, u, v, e, hu, hv, hn, hDu, hDv⟩
      have hne : ∀ D ∈ L, ∃ v, v < 5 ∧ D v = true := by
        intro D hD
        apply Classical.byContradiction
        intro hn
        have hs : bsub D (fun _ => false) = true := (bsub_iff _ _).mpr fun v hv q => absurd ⟨v, hv, q⟩ hn
        have h0 := (h (fun _ => false)).1
        rw [hsum_no] at h0
        have := cU_pos hD hs
        omega
      refine ⟨L.map pick5, fit_pick hne, fun v hv => ?_⟩
      obtain ⟨c1, c2⟩ := cnt_one hne hun hv
      have := h (one5 v)
      rw [hsum_one hi hv, hsum_one lo hv, c1, c2] at this
      exact ⟨this.2, this.1⟩
/-- how many of an assignment's values lie in a set -/
def inA (S : Nat → Bool) : List Nat → Nat
  | [] => 0
  | a :: A => gB (S a) + inA S A
theorem inA_cnt (S : Nat → Bool) {A : List Nat} (h : ∀ a ∈ A, a < 5) : inA S A = hsum (fun v => cntA v A) S := by
  induction A with
  | nil => simp [inA, hsum, sum5, cntA]
  | cons a A ih =>
    simp only [inA, ih (fun b hb => h b (List.mem_cons_of_mem _ hb))]
    have ha := h a List.mem_cons_self
    unfold hsum sum5
    simp only [cntA]
    rcases lt5 ha with rfl | rfl | rfl | rfl | rfl
    all_goals
      cases S 0 <;> cases S 1 <;> cases S 2 <;> cases S 3 <;> cases S 4 <;> simp [gB] <;> omega
theorem fitA_lt : ∀ {L : List (Nat → Bool)} {A : List Nat}, fitA L A → ∀ a ∈ A, a < 5
  | [], [], _, a, h => by cases h
  | [], _ :: _, h, _, _ => h.elim
  | _ :: _, [], h, _, _ => h.elim
  | D :: L, b :: A, h, a, ha => by
    rcases List.mem_cons.mp ha with e | ha
    · rw [e]; exact h.1
    · exact fitA_lt h.2.2 a ha
theorem fit_in : ∀ {L : List (Nat → Bool)} {A : List Nat} (S : Nat → Bool), fitA L A → cU L S ≤ inA S A ∧ inA S A ≤ cM L S
  | [], [], _, _ => ⟨Nat.le_refl _, Nat.le_refl _⟩
  | [], _ :: _, _, h => h.elim
  | _ :: _, [], _, h => h.elim
  | D :: L, a :: A, S, h => by
    obtain ⟨i1, i2⟩ := fit_in S h.2.2
    have h1 : gB (bsub D S) ≤ gB (S a) := gB_le fun q => (bsub_iff _ _).mp q a h.1 h.2.1
    have h2 : gB (S a) ≤ gB (bmeet D S) := gB_le fun q => (bmeet_iff _ _).mpr ⟨a, h.1, h.2.1, q⟩
    simp only [cU, cM, inA]
    omega
/-- an assignment with the numbers asked for gives Hall's condition -/
theorem ex_hall {lo hi : Nat → Nat} {L : List (Nat → Bool)} {A : List Nat} (h : fitA L A) (hc : ∀ v, v < 5 → lo v ≤ cntA v A ∧ cntA v A ≤ hi v) : hall lo hi L := by
  intro S
  obtain ⟨i1, i2⟩ := fit_in S h
  have e := inA_cnt S (fitA_lt h)
  have h1 : hsum (fun v => cntA v A) S ≤ hsum hi S := hsum_le (fun v hv => (hc v hv).2) S
  have h2 : hsum lo S ≤ hsum (fun v => cntA v A) S := hsum_le (fun v hv => (hc v hv).1) S
  omega

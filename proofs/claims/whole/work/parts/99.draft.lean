/-! NUMBERS: small numbers as Int32 and Int64, sets of five values as numbers below 32 -/
def ngI : Int32 := -1
theorem ng_d : (-1 : Int32) = ngI := rfl
theorem ng_2 : (-2 : Int32) = ngI + ngI := by decide
theorem c_0 : (0 : Int32) = nI 0 := rfl
theorem c_1 : (1 : Int32) = nI 1 := rfl
theorem c_2 : (2 : Int32) = nI 2 := rfl
theorem c_3 : (3 : Int32) = nI 3 := rfl
theorem c_4 : (4 : Int32) = nI 4 := rfl
theorem c_5 : (5 : Int32) = nI 5 := rfl
theorem c_6 : (6 : Int32) = nI 6 := rfl
theorem c_7 : (7 : Int32) = nI 7 := rfl
theorem c_8 : (8 : Int32) = nI 8 := rfl
theorem c_9 : (9 : Int32) = nI 9 := rfl
theorem c_10 : (10 : Int32) = nI 10 := rfl
theorem c_11 : (11 : Int32) = nI 11 := rfl
theorem c_12 : (12 : Int32) = nI 12 := rfl
theorem c_14 : (14 : Int32) = nI 14 := rfl
theorem c_16 : (16 : Int32) = nI 16 := rfl
theorem c_19 : (19 : Int32) = nI 19 := rfl
theorem c_20 : (20 : Int32) = nI 20 := rfl
theorem c_24 : (24 : Int32) = nI 24 := rfl
theorem c_31 : (31 : Int32) = nI 31 := rfl
theorem c_32 : (32 : Int32) = nI 32 := rfl
theorem c_35 : (35 : Int32) = nI 35 := rfl
theorem c_48 : (48 : Int32) = nI 48 := rfl
theorem c_57 : (57 : Int32) = nI 57 := rfl
theorem c_59 : (59 : Int32) = nI 59 := rfl
theorem c_63 : (63 : Int32) = nI 63 := rfl
theorem c_97 : (97 : Int32) = nI 97 := rfl
theorem c_100 : (100 : Int32) = nI 100 := rfl
theorem c_122 : (122 : Int32) = nI 122 := rfl
theorem c_127 : (127 : Int32) = nI 127 := rfl
theorem c_169 : (169 : Int32) = nI 169 := rfl
theorem c_255 : (255 : Int32) = nI 255 := rfl
theorem c_600 : (600 : Int32) = nI 600 := rfl
theorem c_1000 : (1000 : Int32) = nI 1000 := rfl
theorem c_32767 : (32767 : Int32) = nI 32767 := rfl
theorem c_252645135 : (252645135 : Int32) = nI 252645135 := rfl
theorem c_858993459 : (858993459 : Int32) = nI 858993459 := rfl
theorem c_1431655765 : (1431655765 : Int32) = nI 1431655765 := rfl
theorem o_le {a b : Nat} (ha : a < 2147483648) (hb : b < 2147483648) : (nI a ≤ nI b) = (a ≤ b) := propext (nI_leI ha hb)
theorem o_lt {a b : Nat} (ha : a < 2147483648) (hb : b < 2147483648) : (nI a < nI b) = (a < b) := propext (nI_ltI ha hb)
theorem o_eq {a b : Nat} (ha : a < 2147483648) (hb : b < 2147483648) : (nI a = nI b) = (a = b) := propext (nI_eq ha hb)
theorem o_add (a b : Nat) : nI a + nI b = nI (a + b) := nI_add a b
theorem o_mul (a b : Nat) : nI a * nI b = nI (a * b) := pk_mul a b
theorem o_sub {a b : Nat} (h : b ≤ a) : nI a - nI b = nI (a - b) := pk_sub h
theorem o_cl {a : Nat} (h : a < 2147483648) : (nI a).toNatClampNeg = a := nI_clamp h
theorem o_in {a n : Nat} (h : a < 2147483648) : vp_in (nI a) n = (a < n) := by
  apply propext
  rw [vp_in_iff, nI_toInt h]
  omega
theorem o_inT {a n : Nat} (h : a < 2147483648) (h2 : a < n) : vp_in (nI a) n = True := by rw [o_in h]; exact propext ⟨fun _ => trivial, fun _ => h2⟩
theorem b01 (b : Bool) : (b = false ∨ b = true) = True := by cases b <;> simp
theorem o_toInt {a : Nat} (h : a < 2147483648) : (nI a).toInt = (a : Int) := nI_toInt h
theorem m_lt (b : Nat) (hb : b < 2147483648) : (ngI < nI b) = True := by
  apply propext
  rw [Int32.lt_iff_toInt_lt, nI_toInt hb]
  have : ngI.toInt = -1 := rfl
  rw [this]
  constructor
  · intro _; trivial
  · intro _; omega
theorem m_ge (b : Nat) (hb : b < 2147483648) : (nI b ≤ ngI) = False := by
  apply propext
  rw [Int32.le_iff_toInt_le, nI_toInt hb]
  have : ngI.toInt = -1 := rfl
  rw [this]
  constructor
  · intro h; omega
  · intro h; exact h.elim
theorem m_le (b : Nat) (hb : b < 2147483648) : (ngI ≤ nI b) = True := by
  apply propext
  rw [Int32.le_iff_toInt_le, nI_toInt hb]
  have : ngI.toInt = -1 := rfl
  rw [this]
  constructor
  · intro _; trivial
  · intro _; omega
theorem m_gt (b : Nat) (hb : b < 2147483648) : (nI b < ngI) = False := by
  apply propext
  rw [Int32.lt_iff_toInt_lt, nI_toInt hb]
  have : ngI.toInt = -1 := rfl
  rw [this]
  constructor
  · intro h; omega
  · intro h; exact h.elim
theorem m_ne (b : Nat) (hb : b < 2147483648) : (nI b = ngI) = False := by
  apply propext
  constructor
  · intro h
    have h1 := congrArg Int32.toInt h
    rw [nI_toInt hb] at h1
    have : ngI.toInt = -1 := rfl
    rw [this] at h1
    omega
  · intro h; exact h.elim
theorem m_ne2 (b : Nat) (hb : b < 2147483648) : (ngI = nI b) = False := by
  apply propext
  constructor
  · intro h
    have := (m_ne b hb).mp h.symm
    exact this
  · intro h; exact h.elim
theorem o_neg0 {a : Nat} (h : a < 2147483648) : (nI a < nI 0) = False := by
  rw [o_lt h (by omega)]
  apply propext
  constructor
  · intro h; omega
  · intro h; exact h.elim
theorem o_ge0 {a : Nat} (h : a < 2147483648) : (nI 0 ≤ nI a) = True := by
  rw [o_le (by omega) h]
  apply propext
  constructor
  · intro _; trivial
  · intro _; omega
theorem o_and (a b : Nat) : nI a &&& nI b = nI (a &&& b) := by
  apply Int32.toBitVec_inj.1
  show BitVec.ofNat 32 a &&& BitVec.ofNat 32 b = BitVec.ofNat 32 (a &&& b)
  apply BitVec.eq_of_getLsbD_eq
  intro i hi
  simp [hi]
theorem o_or (a b : Nat) : nI a ||| nI b = nI (a ||| b) := by
  apply Int32.toBitVec_inj.1
  show BitVec.ofNat 32 a ||| BitVec.ofNat 32 b = BitVec.ofNat 32 (a ||| b)
  apply BitVec.eq_of_getLsbD_eq
  intro i hi
  simp [hi]
theorem o_and31 {v : Nat} (h : v < 32) : nI v &&& nI 31 = nI v := by
  have e : v &&& 31 = v % 32 := Nat.and_two_pow_sub_one_eq_mod v 5
  rw [o_and, e, Nat.mod_eq_of_lt h]
theorem sm32 : ∀ v, v < 32 → ((nI v).toBitVec.smod 32).toNat = v := by decide +kernel
theorem um32 : ∀ v, v < 32 → (((nI v).toUInt32 &&& Int32.toUInt32 31).toBitVec % 32).toNat = v := by decide +kernel
theorem o_shr {a v : Nat} (ha : a < 2147483648) (hv : v < 32) : nI a >>> nI v = nI (a >>> v) := by
  rw [pk_shrN ha _ v (sm32 v hv), Nat.shiftRight_eq_div_pow]
theorem o_shl {a v : Nat} (hv : v < 32) (h : a * 2 ^ v < 2 ^ 32) : nI a <<< nI v = nI (a * 2 ^ v) := pk_shlN _ v (sm32 v hv) h
theorem o_shl1 {v : Nat} (hv : v < 31) : nI 1 <<< nI v = nI (2 ^ v) := by
  have h : 2 ^ v < 2 ^ 32 := Nat.pow_lt_pow_right (by decide) (by omega)
  rw [o_shl (by omega) (by omega), Nat.one_mul]
theorem o_ushr {a v : Nat} (ha : a < 2147483648) (hv : v < 32) : ((nI a).toUInt32 >>> ((nI v).toUInt32 &&& Int32.toUInt32 (nI 31))).toInt32 = nI (a >>> v) := by
  have h := pk_ushrN (n := a) (by omega) (nI v) v (um32 v hv)
  rw [Nat.shiftRight_eq_div_pow]
  exact h
theorem o_has (d v : Nat) : (nI ((d >>> v) &&& 1) = nI 1) = (d.testBit v = true) := by
  have h1 : (d >>> v) &&& 1 < 2 := Nat.lt_of_le_of_lt Nat.and_le_right (by decide)
  rw [o_eq (by omega) (by omega), Nat.testBit]
  rw [Nat.and_comm]
  apply propext
  have h2 : 1 &&& (d >>> v) < 2 := Nat.lt_of_le_of_lt Nat.and_le_left (by decide)
  generalize 1 &&& (d >>> v) = z at h2
  have h3 : z = 0 ∨ z = 1 := by omega
  rcases h3 with rfl | rfl <;> simp
theorem o_has0 (d v : Nat) : (nI ((d >>> v) &&& 1) = nI 0) = (d.testBit v = false) := by
  have h1 : (d >>> v) &&& 1 < 2 := Nat.lt_of_le_of_lt Nat.and_le_right (by decide)
  rw [o_eq (by omega) (by omega), Nat.testBit]
  rw [Nat.and_comm]
  apply propext
  have h2 : 1 &&& (d >>> v) < 2 := Nat.lt_of_le_of_lt Nat.and_le_left (by decide)
  generalize 1 &&& (d >>> v) = z at h2
  have h3 : z = 0 ∨ z = 1 := by omega
  rcases h3 with rfl | rfl <;> simp
/-- a truth as a number -/
def bI (b : Bool) : Int32 := if b then nI 1 else nI 0
theorem bI_t : bI true = nI 1 := rfl
theorem bI_f : bI false = nI 0 := rfl
theorem bI_0 (b : Bool) : (bI b = nI 0) = (b = false) := by
  cases b
  · simp [bI]
  · simp only [bI, if_true]; rw [o_eq (by omega) (by omega)]; simp
theorem bI_1 (b : Bool) : (bI b = nI 1) = (b = true) := by
  cases b
  · simp only [bI, Bool.false_eq_true, if_false]; rw [o_eq (by omega) (by omega)]; simp
  · simp [bI]
theorem bI_01 (b : Bool) : (bI b = nI 0 ∨ bI b = nI 1) = True := by
  rw [bI_0, bI_1]
  cases b <;> simp
/-- five values as a number below 32 -/
def clr (d v : Nat) : Nat := d &&& (31 ^^^ (2 ^ v))
theorem dm_clr : ∀ d, d < 32 → ∀ v, v < 5 → nI d &&& (nI (2 ^ v) ^^^ ngI) = nI (clr d v) := by decide +kernel
theorem dm_clr_lt : ∀ d, d < 32 → ∀ v, v < 5 → clr d v < 32 := by decide +kernel
theorem dm_clr_tb : ∀ d, d < 32 → ∀ v, v < 5 → ∀ u, u < 5 → (clr d v).testBit u = (d.testBit u && decide (u ≠ v)) := by decide +kernel
def andn (d s : Nat) : Nat := d &&& (31 ^^^ s)
theorem dm_andn : ∀ d, d < 32 → ∀ s, s < 32 → nI d &&& (nI s ^^^ ngI) = nI (andn d s) := by decide +kernel
theorem dm_andn_tb : ∀ d, d < 32 → ∀ s, s < 32 → ∀ u, u < 5 → (andn d s).testBit u = (d.testBit u && !s.testBit u) := by decide +kernel
theorem dm_andn_lt : ∀ d, d < 32 → ∀ s, s < 32 → andn d s < 32 := by decide +kernel
theorem dm_and_lt : ∀ d, d < 32 → ∀ s, s < 32 → d &&& s < 32 := by decide +kernel
theorem dm_0 : ∀ d, d < 32 → (d = 0 ↔ ∀ v, v < 5 → d.testBit v = false) := by decide +kernel
theorem dm_ex {d : Nat} (h : d < 32) (h0 : d ≠ 0) : ∃ v, v < 5 ∧ d.testBit v = true := by
  apply Classical.byContradiction
  intro hn
  apply h0
  rw [dm_0 d h]
  intro v hv
  cases hb : d.testBit v
  · rfl
  · exact absurd ⟨v, hv, hb⟩ hn
theorem dm_ext : ∀ d, d < 32 → ∀ s, s < 32 → (∀ v, v < 5 → d.testBit v = s.testBit v) → d = s := by decide +kernel
theorem dm_pow_tb : ∀ v, v < 5 → ∀ u, u < 5 → (2 ^ v).testBit u = decide (u = v) := by decide +kernel
theorem dm_pow_lt : ∀ v, v < 5 → 2 ^ v < 32 := by decide +kernel
theorem dm_hi : ∀ d, d < 32 → ∀ u, u < 40 → 5 ≤ u → d.testBit u = false := by decide +kernel
/-- how many bits, of so many -/
def pcn : Nat → Nat → Nat
  | 0, _ => 0
  | k + 1, d => d % 2 + pcn k (d / 2)
theorem pcn_le (k d : Nat) : pcn k d ≤ k := by
  induction k generalizing d with
  | zero => exact Nat.le_refl _
  | succ k ih =>
    have := ih (d / 2)
    have h2 := Nat.mod_lt d (show 0 < 2 by decide)
    simp only [pcn]
    omega
theorem pcn_0 (k : Nat) : pcn k 0 = 0 := by
  induction k with
  | zero => rfl
  | succ k ih => simp [pcn, ih]
theorem pcn_up {k m d : Nat} (h : d < 2 ^ k) (hk : k ≤ m) : pcn m d = pcn k d := by
  induction k generalizing m d with
  | zero =>
    have : d = 0 := by simpa using h
    rw [this, pcn_0, pcn_0]
  | succ k ih =>
    obtain ⟨m, rfl⟩ : ∃ j, m = j + 1 := ⟨m - 1, by omega⟩
    simp only [pcn]
    rw [ih (m := m) (by rw [Nat.pow_succ] at h; omega) (by omega)]
/-- a sum of digits, k bits each -/
def ds (k : Nat) (f : Nat → Nat) : Nat → Nat
  | 0 => 0
  | n + 1 => ds k f n + 2 ^ (k * n) * f n
theorem ds_lt {k : Nat} {f : Nat → Nat} {n : Nat} (h : ∀ i, i < n → f i < 2 ^ k) : ds k f n < 2 ^ (k * n) := by
  induction n with
  | zero => simp [ds]
  | succ n ih =>
    have h1 := ih (fun i hi => h i (by omega))
    have h2 := h n (by omega)
    simp only [ds]
    rw [show k * (n + 1) = k * n + k by rw [Nat.mul_add, Nat.mul_one], Nat.pow_add]
    have h3 : 2 ^ (k * n) * (f n + 1) ≤ 2 ^ (k * n) * 2 ^ k := Nat.mul_le_mul_left _ h2
    rw [Nat.mul_add, Nat.mul_one] at h3
    omega
theorem ds_tb {k : Nat} (hk : 0 < k) {f : Nat → Nat} {n : Nat} (h : ∀ i, i < n → f i < 2 ^ k) (i : Nat) : (ds k f n).testBit i = (decide (i < k * n) && (f (i / k)).testBit (i % k)) := by
  induction n with
  | zero => simp [ds]
  | succ n ih =>
    have h1 := ih (fun i hi => h i (by omega))
    have h2 := h n (by omega)
    have h3 := ds_lt (k := k) (f := f) (n := n) (fun i hi => h i (by omega))
    simp only [ds]
    rw [Nat.add_comm, Nat.testBit_two_pow_mul_add _ h3]
    by_cases hi : i < k * n
    · rw [if_pos hi, h1]
      have : i < k * (n + 1) := by rw [Nat.mul_add]; omega
      simp [hi, this]
    · rw [if_neg hi]
      by_cases hj : i < k * (n + 1)
      · have hd : i / k = n := by
          apply Nat.div_eq_of_lt_le
          · rw [Nat.mul_comm]; omega
          · rw [Nat.mul_comm]; exact hj
        have hm : i % k = i - k * n := by
          have := Nat.div_add_mod i k
          rw [hd] at this
          omega
        rw [hd, hm]
        simp [hj]
      · have hge : k ≤ i - k * n := by rw [Nat.mul_add, Nat.mul_one] at hj; omega
        have : (f n).testBit (i - k * n) = false := Nat.testBit_lt_two_pow (Nat.lt_of_lt_of_le h2 (Nat.pow_le_pow_right (by decide) hge))
        simp [hj, this]
theorem ds_cong {k : Nat} {f g : Nat → Nat} {n : Nat} (h : ∀ i, i < n → f i = g i) : ds k f n = ds k g n := by
  induction n with
  | zero => rfl
  | succ n ih => simp only [ds]; rw [ih (fun i hi => h i (by omega)), h n (by omega)]
/-- a sum, a count, below a bound -/
def sN (f : Nat → Nat) : Nat → Nat
  | 0 => 0
  | k + 1 => sN f k + f k
def cN (p : Nat → Bool) : Nat → Nat
  | 0 => 0
  | k + 1 => cN p k + (if p k then 1 else 0)
theorem cN_s (p : Nat → Bool) (k : Nat) : cN p (k + 1) = cN p k + (if p k = true then 1 else 0) := rfl
theorem sN_s (f : Nat → Nat) (k : Nat) : sN f (k + 1) = sN f k + f k := rfl
theorem cN_le (p : Nat → Bool) (k : Nat) : cN p k ≤ k := by
  induction k with
  | zero => exact Nat.le_refl _
  | succ k ih => simp only [cN]; split <;> omega
theorem sN_le {f : Nat → Nat} {b : Nat} : ∀ {k : Nat}, (∀ i, i < k → f i ≤ b) → sN f k ≤ k * b := by
  intro k
  induction k with
  | zero => intro h; simp [sN]
  | succ k ih =>
    intro h
    have h1 := ih (fun i hi => h i (by omega))
    have h2 := h k (by omega)
    simp only [sN]
    rw [Nat.add_mul]
    omega
theorem sN_cong {f g : Nat → Nat} {k : Nat} (h : ∀ i, i < k → f i = g i) : sN f k = sN g k := by
  induction k with
  | zero => rfl
  | succ k ih => simp only [sN]; rw [ih (fun i hi => h i (by omega)), h k (by omega)]
theorem cN_cong {f g : Nat → Bool} {k : Nat} (h : ∀ i, i < k → f i = g i) : cN f k = cN g k := by
  induction k with
  | zero => rfl
  | succ k ih => simp only [cN]; rw [ih (fun i hi => h i (by omega)), h k (by omega)]
/-- a function changed at a place -/
def ud {α : Type} (f : Nat → α) (k : Nat) (v : α) : Nat → α := fun j => if j = k then v else f j
theorem ud_s {α : Type} (f : Nat → α) (k : Nat) (v : α) : ud f k v k = v := if_pos rfl
theorem ud_n {α : Type} (f : Nat → α) {k j : Nat} (v : α) (h : j ≠ k) : ud f k v j = f j := if_neg h
/-- a truth of a statement -/
noncomputable def dB (p : Prop) : Bool := @decide p (Classical.propDecidable p)
theorem dB_t {p : Prop} : dB p = true ↔ p := @decide_eq_true_iff p (Classical.propDecidable p)
theorem dB_f {p : Prop} : dB p = false ↔ ¬ p := @decide_eq_false_iff_not p (Classical.propDecidable p)
theorem dB_eq {p : Prop} {b : Bool} (h : b = true ↔ p) : b = dB p := by
  cases b
  · exact (dB_f.mpr (fun q => absurd (h.mpr q) (by decide))).symm
  · exact (dB_t.mpr (h.mp rfl)).symm
theorem dB_c {p q : Prop} (h : p ↔ q) : dB p = dB q := by rw [propext h]
/-- the pool but for some rows' numbers -/
def fr (A : List Nat) (S S' : PS) : Prop := pN S' = pN S ∧ pK S' = pK S ∧ pL S' = pL S ∧ pR S' = pR S ∧ ∀ a, a ∉ A → pI S' a = pI S a ∧ pJ S' a = pJ S a
theorem fr_r (A : List Nat) (S : PS) : fr A S S := ⟨rfl, rfl, rfl, rfl, fun _ _ => ⟨rfl, rfl⟩⟩
theorem fr_t {A : List Nat} {S S' S2 : PS} (h : fr A S S') (h2 : fr A S' S2) : fr A S S2 := ⟨h2.1.trans h.1, h2.2.1.trans h.2.1, h2.2.2.1.trans h.2.2.1, h2.2.2.2.1.trans h.2.2.2.1, fun a ha => ⟨(h2.2.2.2.2 a ha).1.trans (h.2.2.2.2 a ha).1, (h2.2.2.2.2 a ha).2.trans (h.2.2.2.2 a ha).2⟩⟩
theorem fr_m {A B : List Nat} (hs : ∀ a ∈ A, a ∈ B) {S S' : PS} (h : fr A S S') : fr B S S' := ⟨h.1, h.2.1, h.2.2.1, h.2.2.2.1, fun a ha => h.2.2.2.2 a (fun q => ha (hs a q))⟩
theorem fr_sI {A : List Nat} (S : PS) {a : Nat} (k : Nat) (v : Int32) (ha : a ∈ A) : fr A S (sI S a k v) := ⟨rfl, rfl, rfl, rfl, fun x hx => ⟨funext fun j => by rw [pI_sI, if_neg (show ¬ (x = a ∧ j = k) from fun q => hx (q.1 ▸ ha))], rfl⟩⟩
theorem fr_sJ {A : List Nat} (S : PS) {a : Nat} (k : Nat) (v : Int64) (ha : a ∈ A) : fr A S (sJ S a k v) := ⟨rfl, rfl, rfl, rfl, fun x hx => ⟨rfl, funext fun j => by rw [pJ_sJ, if_neg (show ¬ (x = a ∧ j = k) from fun q => hx (q.1 ▸ ha))]⟩⟩
theorem fr.N {A : List Nat} {S S' : PS} (h : fr A S S') : pN S' = pN S := h.1
theorem fr.K {A : List Nat} {S S' : PS} (h : fr A S S') (a : Nat) : pK S' a = pK S a := congrFun h.2.1 a
theorem fr.L {A : List Nat} {S S' : PS} (h : fr A S S') (a : Nat) : pL S' a = pL S a := congrFun h.2.2.1 a
theorem fr.R {A : List Nat} {S S' : PS} (h : fr A S S') (a k : Nat) : pR S' a k = pR S a k := congrFun (congrFun h.2.2.2.1 a) k
theorem fr.I {A : List Nat} {S S' : PS} (h : fr A S S') {a : Nat} (ha : a ∉ A) (k : Nat) : pI S' a k = pI S a k := congrFun (h.2.2.2.2 a ha).1 k
theorem fr.J {A : List Nat} {S S' : PS} (h : fr A S S') {a : Nat} (ha : a ∉ A) (k : Nat) : pJ S' a k = pJ S a k := congrFun (h.2.2.2.2 a ha).2 k
/-! the reference: object 87, its rows 88 .. 104 -/
def MShape (S : PS) : Prop := pK S 87 = 11 ∧ (pR S 87 1 = some 88 ∧ pK S 88 = 13 ∧ pL S 88 = 169) ∧ (pR S 87 2 = some 89 ∧ pK S 89 = 13 ∧ pL S 89 = 169) ∧ (pR S 87 3 = some 90 ∧ pK S 90 = 13 ∧ pL S 90 = 7) ∧ (pR S 87 4 = some 91 ∧ pK S 91 = 13 ∧ pL S 91 = 175) ∧ (pR S 87 5 = some 92 ∧ pK S 92 = 13 ∧ pL S 92 = 14) ∧ (pR S 87 6 = some 93 ∧ pK S 93 = 13 ∧ pL S 93 = 12) ∧ (pR S 87 12 = some 94 ∧ pK S 94 = 13 ∧ pL S 94 = 600) ∧ (pR S 87 22 = some 95 ∧ pK S 95 = 14 ∧ pL S 95 = 7) ∧ (pR S 87 23 = some 96 ∧ pK S 96 = 13 ∧ pL S 96 = 7) ∧ (pR S 87 24 = some 97 ∧ pK S 97 = 15 ∧ pL S 97 = 35) ∧ (pR S 87 25 = some 98 ∧ pK S 98 = 13 ∧ pL S 98 = 7) ∧ (pR S 87 26 = some 99 ∧ pK S 99 = 13 ∧ pL S 99 = 35) ∧ (pR S 87 27 = some 100 ∧ pK S 100 = 13 ∧ pL S 100 = 7) ∧ (pR S 87 28 = some 101 ∧ pK S 101 = 13 ∧ pL S 101 = 7) ∧ (pR S 87 29 = some 102 ∧ pK S 102 = 13 ∧ pL S 102 = 7) ∧ (pR S 87 30 = some 103 ∧ pK S 103 = 13 ∧ pL S 103 = 7) ∧ (pR S 87 31 = some 104 ∧ pK S 104 = 13 ∧ pL S 104 = 7)
theorem msk {S : PS} (h : MShape S) : pK S 87 = 11 := h.1
theorem msr_p {S : PS} (h : MShape S) : pR S 87 1 = some 88 := (h.2.1).1
theorem msk_p {S : PS} (h : MShape S) : pK S 88 = 13 := (h.2.1).2.1
theorem msl_p {S : PS} (h : MShape S) : pL S 88 = 169 := (h.2.1).2.2
theorem msr_told {S : PS} (h : MShape S) : pR S 87 2 = some 89 := (h.2.2.1).1
theorem msk_told {S : PS} (h : MShape S) : pK S 89 = 13 := (h.2.2.1).2.1
theorem msl_told {S : PS} (h : MShape S) : pL S 89 = 169 := (h.2.2.1).2.2
theorem msr_domain {S : PS} (h : MShape S) : pR S 87 3 = some 90 := (h.2.2.2.1).1
theorem msk_domain {S : PS} (h : MShape S) : pK S 90 = 13 := (h.2.2.2.1).2.1
theorem msl_domain {S : PS} (h : MShape S) : pL S 90 = 7 := (h.2.2.2.1).2.2
theorem msr_facts {S : PS} (h : MShape S) : pR S 87 4 = some 91 := (h.2.2.2.2.1).1
theorem msk_facts {S : PS} (h : MShape S) : pK S 91 = 13 := (h.2.2.2.2.1).2.1
theorem msl_facts {S : PS} (h : MShape S) : pL S 91 = 175 := (h.2.2.2.2.1).2.2
theorem msr_decs {S : PS} (h : MShape S) : pR S 87 5 = some 92 := (h.2.2.2.2.2.1).1
theorem msk_decs {S : PS} (h : MShape S) : pK S 92 = 13 := (h.2.2.2.2.2.1).2.1
theorem msl_decs {S : PS} (h : MShape S) : pL S 92 = 14 := (h.2.2.2.2.2.1).2.2
theorem msr_sets {S : PS} (h : MShape S) : pR S 87 6 = some 93 := (h.2.2.2.2.2.2.1).1
theorem msk_sets {S : PS} (h : MShape S) : pK S 93 = 13 := (h.2.2.2.2.2.2.1).2.1
theorem msl_sets {S : PS} (h : MShape S) : pL S 93 = 12 := (h.2.2.2.2.2.2.1).2.2
theorem msr_text {S : PS} (h : MShape S) : pR S 87 12 = some 94 := (h.2.2.2.2.2.2.2.1).1
theorem msk_text {S : PS} (h : MShape S) : pK S 94 = 13 := (h.2.2.2.2.2.2.2.1).2.1
theorem msl_text {S : PS} (h : MShape S) : pL S 94 = 600 := (h.2.2.2.2.2.2.2.1).2.2
theorem msr_names {S : PS} (h : MShape S) : pR S 87 22 = some 95 := (h.2.2.2.2.2.2.2.2.1).1
theorem msk_names {S : PS} (h : MShape S) : pK S 95 = 14 := (h.2.2.2.2.2.2.2.2.1).2.1
theorem msl_names {S : PS} (h : MShape S) : pL S 95 = 7 := (h.2.2.2.2.2.2.2.2.1).2.2
theorem msr_trial {S : PS} (h : MShape S) : pR S 87 23 = some 96 := (h.2.2.2.2.2.2.2.2.2.1).1
theorem msk_trial {S : PS} (h : MShape S) : pK S 96 = 13 := (h.2.2.2.2.2.2.2.2.2.1).2.1
theorem msl_trial {S : PS} (h : MShape S) : pL S 96 = 7 := (h.2.2.2.2.2.2.2.2.2.1).2.2
theorem msr_isLeft {S : PS} (h : MShape S) : pR S 87 24 = some 97 := (h.2.2.2.2.2.2.2.2.2.2.1).1
theorem msk_isLeft {S : PS} (h : MShape S) : pK S 97 = 15 := (h.2.2.2.2.2.2.2.2.2.2.1).2.1
theorem msl_isLeft {S : PS} (h : MShape S) : pL S 97 = 35 := (h.2.2.2.2.2.2.2.2.2.2.1).2.2
theorem msr_without {S : PS} (h : MShape S) : pR S 87 25 = some 98 := (h.2.2.2.2.2.2.2.2.2.2.2.1).1
theorem msk_without {S : PS} (h : MShape S) : pK S 98 = 13 := (h.2.2.2.2.2.2.2.2.2.2.2.1).2.1
theorem msl_without {S : PS} (h : MShape S) : pL S 98 = 7 := (h.2.2.2.2.2.2.2.2.2.2.2.1).2.2
theorem msr_depths {S : PS} (h : MShape S) : pR S 87 26 = some 99 := (h.2.2.2.2.2.2.2.2.2.2.2.2.1).1
theorem msk_depths {S : PS} (h : MShape S) : pK S 99 = 13 := (h.2.2.2.2.2.2.2.2.2.2.2.2.1).2.1
theorem msl_depths {S : PS} (h : MShape S) : pL S 99 = 35 := (h.2.2.2.2.2.2.2.2.2.2.2.2.1).2.2
theorem msr_least {S : PS} (h : MShape S) : pR S 87 27 = some 100 := (h.2.2.2.2.2.2.2.2.2.2.2.2.2.1).1
theorem msk_least {S : PS} (h : MShape S) : pK S 100 = 13 := (h.2.2.2.2.2.2.2.2.2.2.2.2.2.1).2.1
theorem msl_least {S : PS} (h : MShape S) : pL S 100 = 7 := (h.2.2.2.2.2.2.2.2.2.2.2.2.2.1).2.2
theorem msr_given {S : PS} (h : MShape S) : pR S 87 28 = some 101 := (h.2.2.2.2.2.2.2.2.2.2.2.2.2.2.1).1
theorem msk_given {S : PS} (h : MShape S) : pK S 101 = 13 := (h.2.2.2.2.2.2.2.2.2.2.2.2.2.2.1).2.1
theorem msl_given {S : PS} (h : MShape S) : pL S 101 = 7 := (h.2.2.2.2.2.2.2.2.2.2.2.2.2.2.1).2.2
theorem msr_firstOne {S : PS} (h : MShape S) : pR S 87 29 = some 102 := (h.2.2.2.2.2.2.2.2.2.2.2.2.2.2.2.1).1
theorem msk_firstOne {S : PS} (h : MShape S) : pK S 102 = 13 := (h.2.2.2.2.2.2.2.2.2.2.2.2.2.2.2.1).2.1
theorem msl_firstOne {S : PS} (h : MShape S) : pL S 102 = 7 := (h.2.2.2.2.2.2.2.2.2.2.2.2.2.2.2.1).2.2
theorem msr_possible {S : PS} (h : MShape S) : pR S 87 30 = some 103 := (h.2.2.2.2.2.2.2.2.2.2.2.2.2.2.2.2.1).1
theorem msk_possible {S : PS} (h : MShape S) : pK S 103 = 13 := (h.2.2.2.2.2.2.2.2.2.2.2.2.2.2.2.2.1).2.1
theorem msl_possible {S : PS} (h : MShape S) : pL S 103 = 7 := (h.2.2.2.2.2.2.2.2.2.2.2.2.2.2.2.2.1).2.2
theorem msr_start {S : PS} (h : MShape S) : pR S 87 31 = some 104 := (h.2.2.2.2.2.2.2.2.2.2.2.2.2.2.2.2.2).1
theorem msk_start {S : PS} (h : MShape S) : pK S 104 = 13 := (h.2.2.2.2.2.2.2.2.2.2.2.2.2.2.2.2.2).2.1
theorem msl_start {S : PS} (h : MShape S) : pL S 104 = 7 := (h.2.2.2.2.2.2.2.2.2.2.2.2.2.2.2.2.2).2.2

/-! HALL'S CONDITION for counts: sets of the values 0..4 as functions to Bool; a list of domains; least and greatest numbers of each value. -/
def gB (p : Bool) : Nat := if p then 1 else 0
def sum5 (f : Nat → Nat) : Nat := f 0 + f 1 + f 2 + f 3 + f 4
def hsum (f : Nat → Nat) (S : Nat → Bool) : Nat := sum5 (fun v => if S v then f v else 0)
def bsub (D S : Nat → Bool) : Bool := (!D 0 || S 0) && (!D 1 || S 1) && (!D 2 || S 2) && (!D 3 || S 3) && (!D 4 || S 4)
def bmeet (D S : Nat → Bool) : Bool := (D 0 && S 0) || (D 1 && S 1) || (D 2 && S 2) || (D 3 && S 3) || (D 4 && S 4)
theorem lt5 {v : Nat} (h : v < 5) : v = 0 ∨ v = 1 ∨ v = 2 ∨ v = 3 ∨ v = 4 := by omega
theorem bsub_iff (D S : Nat → Bool) : bsub D S = true ↔ ∀ v, v < 5 → D v = true → S v = true := by
  constructor
  · intro h v hv hD
    simp only [bsub, Bool.and_eq_true, Bool.or_eq_true, Bool.not_eq_true'] at h
    obtain ⟨⟨⟨⟨h0, h1⟩, h2⟩, h3⟩, h4⟩ := h
    rcases lt5 hv with rfl | rfl | rfl | rfl | rfl
    · exact h0.resolve_left (by rw [hD]; decide)
    · exact h1.resolve_left (by rw [hD]; decide)
    · exact h2.resolve_left (by rw [hD]; decide)
    · exact h3.resolve_left (by rw [hD]; decide)
    · exact h4.resolve_left (by rw [hD]; decide)
  · intro h
    have k : ∀ v, v < 5 → (D v = false ∨ S v = true) := fun v hv => by
      cases hD : D v
      · exact Or.inl rfl
      · exact Or.inr (h v hv hD)
    simp only [bsub, Bool.and_eq_true, Bool.or_eq_true, Bool.not_eq_true']
    exact ⟨⟨⟨⟨k 0 (by omega), k 1 (by omega)⟩, k 2 (by omega)⟩, k 3 (by omega)⟩, k 4 (by omega)⟩
theorem bmeet_iff (D S : Nat → Bool) : bmeet D S = true ↔ ∃ v, v < 5 ∧ D v = true ∧ S v = true := by
  constructor
  · intro h
    simp only [bmeet, Bool.and_eq_true, Bool.or_eq_true] at h
    rcases h with (((h | h) | h) | h) | h
    · exact ⟨0, by omega, h⟩
    · exact ⟨1, by omega, h⟩
    · exact ⟨2, by omega, h⟩
    · exact ⟨3, by omega, h⟩
    · exact ⟨4, by omega, h⟩
  · rintro ⟨v, hv, hD, hS⟩
    simp only [bmeet, Bool.and_eq_true, Bool.or_eq_true]
    rcases lt5 hv with rfl | rfl | rfl | rfl | rfl
    · exact Or.inl (Or.inl (Or.inl (Or.inl ⟨hD, hS⟩)))
    · exact Or.inl (Or.inl (Or.inl (Or.inr ⟨hD, hS⟩)))
    · exact Or.inl (Or.inl (Or.inr ⟨hD, hS⟩))
    · exact Or.inl (Or.inr ⟨hD, hS⟩)
    · exact Or.inr ⟨hD, hS⟩
theorem gB_le {a b : Bool} (h : a = true → b = true) : gB a ≤ gB b := by
  cases a
  · exact Nat.zero_le _
  · rw [h rfl]; exact Nat.le_refl _
theorem gB_t {a : Bool} (h : a = true) : gB a = 1 := by rw [h]; rfl
theorem gB_f {a : Bool} (h : ¬ a = true) : gB a = 0 := by
  cases a
  · rfl
  · exact absurd rfl h
theorem gB_1 (a : Bool) : gB a ≤ 1 := by cases a <;> decide
def sUn (S T : Nat → Bool) : Nat → Bool := fun v => S v || T v
def sIn (S T : Nat → Bool) : Nat → Bool := fun v => S v && T v
def sDi (S T : Nat → Bool) : Nat → Bool := fun v => S v && !T v
theorem hsum_mod (f : Nat → Nat) (S T : Nat → Bool) : hsum f (sUn S T) + hsum f (sIn S T) = hsum f S + hsum f T := by
  have k : ∀ v, (if sUn S T v = true then f v else 0) + (if sIn S T v = true then f v else 0) = (if S v = true then f v else 0) + (if T v = true then f v else 0) := by
    intro v
    unfold sUn sIn
    cases S v <;> cases T v <;> simp
  have k0 := k 0; have k1 := k 1; have k2 := k 2; have k3 := k 3; have k4 := k 4
  simp only [hsum, sum5]
  omega
theorem hsum_di (f : Nat → Nat) (S T : Nat → Bool) : hsum f (sDi S T) + hsum f (sIn S T) = hsum f S := by
  have k : ∀ v, (if sDi S T v = true then f v else 0) + (if sIn S T v = true then f v else 0) = (if S v = true then f v else 0) := by
    intro v
    unfold sDi sIn
    cases S v <;> cases T v <;> simp
  have k0 := k 0; have k1 := k 1; have k2 := k 2; have k3 := k 3; have k4 := k 4
  simp only [hsum, sum5]
  omega
theorem hsum_cm (f : Nat → Nat) (S T : Nat → Bool) : hsum f (sIn S T) = hsum f (sIn T S) := by
  have k : sIn S T = sIn T S := funext fun v => Bool.and_comm _ _
  rw [k]
theorem hsum_le {f g : Nat → Nat} (h : ∀ v, v < 5 → f v ≤ g v) (S : Nat → Bool) : hsum f S ≤ hsum g S := by
  have k : ∀ v, v < 5 → (if S v = true then f v else 0) ≤ (if S v = true then g v else 0) := by
    intro v hv
    have := h v hv
    cases S v <;> simp [this]
  have k0 := k 0 (by omega); have k1 := k 1 (by omega); have k2 := k 2 (by omega); have k3 := k 3 (by omega); have k4 := k 4 (by omega)
  simp only [hsum, sum5]
  omega
def cU : List (Nat → Bool) → (Nat → Bool) → Nat
  | [], _ => 0
  | D :: L, S => gB (bsub D S) + cU L S
def cM : List (Nat → Bool) → (Nat → Bool) → Nat
  | [], _ => 0
  | D :: L, S => gB (bmeet D S) + cM L S
theorem cU_app (L1 L2 : List (Nat → Bool)) (S : Nat → Bool) : cU (L1 ++ L2) S = cU L1 S + cU L2 S := by
  induction L1 with
  | nil => simp [cU]
  | cons D L ih => simp only [List.cons_append, cU, ih]; omega
theorem cM_app (L1 L2 : List (Nat → Bool)) (S : Nat → Bool) : cM (L1 ++ L2) S = cM L1 S + cM L2 S := by
  induction L1 with
  | nil => simp [cM]
  | cons D L ih => simp only [List.cons_append, cM, ih]; omega
/-- one domain: the two inequalities and the mixed one -/
theorem eU (D S T : Nat → Bool) : gB (bsub D S) + gB (bsub D T) ≤ gB (bsub D (sUn S T)) + gB (bsub D (sIn S T)) := by
  have h1 : bsub D S = true → bsub D (sUn S T) = true := fun h => (bsub_iff _ _).mpr fun v hv hD => by simp [sUn, (bsub_iff _ _).mp h v hv hD]
  have h2 : bsub D T = true → bsub D (sUn S T) = true := fun h => (bsub_iff _ _).mpr fun v hv hD => by simp [sUn, (bsub_iff _ _).mp h v hv hD]
  have h3 : bsub D S = true → bsub D T = true → bsub D (sIn S T) = true := fun h h' => (bsub_iff _ _).mpr fun v hv hD => by simp [sIn, (bsub_iff _ _).mp h v hv hD, (bsub_iff _ _).mp h' v hv hD]
  by_cases a : bsub D S = true <;> by_cases b : bsub D T = true
  · rw [gB_t a, gB_t b, gB_t (h1 a), gB_t (h3 a b)]; exact Nat.le_refl _
  · rw [gB_t a, gB_f b, gB_t (h1 a)]; omega
  · rw [gB_f a, gB_t b, gB_t (h2 b)]; omega
  · rw [gB_f a, gB_f b]; omega
theorem eM (D S T : Nat → Bool) : gB (bmeet D (sUn S T)) + gB (bmeet D (sIn S T)) ≤ gB (bmeet D S) + gB (bmeet D T) := by
  have h1 : bmeet D (sUn S T) = true → bmeet D S = true ∨ bmeet D T = true := fun h => by
    obtain ⟨v, hv, hD, hS⟩ := (bmeet_iff _ _).mp h
    simp only [sUn, Bool.or_eq_true] at hS
    rcases hS with hS | hS
    · exact Or.inl ((bmeet_iff _ _).mpr ⟨v, hv, hD, hS⟩)
    · exact Or.inr ((bmeet_iff _ _).mpr ⟨v, hv, hD, hS⟩)
  have h2 : bmeet D (sIn S T) = true → bmeet D S = true ∧ bmeet D T = true := fun h => by
    obtain ⟨v, hv, hD, hS⟩ := (bmeet_iff _ _).mp h
    simp only [sIn, Bool.and_eq_true] at hS
    exact ⟨(bmeet_iff _ _).mpr ⟨v, hv, hD, hS.1⟩, (bmeet_iff _ _).mpr ⟨v, hv, hD, hS.2⟩⟩
  have := gB_1 (bmeet D (sUn S T))
  by_cases b : bmeet D (sIn S T) = true
  · rw [gB_t (h2 b).1, gB_t (h2 b).2, gB_t b]; omega
  · rw [gB_f b]
    by_cases a : bmeet D (sUn S T) = true
    · rcases h1 a with h | h
      · rw [gB_t h]; omega
      · rw [gB_t h]; omega
    · rw [gB_f a]; omega
theorem eX (D S T : Nat → Bool) : gB (bsub D S) + gB (bmeet D (sDi T S)) ≤ gB (bsub D (sDi S T)) + gB (bmeet D T) := by
  have h1 : bmeet D (sDi T S) = true → bmeet D T = true ∧ ¬ bsub D S = true := fun h => by
    obtain ⟨v, hv, hD, hS⟩ := (bmeet_iff _ _).mp h
    simp only [sDi, Bool.and_eq_true, Bool.not_eq_true'] at hS
    refine ⟨(bmeet_iff _ _).mpr ⟨v, hv, hD, hS.1⟩, fun q => ?_⟩
    have := (bsub_iff _ _).mp q v hv hD
    rw [hS.2] at this; cases this
  have h2 : bsub D S = true → ¬ bmeet D T = true → bsub D (sDi S T) = true := fun h h' => (bsub_iff _ _).mpr fun v hv hD => by
    have a := (bsub_iff _ _).mp h v hv hD
    cases hT : T v
    · simp [sDi, a, hT]
    · exact absurd ((bmeet_iff _ _).mpr ⟨v, hv, hD, hT⟩) h'
  by_cases a : bmeet D (sDi T S) = true
  · rw [gB_t (h1 a).1, gB_f (h1 a).2, gB_t a]; omega
  · rw [gB_f a]
    by_cases b : bsub D S = true
    · by_cases c : bmeet D T = true
      · rw [gB_t b, gB_t c]; omega
      · rw [gB_t b, gB_t (h2 b c)]; omega
    · rw [gB_f b]; omega
theorem lU (L : List (Nat → Bool)) (S T : Nat → Bool) : cU L S + cU L T ≤ cU L (sUn S T) + cU L (sIn S T) := by
  induction L with
  | nil => simp [cU]
  | cons D L ih => have := eU D S T; simp only [cU]; omega
theorem lM (L : List (Nat → Bool)) (S T : Nat → Bool) : cM L (sUn S T) + cM L (sIn S T) ≤ cM L S + cM L T := by
  induction L with
  | nil => simp [cM]
  | cons D L ih => have := eM D S T; simp only [cM]; omega
theorem lX (L : List (Nat → Bool)) (S T : Nat → Bool) : cU L S + cM L (sDi T S) ≤ cU L (sDi S T) + cM L T := by
  induction L with
  | nil => simp [cU, cM]
  | cons D L ih => have := eX D S T; simp only [cU, cM]; omega
def hall (lo hi : Nat → Nat) (L : List (Nat → Bool)) : Prop := ∀ S : Nat → Bool, cU L S ≤ hsum hi S ∧ hsum lo S ≤ cM L S
def dWo (D : Nat → Bool) (u : Nat) : Nat → Bool := fun v => D v && decide (v ≠ u)
theorem dWo_of {D : Nat → Bool} {u v : Nat} (h : D v = true) (hn : v ≠ u) : dWo D u v = true := by simp [dWo, h, hn]
theorem dWo_to {D : Nat → Bool} {u v : Nat} (h : dWo D u v = true) : D v = true ∧ v ≠ u := by simpa [dWo] using h
/-- what a failing removal tells -/
theorem fail_at {lo hi : Nat → Nat} {L1 L2 : List (Nat → Bool)} {D : Nat → Bool} (h : hall lo hi (L1 ++ D :: L2)) {u : Nat} (hf : ¬ hall lo hi (L1 ++ dWo D u :: L2)) :
    (∃ S, bsub (dWo D u) S = true ∧ ¬ bsub D S = true ∧ cU (L1 ++ D :: L2) S = hsum hi S) ∨ (∃ S, ¬ bmeet (dWo D u) S = true ∧ bmeet D S = true ∧ cM (L1 ++ D :: L2) S = hsum lo S) := by
  obtain ⟨S, hS⟩ := Classical.not_forall.mp hf
  have hu := (h S).1
  have hl := (h S).2
  by_cases hc : cU (L1 ++ dWo D u :: L2) S ≤ hsum hi S
  · right
    have hc2 : ¬ hsum lo S ≤ cM (L1 ++ dWo D u :: L2) S := fun q => hS ⟨hc, q⟩
    refine ⟨S, ?_⟩
    rw [cM_app] at hc2 hl ⊢
    simp only [cM] at hc2 hl ⊢
    have b1 := gB_1 (bmeet D S)
    by_cases a : bmeet (dWo D u) S = true
    · rw [gB_t a] at hc2; omega
    · rw [gB_f a] at hc2
      by_cases b : bmeet D S = true
      · refine ⟨a, b, ?_⟩
        rw [gB_t b] at hl ⊢; omega
      · rw [gB_f b] at hl; omega
  · left
    refine ⟨S, ?_⟩
    rw [cU_app] at hc hu ⊢
    simp only [cU] at hc hu ⊢
    have b1 := gB_1 (bsub (dWo D u) S)
    by_cases a : bsub D S = true
    · rw [gB_t a] at hu; omega
    · rw [gB_f a] at hu ⊢
      by_cases b : bsub (dWo D u) S = true
      · refine ⟨b, a, ?_⟩
        rw [gB_t b] at hc; omega
      · rw [gB_f b] at hc; omega
theorem wo_u {D S : Nat → Bool} {u : Nat} (h1 : bsub (dWo D u) S = true) (h2 : ¬ bsub D S = true) : ¬ S u = true := fun q => h2 ((bsub_iff _ _).mpr fun v hv hD => by
  by_cases e : v = u
  · rw [e]; exact q
  · exact (bsub_iff _ _).mp h1 v hv (dWo_of hD e))
theorem wo_m {D S : Nat → Bool} {u : Nat} (h1 : ¬ bmeet (dWo D u) S = true) {v : Nat} (hv : v < 5) (hD : D v = true) (hn : v ≠ u) : ¬ S v = true := fun q => h1 ((bmeet_iff _ _).mpr ⟨v, hv, dWo_of hD hn, q⟩)
theorem wo_m2 {D S : Nat → Bool} {u : Nat} (h1 : ¬ bmeet (dWo D u) S = true) (h2 : bmeet D S = true) : S u = true := by
  obtain ⟨v, hv, hD, hS⟩ := (bmeet_iff _ _).mp h2
  by_cases e : v = u
  · rw [← e]; exact hS
  · exact absurd hS (wo_m h1 hv hD e)
theorem hall_mix {lo hi : Nat → Nat} (hlh : ∀ v, v < 5 → lo v ≤ hi v) {L1 L2 : List (Nat → Bool)} {D : Nat → Bool} (h : hall lo hi (L1 ++ D :: L2)) {u v : Nat} (hu : u < 5) (hv : v < 5) (hn : u ≠ v) (hDu : D u = true) (hDv : D v = true)
    {S T : Nat → Bool} (s1 : bsub (dWo D u) S = true) (s2 : ¬ bsub D S = true) (s3 : cU (L1 ++ D :: L2) S = hsum hi S) (t1 : ¬ bmeet (dWo D v) T = true) (t2 : bmeet D T = true) (t3 : cM (L1 ++ D :: L2) T = hsum lo T) : False := by
  have a1 := (h (sDi S T)).1
  have a2 := (h (sDi T S)).2
  have m1 := lX L1 S T
  have m2 := lX L2 S T
  have hvS : S v = true := (bsub_iff _ _).mp s1 v hv (dWo_of hDv (Ne.symm hn))
  have e1 : ¬ bmeet D (sDi T S) = true := fun q => by
    obtain ⟨w, hw, hDw, hTw⟩ := (bmeet_iff _ _).mp q
    simp only [sDi, Bool.and_eq_true, Bool.not_eq_true'] at hTw
    by_cases e : w = v
    · rw [e, hvS] at hTw; cases hTw.2
    · exact wo_m t1 hw hDw e hTw.1
  rw [cU_app] at s3 a1
  rw [cM_app] at t3 a2
  simp only [cU, cM] at s3 a1 t3 a2
  rw [gB_f s2] at s3
  rw [gB_t t2] at t3
  rw [gB_f e1] at a2
  have b1 := gB_1 (bsub D (sDi S T))
  have e2 : ¬ bsub D (sDi S T) = true := fun q => s2 ((bsub_iff _ _).mpr fun w hw hDw => by
    have := (bsub_iff _ _).mp q w hw hDw
    simp only [sDi, Bool.and_eq_true] at this
    exact this.1)
  rw [gB_f e2] at a1
  have d1 := hsum_di hi S T
  have d2 := hsum_di lo T S
  have d3 := hsum_cm lo T S
  have d4 := hsum_le hlh (sIn S T)
  omega
/-- of two values of a domain, one may go -/
theorem hall_step {lo hi : Nat → Nat} (hlh : ∀ v, v < 5 → lo v ≤ hi v) {L1 L2 : List (Nat → Bool)} {D : Nat → Bool} (h : hall lo hi (L1 ++ D :: L2)) {u v : Nat} (hu : u < 5) (hv : v < 5) (hn : u ≠ v) (hDu : D u = true) (hDv : D v = true) : hall lo hi (L1 ++ dWo D u :: L2) ∨ hall lo hi (L1 ++ dWo D v :: L2) := by
  apply Classical.byContradiction
  intro hno
  have n1 : ¬ hall lo hi (L1 ++ dWo D u :: L2) := fun q => hno (Or.inl q)
  have n2 : ¬ hall lo hi (L1 ++ dWo D v :: L2) := fun q => hno (Or.inr q)
  rcases fail_at h n1 with ⟨S, s1, s2, s3⟩ | ⟨S, s1, s2, s3⟩ <;> rcases fail_at h n2 with ⟨T, t1, t2, t3⟩ | ⟨T, t1, t2, t3⟩
  · have a1 := (h (sUn S T)).1
    have a2 := (h (sIn S T)).1
    have m1 := lU L1 S T
    have m2 := lU L2 S T
    have md := hsum_mod hi S T
    have e1 : bsub D (sUn S T) = true := (bsub_iff _ _).mpr fun w hw hDw => by
      by_cases e : w = u
      · have : T w = true := (bsub_iff _ _).mp t1 w hw (dWo_of hDw (by rw [e]; exact hn))
        simp [sUn, this]
      · have : S w = true := (bsub_iff _ _).mp s1 w hw (dWo_of hDw e)
        simp [sUn, this]
    rw [cU_app] at s3 t3 a1 a2
    simp only [cU] at s3 t3 a1 a2
    rw [gB_f s2] at s3
    rw [gB_f t2] at t3
    rw [gB_t e1] at a1
    omega
  · exact hall_mix hlh h hu hv hn hDu hDv s1 s2 s3 t1 t2 t3
  · exact hall_mix hlh h hv hu (Ne.symm hn) hDv hDu t1 t2 t3 s1 s2 s3
  · have a1 := (h (sUn S T)).2
    have a2 := (h (sIn S T)).2
    have m1 := lM L1 S T
    have m2 := lM L2 S T
    have md := hsum_mod lo S T
    have e1 : ¬ bmeet D (sIn S T) = true := fun q => by
      obtain ⟨w, hw, hDw, hw2⟩ := (bmeet_iff _ _).mp q
      simp only [sIn, Bool.and_eq_true] at hw2
      by_cases e : w = u
      · exact wo_m t1 hw hDw (by rw [e]; exact hn) hw2.2
      · exact wo_m s1 hw hDw e hw2.1
    rw [cM_app] at s3 t3 a1 a2
    simp only [cM] at s3 t3 a1 a2
    rw [gB_t s2] at s3
    rw [gB_t t2] at t3
    rw [gB_f e1] at a2
    have b1 := gB_1 (bmeet D (sUn S T))
    omega
def dsz (D : Nat → Bool) : Nat := gB (D 0) + gB (D 1) + gB (D 2) + gB (D 3) + gB (D 4)
def lsz : List (Nat → Bool) → Nat
  | [] => 0
  | D :: L => dsz D + lsz L
theorem lsz_app (L1 L2 : List (Nat → Bool)) : lsz (L1 ++ L2) = lsz L1 + lsz L2 := by
  induction L1 with
  | nil => simp [lsz]
  | cons D L ih => simp only [List.cons_append, lsz, ih]; omega
theorem dsz_wo {D : Nat → Bool} {u : Nat} (hu : u < 5) (h : D u = true) : dsz (dWo D u) < dsz D := by
  have k : ∀ v, gB (dWo D u v) ≤ gB (D v) := fun v => gB_le fun q => (dWo_to q).1
  have k0 := k 0; have k1 := k 1; have k2 := k 2; have k3 := k 3; have k4 := k 4
  have ku : gB (dWo D u u) = 0 := gB_f (fun q => (dWo_to q).2 rfl)
  have kd : gB (D u) = 1 := gB_t h
  unfold dsz
  rcases lt5 hu with rfl | rfl | rfl | rfl | rfl <;> omega
def fitA : List (Nat → Bool) → List Nat → Prop
  | [], [] => True
  | D :: L, a :: A => a < 5 ∧ D a = true ∧ fitA L A
  | _, _ => False
def cntA (v : Nat) : List Nat → Nat
  | [] => 0
  | a :: A => gB (decide (a = v)) + cntA v A
theorem fitA_mono {D D' : Nat → Bool} (hD : ∀ v, D' v = true → D v = true) : ∀ (L1 L2 : List (Nat → Bool)) (A : List Nat), fitA (L1 ++ D' :: L2) A → fitA (L1 ++ D :: L2) A
  | [], L2, [], h => h.elim
  | [], L2, a :: A, h => ⟨h.1, hD _ h.2.1, h.2.2⟩
  | E :: L1, L2, [], h => h.elim
  | E :: L1, L2, a :: A, h => ⟨h.1, h.2.1, fitA_mono hD L1 L2 A h.2.2⟩
def pick5 (D : Nat → Bool) : Nat := if D 0 then 0 else if D 1 then 1 else if D 2 then 2 else if D 3 then 3 else 4
theorem pick5_in {D : Nat → Bool} (h : ∃ v, v < 5 ∧ D v = true) : pick5 D < 5 ∧ D (pick5 D) = true := by
  unfold pick5
  by_cases h0 : D 0 = true
  · rw [if_pos h0]; exact ⟨by omega, h0⟩
  · rw [if_neg h0]
    by_cases h1 : D 1 = true
    · rw [if_pos h1]; exact ⟨by omega, h1⟩
    · rw [if_neg h1]
      by_cases h2 : D 2 = true
      · rw [if_pos h2]; exact ⟨by omega, h2⟩
      · rw [if_neg h2]
        by_cases h3 : D 3 = true
        · rw [if_pos h3]; exact ⟨by omega, h3⟩
        · rw [if_neg h3]
          obtain ⟨v, hv, hD⟩ := h
          rcases lt5 hv with rfl | rfl | rfl | rfl | rfl
          · exact absurd hD h0
          · exact absurd hD h1
          · exact absurd hD h2
          · exact absurd hD h3
          · exact ⟨by omega, hD⟩
def one5 (v : Nat) : Nat → Bool := fun w => decide (w = v)
theorem hsum_one (f : Nat → Nat) {v : Nat} (hv : v < 5) : hsum f (one5 v) = f v := by
  unfold hsum sum5 one5
  rcases lt5 hv with rfl | rfl | rfl | rfl | rfl <;> simp
theorem cnt_one {L : List (Nat → Bool)} (hne : ∀ D ∈ L, ∃ v, v < 5 ∧ D v = true) (hun : ∀ D ∈ L, ∀ u v, u < 5 → v < 5 → D u = true → D v = true → u = v) {v : Nat} (hv : v < 5) : cU L (one5 v) = cntA v (L.map pick5) ∧ cM L (one5 v) = cntA v (L.map pick5) := by
  induction L with
  | nil => exact ⟨rfl, rfl⟩
  | cons D L ih =>
    obtain ⟨i1, i2⟩ := ih (fun E hE => hne E (List.mem_cons_of_mem _ hE)) (fun E hE => hun E (List.mem_cons_of_mem _ hE))
    have hp := pick5_in (hne D List.mem_cons_self)
    have hu := hun D List.mem_cons_self
    have e1 : bsub D (one5 v) = decide (pick5 D = v) := by
      by_cases e : pick5 D = v
      · rw [decide_eq_true e]
        exact (bsub_iff _ _).mpr fun w hw hDw => by simp [one5, hu w (pick5 D) hw hp.1 hDw hp.2, e]
      · rw [decide_eq_false e]
        cases hb : bsub D (one5 v)
        · rfl
        · have := (bsub_iff _ _).mp hb _ hp.1 hp.2
          simp [one5] at this
          exact absurd this e
    have e2 : bmeet D (one5 v) = decide (pick5 D = v) := by
      by_cases e : pick5 D = v
      · rw [decide_eq_true e]
        exact (bmeet_iff _ _).mpr ⟨_, hp.1, hp.2, by simp [one5, e]⟩
      · rw [decide_eq_false e]
        cases hb : bmeet D (one5 v)
        · rfl
        · obtain ⟨w, hw, hDw, hS⟩ := (bmeet_iff _ _).mp hb
          simp [one5] at hS
          exact absurd ((hu _ w hp.1 hw hp.2 hDw).trans hS) e
    simp only [cU, cM, List.map_cons, cntA, e1, e2, i1, i2]
    exact ⟨trivial, trivial⟩
theorem fit_pick {L : List (Nat → Bool)} (hne : ∀ D ∈ L, ∃ v, v < 5 ∧ D v = true) : fitA L (L.map pick5) := by
  induction L with
  | nil => exact trivial
  | cons D L ih =>
    have hp := pick5_in (hne D List.mem_cons_self)
    exact ⟨hp.1, hp.2, ih (fun E hE => hne E (List.mem_cons_of_mem _ hE))⟩
theorem cU_pos {L : List (Nat → Bool)} {D : Nat → Bool} (h : D ∈ L) {S : Nat → Bool} (hs : bsub D S = true) : 0 < cU L S := by
  induction L with
  | nil => cases h
  | cons E L ih =>
    simp only [cU]
    rcases List.mem_cons.mp h with e | h
    · rw [← e, gB_t hs]; omega
    · have := ih h; omega
theorem hsum_no (f : Nat → Nat) : hsum f (fun _ => false) = 0 := by simp [hsum, sum5]
/-- Hall's condition gives an assignment with the numbers asked for -/
theorem hall_ex {lo hi : Nat → Nat} (hlh : ∀ v, v < 5 → lo v ≤ hi v) : ∀ (n : Nat) (L : List (Nat → Bool)), lsz L ≤ n → hall lo hi L → ∃ A, fitA L A ∧ ∀ v, v < 5 → lo v ≤ cntA v A ∧ cntA v A ≤ hi v := by
  intro n
  induction n with
  | zero =>
    intro L hL h
    cases L with
    | nil =>
      refine ⟨[], trivial, fun v hv => ?_⟩
      have := h (one5 v)
      rw [hsum_one hi hv, hsum_one lo hv] at this
      exact ⟨this.2, this.1⟩
    | cons D L =>
      exfalso
      have h0 := (h (fun _ => false)).1
      rw [hsum_no] at h0
      have hD : dsz D = 0 := by simp only [lsz] at hL; omega
      have hs : bsub D (fun _ => false) = true := (bsub_iff _ _).mpr fun v hv q => by
        have := gB_t q
        unfold dsz at hD
        rcases lt5 hv with rfl | rfl | rfl | rfl | rfl <;> omega
      have := cU_pos (L := D :: L) List.mem_cons_self hs
      omega
  | succ n ih =>
    intro L hL h
    by_cases hx : ∃ (L1 L2 : List (Nat → Bool)) (D : Nat → Bool) (u v : Nat), L = L1 ++ D :: L2 ∧ u < 5 ∧ v < 5 ∧ u ≠ v ∧ D u = true ∧ D v = true
    · obtain ⟨L1, L2, D, u, v, rfl, hu, hv, hn, hDu, hDv⟩ := hx
      have small : ∀ w, w < 5 → D w = true → lsz (L1 ++ dWo D w :: L2) ≤ n := fun w hw hDw => by
        have := dsz_wo hw hDw
        rw [lsz_app] at hL ⊢
        simp only [lsz] at hL ⊢
        omega
      rcases hall_step hlh h hu hv hn hDu hDv with h | h
      · obtain ⟨A, h1, h2⟩ := ih _ (small u hu hDu) h
        exact ⟨A, fitA_mono (fun w q => (dWo_to q).1) _ _ _ h1, h2⟩
      · obtain ⟨A, h1, h2⟩ := ih _ (small v hv hDv) h
        exact ⟨A, fitA_mono (fun w q => (dWo_to q).1) _ _ _ h1, h2⟩
    · have hun : ∀ D ∈ L, ∀ u v, u < 5 → v < 5 → D u = true → D v = true → u = v := by
        intro D hD u v hu hv hDu hDv
        apply Classical.byContradiction
        intro hn
        obtain ⟨L1, L2, e⟩ := List.append_of_mem hD
        exact hx ⟨L1, L2, D, u, v, e, hu, hv, hn, hDu, hDv⟩
      have hne : ∀ D ∈ L, ∃ v, v < 5 ∧ D v = true := by
        intro D hD
        apply Classical.byContradiction
        intro hn
        have hs : bsub D (fun _ => false) = true := (bsub_iff _ _).mpr fun v hv q => absurd ⟨v, hv, q⟩ hn
        have h0 := (h (fun _ => false)).1
        rw [hsum_no] at h0
        have := cU_pos hD hs
        omega
      refine ⟨L.map pick5, fit_pick hne, fun v hv => ?_⟩
      obtain ⟨c1, c2⟩ := cnt_one hne hun hv
      have := h (one5 v)
      rw [hsum_one hi hv, hsum_one lo hv, c1, c2] at this
      exact ⟨this.2, this.1⟩
/-- how many of an assignment's values lie in a set -/
def inA (S : Nat → Bool) : List Nat → Nat
  | [] => 0
  | a :: A => gB (S a) + inA S A
theorem inA_cnt (S : Nat → Bool) {A : List Nat} (h : ∀ a ∈ A, a < 5) : inA S A = hsum (fun v => cntA v A) S := by
  induction A with
  | nil => simp [inA, hsum, sum5, cntA]
  | cons a A ih =>
    simp only [inA, ih (fun b hb => h b (List.mem_cons_of_mem _ hb))]
    have ha := h a List.mem_cons_self
    unfold hsum sum5
    simp only [cntA]
    rcases lt5 ha with rfl | rfl | rfl | rfl | rfl
    all_goals
      cases S 0 <;> cases S 1 <;> cases S 2 <;> cases S 3 <;> cases S 4 <;> simp [gB] <;> omega
theorem fitA_lt : ∀ {L : List (Nat → Bool)} {A : List Nat}, fitA L A → ∀ a ∈ A, a < 5
  | [], [], _, a, h => by cases h
  | [], _ :: _, h, _, _ => h.elim
  | _ :: _, [], h, _, _ => h.elim
  | D :: L, b :: A, h, a, ha => by
    rcases List.mem_cons.mp ha with e | ha
    · rw [e]; exact h.1
    · exact fitA_lt h.2.2 a ha
theorem fit_in : ∀ {L : List (Nat → Bool)} {A : List Nat} (S : Nat → Bool), fitA L A → cU L S ≤ inA S A ∧ inA S A ≤ cM L S
  | [], [], _, _ => ⟨Nat.le_refl _, Nat.le_refl _⟩
  | [], _ :: _, _, h => h.elim
  | _ :: _, [], _, h => h.elim
  | D :: L, a :: A, S, h => by
    obtain ⟨i1, i2⟩ := fit_in S h.2.2
    have h1 : gB (bsub D S) ≤ gB (S a) := gB_le fun q => (bsub_iff _ _).mp q a h.1 h.2.1
    have h2 : gB (S a) ≤ gB (bmeet D S) := gB_le fun q => (bmeet_iff _ _).mpr ⟨a, h.1, h.2.1, q⟩
    simp only [cU, cM, inA]
    omega
/-- an assignment with the numbers asked for gives Hall's condition -/
theorem ex_hall {lo hi : Nat → Nat} {L : List (Nat → Bool)} {A : List Nat} (h : fitA L A) (hc : ∀ v, v < 5 → lo v ≤ cntA v A ∧ cntA v A ≤ hi v) : hall lo hi L := by
  intro S
  obtain ⟨i1, i2⟩ := fit_in S h
  have e := inA_cnt S (fitA_lt h)
  have h1 : hsum (fun v => cntA v A) S ≤ hsum hi S := hsum_le (fun v hv => (hc v hv).2) S
  have h2 : hsum lo S ≤ hsum (fun v => cntA v A) S := hsum_le (fun v hv => (hc v hv).1) S
  omega

/-! WHAT A CONSTRAINT IS: its variables, and which values of them fulfil it -/
abbrev Kon : Type := Nat × (Nat → Nat) × ((Nat → Nat) → Bool)
def Kwf (κ : Kon) : Prop := κ.1 ≤ 7 ∧ (∀ k, k < κ.1 → κ.2.1 k < 7) ∧ (∀ i j, i < κ.1 → j < κ.1 → κ.2.1 i = κ.2.1 j → i = j) ∧ (∀ a b : Nat → Nat, (∀ k, k < κ.1 → a (κ.2.1 k) = b (κ.2.1 k)) → κ.2.2 a = κ.2.2 b)
def Asg (κ : Kon) (d a : Nat → Nat) : Prop := ∀ k, k < κ.1 → a (κ.2.1 k) < 5 ∧ (d (κ.2.1 k)).testBit (a (κ.2.1 k)) = true
def Ful (κ : Kon) (d a : Nat → Nat) : Prop := Asg κ d a ∧ κ.2.2 a = true
def Can (κ : Kon) (d : Nat → Nat) : Prop := ∃ a, Ful κ d a
/-- where a variable stands among the first so many -/
def posOf (m : Nat → Nat) : Nat → Nat → Nat
  | 0, _ => 0
  | n + 1, y => if m n = y then n else posOf m n y
theorem posOf_m {m : Nat → Nat} {n : Nat} (h : ∀ i j, i < n → j < n → m i = m j → i = j) {k : Nat} (hk : k < n) : posOf m n (m k) = k := by
  induction n with
  | zero => omega
  | succ n ih =>
    unfold posOf
    by_cases e : m n = m k
    · rw [if_pos e]; exact h n k (by omega) hk e
    · rw [if_neg e]
      have hkn : k ≠ n := fun q => e (by rw [q])
      exact ih (fun i j hi hj => h i j (by omega) (by omega)) (by omega)
/-! ===== counts ===== -/
/-- how many of the first n variables have a value -/
def cnt (m : Nat → Nat) (a : Nat → Nat) (v n : Nat) : Nat := cN (fun k => decide (a (m k) = v)) n
noncomputable def okCounts (n : Nat) (m lo hi : Nat → Nat) (a : Nat → Nat) : Bool := dB (∀ v, v < 5 → lo v ≤ cnt m a v n ∧ cnt m a v n ≤ hi v)
/-- the model's test, by sets of values -/
def hallT (n : Nat) (m lo hi d : Nat → Nat) (s : Nat) : Prop := cN (fun k => decide (andn (d (m k)) s = 0)) n ≤ sN (fun v => if s.testBit v then hi v else 0) 5 ∧ sN (fun v => if s.testBit v then lo v else 0) 5 ≤ cN (fun k => decide (d (m k) &&& s ≠ 0)) n
def dF (d : Nat) : Nat → Bool := fun v => d.testBit v
def dL (m d : Nat → Nat) : Nat → List (Nat → Bool)
  | 0 => []
  | n + 1 => dL m d n ++ [dF (d (m n))]
theorem dm_sub : ∀ d, d < 32 → ∀ s, s < 32 → (bsub (dF d) (dF s) = decide (andn d s = 0)) := by decide +kernel
theorem dm_meet : ∀ d, d < 32 → ∀ s, s < 32 → (bmeet (dF d) (dF s) = decide (d &&& s ≠ 0)) := by decide +kernel
theorem cU_dL {m d : Nat → Nat} {n s : Nat} (hd : ∀ k, k < n → d (m k) < 32) (hs : s < 32) : cU (dL m d n) (dF s) = cN (fun k => decide (andn (d (m k)) s = 0)) n := by
  induction n with
  | zero => rfl
  | succ n ih =>
    simp only [dL, cN]
    rw [cU_app, ih (fun k hk => hd k (by omega))]
    simp only [cU, Nat.add_zero]
    rw [dm_sub _ (hd n (by omega)) _ hs]
    rfl
theorem cM_dL {m d : Nat → Nat} {n s : Nat} (hd : ∀ k, k < n → d (m k) < 32) (hs : s < 32) : cM (dL m d n) (dF s) = cN (fun k => decide (d (m k) &&& s ≠ 0)) n := by
  induction n with
  | zero => rfl
  | succ n ih =>
    simp only [dL, cN]
    rw [cM_app, ih (fun k hk => hd k (by omega))]
    simp only [cM, Nat.add_zero]
    rw [dm_meet _ (hd n (by omega)) _ hs]
    rfl
/-- a set of values as a number -/
def enc5 (S : Nat → Bool) : Nat := gB (S 0) + 2 * gB (S 1) + 4 * gB (S 2) + 8 * gB (S 3) + 16 * gB (S 4)
theorem enc5_tb (S : Nat → Bool) : enc5 S < 32 ∧ ∀ v, v < 5 → (enc5 S).testBit v = S v := by
  have h : ∀ a b c d e : Bool, gB a + 2 * gB b + 4 * gB c + 8 * gB d + 16 * gB e < 32 ∧ (gB a + 2 * gB b + 4 * gB c + 8 * gB d + 16 * gB e).testBit 0 = a ∧ (gB a + 2 * gB b + 4 * gB c + 8 * gB d + 16 * gB e).testBit 1 = b ∧ (gB a + 2 * gB b + 4 * gB c + 8 * gB d + 16 * gB e).testBit 2 = c ∧ (gB a + 2 * gB b + 4 * gB c + 8 * gB d + 16 * gB e).testBit 3 = d ∧ (gB a + 2 * gB b + 4 * gB c + 8 * gB d + 16 * gB e).testBit 4 = e := by decide +kernel
  obtain ⟨h1, h2, h3, h4, h5, h6⟩ := h (S 0) (S 1) (S 2) (S 3) (S 4)
  refine ⟨h1, fun v hv => ?_⟩
  rcases lt5 hv with rfl | rfl | rfl | rfl | rfl
  · exact h2
  · exact h3
  · exact h4
  · exact h5
  · exact h6
theorem bsub_cg (D : Nat → Bool) {S T : Nat → Bool} (h : ∀ v, v < 5 → S v = T v) : bsub D S = bsub D T := by
  unfold bsub
  rw [h 0 (by omega), h 1 (by omega), h 2 (by omega), h 3 (by omega), h 4 (by omega)]
theorem bmeet_cg (D : Nat → Bool) {S T : Nat → Bool} (h : ∀ v, v < 5 → S v = T v) : bmeet D S = bmeet D T := by
  unfold bmeet
  rw [h 0 (by omega), h 1 (by omega), h 2 (by omega), h 3 (by omega), h 4 (by omega)]
theorem cU_cg (L : List (Nat → Bool)) {S T : Nat → Bool} (h : ∀ v, v < 5 → S v = T v) : cU L S = cU L T := by
  induction L with
  | nil => rfl
  | cons D L ih => simp only [cU]; rw [ih, bsub_cg D h]
theorem cM_cg (L : List (Nat → Bool)) {S T : Nat → Bool} (h : ∀ v, v < 5 → S v = T v) : cM L S = cM L T := by
  induction L with
  | nil => rfl
  | cons D L ih => simp only [cM]; rw [ih, bmeet_cg D h]
theorem hsum_cg (f : Nat → Nat) {S T : Nat → Bool} (h : ∀ v, v < 5 → S v = T v) : hsum f S = hsum f T := by
  simp only [hsum, sum5]
  rw [h 0 (by omega), h 1 (by omega), h 2 (by omega), h 3 (by omega), h 4 (by omega)]
theorem hsum_sN (f : Nat → Nat) (s : Nat) : hsum f (dF s) = sN (fun v => if s.testBit v then f v else 0) 5 := by
  unfold hsum sum5 dF
  simp only [sN, Nat.zero_add]
theorem hall_iff {n : Nat} {m lo hi d : Nat → Nat} (hd : ∀ k, k < n → d (m k) < 32) : hall lo hi (dL m d n) ↔ ∀ s, s < 32 → hallT n m lo hi d s := by
  constructor
  · intro h s hs
    have h1 := h (dF s)
    rw [cU_dL hd hs, cM_dL hd hs, hsum_sN, hsum_sN] at h1
    exact h1
  · intro h S
    obtain ⟨e1, e2⟩ := enc5_tb S
    have h1 := h _ e1
    unfold hallT at h1
    rw [← cU_dL hd e1, ← cM_dL hd e1, ← hsum_sN, ← hsum_sN] at h1
    have e3 : ∀ v, v < 5 → dF (enc5 S) v = S v := e2
    rw [cU_cg _ e3, cM_cg _ e3, hsum_cg _ e3, hsum_cg _ e3] at h1
    exact h1
theorem fitA_app : ∀ {L1 L2 : List (Nat → Bool)} {A : List Nat}, fitA (L1 ++ L2) A → ∃ A1 A2, A = A1 ++ A2 ∧ fitA L1 A1 ∧ fitA L2 A2
  | [], L2, A, h => ⟨[], A, rfl, trivial, h⟩
  | D :: L1, L2, [], h => h.elim
  | D :: L1, L2, a :: A, h => by
    obtain ⟨A1, A2, e, f1, f2⟩ := fitA_app h.2.2
    exact ⟨a :: A1, A2, by rw [e]; rfl, ⟨h.1, h.2.1, f1⟩, f2⟩
theorem fitA_cat : ∀ {L1 L2 : List (Nat → Bool)} {A1 A2 : List Nat}, fitA L1 A1 → fitA L2 A2 → fitA (L1 ++ L2) (A1 ++ A2)
  | [], _, [], _, _, h2 => h2
  | [], _, _ :: _, _, h, _ => h.elim
  | _ :: _, _, [], _, h, _ => h.elim
  | D :: L1, L2, a :: A1, A2, h, h2 => ⟨h.1, h.2.1, fitA_cat h.2.2 h2⟩
theorem cntA_app (v : Nat) (A1 A2 : List Nat) : cntA v (A1 ++ A2) = cntA v A1 + cntA v A2 := by
  induction A1 with
  | nil => simp [cntA]
  | cons a A ih => simp only [List.cons_append, cntA, ih]; omega
theorem dL_fit {m d : Nat → Nat} {n : Nat} {A : List Nat} (h : fitA (dL m d n) A) : ∃ f : Nat → Nat, (∀ k, k < n → f k < 5 ∧ (d (m k)).testBit (f k) = true) ∧ ∀ v, cntA v A = cN (fun k => decide (f k = v)) n := by
  induction n generalizing A with
  | zero =>
    cases A with
    | nil => exact ⟨fun _ => 0, fun k hk => by omega, fun v => rfl⟩
    | cons a A => exact h.elim
  | succ n ih =>
    obtain ⟨A1, A2, e, f1, f2⟩ := fitA_app h
    obtain ⟨f, g1, g2⟩ := ih f1
    match A2, f2 with
    | [a], f2 =>
      refine ⟨ud f n a, fun k hk => ?_, fun v => ?_⟩
      · by_cases hkn : k = n
        · subst hkn; rw [ud_s]; exact ⟨f2.1, f2.2.1⟩
        · rw [ud_n _ _ hkn]; exact g1 k (by omega)
      · rw [e, cntA_app, g2]
        simp only [cN, cntA, Nat.add_zero, ud_s]
        rw [cN_cong (f := fun k => decide (ud f n a k = v)) (g := fun k => decide (f k = v)) (fun i hi => by simp only [ud_n _ _ (show i ≠ n by omega)])]
        rfl
    | [], f2 => exact f2.elim
    | a :: b :: A2, f2 => exact f2.2.2.elim
theorem fit_dL {m d a : Nat → Nat} {n : Nat} (h : ∀ k, k < n → a (m k) < 5 ∧ (d (m k)).testBit (a (m k)) = true) : ∃ A, fitA (dL m d n) A ∧ ∀ v, cntA v A = cnt m a v n := by
  induction n with
  | zero => exact ⟨[], trivial, fun v => rfl⟩
  | succ n ih =>
    obtain ⟨A, h1, h2⟩ := ih (fun k hk => h k (by omega))
    refine ⟨A ++ [a (m n)], fitA_cat h1 ⟨(h n (by omega)).1, (h n (by omega)).2, trivial⟩, fun v => ?_⟩
    rw [cntA_app, h2]
    rfl
theorem can_counts {n : Nat} {m lo hi d : Nat → Nat} (hm : ∀ i j, i < n → j < n → m i = m j → i = j) (hd : ∀ k, k < n → d (m k) < 32) (hlh : ∀ v, v < 5 → lo v ≤ hi v) : (∀ s, s < 32 → hallT n m lo hi d s) ↔ Can (n, m, okCounts n m lo hi) d := by
  rw [← hall_iff hd]
  constructor
  · intro h
    obtain ⟨A, h1, h2⟩ := hall_ex hlh _ _ (Nat.le_refl _) h
    obtain ⟨f, g1, g2⟩ := dL_fit h1
    refine ⟨fun y => f (posOf m n y), fun k hk => ?_, ?_⟩
    · show f (posOf m n (m k)) < 5 ∧ (d (m k)).testBit (f (posOf m n (m k))) = true
      rw [posOf_m hm hk]
      exact g1 k hk
    · show dB _ = true
      rw [dB_t]
      intro v hv
      have e : cnt m (fun y => f (posOf m n y)) v n = cntA v A := by
        rw [g2]
        exact cN_cong (fun i hi => by simp only [posOf_m hm hi])
      rw [e]
      exact h2 v hv
  · rintro ⟨a, h1, h2⟩
    obtain ⟨A, f1, f2⟩ := fit_dL (m := m) (d := d) (a := a) (n := n) h1
    refine ex_hall f1 (fun v hv => ?_)
    rw [f2]
    exact dB_t.mp h2 v hv

/-! WINDOWS: what the latest members can be, as bits of rows -/
theorem cN_rev (p : Nat → Bool) (n : Nat) : cN p n = cN (fun j => p (n - 1 - j)) n := by
  have h : ∀ k, k ≤ n → cN (fun j => p (n - 1 - j)) k + cN p (n - k) = cN p n := by
    intro k
    induction k with
    | zero => intro _; simp [cN]
    | succ k ih =>
      intro hk
      have h1 := ih (by omega)
      obtain ⟨q, hq⟩ : ∃ q, n - k = q + 1 := ⟨n - k - 1, by omega⟩
      rw [hq] at h1
      have e1 : n - 1 - k = q := by omega
      have e2 : n - (k + 1) = q := by omega
      rw [e2]
      show cN (fun j => p (n - 1 - j)) k + (if p (n - 1 - k) then 1 else 0) + cN p q = cN p n
      rw [e1]
      simp only [cN] at h1
      omega
  have := h n (Nat.le_refl _)
  rw [Nat.sub_self] at this
  simp only [cN, Nat.add_zero] at this
  exact this.symm
theorem pcn_cN (k x : Nat) : pcn k x = cN (fun j => x.testBit j) k := by
  have h : ∀ k x, pcn k x = cN (fun j => x.testBit j) k ∧ cN (fun j => x.testBit j) (k + 1) = x % 2 + cN (fun j => (x / 2).testBit j) k := by
    intro k
    induction k with
    | zero =>
      intro x
      refine ⟨rfl, ?_⟩
      show 0 + (if x.testBit 0 then 1 else 0) = x % 2 + 0
      rw [Nat.testBit_zero]
      have := Nat.mod_lt x (show 0 < 2 by decide)
      by_cases e : x % 2 = 1
      · simp [e]
      · simp [e]; omega
    | succ k ih =>
      intro x
      have h1 := ih (x / 2)
      have h2 := (ih x).2
      refine ⟨?_, ?_⟩
      · rw [h2]; simp only [pcn]; rw [h1.1]
      · rw [show cN (fun j => x.testBit j) (k + 1 + 1) = cN (fun j => x.testBit j) (k + 1) + (if x.testBit (k + 1) then 1 else 0) from rfl, h2]
        rw [show cN (fun j => (x / 2).testBit j) (k + 1) = cN (fun j => (x / 2).testBit j) k + (if (x / 2).testBit k then 1 else 0) from rfl]
        rw [Nat.testBit_succ]
        omega
  exact (h k x).1
/-- the latest w members' bits behind k of them -/
def rowOf (w s : Nat) (m a : Nat → Nat) : Nat → Nat
  | 0 => 0
  | k + 1 => (2 * rowOf w s m a k + (if s.testBit (a (m k)) then 1 else 0)) % 2 ^ w
theorem rowOf_lt (w s : Nat) (m a : Nat → Nat) (k : Nat) : rowOf w s m a k < 2 ^ w := by
  cases k with
  | zero => exact Nat.pow_pos (by decide)
  | succ k => exact Nat.mod_lt _ (Nat.pow_pos (by decide))
theorem rowOf_tb (w s : Nat) (m a : Nat → Nat) (k j : Nat) : (rowOf w s m a k).testBit j = (decide (j < w) && decide (j < k) && s.testBit (a (m (k - 1 - j)))) := by
  induction k generalizing j with
  | zero => simp [rowOf]
  | succ k ih =>
    unfold rowOf
    rw [Nat.testBit_mod_two_pow]
    cases j with
    | zero =>
      have e : (2 * rowOf w s m a k + (if s.testBit (a (m k)) then 1 else 0)).testBit 0 = s.testBit (a (m k)) := by
        rw [Nat.testBit_zero]
        cases s.testBit (a (m k))
        · simp
        · simp
      rw [e]
      simp
    | succ j =>
      rw [Nat.testBit_succ]
      have e : (2 * rowOf w s m a k + (if s.testBit (a (m k)) then 1 else 0)) / 2 = rowOf w s m a k := by split <;> omega
      rw [e, ih]
      rw [show k + 1 - 1 - (j + 1) = k - 1 - j by omega]
      by_cases h1 : j + 1 < w
      · have h2 : j < w := by omega
        simp [h1, h2]
      · simp [h1]
theorem rowOf_cg {w s : Nat} {m a b : Nat → Nat} {k : Nat} (h : ∀ j, j < k → a (m j) = b (m j)) : rowOf w s m a k = rowOf w s m b k := by
  induction k with
  | zero => rfl
  | succ k ih => unfold rowOf; rw [ih (fun j hj => h j (by omega)), h k (by omega)]
/-- how many of w members from i on are in the set -/
def wct (w s : Nat) (m a : Nat → Nat) (i : Nat) : Nat := cN (fun j => s.testBit (a (m (i + j)))) w
theorem rowOf_pc {w s : Nat} {m a : Nat → Nat} {k : Nat} (h : w ≤ k) : pcn w (rowOf w s m a k) = wct w s m a (k - w) := by
  rw [pcn_cN, cN_rev]
  unfold wct
  apply cN_cong
  intro j hj
  simp only [rowOf_tb]
  have h1 : w - 1 - j < w := by omega
  have h2 : w - 1 - j < k := by omega
  rw [show k - 1 - (w - 1 - j) = k - w + j by omega]
  simp [h1, h2]
theorem wct_cg {w s : Nat} {m a b : Nat → Nat} {i : Nat} (h : ∀ j, j < i + w → a (m j) = b (m j)) : wct w s m a i = wct w s m b i := by
  unfold wct
  exact cN_cong (fun j hj => by rw [h (i + j) (by omega)])
noncomputable def okWindow (n : Nat) (m : Nat → Nat) (w s lo hi : Nat) (a : Nat → Nat) : Bool := dB (∀ i, i + w ≤ n → lo ≤ wct w s m a i ∧ wct w s m a i ≤ hi)
/-- a row can be reached behind k members -/
def reach (w s lo hi : Nat) (m d : Nat → Nat) (k r : Nat) : Prop := ∃ a : Nat → Nat, (∀ j, j < k → a (m j) < 5 ∧ (d (m j)).testBit (a (m j)) = true) ∧ (∀ i, i + w ≤ k → lo ≤ wct w s m a i ∧ wct w s m a i ≤ hi) ∧ rowOf w s m a k = r
/-- the member can be in the set, or out of it -/
def canBit (s dx bit : Nat) : Prop := ∃ u, u < 5 ∧ dx.testBit u = true ∧ s.testBit u = decide (bit = 1)
theorem reach_0 {w s lo hi : Nat} {m d : Nat → Nat} (hw : 0 < w) (r : Nat) : reach w s lo hi m d 0 r ↔ r = 0 := by
  constructor
  · rintro ⟨a, -, -, h⟩; exact h.symm
  · rintro rfl
    exact ⟨fun _ => 0, fun j hj => by omega, fun i hi => by omega, rfl⟩
theorem reach_s {w s lo hi n : Nat} {m d : Nat → Nat} (hm : ∀ i j, i < n → j < n → m i = m j → i = j) {k : Nat} (hk : k < n) (hw : 0 < w) (t : Nat) :
    reach w s lo hi m d (k + 1) t ↔ ∃ r bit, bit < 2 ∧ reach w s lo hi m d k r ∧ t = (2 * r + bit) % 2 ^ w ∧ canBit s (d (m k)) bit ∧ (w ≤ k + 1 → lo ≤ pcn w t ∧ pcn w t ≤ hi) := by
  constructor
  · rintro ⟨a, h1, h2, h3⟩
    refine ⟨rowOf w s m a k, if s.testBit (a (m k)) then 1 else 0, by split <;> decide, ⟨a, fun j hj => h1 j (by omega), fun i hi => h2 i (by omega), rfl⟩, h3.symm, ⟨a (m k), (h1 k (by omega)).1, (h1 k (by omega)).2, ?_⟩, fun hwk => ?_⟩
    · cases s.testBit (a (m k)) <;> rfl
    · rw [← h3, rowOf_pc hwk]
      exact h2 _ (by omega)
  · rintro ⟨r, bit, hb, ⟨a, h1, h2, h3⟩, ht, ⟨u, hu, hd, hs⟩, hp⟩
    have ha : ∀ j, j < k → ud a (m k) u (m j) = a (m j) := fun j hj => ud_n _ _ (fun q => by have := hm j k (by omega) hk q; omega)
    have hr : rowOf w s m (ud a (m k) u) k = r := by rw [← h3]; exact rowOf_cg ha
    have hrow : rowOf w s m (ud a (m k) u) (k + 1) = t := by
      unfold rowOf
      rw [hr, ud_s, hs, ht]
      have : bit = 0 ∨ bit = 1 := by omega
      rcases this with rfl | rfl <;> rfl
    refine ⟨ud a (m k) u, fun j hj => ?_, fun i hi => ?_, hrow⟩
    · by_cases e : j = k
      · subst e; rw [ud_s]; exact ⟨hu, hd⟩
      · rw [ha j (by omega)]; exact h1 j (by omega)
    · by_cases e : i + w ≤ k
      · have : wct w s m (ud a (m k) u) i = wct w s m a i := wct_cg (fun j hj => ha j (by omega))
        rw [this]; exact h2 i e
      · have h4 := hp (by omega)
        rw [← hrow, rowOf_pc (by omega), show k + 1 - w = i by omega] at h4
        exact h4
theorem can_window {w s lo hi n : Nat} {m d : Nat → Nat} : (∃ r, reach w s lo hi m d n r) ↔ Can (n, m, okWindow n m w s lo hi) d := by
  constructor
  · rintro ⟨r, a, h1, h2, -⟩
    exact ⟨a, h1, dB_t.mpr h2⟩
  · rintro ⟨a, h1, h2⟩
    exact ⟨_, a, h1, dB_t.mp h2, rfl⟩
theorem reach_lt {w s lo hi : Nat} {m d : Nat → Nat} {k r : Nat} (h : reach w s lo hi m d k r) : r < 2 ^ w := by
  obtain ⟨a, -, -, h⟩ := h
  rw [← h]; exact rowOf_lt _ _ _ _ _
theorem canBit_1 : ∀ dx, dx < 32 → ∀ s, s < 32 → (canBit s dx 1 ↔ dx &&& s ≠ 0) := by
  intro dx hd s hs
  have h := dm_meet dx hd s hs
  constructor
  · rintro ⟨u, hu, h1, h2⟩
    have : bmeet (dF dx) (dF s) = true := (bmeet_iff _ _).mpr ⟨u, hu, h1, h2⟩
    rw [h] at this
    exact of_decide_eq_true this
  · intro hn
    rw [show (dx &&& s ≠ 0) = ((decide (dx &&& s ≠ 0)) = true) by simp, ← h, bmeet_iff] at hn
    obtain ⟨u, hu, h1, h2⟩ := hn
    exact ⟨u, hu, h1, h2⟩
theorem canBit_0 : ∀ dx, dx < 32 → ∀ s, s < 32 → (canBit s dx 0 ↔ andn dx s ≠ 0) := by
  intro dx hd s hs
  constructor
  · rintro ⟨u, hu, h1, h2⟩ hn
    have := dm_andn_tb dx hd s hs u hu
    rw [hn, h1, h2] at this
    simp at this
  · intro hn
    obtain ⟨u, hu, h1⟩ := dm_ex (dm_andn_lt dx hd s hs) hn
    rw [dm_andn_tb dx hd s hs u hu] at h1
    simp only [Bool.and_eq_true, Bool.not_eq_true'] at h1
    exact ⟨u, hu, h1.1, by rw [h1.2]; rfl⟩
/-! ===== comparisons ===== -/
def okLess (m : Nat → Nat) (a : Nat → Nat) : Bool := decide (a (m 0) < a (m 1))
def okDiffer (m : Nat → Nat) (a : Nat → Nat) : Bool := decide (a (m 0) ≠ a (m 1))
theorem less_1 : ∀ x, x < 32 → ∀ y, y < 32 → ∀ v, v < 5 → (y >>> (v + 1) ≠ 0 ↔ ∃ u, u < 5 ∧ y.testBit u = true ∧ v < u) := by decide +kernel
theorem can2 {m d : Nat → Nat} (hm : m 0 ≠ m 1) {ok : (Nat → Nat) → Bool} {R : Nat → Nat → Prop} (hok : ∀ a, ok a = true ↔ R (a (m 0)) (a (m 1))) : Can (2, m, ok) d ↔ ∃ v u, v < 5 ∧ u < 5 ∧ (d (m 0)).testBit v = true ∧ (d (m 1)).testBit u = true ∧ R v u := by
  constructor
  · rintro ⟨a, h1, h2⟩
    have q0 := h1 0 (show (0 : Nat) < 2 by decide)
    have q1 := h1 1 (show (1 : Nat) < 2 by decide)
    exact ⟨a (m 0), a (m 1), q0.1, q1.1, q0.2, q1.2, (hok a).mp h2⟩
  · rintro ⟨v, u, hv, hu, h0, h1, hr⟩
    refine ⟨fun y => if y = m 0 then v else u, fun k hk => ?_, (hok _).mpr ?_⟩
    · have hk2 : k < 2 := hk
      have : k = 0 ∨ k = 1 := by omega
      rcases this with rfl | rfl
      · show (if m 0 = m 0 then v else u) < 5 ∧ (d (m 0)).testBit (if m 0 = m 0 then v else u) = true
        rw [if_pos rfl]; exact ⟨hv, h0⟩
      · show (if m 1 = m 0 then v else u) < 5 ∧ (d (m 1)).testBit (if m 1 = m 0 then v else u) = true
        rw [if_neg (fun q => hm q.symm)]; exact ⟨hu, h1⟩
    · show R (if m 0 = m 0 then v else u) (if m 1 = m 0 then v else u)
      rw [if_pos rfl, if_neg (fun q => hm q.symm)]
      exact hr
theorem can_less {m d : Nat → Nat} (hm : m 0 ≠ m 1) (h1 : d (m 0) < 32) (h2 : d (m 1) < 32) : (∃ v, v < 5 ∧ (d (m 0)).testBit v = true ∧ d (m 1) >>> (v + 1) ≠ 0) ↔ Can (2, m, okLess m) d := by
  rw [can2 hm (R := fun v u => v < u) (fun a => by simp [okLess])]
  constructor
  · rintro ⟨v, hv, h3, h4⟩
    obtain ⟨u, hu, h5, h6⟩ := (less_1 _ h1 _ h2 v hv).mp h4
    exact ⟨v, u, hv, hu, h3, h5, h6⟩
  · rintro ⟨v, u, hv, hu, h3, h5, h6⟩
    exact ⟨v, hv, h3, (less_1 _ h1 _ h2 v hv).mpr ⟨u, hu, h5, h6⟩⟩
theorem differ_1 : ∀ x, x < 32 → ∀ y, y < 32 → ((x ≠ 0 ∧ y ≠ 0 ∧ (x = y → 1 < pcn 5 x)) ↔ ∃ v, v < 5 ∧ ∃ u, u < 5 ∧ x.testBit v = true ∧ y.testBit u = true ∧ v ≠ u) := by decide +kernel
theorem can_differ {m d : Nat → Nat} (hm : m 0 ≠ m 1) (h1 : d (m 0) < 32) (h2 : d (m 1) < 32) : (d (m 0) ≠ 0 ∧ d (m 1) ≠ 0 ∧ (d (m 0) = d (m 1) → 1 < pcn 5 (d (m 0)))) ↔ Can (2, m, okDiffer m) d := by
  rw [can2 hm (R := fun v u => v ≠ u) (fun a => by simp [okDiffer]), differ_1 _ h1 _ h2]
  constructor
  · rintro ⟨v, hv, u, hu, h3, h5, h6⟩
    exact ⟨v, u, hv, hu, h3, h5, h6⟩
  · rintro ⟨v, u, hv, hu, h3, h5, h6⟩
    exact ⟨v, hv, u, hu, h3, h5, h6⟩

/-! THE K-TH OF SOME NUMBERS; LEARNT SETS; A PROBLEM'S CONSTRAINTS -/
/-- the k-th number below n with p -/
def kt (p : Nat → Bool) : Nat → Nat → Nat
  | 0, _ => 0
  | n + 1, k => if p n = true ∧ cN p n = k then n else kt p n k
theorem cN_mono (p : Nat → Bool) {i j : Nat} (h : i ≤ j) : cN p i ≤ cN p j := by
  induction j with
  | zero => rw [show i = 0 by omega]; exact Nat.le_refl _
  | succ j ih =>
    by_cases e : i = j + 1
    · rw [e]; exact Nat.le_refl _
    · have := ih (by omega)
      simp only [cN]
      omega
theorem cN_lt {p : Nat → Bool} {i j : Nat} (h : i < j) (hp : p i = true) : cN p i < cN p j := by
  have := cN_mono p (show i + 1 ≤ j from h)
  simp only [cN, hp, if_true] at this
  omega
theorem kt_in {p : Nat → Bool} {n k : Nat} (h : k < cN p n) : kt p n k < n ∧ p (kt p n k) = true ∧ cN p (kt p n k) = k := by
  induction n with
  | zero => simp [cN] at h
  | succ n ih =>
    unfold kt
    by_cases e : p n = true ∧ cN p n = k
    · rw [if_pos e]; exact ⟨by omega, e.1, e.2⟩
    · rw [if_neg e]
      have h2 : k < cN p n := by
        simp only [cN] at h
        by_cases hp : p n = true
        · rw [if_pos hp] at h
          have : ¬ cN p n = k := fun q => e ⟨hp, q⟩
          omega
        · rw [if_neg hp] at h; exact h
      obtain ⟨h3, h4⟩ := ih h2
      exact ⟨by omega, h4⟩
theorem kt_uq {p : Nat → Bool} {i j : Nat} (hi : p i = true) (hj : p j = true) (h : cN p i = cN p j) : i = j := by
  by_cases h1 : i < j
  · have := cN_lt h1 hi; omega
  · by_cases h2 : j < i
    · have := cN_lt h2 hj; omega
    · omega
theorem kt_of {p : Nat → Bool} {n y : Nat} (hy : y < n) (hp : p y = true) : kt p n (cN p y) = y := by
  have h1 := kt_in (p := p) (n := n) (k := cN p y) (cN_lt hy hp)
  exact kt_uq h1.2.1 hp h1.2.2
theorem kt_inj {p : Nat → Bool} {n i j : Nat} (hi : i < cN p n) (hj : j < cN p n) (h : kt p n i = kt p n j) : i = j := by
  have h1 := (kt_in hi).2.2
  have h2 := (kt_in hj).2.2
  rw [h] at h1
  omega
/-- a learnt set's digit of a variable: its value and 1, or 0 -/
def dg (s x : Nat) : Nat := (s >>> (3 * x)) &&& 7
theorem dg_lt (s x : Nat) : dg s x < 8 := Nat.lt_of_le_of_lt Nat.and_le_right (by decide)
def lp (s : Nat) : Nat → Bool := fun x => decide (dg s x ≠ 0)
noncomputable def okLearnt (s : Nat) (a : Nat → Nat) : Bool := dB (∃ x, x < 7 ∧ dg s x ≠ 0 ∧ a x ≠ dg s x - 1)
noncomputable def lK (s : Nat) : Kon := (cN (lp s) 7, kt (lp s) 7, okLearnt s)
def Swf (s : Nat) : Prop := s < 2097152 ∧ ∀ x, x < 7 → dg s x ≤ 5
theorem lp_t {s x : Nat} : lp s x = true ↔ dg s x ≠ 0 := by simp [lp]
theorem lK_wf (s : Nat) : Kwf (lK s) := by
  refine ⟨cN_le _ _, fun k hk => (kt_in hk).1, fun i j hi hj h => kt_inj hi hj h, fun a b h => ?_⟩
  show dB _ = dB _
  apply dB_c
  have e : ∀ x, x < 7 → dg s x ≠ 0 → a x = b x := fun x hx h0 => by
    have h1 := kt_of hx (lp_t.mpr h0)
    have h2 := h (cN (lp s) x) (cN_lt hx (lp_t.mpr h0))
    have h3 : kt (lp s) 7 (cN (lp s) x) = x := h1
    have h4 : a (kt (lp s) 7 (cN (lp s) x)) = b (kt (lp s) 7 (cN (lp s) x)) := h2
    rw [h3] at h4
    exact h4
  constructor
  · rintro ⟨x, hx, h0, h1⟩; exact ⟨x, hx, h0, by rw [← e x hx h0]; exact h1⟩
  · rintro ⟨x, hx, h0, h1⟩; exact ⟨x, hx, h0, by rw [e x hx h0]; exact h1⟩
theorem pick_in {d : Nat} (h : d < 32) (h0 : d ≠ 0) : pick5 (dF d) < 5 ∧ d.testBit (pick5 (dF d)) = true := pick5_in (D := dF d) (by obtain ⟨v, hv, h1⟩ := dm_ex h h0; exact ⟨v, hv, h1⟩)
theorem can_leave {s : Nat} (hs : Swf s) {d : Nat → Nat} (hd : ∀ x, x < 7 → d x < 32) : ((∀ x, x < 7 → dg s x ≠ 0 → d x ≠ 0) ∧ ∃ x, x < 7 ∧ dg s x ≠ 0 ∧ clr (d x) (dg s x - 1) ≠ 0) ↔ Can (lK s) d := by
  constructor
  · rintro ⟨h1, x, hx, h0, h2⟩
    have hv : dg s x - 1 < 5 := by have := hs.2 x hx; omega
    obtain ⟨u, hu, h3⟩ := dm_ex (dm_clr_lt _ (hd x hx) _ hv) h2
    rw [dm_clr_tb _ (hd x hx) _ hv _ hu] at h3
    simp only [Bool.and_eq_true, decide_eq_true_eq] at h3
    refine ⟨ud (fun y => pick5 (dF (d y))) x u, fun k hk => ?_, dB_t.mpr ⟨x, hx, h0, by rw [ud_s]; exact h3.2⟩⟩
    have hk2 := kt_in (p := lp s) (n := 7) (k := k) hk
    show ud (fun y => pick5 (dF (d y))) x u (kt (lp s) 7 k) < 5 ∧ (d (kt (lp s) 7 k)).testBit (ud (fun y => pick5 (dF (d y))) x u (kt (lp s) 7 k)) = true
    generalize kt (lp s) 7 k = y at hk2
    by_cases e : y = x
    · subst e; rw [ud_s]; exact ⟨hu, h3.1⟩
    · rw [ud_n _ _ e]
      exact pick_in (hd y hk2.1) (h1 y hk2.1 (lp_t.mp hk2.2.1))
  · rintro ⟨a, h1, h2⟩
    have h3 : ∀ x, x < 7 → dg s x ≠ 0 → a x < 5 ∧ (d x).testBit (a x) = true := fun x hx h0 => by
      have h4 := h1 (cN (lp s) x) (cN_lt hx (lp_t.mpr h0))
      have h5 : kt (lp s) 7 (cN (lp s) x) = x := kt_of hx (lp_t.mpr h0)
      have h6 : a (kt (lp s) 7 (cN (lp s) x)) < 5 ∧ (d (kt (lp s) 7 (cN (lp s) x))).testBit (a (kt (lp s) 7 (cN (lp s) x))) = true := h4
      rw [h5] at h6
      exact h6
    obtain ⟨x, hx, h0, h4⟩ := dB_t.mp h2
    refine ⟨fun y hy hn q => ?_, x, hx, h0, fun q => ?_⟩
    · have := (h3 y hy hn).2
      rw [q] at this
      simp at this
    · have h5 := h3 x hx h0
      have hv : dg s x - 1 < 5 := by have := hs.2 x hx; omega
      have h6 := dm_clr_tb _ (hd x hx) _ hv _ h5.1
      rw [q, h5.2] at h6
      simp at h6
      exact h4 h6
/-! ===== a problem, as the numbers that the reference keeps of it ===== -/
noncomputable def cOk (P : Nat → Nat) (c : Nat) (a : Nat → Nat) : Bool := if P (9 + 20 * c) = 0 then okCounts (P (9 + 20 * c + 1)) (fun k => P (9 + 20 * c + (2 + k))) (fun v => P (9 + 20 * c + (9 + v))) (fun v => P (9 + 20 * c + (14 + v))) a else if P (9 + 20 * c) = 1 then okWindow (P (9 + 20 * c + 1)) (fun k => P (9 + 20 * c + (2 + k))) (P (9 + 20 * c + 9)) (P (9 + 20 * c + 10)) (P (9 + 20 * c + 11)) (P (9 + 20 * c + 12)) a else if P (9 + 20 * c) = 2 then okLess (fun k => P (9 + 20 * c + (2 + k))) a else okDiffer (fun k => P (9 + 20 * c + (2 + k))) a
noncomputable def cK (P : Nat → Nat) (c : Nat) : Kon := (P (9 + 20 * c + 1), (fun k => P (9 + 20 * c + (2 + k))), cOk P c)
/-- a well-formed constraint, of a problem with N variables -/
def Cwf (P : Nat → Nat) (c : Nat) : Prop := P (9 + 20 * c) ≤ 3 ∧ 0 < P (9 + 20 * c + 1) ∧ P (9 + 20 * c + 1) ≤ 7 ∧ (∀ k, k < P (9 + 20 * c + 1) → P (9 + 20 * c + (2 + k)) < P 0) ∧ (∀ i j, i < P (9 + 20 * c + 1) → j < P (9 + 20 * c + 1) → P (9 + 20 * c + (2 + i)) = P (9 + 20 * c + (2 + j)) → i = j)
  ∧ (P (9 + 20 * c) = 0 → ∀ v, v < 5 → P (9 + 20 * c + (9 + v)) ≤ P (9 + 20 * c + (14 + v)) ∧ P (9 + 20 * c + (14 + v)) ≤ 7)
  ∧ (P (9 + 20 * c) = 1 → 0 < P (9 + 20 * c + 9) ∧ P (9 + 20 * c + 9) ≤ 4 ∧ 0 < P (9 + 20 * c + 10) ∧ P (9 + 20 * c + 10) < 32 ∧ P (9 + 20 * c + 11) ≤ P (9 + 20 * c + 12) ∧ P (9 + 20 * c + 12) ≤ P (9 + 20 * c + 9))
  ∧ (2 ≤ P (9 + 20 * c) → P (9 + 20 * c + 1) = 2)
  ∧ (P (9 + 20 * c) = 0 → P (9 + 20 * c + 19) < 32 ∧ ∀ v, v < 5 → (P (9 + 20 * c + 19)).testBit v = false → P (9 + 20 * c + (9 + v)) = 0 ∧ P (9 + 20 * c + (14 + v)) = 7)
  ∧ (∀ j, j < 20 → P (9 + 20 * c + j) < 64) ∧ ∀ j, j < 7 → P (9 + 20 * c + (2 + j)) < 7
def Pwf (P : Nat → Nat) : Prop := P 0 ≤ 7 ∧ P 1 ≤ 8 ∧ (∀ x, x < 7 → P (2 + x) < 32) ∧ (∀ x, x < P 0 → P (2 + x) ≠ 0) ∧ (∀ x, P 0 ≤ x → x < 7 → P (2 + x) = 0) ∧ ∀ c, c < P 1 → Cwf P c
theorem cnt_cg {m a b : Nat → Nat} {v n : Nat} (h : ∀ k, k < n → a (m k) = b (m k)) : cnt m a v n = cnt m b v n := cN_cong (fun k hk => by simp only [h k hk])
theorem cK_wf {P : Nat → Nat} {c : Nat} (h : Cwf P c) (h0 : P 0 ≤ 7) : Kwf (cK P c) := by
  obtain ⟨hk, h1, h2, h3, h4, h5, h6, h7, h8, h9⟩ := h
  refine ⟨h2, fun k hk => Nat.lt_of_lt_of_le (h3 k hk) h0, h4, fun a b hab => ?_⟩
  show cOk P c a = cOk P c b
  have hab' : ∀ k, k < P (9 + 20 * c + 1) → a (P (9 + 20 * c + (2 + k))) = b (P (9 + 20 * c + (2 + k))) := hab
  unfold cOk
  by_cases e0 : P (9 + 20 * c) = 0
  · rw [if_pos e0, if_pos e0]
    apply dB_c
    constructor
    · intro q v hv; rw [← cnt_cg (a := a) (b := b) hab']; exact q v hv
    · intro q v hv; rw [cnt_cg (a := a) (b := b) hab']; exact q v hv
  · rw [if_neg e0, if_neg e0]
    by_cases e1 : P (9 + 20 * c) = 1
    · rw [if_pos e1, if_pos e1]
      apply dB_c
      constructor
      · intro q i hi; rw [← wct_cg (a := a) (b := b) (fun j hj => hab' j (by omega))]; exact q i hi
      · intro q i hi; rw [wct_cg (a := a) (b := b) (fun j hj => hab' j (by omega))]; exact q i hi
    · rw [if_neg e1, if_neg e1]
      have e2 := h7 (by omega)
      by_cases e3 : P (9 + 20 * c) = 2
      · rw [if_pos e3, if_pos e3]
        unfold okLess
        simp only [hab' 0 (by omega), hab' 1 (by omega)]
      · rw [if_neg e3, if_neg e3]
        unfold okDiffer
        simp only [hab' 0 (by omega), hab' 1 (by omega)]
theorem Can_cg {κ : Kon} {d e : Nat → Nat} (h : ∀ k, k < κ.1 → d (κ.2.1 k) = e (κ.2.1 k)) : Can κ d ↔ Can κ e := by
  constructor
  · rintro ⟨a, h1, h2⟩
    exact ⟨a, fun k hk => by rw [← h k hk]; exact h1 k hk, h2⟩
  · rintro ⟨a, h1, h2⟩
    exact ⟨a, fun k hk => by rw [h k hk]; exact h1 k hk, h2⟩

/-! PROPAGATION, as a function on domains and facts (variable, value, reason, level, set) -/
abbrev FT : Type := Nat × Nat × Int32 × Nat × Nat
abbrev St : Type := (Nat → Nat) × List FT
/-- a domain is empty -/
noncomputable def fl (N : Nat) (d : Nat → Nat) : Bool := dB (∃ x, x < N ∧ d x = 0)
theorem fl_f {N : Nat} {d : Nat → Nat} : fl N d = false ↔ ∀ x, x < N → d x ≠ 0 := by
  unfold fl
  rw [dB_f]
  constructor
  · intro h x hx h0; exact h ⟨x, hx, h0⟩
  · rintro h ⟨x, hx, h0⟩; exact h x hx h0
theorem fl_t {N : Nat} {d : Nat → Nat} : fl N d = true ↔ ∃ x, x < N ∧ d x = 0 := dB_t
/-- the value is removed: nothing has failed, it is there, it has no support -/
def gone (κ : Kon) (N x v : Nat) (d : Nat → Nat) : Prop := fl N d = false ∧ (d x).testBit v = true ∧ ¬ Can κ (ud d x (2 ^ v))
noncomputable def stp (κ : Kon) (N : Nat) (r : Int32) (l s x v : Nat) (σ : St) : St := if dB (gone κ N x v σ.1) = true then (ud σ.1 x (clr (σ.1 x) v), σ.2 ++ [(x, v, r, l, s)]) else σ
noncomputable def vls (κ : Kon) (N : Nat) (r : Int32) (l s x : Nat) : Nat → St → St
  | 0, σ => σ
  | j + 1, σ => stp κ N r l s x j (vls κ N r l s x j σ)
noncomputable def sw1 (κ : Kon) (N : Nat) (r : Int32) (l s : Nat) : Nat → St → St
  | 0, σ => σ
  | k + 1, σ => vls κ N r l s (κ.2.1 k) 5 (sw1 κ N r l s k σ)
/-- the constraints and learnt sets by their place, with reason and set -/
noncomputable def kl (P : Nat → Nat) (ss : List Nat) (c : Nat) : Kon × Int32 × Nat := if c < P 1 then (cK P c, nI c, 0) else (lK (ss.getD (c - P 1) 0), nI 100, ss.getD (c - P 1) 0)
noncomputable def rnd (P : Nat → Nat) (ss : List Nat) (l : Nat) : Nat → St → St
  | 0, σ => σ
  | k + 1, σ => sw1 (kl P ss k).1 (P 0) (kl P ss k).2.1 l (kl P ss k).2.2 (kl P ss k).1.1 (rnd P ss l k σ)
noncomputable def prp (P : Nat → Nat) (ss : List Nat) (l : Nat) : Nat → St → St
  | 0, σ => σ
  | n + 1, σ => if (rnd P ss l (P 1 + ss.length) σ).2.length = σ.2.length then rnd P ss l (P 1 + ss.length) σ else prp P ss l n (rnd P ss l (P 1 + ss.length) σ)
/-! what they keep -/
/-- from σ to σ': domains only lose values, each loss a fact -/
def dsum (d : Nat → Nat) : Nat := sN (fun x => pcn 5 (d x)) 7
def Dwf (d : Nat → Nat) : Prop := ∀ x, x < 7 → d x < 32
theorem sN_ud {f : Nat → Nat} {k v n : Nat} (h : k < n) : sN (ud f k v) n + f k = sN f n + v := by
  induction n with
  | zero => omega
  | succ n ih =>
    simp only [sN]
    by_cases e : k = n
    · subst e
      rw [ud_s, sN_cong (f := ud f k v) (g := f) (fun i hi => ud_n _ _ (by omega))]
      omega
    · rw [ud_n f v (show n ≠ k by omega)]
      have := ih (by omega)
      omega
theorem pcn_clr : ∀ d, d < 32 → ∀ v, v < 5 → d.testBit v = true → pcn 5 (clr d v) + 1 = pcn 5 d := by decide +kernel
theorem dsum_clr {d : Nat → Nat} (hd : Dwf d) {x v : Nat} (hx : x < 7) (hv : v < 5) (h : (d x).testBit v = true) : dsum (ud d x (clr (d x) v)) + 1 = dsum d := by
  unfold dsum
  have e : sN (fun y => pcn 5 (ud d x (clr (d x) v) y)) 7 = sN (ud (fun y => pcn 5 (d y)) x (pcn 5 (clr (d x) v))) 7 := by
    apply sN_cong
    intro i hi
    by_cases q : i = x
    · subst q; rw [ud_s, ud_s]
    · rw [ud_n _ _ q, ud_n _ _ q]
  rw [e]
  have h1 : sN (ud (fun y => pcn 5 (d y)) x (pcn 5 (clr (d x) v))) 7 + pcn 5 (d x) = sN (fun y => pcn 5 (d y)) 7 + pcn 5 (clr (d x) v) := sN_ud hx
  have h2 := pcn_clr _ (hd x hx) v hv h
  omega
theorem dsum_le (d : Nat → Nat) : dsum d ≤ 35 := sN_le (b := 5) (fun i _ => pcn_le 5 _)
/-- a step's relation: σ' is σ, or comes by removals with facts that keep R -/
def Dn (R : FT → Prop) (σ σ' : St) : Prop := Dwf σ'.1 ∧ dsum σ'.1 + σ'.2.length = dsum σ.1 + σ.2.length ∧ (∃ T, σ'.2 = σ.2 ++ T ∧ ∀ f ∈ T, R f) ∧ (∀ x, σ'.1 x ≠ σ.1 x → x < 7) ∧ (σ'.2.length = σ.2.length → σ' = σ)
theorem Dn_r {R : FT → Prop} {σ : St} (h : Dwf σ.1) : Dn R σ σ := ⟨h, rfl, ⟨[], (List.append_nil _).symm, fun f hf => by cases hf⟩, fun x hx => absurd rfl hx, fun _ => rfl⟩
theorem Dn_t {R : FT → Prop} {σ σ1 σ2 : St} (h : Dn R σ σ1) (h2 : Dn R σ1 σ2) : Dn R σ σ2 := by
  obtain ⟨a1, a2, ⟨T, a3, a4⟩, a5, a6⟩ := h
  obtain ⟨b1, b2, ⟨U, b3, b4⟩, b5, b6⟩ := h2
  refine ⟨b1, by omega, ⟨T ++ U, by rw [b3, a3, List.append_assoc], fun f hf => ?_⟩, fun x hx => ?_, fun e => ?_⟩
  · rcases List.mem_append.mp hf with q | q
    · exact a4 f q
    · exact b4 f q
  · by_cases q : σ1.1 x = σ.1 x
    · exact b5 x (fun w => hx (w.trans q))
    · exact a5 x q
  · have l1 : σ1.2.length = σ.2.length + T.length := by rw [a3, List.length_append]
    have l2 : σ2.2.length = σ1.2.length + U.length := by rw [b3, List.length_append]
    rw [b6 (by omega), a6 (by omega)]
theorem Dn_m {R R' : FT → Prop} (hR : ∀ f, R f → R' f) {σ σ1 : St} (h : Dn R σ σ1) : Dn R' σ σ1 := by
  obtain ⟨a1, a2, ⟨T, a3, a4⟩, a5, a6⟩ := h
  exact ⟨a1, a2, ⟨T, a3, fun f hf => hR f (a4 f hf)⟩, a5, a6⟩
theorem stp_dn {κ : Kon} {N : Nat} {r : Int32} {l s x v : Nat} {σ : St} (hd : Dwf σ.1) (hx : x < 7) (hv : v < 5) : Dn (fun f => f.1 = x ∧ f.2.1 = v ∧ f.2.2 = (r, l, s)) σ (stp κ N r l s x v σ) := by
  unfold stp
  by_cases e : dB (gone κ N x v σ.1) = true
  · rw [if_pos e]
    obtain ⟨-, e2, -⟩ := dB_t.mp e
    refine ⟨fun y hy => ?_, ?_, ⟨[(x, v, r, l, s)], rfl, fun f hf => ?_⟩, fun y hy => ?_, fun q => ?_⟩
    · show ud σ.1 x (clr (σ.1 x) v) y < 32
      by_cases q : y = x
      · subst q; rw [ud_s]; exact dm_clr_lt _ (hd y hy) v hv
      · rw [ud_n _ _ q]; exact hd y hy
    · have := dsum_clr hd hx hv e2
      show dsum (ud σ.1 x (clr (σ.1 x) v)) + (σ.2 ++ [(x, v, r, l, s)]).length = _
      rw [List.length_append, List.length_singleton]
      omega
    · have : f = (x, v, r, l, s) := by simpa using hf
      subst this
      exact ⟨rfl, rfl, rfl⟩
    · by_cases q : y = x
      · rw [q]; exact hx
      · exact absurd (ud_n σ.1 (clr (σ.1 x) v) q) hy
    · have : (σ.2 ++ [(x, v, r, l, s)]).length = σ.2.length := q
      rw [List.length_append, List.length_singleton] at this
      omega
  · rw [if_neg e]
    exact Dn_r hd
/-- nothing happens once it has failed -/
theorem stp_fl {κ : Kon} {N : Nat} {r : Int32} {l s x v : Nat} {σ : St} (h : fl N σ.1 = true) : stp κ N r l s x v σ = σ := by
  unfold stp
  rw [if_neg]
  intro e
  have := (dB_t.mp e).1
  rw [h] at this
  cases this
theorem vls_fl {κ : Kon} {N : Nat} {r : Int32} {l s x : Nat} {σ : St} (h : fl N σ.1 = true) (j : Nat) : vls κ N r l s x j σ = σ := by
  induction j with
  | zero => rfl
  | succ j ih => simp only [vls]; rw [ih, stp_fl h]
theorem sw1_fl {κ : Kon} {N : Nat} {r : Int32} {l s : Nat} {σ : St} (h : fl N σ.1 = true) (k : Nat) : sw1 κ N r l s k σ = σ := by
  induction k with
  | zero => rfl
  | succ k ih => simp only [sw1]; rw [ih, vls_fl h]
theorem rnd_fl {P : Nat → Nat} {ss : List Nat} {l : Nat} {σ : St} (h : fl (P 0) σ.1 = true) (k : Nat) : rnd P ss l k σ = σ := by
  induction k with
  | zero => rfl
  | succ k ih => simp only [rnd]; rw [ih, sw1_fl h]
theorem prp_fl {P : Nat → Nat} {ss : List Nat} {l : Nat} {σ : St} (h : fl (P 0) σ.1 = true) (n : Nat) : prp P ss l n σ = σ := by
  cases n with
  | zero => rfl
  | succ n => simp only [prp]; rw [rnd_fl h, if_pos rfl]
/-- the facts of a sweep: members of the constraint, its reason -/
def FR (κ : Kon) (r : Int32) (l s : Nat) (f : FT) : Prop := (∃ k, k < κ.1 ∧ f.1 = κ.2.1 k) ∧ f.2.1 < 5 ∧ f.2.2 = (r, l, s)
theorem vls_dn {κ : Kon} {N : Nat} {r : Int32} {l s k : Nat} {σ : St} (hκ : Kwf κ) (hk : k < κ.1) (hd : Dwf σ.1) : ∀ j, j ≤ 5 → Dn (FR κ r l s) σ (vls κ N r l s (κ.2.1 k) j σ) := by
  intro j
  induction j with
  | zero => intro _; exact Dn_r hd
  | succ j ih =>
    intro hj
    have h1 := ih (by omega)
    simp only [vls]
    exact Dn_t h1 (Dn_m (fun f hf => ⟨⟨k, hk, hf.1⟩, by rw [hf.2.1]; omega, hf.2.2⟩) (stp_dn h1.1 (hκ.2.1 k hk) (by omega)))
theorem sw1_dn {κ : Kon} {N : Nat} {r : Int32} {l s : Nat} {σ : St} (hκ : Kwf κ) (hd : Dwf σ.1) : ∀ k, k ≤ κ.1 → Dn (FR κ r l s) σ (sw1 κ N r l s k σ) := by
  intro k
  induction k with
  | zero => intro _; exact Dn_r hd
  | succ k ih =>
    intro hk
    have h1 := ih (by omega)
    simp only [sw1]
    exact Dn_t h1 (vls_dn hκ (by omega) h1.1 5 (Nat.le_refl _))
/-- a problem and its learnt sets are well-formed -/
def Ssf (ss : List Nat) : Prop := ∀ s ∈ ss, Swf s
theorem kl_wf {P : Nat → Nat} {ss : List Nat} (h : Pwf P) (c : Nat) : Kwf (kl P ss c).1 := by
  unfold kl
  by_cases e : c < P 1
  · rw [if_pos e]; exact cK_wf (h.2.2.2.2.2 c e) h.1
  · rw [if_neg e]; exact lK_wf _
/-- a fact of propagation -/
def FP1 (P : Nat → Nat) (ss : List Nat) (l : Nat) (f : FT) : Prop := ∃ c, c < P 1 + ss.length ∧ FR (kl P ss c).1 (kl P ss c).2.1 l (kl P ss c).2.2 f
theorem rnd_dn {P : Nat → Nat} {ss : List Nat} {l : Nat} {σ : St} (h : Pwf P) (hd : Dwf σ.1) : ∀ k, k ≤ P 1 + ss.length → Dn (FP1 P ss l) σ (rnd P ss l k σ) := by
  intro k
  induction k with
  | zero => intro _; exact Dn_r hd
  | succ k ih =>
    intro hk
    have h1 := ih (by omega)
    simp only [rnd]
    exact Dn_t h1 (Dn_m (fun f hf => ⟨k, by omega, hf⟩) (sw1_dn (kl_wf h k) h1.1 _ (Nat.le_refl _)))
theorem prp_dn {P : Nat → Nat} {ss : List Nat} {l : Nat} (h : Pwf P) : ∀ (n : Nat) (σ : St), Dwf σ.1 → Dn (FP1 P ss l) σ (prp P ss l n σ) := by
  intro n
  induction n with
  | zero => intro σ hd; exact Dn_r hd
  | succ n ih =>
    intro σ hd
    have h1 := rnd_dn (ss := ss) (l := l) h hd _ (Nat.le_refl _)
    simp only [prp]
    by_cases e : (rnd P ss l (P 1 + ss.length) σ).2.length = σ.2.length
    · rw [if_pos e]; exact h1
    · rw [if_neg e]; exact Dn_t h1 (ih _ h1.1)
/-- enough rounds are enough -/
theorem prp_up {P : Nat → Nat} {ss : List Nat} {l : Nat} (h : Pwf P) : ∀ (n m : Nat) (σ : St), Dwf σ.1 → dsum σ.1 < n → n ≤ m → prp P ss l m σ = prp P ss l n σ := by
  intro n
  induction n with
  | zero => intro m σ _ h1; omega
  | succ n ih =>
    intro m σ hd h1 h2
    obtain ⟨m, rfl⟩ : ∃ j, m = j + 1 := ⟨m - 1, by omega⟩
    have h3 := rnd_dn (ss := ss) (l := l) h hd _ (Nat.le_refl _)
    simp only [prp]
    by_cases e : (rnd P ss l (P 1 + ss.length) σ).2.length = σ.2.length
    · rw [if_pos e, if_pos e]
    · rw [if_neg e, if_neg e]
      obtain ⟨T, h4, -⟩ := h3.2.2.1
      have h5 := h3.2.1
      have h6 : (rnd P ss l (P 1 + ss.length) σ).2.length = σ.2.length + T.length := by rw [h4, List.length_append]
      exact ih m _ h3.1 (by omega) (by omega)
/-! the domains don't depend on the facts -/
theorem stp_T {κ : Kon} {N : Nat} {r : Int32} {l s x v : Nat} (d : Nat → Nat) (T : List FT) : stp κ N r l s x v (d, T) = ((stp κ N r l s x v (d, [])).1, T ++ (stp κ N r l s x v (d, [])).2) := by
  unfold stp
  by_cases e : dB (gone κ N x v d) = true
  · simp only [e, if_true, List.nil_append]
  · simp only [e, if_false, List.append_nil, Bool.false_eq_true]
theorem app_T {f : St → St} (h : ∀ d T, f (d, T) = ((f (d, [])).1, T ++ (f (d, [])).2)) {g : St → St} (h2 : ∀ d T, g (d, T) = ((g (d, [])).1, T ++ (g (d, [])).2)) (d : Nat → Nat) (T : List FT) : g (f (d, T)) = ((g (f (d, []))).1, T ++ (g (f (d, []))).2) := by
  rw [h d T]
  rw [h2 _ (T ++ (f (d, [])).2)]
  rw [show f (d, []) = ((f (d, [])).1, (f (d, [])).2) from rfl, h2 (f (d, [])).1 (f (d, [])).2]
  simp only [List.append_assoc]
theorem vls_T {κ : Kon} {N : Nat} {r : Int32} {l s x : Nat} : ∀ (j : Nat) (d : Nat → Nat) (T : List FT), vls κ N r l s x j (d, T) = ((vls κ N r l s x j (d, [])).1, T ++ (vls κ N r l s x j (d, [])).2) := by
  intro j
  induction j with
  | zero => intro d T; simp only [vls, List.append_nil]
  | succ j ih => intro d T; exact app_T (f := vls κ N r l s x j) (g := stp κ N r l s x j) ih (fun d T => stp_T d T) d T
theorem sw1_T {κ : Kon} {N : Nat} {r : Int32} {l s : Nat} : ∀ (k : Nat) (d : Nat → Nat) (T : List FT), sw1 κ N r l s k (d, T) = ((sw1 κ N r l s k (d, [])).1, T ++ (sw1 κ N r l s k (d, [])).2) := by
  intro k
  induction k with
  | zero => intro d T; simp only [sw1, List.append_nil]
  | succ k ih => intro d T; exact app_T (f := sw1 κ N r l s k) (g := vls κ N r l s (κ.2.1 k) 5) ih (fun d T => vls_T 5 d T) d T
theorem rnd_T {P : Nat → Nat} {ss : List Nat} {l : Nat} : ∀ (k : Nat) (d : Nat → Nat) (T : List FT), rnd P ss l k (d, T) = ((rnd P ss l k (d, [])).1, T ++ (rnd P ss l k (d, [])).2) := by
  intro k
  induction k with
  | zero => intro d T; simp only [rnd, List.append_nil]
  | succ k ih => intro d T; exact app_T (f := rnd P ss l k) (g := sw1 (kl P ss k).1 (P 0) (kl P ss k).2.1 l (kl P ss k).2.2 (kl P ss k).1.1) ih (fun d T => sw1_T _ d T) d T
theorem prp_T {P : Nat → Nat} {ss : List Nat} {l : Nat} : ∀ (n : Nat) (d : Nat → Nat) (T : List FT), prp P ss l n (d, T) = ((prp P ss l n (d, [])).1, T ++ (prp P ss l n (d, [])).2) := by
  intro n
  induction n with
  | zero => intro d T; simp only [prp, List.append_nil]
  | succ n ih =>
    intro d T
    simp only [prp]
    have h1 := rnd_T (P := P) (ss := ss) (l := l) (P 1 + ss.length) d T
    obtain ⟨⟨d2, U⟩, hU⟩ : ∃ q, q = rnd P ss l (P 1 + ss.length) (d, []) := ⟨_, rfl⟩
    rw [h1, ← hU]
    simp only [List.length_append, List.length_nil]
    by_cases e : U.length = 0
    · rw [if_pos (by omega), if_pos e]
    · rw [if_neg (by omega), if_neg e]
      rw [ih d2 (T ++ U), ih d2 U]
      simp only [List.append_assoc]
/-- the level of the facts is all that a level changes -/
def lvl (l : Nat) (T : List FT) : List FT := T.map (fun f => (f.1, f.2.1, f.2.2.1, l, f.2.2.2.2))

/-! SETS OF PAIRS as longs: seven digits of five bits -/
theorem l_0 : (0 : Int64) = lN 0 := rfl
theorem l_1 : (1 : Int64) = lN 1 := rfl
theorem l_31 : (31 : Int64) = lN 31 := rfl
theorem l_63 : (63 : Int64) = lN 63 := rfl
theorem l_27 : (27 : Int64) = lN 27 := rfl
theorem l_96 : (96 : Int64) = lN 96 := rfl
def ngL : Int64 := -1
theorem ngL_d : (-1 : Int64) = ngL := rfl
theorem ngL_n : ngL = lN (2 ^ 64 - 1) := by decide +kernel
theorem lN_and (a b : Nat) : lN a &&& lN b = lN (a &&& b) := by
  apply Int64.toBitVec_inj.1
  show BitVec.ofNat 64 a &&& BitVec.ofNat 64 b = BitVec.ofNat 64 (a &&& b)
  apply BitVec.eq_of_getLsbD_eq
  intro i hi
  simp [hi]
theorem lN_or (a b : Nat) : lN a ||| lN b = lN (a ||| b) := by
  apply Int64.toBitVec_inj.1
  show BitVec.ofNat 64 a ||| BitVec.ofNat 64 b = BitVec.ofNat 64 (a ||| b)
  apply BitVec.eq_of_getLsbD_eq
  intro i hi
  simp [hi]
theorem lN_xor (a b : Nat) : lN a ^^^ lN b = lN (a ^^^ b) := by
  apply Int64.toBitVec_inj.1
  show BitVec.ofNat 64 a ^^^ BitVec.ofNat 64 b = BitVec.ofNat 64 (a ^^^ b)
  apply BitVec.eq_of_getLsbD_eq
  intro i hi
  simp [hi]
theorem lN_inj {a b : Nat} (ha : a < 2 ^ 63) (hb : b < 2 ^ 63) : (lN a = lN b) = (a = b) := propext (pk_lEQ ha hb)
theorem lg_0 (x y : Int64) : (lg_cmp x y = nI 0) = (x = y) := by
  unfold lg_cmp
  apply propext
  by_cases h : x > y
  · rw [if_pos h]
    have h2 : ¬ x = y := fun q => by subst q; exact Int64.lt_irrefl h
    exact ⟨fun q => absurd q (by decide), fun q => absurd q h2⟩
  · rw [if_neg h]
    by_cases h2 : x = y
    · rw [if_pos h2]; exact ⟨fun _ => h2, fun _ => rfl⟩
    · rw [if_neg h2]; exact ⟨fun q => absurd q (by decide), fun q => absurd q h2⟩
theorem us64 : ∀ k, k < 64 → (((nI k).toInt64.toUInt64 &&& Int64.toUInt64 (lN 63)).toBitVec % 64).toNat = k := by decide +kernel
theorem ss64 : ∀ k, k < 64 → (((nI k).toInt64 &&& lN 63).toBitVec.smod 64).toNat = k := by decide +kernel
theorem l_ushr {n k : Nat} (hn : n < 2 ^ 64) (hk : k < 64) : ((lN n).toUInt64 >>> ((nI k).toInt64.toUInt64 &&& Int64.toUInt64 (lN 63))).toInt64 = lN (n >>> k) := by
  apply Int64.toBitVec_inj.1
  show BitVec.ofNat 64 n >>> (((nI k).toInt64.toUInt64 &&& Int64.toUInt64 (lN 63)).toBitVec % 64) = BitVec.ofNat 64 (n >>> k)
  apply BitVec.eq_of_toNat_eq
  rw [BitVec.ushiftRight_eq', us64 k hk, BitVec.toNat_ushiftRight, BitVec.toNat_ofNat, BitVec.toNat_ofNat, Nat.mod_eq_of_lt hn]
  have : n >>> k ≤ n := Nat.shiftRight_le _ _
  rw [Nat.mod_eq_of_lt (by omega)]
theorem l_shl {a k : Nat} (hk : k < 64) : lN a <<< ((nI k).toInt64 &&& lN 63) = lN (a * 2 ^ k) := by
  apply Int64.toBitVec_inj.1
  show BitVec.ofNat 64 a <<< (((nI k).toInt64 &&& lN 63).toBitVec.smod 64) = BitVec.ofNat 64 (a * 2 ^ k)
  apply BitVec.eq_of_toNat_eq
  rw [BitVec.shiftLeft_eq', ss64 k hk, BitVec.toNat_shiftLeft, BitVec.toNat_ofNat, BitVec.toNat_ofNat, Nat.shiftLeft_eq]
  exact Nat.mod_mul_mod _ _ _
/-- a family of sets of values as one long -/
def pk (d : Nat → Nat) : Int64 := lN (ds 5 d 7)
theorem p32 {d : Nat → Nat} (h : Dwf d) : ∀ i, i < 7 → d i < 2 ^ 5 := h
theorem pq_lt {d : Nat → Nat} (h : Dwf d) : ds 5 d 7 < 34359738368 := ds_lt (p32 h)
theorem pq_tb {d : Nat → Nat} (h : Dwf d) (i : Nat) : (ds 5 d 7).testBit i = (decide (i < 35) && (d (i / 5)).testBit (i % 5)) := ds_tb (by decide) (p32 h) i
theorem pq_cg {d e : Nat → Nat} (h : ∀ x, x < 7 → d x = e x) : pk d = pk e := by unfold pk; rw [ds_cong h]
theorem pq_of {n : Nat} {e : Nat → Nat} (he : Dwf e) (h : ∀ i, n.testBit i = (decide (i < 35) && (e (i / 5)).testBit (i % 5))) : lN n = pk e := by
  unfold pk
  rw [show n = ds 5 e 7 from Nat.eq_of_testBit_eq fun i => by rw [h, pq_tb he]]
theorem i5 {i : Nat} (h : i < 35) : i / 5 < 7 ∧ i % 5 < 5 := by omega
theorem pq_and {d e : Nat → Nat} (hd : Dwf d) (he : Dwf e) : pk d &&& pk e = pk (fun x => d x &&& e x) := by
  show lN _ &&& lN _ = _
  rw [lN_and]
  refine pq_of (fun x hx => dm_and_lt _ (hd x hx) _ (he x hx)) (fun i => ?_)
  rw [Nat.testBit_and, pq_tb hd, pq_tb he, Nat.testBit_and]
  cases decide (i < 35) <;> simp
theorem dm_or_lt : ∀ d, d < 32 → ∀ s, s < 32 → d ||| s < 32 := by decide +kernel
theorem pq_or {d e : Nat → Nat} (hd : Dwf d) (he : Dwf e) : pk d ||| pk e = pk (fun x => d x ||| e x) := by
  show lN _ ||| lN _ = _
  rw [lN_or]
  refine pq_of (fun x hx => dm_or_lt _ (hd x hx) _ (he x hx)) (fun i => ?_)
  rw [Nat.testBit_or, pq_tb hd, pq_tb he, Nat.testBit_or]
  cases decide (i < 35) <;> simp
theorem pq_andn {d e : Nat → Nat} (hd : Dwf d) (he : Dwf e) : pk d &&& (pk e ^^^ ngL) = pk (fun x => andn (d x) (e x)) := by
  show lN _ &&& (lN _ ^^^ _) = _
  rw [ngL_n, lN_xor, lN_and]
  refine pq_of (fun x hx => dm_andn_lt _ (hd x hx) _ (he x hx)) (fun i => ?_)
  rw [Nat.testBit_and, Nat.testBit_xor, Nat.testBit_two_pow_sub_one, pq_tb hd, pq_tb he]
  by_cases h : i < 35
  · rw [dm_andn_tb _ (hd _ (i5 h).1) _ (he _ (i5 h).1) _ (i5 h).2]
    have : i < 64 := by omega
    simp [h, this]
  · simp [h]
theorem pq_nar {d e p : Nat → Nat} (hd : Dwf d) (he : Dwf e) (hp : Dwf p) : pk d &&& ((pk e ^^^ ngL) ||| pk p) = pk (fun x => andn (d x) (e x) ||| (d x &&& p x)) := by
  show lN _ &&& ((lN _ ^^^ _) ||| lN _) = _
  rw [ngL_n, lN_xor, lN_or, lN_and]
  refine pq_of (fun x hx => dm_or_lt _ (dm_andn_lt _ (hd x hx) _ (he x hx)) _ (dm_and_lt _ (hd x hx) _ (hp x hx))) (fun i => ?_)
  rw [Nat.testBit_and, Nat.testBit_or, Nat.testBit_xor, Nat.testBit_two_pow_sub_one, pq_tb hd, pq_tb he, pq_tb hp]
  by_cases h : i < 35
  · rw [Nat.testBit_or, Nat.testBit_and, dm_andn_tb _ (hd _ (i5 h).1) _ (he _ (i5 h).1) _ (i5 h).2]
    have : i < 64 := by omega
    simp only [h, this, decide_true, Bool.true_and, Bool.xor_true]
    cases (d (i / 5)).testBit (i % 5) <;> cases (e (i / 5)).testBit (i % 5) <;> cases (p (i / 5)).testBit (i % 5) <;> rfl
  · simp [h]
theorem pq_inj {d e : Nat → Nat} (hd : Dwf d) (he : Dwf e) : (pk d = pk e) = (∀ x, x < 7 → d x = e x) := by
  unfold pk
  rw [lN_inj (by have := pq_lt hd; omega) (by have := pq_lt he; omega)]
  apply propext
  constructor
  · intro h x hx
    apply dm_ext _ (hd x hx) _ (he x hx)
    intro v hv
    have h1 := pq_tb hd (5 * x + v)
    rw [h, pq_tb he] at h1
    have e1 : (5 * x + v) / 5 = x := by omega
    have e2 : (5 * x + v) % 5 = v := by omega
    have e3 : 5 * x + v < 35 := by omega
    rw [e1, e2] at h1
    simpa [e3] using h1.symm
  · exact ds_cong
theorem dz : Dwf (fun _ => 0) := fun _ _ => (by decide : (0 : Nat) < 32)
theorem pq_z : lN 0 = pk (fun _ => 0) := by decide +kernel
theorem pq_0 {d : Nat → Nat} (hd : Dwf d) : (pk d = lN 0) = (∀ x, x < 7 → d x = 0) := by rw [pq_z, pq_inj hd dz]
/-- one variable's set -/
def sg (x w : Nat) : Nat → Nat := fun y => if y = x then w else 0
theorem sg_s (x w : Nat) : sg x w x = w := if_pos rfl
theorem sg_n {x w y : Nat} (h : y ≠ x) : sg x w y = 0 := if_neg h
theorem sg_wf {x w : Nat} (h : w < 32) : Dwf (sg x w) := fun y hy => by unfold sg; split <;> omega
theorem l_allOf : ∀ x, x < 7 → lN (31 * 2 ^ (5 * x)) = pk (sg x 31) := by decide +kernel
theorem l_pair : ∀ x, x < 7 → ∀ v, v < 5 → lN (1 * 2 ^ (5 * x + v)) = pk (sg x (2 ^ v)) := by decide +kernel
theorem dm_nar : ∀ d, d < 32 → ∀ p, p < 32 → andn d 31 ||| (d &&& p) = d &&& p := by decide +kernel
theorem dm_nar0 : ∀ d, d < 32 → andn d 0 ||| (d &&& 0) = d := by decide +kernel
theorem pq_nr {d : Nat → Nat} (hd : Dwf d) {x p : Nat} (hx : x < 7) (hp : p < 32) : pk d &&& ((pk (sg x 31) ^^^ ngL) ||| pk (sg x p)) = pk (ud d x (d x &&& p)) := by
  rw [pq_nar hd (sg_wf (by decide)) (sg_wf hp)]
  apply pq_cg
  intro y hy
  by_cases e : y = x
  · subst e; rw [sg_s, sg_s, ud_s]; exact dm_nar _ (hd y hy) _ hp
  · rw [sg_n e, sg_n e, ud_n _ _ e]; exact dm_nar0 _ (hd y hy)
theorem pq_asg {d : Nat → Nat} (hd : Dwf d) {x p : Nat} (hx : x < 7) (hp : p < 32) : pk d &&& pk (sg x p) = pk (sg x (d x &&& p)) := by
  rw [pq_and hd (sg_wf hp)]
  apply pq_cg
  intro y hy
  by_cases e : y = x
  · subst e; rw [sg_s, sg_s]
  · rw [sg_n e, sg_n e]; exact Nat.and_zero _
theorem dm_31 : ∀ d, d < 32 → d &&& 31 = d := by decide +kernel
theorem pq_v {d : Nat → Nat} (hd : Dwf d) {x : Nat} (hx : x < 7) : (ds 5 d 7 >>> (5 * x)) &&& 31 = d x := by
  apply Nat.eq_of_testBit_eq
  intro i
  rw [Nat.testBit_and, Nat.testBit_shiftRight, pq_tb hd, show (31 : Nat) = 2 ^ 5 - 1 from rfl, Nat.testBit_two_pow_sub_one]
  by_cases h : i < 5
  · have e1 : (5 * x + i) / 5 = x := by omega
    have e2 : (5 * x + i) % 5 = i := by omega
    have e3 : 5 * x + i < 35 := by omega
    rw [e1, e2]
    simp [h, e3]
  · have : (d x).testBit i = false := Nat.testBit_lt_two_pow (Nat.lt_of_lt_of_le (hd x hx) (show 2 ^ 5 ≤ 2 ^ i from Nat.pow_le_pow_right (by decide) (by omega)))
    simp [h, this]
/-! ===== how many bits: the JDK's ways ===== -/
def bci (x0 : Int32) : Int32 := ((((((((x0 - ((((x0).toUInt32 >>> (((1 : Int32)).toUInt32 &&& Int32.toUInt32 31)).toInt32) &&& (1431655765 : Int32))) &&& (858993459 : Int32)) + (((((x0 - ((((x0).toUInt32 >>> (((1 : Int32)).toUInt32 &&& Int32.toUInt32 31)).toInt32) &&& (1431655765 : Int32)))).toUInt32 >>> (((2 : Int32)).toUInt32 &&& Int32.toUInt32 31)).toInt32) &&& (858993459 : Int32))) + ((((((x0 - ((((x0).toUInt32 >>> (((1 : Int32)).toUInt32 &&& Int32.toUInt32 31)).toInt32) &&& (1431655765 : Int32))) &&& (858993459 : Int32)) + (((((x0 - ((((x0).toUInt32 >>> (((1 : Int32)).toUInt32 &&& Int32.toUInt32 31)).toInt32) &&& (1431655765 : Int32)))).toUInt32 >>> (((2 : Int32)).toUInt32 &&& Int32.toUInt32 31)).toInt32) &&& (858993459 : Int32)))).toUInt32 >>> (((4 : Int32)).toUInt32 &&& Int32.toUInt32 31)).toInt32)) &&& (252645135 : Int32)) + ((((((((x0 - ((((x0).toUInt32 >>> (((1 : Int32)).toUInt32 &&& Int32.toUInt32 31)).toInt32) &&& (1431655765 : Int32))) &&& (858993459 : Int32)) + (((((x0 - ((((x0).toUInt32 >>> (((1 : Int32)).toUInt32 &&& Int32.toUInt32 31)).toInt32) &&& (1431655765 : Int32)))).toUInt32 >>> (((2 : Int32)).toUInt32 &&& Int32.toUInt32 31)).toInt32) &&& (858993459 : Int32))) + ((((((x0 - ((((x0).toUInt32 >>> (((1 : Int32)).toUInt32 &&& Int32.toUInt32 31)).toInt32) &&& (1431655765 : Int32))) &&& (858993459 : Int32)) + (((((x0 - ((((x0).toUInt32 >>> (((1 : Int32)).toUInt32 &&& Int32.toUInt32 31)).toInt32) &&& (1431655765 : Int32)))).toUInt32 >>> (((2 : Int32)).toUInt32 &&& Int32.toUInt32 31)).toInt32) &&& (858993459 : Int32)))).toUInt32 >>> (((4 : Int32)).toUInt32 &&& Int32.toUInt32 31)).toInt32)) &&& (252645135 : Int32))).toUInt32 >>> (((8 : Int32)).toUInt32 &&& Int32.toUInt32 31)).toInt32)) + (((((((((x0 - ((((x0).toUInt32 >>> (((1 : Int32)).toUInt32 &&& Int32.toUInt32 31)).toInt32) &&& (1431655765 : Int32))) &&& (858993459 : Int32)) + (((((x0 - ((((x0).toUInt32 >>> (((1 : Int32)).toUInt32 &&& Int32.toUInt32 31)).toInt32) &&& (1431655765 : Int32)))).toUInt32 >>> (((2 : Int32)).toUInt32 &&& Int32.toUInt32 31)).toInt32) &&& (858993459 : Int32))) + ((((((x0 - ((((x0).toUInt32 >>> (((1 : Int32)).toUInt32 &&& Int32.toUInt32 31)).toInt32) &&& (1431655765 : Int32))) &&& (858993459 : Int32)) + (((((x0 - ((((x0).toUInt32 >>> (((1 : Int32)).toUInt32 &&& Int32.toUInt32 31)).toInt32) &&& (1431655765 : Int32)))).toUInt32 >>> (((2 : Int32)).toUInt32 &&& Int32.toUInt32 31)).toInt32) &&& (858993459 : Int32)))).toUInt32 >>> (((4 : Int32)).toUInt32 &&& Int32.toUInt32 31)).toInt32)) &&& (252645135 : Int32)) + ((((((((x0 - ((((x0).toUInt32 >>> (((1 : Int32)).toUInt32 &&& Int32.toUInt32 31)).toInt32) &&& (1431655765 : Int32))) &&& (858993459 : Int32)) + (((((x0 - ((((x0).toUInt32 >>> (((1 : Int32)).toUInt32 &&& Int32.toUInt32 31)).toInt32) &&& (1431655765 : Int32)))).toUInt32 >>> (((2 : Int32)).toUInt32 &&& Int32.toUInt32 31)).toInt32) &&& (858993459 : Int32))) + ((((((x0 - ((((x0).toUInt32 >>> (((1 : Int32)).toUInt32 &&& Int32.toUInt32 31)).toInt32) &&& (1431655765 : Int32))) &&& (858993459 : Int32)) + (((((x0 - ((((x0).toUInt32 >>> (((1 : Int32)).toUInt32 &&& Int32.toUInt32 31)).toInt32) &&& (1431655765 : Int32)))).toUInt32 >>> (((2 : Int32)).toUInt32 &&& Int32.toUInt32 31)).toInt32) &&& (858993459 : Int32)))).toUInt32 >>> (((4 : Int32)).toUInt32 &&& Int32.toUInt32 31)).toInt32)) &&& (252645135 : Int32))).toUInt32 >>> (((8 : Int32)).toUInt32 &&& Int32.toUInt32 31)).toInt32))).toUInt32 >>> (((16 : Int32)).toUInt32 &&& Int32.toUInt32 31)).toInt32)) &&& (63 : Int32))
theorem bci_5 : ∀ d, d < 32 → bci (nI d) = nI (pcn 5 d) := by decide +kernel
theorem w_bci (S : PS) (x : Int32) (Q : Int32 → PS → Prop) : wpJ6_bitCount_0f7a4 S x Q = Q (bci x) S := rfl
def us (k : Int32) (x : Int64) : Int64 := (x.toUInt64 >>> (k.toInt64.toUInt64 &&& Int64.toUInt64 63)).toInt64
def b_a (x : Int64) : Int64 := x - (us 1 x &&& 6148914691236517205)
def b_b (x : Int64) : Int64 := (x &&& 3689348814741910323) + (us 2 x &&& 3689348814741910323)
def b_c (x : Int64) : Int64 := (x + us 4 x) &&& 1085102592571150095
def b_d (k : Int32) (x : Int64) : Int64 := x + us k x
def bcl (x : Int64) : Int32 := (b_d 32 (b_d 16 (b_d 8 (b_c (b_b (b_a x)))))).toInt32 &&& 127
theorem w_bcl (S : PS) (x : Int64) (Q : Int32 → PS → Prop) : wpJ13_bitCount_95d88 S x Q = Q (bcl x) S := rfl
theorem us_n {n k : Nat} (hn : n < 2 ^ 64) (hk : k < 64) : us (nI k) (lN n) = lN (n >>> k) := l_ushr hn hk
/-- bytes -/
theorem d8_and {f g : Nat → Nat} {n : Nat} (hf : ∀ i, i < n → f i < 2 ^ 8) (hg : ∀ i, i < n → g i < 2 ^ 8) : ds 8 f n &&& ds 8 g n = ds 8 (fun i => f i &&& g i) n := by
  apply Nat.eq_of_testBit_eq
  intro i
  rw [Nat.testBit_and, ds_tb (by decide) hf, ds_tb (by decide) hg, ds_tb (by decide) (fun i hi => Nat.lt_of_le_of_lt Nat.and_le_left (hf i hi)), Nat.testBit_and]
  cases decide (i < 8 * n) <;> simp
/-- a shift of all, masked so that no bit crosses -/
theorem d8_shr {f : Nat → Nat} {k M : Nat} (hf : ∀ i, i < 5 → f i < 2 ^ 8) (hk : k ≤ 8) (hM : M < 2 ^ (8 - k)) {W : Nat} (hW : ∀ i, i < 40 → W.testBit i = M.testBit (i % 8)) : (ds 8 f 5 >>> k) &&& W = ds 8 (fun i => (f i >>> k) &&& M) 5 := by
  have hM8 : M < 2 ^ 8 := Nat.lt_of_lt_of_le hM (Nat.pow_le_pow_right (by decide) (by omega))
  apply Nat.eq_of_testBit_eq
  intro i
  rw [Nat.testBit_and, Nat.testBit_shiftRight, ds_tb (by decide) hf, ds_tb (by decide) (fun i hi => Nat.lt_of_le_of_lt Nat.and_le_right hM8), Nat.testBit_and, Nat.testBit_shiftRight]
  by_cases h : i < 40
  · rw [hW i h]
    by_cases h2 : i % 8 < 8 - k
    · have e1 : (k + i) / 8 = i / 8 := by omega
      have e2 : (k + i) % 8 = k + i % 8 := by omega
      have e3 : k + i < 8 * 5 := by omega
      have e4 : i < 8 * 5 := by omega
      rw [e1, e2]
      simp [e3, e4]
    · have : M.testBit (i % 8) = false := Nat.testBit_lt_two_pow (Nat.lt_of_lt_of_le hM (Nat.pow_le_pow_right (by decide) (by omega)))
      simp [this]
  · have e3 : ¬ k + i < 8 * 5 := by omega
    have e4 : ¬ i < 8 * 5 := by omega
    simp [e3, e4]
theorem m5_tb : ∀ i, i < 40 → (6148914691236517205 : Nat).testBit i = (85 : Nat).testBit (i % 8) := by decide +kernel
theorem m3_tb : ∀ i, i < 40 → (3689348814741910323 : Nat).testBit i = (51 : Nat).testBit (i % 8) := by decide +kernel
theorem mf_tb : ∀ i, i < 40 → (1085102592571150095 : Nat).testBit i = (15 : Nat).testBit (i % 8) := by decide +kernel
theorem ds_sub {f g : Nat → Nat} {k : Nat} : ∀ n, (∀ i, i < n → g i ≤ f i) → ds k g n ≤ ds k f n ∧ ds k f n - ds k g n = ds k (fun i => f i - g i) n := by
  intro n
  induction n with
  | zero => intro _; exact ⟨Nat.le_refl _, rfl⟩
  | succ n ih =>
    intro h
    obtain ⟨h1, h2⟩ := ih (fun i hi => h i (by omega))
    have h3 := h n (by omega)
    have h4 : 2 ^ (k * n) * g n ≤ 2 ^ (k * n) * f n := Nat.mul_le_mul_left _ h3
    simp only [ds]
    rw [Nat.mul_sub]
    omega
theorem ds_add {f g : Nat → Nat} {k : Nat} : ∀ n, ds k f n + ds k g n = ds k (fun i => f i + g i) n := by
  intro n
  induction n with
  | zero => rfl
  | succ n ih => simp only [ds]; rw [Nat.mul_add, ← ih]; omega
def by_a (b : Nat) : Nat := b - ((b >>> 1) &&& 85)
def by_b (b : Nat) : Nat := ((b >>> 0) &&& 51) + ((b >>> 2) &&& 51)
def by_c (b : Nat) : Nat := ((b + b >>> 4) >>> 0) &&& 15
theorem by_a1 : ∀ b, b < 256 → (b >>> 1) &&& 85 ≤ b ∧ by_a b < 256 := by decide +kernel
theorem by_b1 : ∀ b, b < 256 → by_b (by_a b) < 256 ∧ by_b (by_a b) % 16 ≤ 4 ∧ by_b (by_a b) / 16 ≤ 4 ∧ by_b (by_a b) % 16 + by_b (by_a b) / 16 = pcn 8 b := by decide +kernel
theorem ds5 (g : Nat → Nat) : ds 8 g 5 = g 0 + 256 * g 1 + 65536 * g 2 + 16777216 * g 3 + 4294967296 * g 4 := by
  simp only [ds, Nat.reduceMul, Nat.reducePow]
  omega
theorem n15 : ∀ c, c < 16 → ∀ t, t < 16 → ((c + 16 * t) >>> 0) &&& 15 = c := by decide +kernel
theorem c_low (b0 b1 b2 b3 b4 : Nat) (h0 : b0 < 256) (h1 : b1 < 256) (h2 : b2 < 256) (h3 : b3 < 256) (h4 : b4 < 256) :
    (b0 + 256 * b1 + 65536 * b2 + 16777216 * b3 + 4294967296 * b4) + (b0 + 256 * b1 + 65536 * b2 + 16777216 * b3 + 4294967296 * b4) / 16 = ((b0 % 16 + b0 / 16) + 16 * (b0 / 16 + b1 % 16)) + 256 * ((b1 % 16 + b1 / 16) + 16 * (b1 / 16 + b2 % 16)) + 65536 * ((b2 % 16 + b2 / 16) + 16 * (b2 / 16 + b3 % 16)) + 16777216 * ((b3 % 16 + b3 / 16) + 16 * (b3 / 16 + b4 % 16)) + 4294967296 * ((b4 % 16 + b4 / 16) + 16 * (b4 / 16)) := by
  omega
theorem bcl_n {f : Nat → Nat} (hf : ∀ i, i < 5 → f i < 256) : bcl (lN (ds 8 f 5)) = nI (pcn 8 (f 0) + pcn 8 (f 1) + pcn 8 (f 2) + pcn 8 (f 3) + pcn 8 (f 4)) := by
  have h40 : ∀ {g : Nat → Nat}, (∀ i, i < 5 → g i < 256) → ds 8 g 5 < 1099511627776 := fun {g} hg => ds_lt (k := 8) (n := 5) hg
  have ha : b_a (lN (ds 8 f 5)) = lN (ds 8 (fun i => by_a (f i)) 5) := by
    unfold b_a
    rw [show (1 : Int32) = nI 1 from rfl, us_n (by have := h40 hf; omega) (by decide), show (6148914691236517205 : Int64) = lN 6148914691236517205 from rfl, lN_and, d8_shr hf (by decide) (show 85 < 2 ^ (8 - 1) by decide) m5_tb]
    have h1 := ds_sub (f := f) (g := fun i => (f i >>> 1) &&& 85) (k := 8) 5 (fun i hi => (by_a1 _ (hf i hi)).1)
    rw [lN_sub h1.1, h1.2]
    rfl
  have hfa : ∀ i, i < 5 → by_a (f i) < 256 := fun i hi => (by_a1 _ (hf i hi)).2
  have hb : b_b (lN (ds 8 (fun i => by_a (f i)) 5)) = lN (ds 8 (fun i => by_b (by_a (f i))) 5) := by
    unfold b_b
    have k0 := d8_shr (k := 0) (W := 3689348814741910323) hfa (by decide) (show 51 < 2 ^ (8 - 0) by decide) m3_tb
    rw [Nat.shiftRight_zero] at k0
    rw [show (2 : Int32) = nI 2 from rfl, us_n (by have := h40 hfa; omega) (by decide), show (3689348814741910323 : Int64) = lN 3689348814741910323 from rfl, lN_and, lN_and, k0, d8_shr hfa (by decide) (show 51 < 2 ^ (8 - 2) by decide) m3_tb, lN_add, ds_add]
    rfl
  have hB : ∀ i, i < 5 → by_b (by_a (f i)) < 256 ∧ by_b (by_a (f i)) % 16 ≤ 4 ∧ by_b (by_a (f i)) / 16 ≤ 4 ∧ by_b (by_a (f i)) % 16 + by_b (by_a (f i)) / 16 = pcn 8 (f i) := fun i hi => by_b1 _ (hf i hi)
  obtain ⟨g, hg⟩ : ∃ g : Nat → Nat, g = fun i => by_b (by_a (f i)) := ⟨_, rfl⟩
  have hc : b_c (lN (ds 8 g 5)) = lN (ds 8 (fun i => pcn 8 (f i)) 5) := by
    unfold b_c
    have hg5 : ∀ i, i < 5 → g i < 256 := fun i hi => by rw [hg]; exact (hB i hi).1
    rw [show (4 : Int32) = nI 4 from rfl, us_n (by have := h40 hg5; omega) (by decide), lN_add, Nat.shiftRight_eq_div_pow, show (1085102592571150095 : Int64) = lN 1085102592571150095 from rfl, lN_and]
    have e : ds 8 g 5 + ds 8 g 5 / 2 ^ 4 = ds 8 (fun i => (g i % 16 + g i / 16) + 16 * (g i / 16 + (if i < 4 then g (i + 1) % 16 else 0))) 5 := by
      rw [ds5, ds5]
      exact c_low _ _ _ _ _ (hg5 0 (by omega)) (hg5 1 (by omega)) (hg5 2 (by omega)) (hg5 3 (by omega)) (hg5 4 (by omega))
    have hq : ∀ i, i < 5 → g i % 16 ≤ 4 ∧ g i / 16 ≤ 4 ∧ g i % 16 + g i / 16 = pcn 8 (f i) := fun i hi => by rw [hg]; exact (hB i hi).2
    have hn : ∀ i, i < 5 → (if i < 4 then g (i + 1) % 16 else 0) ≤ 4 := fun i hi => by
      by_cases h : i < 4
      · rw [if_pos h]; exact (hq (i + 1) (by omega)).1
      · rw [if_neg h]; omega
    have k0 := d8_shr (k := 0) (W := 1085102592571150095) (f := fun i => (g i % 16 + g i / 16) + 16 * (g i / 16 + (if i < 4 then g (i + 1) % 16 else 0))) (fun i hi => by have := hq i hi; have := hn i hi; show _ + 16 * (_ + (if i < 4 then g (i + 1) % 16 else 0)) < 256; omega) (by decide) (show 15 < 2 ^ (8 - 0) by decide) mf_tb
    rw [Nat.shiftRight_zero] at k0
    rw [e, k0]
    congr 1
    apply ds_cong
    intro i hi
    have h1 := hq i hi
    have h2 := hn i hi
    show ((g i % 16 + g i / 16 + 16 * (g i / 16 + (if i < 4 then g (i + 1) % 16 else 0))) >>> 0) &&& 15 = pcn 8 (f i)
    rw [n15 _ (by omega) _ (by omega)]
    exact h1.2.2
  unfold bcl
  rw [ha, hb, ← hg, hc, ds5]
  have p0 := pcn_le 8 (f 0)
  have p1 := pcn_le 8 (f 1)
  have p2 := pcn_le 8 (f 2)
  have p3 := pcn_le 8 (f 3)
  have p4 := pcn_le 8 (f 4)
  generalize pcn 8 (f 0) = q0 at *
  generalize pcn 8 (f 1) = q1 at *
  generalize pcn 8 (f 2) = q2 at *
  generalize pcn 8 (f 3) = q3 at *
  generalize pcn 8 (f 4) = q4 at *
  unfold b_d
  rw [show (8 : Int32) = nI 8 from rfl, show (16 : Int32) = nI 16 from rfl, show (32 : Int32) = nI 32 from rfl]
  have f1 : (q0 + 256 * q1 + 65536 * q2 + 16777216 * q3 + 4294967296 * q4) / 2 ^ 8 = q1 + 256 * q2 + 65536 * q3 + 16777216 * q4 := by omega
  have f2 : (q0 + 256 * q1 + 65536 * q2 + 16777216 * q3 + 4294967296 * q4 + (q1 + 256 * q2 + 65536 * q3 + 16777216 * q4)) / 2 ^ 16 = (q2 + q3) + 256 * (q3 + q4) + 65536 * q4 := by omega
  have f3 : (q0 + 256 * q1 + 65536 * q2 + 16777216 * q3 + 4294967296 * q4 + (q1 + 256 * q2 + 65536 * q3 + 16777216 * q4) + ((q2 + q3) + 256 * (q3 + q4) + 65536 * q4)) / 2 ^ 32 = q4 := by omega
  rw [us_n (by omega) (by decide), lN_add, Nat.shiftRight_eq_div_pow, f1]
  rw [us_n (by omega) (by decide), lN_add, Nat.shiftRight_eq_div_pow, f2]
  rw [us_n (by omega) (by decide), lN_add, Nat.shiftRight_eq_div_pow, f3]
  rw [lN_i, show (127 : Int32) = nI 127 from rfl, o_and, show (127 : Nat) = 2 ^ 7 - 1 from rfl, Nat.and_two_pow_sub_one_eq_mod]
  congr 1
  omega
theorem pcn_split (a b n : Nat) : pcn (a + b) n = pcn a n + pcn b (n / 2 ^ a) := by
  induction a generalizing n with
  | zero => simp [pcn]
  | succ a ih =>
    rw [show a + 1 + b = (a + b) + 1 by omega]
    simp only [pcn]
    rw [ih, Nat.div_div_eq_div_mul, Nat.pow_succ, Nat.mul_comm 2 (2 ^ a)]
    omega
theorem pcn_mod (a n : Nat) : pcn a (n % 2 ^ a) = pcn a n := by
  induction a generalizing n with
  | zero => rfl
  | succ a ih =>
    simp only [pcn]
    have h1 : n % 2 ^ (a + 1) % 2 = n % 2 := by rw [Nat.pow_succ, Nat.mul_comm]; exact Nat.mod_mul_right_mod n 2 (2 ^ a)
    have h2 : n % 2 ^ (a + 1) / 2 = (n / 2) % 2 ^ a := by rw [Nat.pow_succ, Nat.mul_comm]; exact Nat.mod_mul_right_div_self n 2 (2 ^ a)
    rw [h1, h2, ih]
theorem bcl_40 {n : Nat} (h : n < 1099511627776) : bcl (lN n) = nI (pcn 40 n) := by
  have hf : ∀ i, i < 5 → (fun i => n / 2 ^ (8 * i) % 2 ^ 8) i < 256 := fun i hi => Nat.mod_lt _ (by decide)
  have e : ds 8 (fun i => n / 2 ^ (8 * i) % 2 ^ 8) 5 = n := by
    rw [ds5]
    simp only [Nat.reduceMul, Nat.reducePow]
    omega
  have h1 := bcl_n hf
  rw [e] at h1
  rw [h1]
  apply congrArg nI
  have s1 : pcn 40 n = pcn 8 n + pcn 32 (n / 2 ^ 8) := pcn_split 8 32 n
  have s2 : pcn 32 (n / 2 ^ 8) = pcn 8 (n / 2 ^ 8) + pcn 24 (n / 2 ^ 8 / 2 ^ 8) := pcn_split 8 24 _
  have s3 : pcn 24 (n / 2 ^ 8 / 2 ^ 8) = pcn 8 (n / 2 ^ 8 / 2 ^ 8) + pcn 16 (n / 2 ^ 8 / 2 ^ 8 / 2 ^ 8) := pcn_split 8 16 _
  have s4 : pcn 16 (n / 2 ^ 8 / 2 ^ 8 / 2 ^ 8) = pcn 8 (n / 2 ^ 8 / 2 ^ 8 / 2 ^ 8) + pcn 8 (n / 2 ^ 8 / 2 ^ 8 / 2 ^ 8 / 2 ^ 8) := pcn_split 8 8 _
  have d2 : n / 2 ^ 8 / 2 ^ 8 = n / 2 ^ (8 * 2) := Nat.div_div_eq_div_mul n (2 ^ 8) (2 ^ 8)
  have d3 : n / 2 ^ 8 / 2 ^ 8 / 2 ^ 8 = n / 2 ^ (8 * 3) := by rw [d2]; exact Nat.div_div_eq_div_mul n (2 ^ 16) (2 ^ 8)
  have d4 : n / 2 ^ 8 / 2 ^ 8 / 2 ^ 8 / 2 ^ 8 = n / 2 ^ (8 * 4) := by rw [d3]; exact Nat.div_div_eq_div_mul n (2 ^ 24) (2 ^ 8)
  rw [d4, d3] at s4
  rw [d3, d2] at s3
  rw [d2] at s2
  have m : ∀ i, pcn 8 (n / 2 ^ (8 * i) % 2 ^ 8) = pcn 8 (n / 2 ^ (8 * i)) := fun i => pcn_mod 8 _
  have m0 : pcn 8 (n / 2 ^ (8 * 0)) = pcn 8 n := by rw [Nat.mul_zero, Nat.pow_zero, Nat.div_one]
  have m1 : pcn 8 (n / 2 ^ (8 * 1)) = pcn 8 (n / 2 ^ 8) := rfl
  show pcn 8 (n / 2 ^ (8 * 0) % 2 ^ 8) + pcn 8 (n / 2 ^ (8 * 1) % 2 ^ 8) + pcn 8 (n / 2 ^ (8 * 2) % 2 ^ 8) + pcn 8 (n / 2 ^ (8 * 3) % 2 ^ 8) + pcn 8 (n / 2 ^ (8 * 4) % 2 ^ 8) = pcn 40 n
  rw [m 0, m 1, m 2, m 3, m 4, m0, m1]
  omega
theorem pq_pcn {d : Nat → Nat} (hd : Dwf d) : pcn 40 (ds 5 d 7) = dsum d := by
  have hl : ds 5 d 7 < 2 ^ 35 := pq_lt hd
  rw [pcn_up (k := 35) hl (by decide)]
  have e : ∀ x, x < 7 → pcn 5 (ds 5 d 7 / 2 ^ (5 * x)) = pcn 5 (d x) := fun x hx => by
    have h1 := pq_v hd hx
    rw [show (31 : Nat) = 2 ^ 5 - 1 from rfl, Nat.and_two_pow_sub_one_eq_mod, Nat.shiftRight_eq_div_pow] at h1
    rw [← h1, pcn_mod]
  obtain ⟨n, hn⟩ : ∃ n, n = ds 5 d 7 := ⟨_, rfl⟩
  rw [← hn] at e ⊢
  have s1 : pcn 35 n = pcn 5 n + pcn 30 (n / 2 ^ 5) := pcn_split 5 30 n
  have s2 : pcn 30 (n / 2 ^ 5) = pcn 5 (n / 2 ^ 5) + pcn 25 (n / 2 ^ 5 / 2 ^ 5) := pcn_split 5 25 _
  have s3 : pcn 25 (n / 2 ^ 5 / 2 ^ 5) = pcn 5 (n / 2 ^ 5 / 2 ^ 5) + pcn 20 (n / 2 ^ 5 / 2 ^ 5 / 2 ^ 5) := pcn_split 5 20 _
  have s4 : pcn 20 (n / 2 ^ 5 / 2 ^ 5 / 2 ^ 5) = pcn 5 (n / 2 ^ 5 / 2 ^ 5 / 2 ^ 5) + pcn 15 (n / 2 ^ 5 / 2 ^ 5 / 2 ^ 5 / 2 ^ 5) := pcn_split 5 15 _
  have s5 : pcn 15 (n / 2 ^ 5 / 2 ^ 5 / 2 ^ 5 / 2 ^ 5) = pcn 5 (n / 2 ^ 5 / 2 ^ 5 / 2 ^ 5 / 2 ^ 5) + pcn 10 (n / 2 ^ 5 / 2 ^ 5 / 2 ^ 5 / 2 ^ 5 / 2 ^ 5) := pcn_split 5 10 _
  have s6 : pcn 10 (n / 2 ^ 5 / 2 ^ 5 / 2 ^ 5 / 2 ^ 5 / 2 ^ 5) = pcn 5 (n / 2 ^ 5 / 2 ^ 5 / 2 ^ 5 / 2 ^ 5 / 2 ^ 5) + pcn 5 (n / 2 ^ 5 / 2 ^ 5 / 2 ^ 5 / 2 ^ 5 / 2 ^ 5 / 2 ^ 5) := pcn_split 5 5 _
  have d2 : n / 2 ^ 5 / 2 ^ 5 = n / 2 ^ (5 * 2) := Nat.div_div_eq_div_mul n (2 ^ 5) (2 ^ 5)
  have d3 : n / 2 ^ 5 / 2 ^ 5 / 2 ^ 5 = n / 2 ^ (5 * 3) := by rw [d2]; exact Nat.div_div_eq_div_mul n (2 ^ 10) (2 ^ 5)
  have d4 : n / 2 ^ 5 / 2 ^ 5 / 2 ^ 5 / 2 ^ 5 = n / 2 ^ (5 * 4) := by rw [d3]; exact Nat.div_div_eq_div_mul n (2 ^ 15) (2 ^ 5)
  have d5 : n / 2 ^ 5 / 2 ^ 5 / 2 ^ 5 / 2 ^ 5 / 2 ^ 5 = n / 2 ^ (5 * 5) := by rw [d4]; exact Nat.div_div_eq_div_mul n (2 ^ 20) (2 ^ 5)
  have d6 : n / 2 ^ 5 / 2 ^ 5 / 2 ^ 5 / 2 ^ 5 / 2 ^ 5 / 2 ^ 5 = n / 2 ^ (5 * 6) := by rw [d5]; exact Nat.div_div_eq_div_mul n (2 ^ 25) (2 ^ 5)
  have e0 := e 0 (by omega)
  rw [Nat.mul_zero, Nat.pow_zero, Nat.div_one] at e0
  have e1 : pcn 5 (n / 2 ^ 5) = pcn 5 (d 1) := e 1 (by omega)
  have e2 := e 2 (by omega)
  have e3 := e 3 (by omega)
  have e4 := e 4 (by omega)
  have e5 := e 5 (by omega)
  have e6 := e 6 (by omega)
  rw [← d2] at e2
  rw [← d3] at e3
  rw [← d4] at e4
  rw [← d5] at e5
  rw [← d6] at e6
  show pcn 35 n = 0 + pcn 5 (d 0) + pcn 5 (d 1) + pcn 5 (d 2) + pcn 5 (d 3) + pcn 5 (d 4) + pcn 5 (d 5) + pcn 5 (d 6)
  omega
theorem bcl_pk {d : Nat → Nat} (hd : Dwf d) : bcl (pk d) = nI (dsum d) := by
  unfold pk
  rw [bcl_40 (by have := pq_lt hd; omega), pq_pcn hd]

/-! THE REFERENCE: what domains can fulfil -/
theorem n_31 {v : Nat} (h : v < 32) : v &&& 31 = v := by
  rw [show (31 : Nat) = 2 ^ 5 - 1 from rfl, Nat.and_two_pow_sub_one_eq_mod, Nat.mod_eq_of_lt h]
/-- rows of the reference -/
def rP (S : PS) (P : Nat → Nat) : Prop := ∀ k, k < 169 → pI S 88 k = nI (P k)
def rD (S : PS) (a : Nat) (d : Nat → Nat) : Prop := pK S a = 13 ∧ pL S a = 7 ∧ (∀ x, x < 7 → pI S a x = nI (d x)) ∧ Dwf d
theorem w_of {S : PS} {P : Nat → Nat} {c j : Nat} {Q : Int32 → PS → Prop} (hM : MShape S) (hp : rP S P) (hi : 9 + 20 * c + j < 169) : wpX12_of S 87 (nI c) (nI j) Q = Q (nI (P (9 + 20 * c + j))) S := by
  simp (disch := omega) only [wpX12_of, c_0, c_1, c_2, c_3, c_4, c_5, c_6, c_7, c_8, c_9, c_10, c_11, c_12, c_14, c_16, c_19, c_20, c_24, c_31, c_32, c_35, c_48, c_57, c_59, c_63, c_97, c_100, c_122, c_127, c_169, c_255, c_600, c_1000, c_32767, Nat.le_refl, Nat.zero_le, Nat.add_zero, Nat.lt_irrefl, eq_self, o_sub, Nat.sub_zero, Nat.not_lt_zero, ↓ng_d, o_le, o_lt, o_eq, o_add, o_mul, o_cl, o_inT, o_and, n_31, o_shr, o_shl1, o_or, m_lt, m_ge, m_le, m_gt, m_ne, m_ne2, Option.some.injEq, exists_eq_left', true_and, and_true, true_implies, false_implies, implies_true, not_true_eq_false, not_false_eq_true, bI_0, bI_1, bI_01, b01, true_or, or_true, Nat.reduceEqDiff, Bool.not_eq_false, Bool.not_eq_true, Bool.true_eq_false, Bool.false_eq_true, msk hM, msr_p hM, msk_p hM, msl_p hM]
  rw [hp _ hi]
theorem w_has {S : PS} {d v : Nat} {Q : Int32 → PS → Prop} (hd : d < 2147483648) (hv : v < 32) : wpX12_has S (nI d) (nI v) Q = Q (bI (d.testBit v)) S := by
  simp (disch := omega) only [wpX12_has, c_0, c_1, c_2, c_3, c_4, c_5, c_6, c_7, c_8, c_9, c_10, c_11, c_12, c_14, c_16, c_19, c_20, c_24, c_31, c_32, c_35, c_48, c_57, c_59, c_63, c_97, c_100, c_122, c_127, c_169, c_255, c_600, c_1000, c_32767, Nat.le_refl, Nat.zero_le, Nat.add_zero, Nat.lt_irrefl, eq_self, o_sub, Nat.sub_zero, Nat.not_lt_zero, ↓ng_d, o_le, o_lt, o_eq, o_add, o_mul, o_cl, o_inT, o_and, n_31, o_shr, o_shl1, o_or, m_lt, m_ge, m_le, m_gt, m_ne, m_ne2, Option.some.injEq, exists_eq_left', true_and, and_true, true_implies, false_implies, implies_true, not_true_eq_false, not_false_eq_true, bI_0, bI_1, bI_01, b01, true_or, or_true, Nat.reduceEqDiff, Bool.not_eq_false, Bool.not_eq_true, Bool.true_eq_false, Bool.false_eq_true, o_has]
  cases d.testBit v <;> simp [bI]
theorem w_valueIn {S : PS} {s x : Nat} {Q : Int32 → PS → Prop} (hs : s < 2147483648) (hx : x < 7) : wpX12_valueIn S (nI s) (nI x) Q = Q (nI (dg s x) - nI 1) S := by
  simp (disch := omega) only [wpX12_valueIn, c_0, c_1, c_2, c_3, c_4, c_5, c_6, c_7, c_8, c_9, c_10, c_11, c_12, c_14, c_16, c_19, c_20, c_24, c_31, c_32, c_35, c_48, c_57, c_59, c_63, c_97, c_100, c_122, c_127, c_169, c_255, c_600, c_1000, c_32767, Nat.le_refl, Nat.zero_le, Nat.add_zero, Nat.lt_irrefl, eq_self, o_sub, Nat.sub_zero, Nat.not_lt_zero, ↓ng_d, o_le, o_lt, o_eq, o_add, o_mul, o_cl, o_inT, o_and, n_31, o_shr, o_shl1, o_or, m_lt, m_ge, m_le, m_gt, m_ne, m_ne2, Option.some.injEq, exists_eq_left', true_and, and_true, true_implies, false_implies, implies_true, not_true_eq_false, not_false_eq_true, bI_0, bI_1, bI_01, b01, true_or, or_true, Nat.reduceEqDiff, Bool.not_eq_false, Bool.not_eq_true, Bool.true_eq_false, Bool.false_eq_true]
  rfl
theorem w_isIn {S : PS} {v a b : Nat} {Q : Int32 → PS → Prop} (hv : v < 2147483648) (ha : a < 2147483648) (hb : b < 2147483648) : wpX12_isIn S (nI v) (nI a) (nI b) Q = Q (bI (decide (a ≤ v ∧ v ≤ b))) S := by
  simp (disch := omega) only [wpX12_isIn, c_0, c_1, c_2, c_3, c_4, c_5, c_6, c_7, c_8, c_9, c_10, c_11, c_12, c_14, c_16, c_19, c_20, c_24, c_31, c_32, c_35, c_48, c_57, c_59, c_63, c_97, c_100, c_122, c_127, c_169, c_255, c_600, c_1000, c_32767, Nat.le_refl, Nat.zero_le, Nat.add_zero, Nat.lt_irrefl, eq_self, o_sub, Nat.sub_zero, Nat.not_lt_zero, ↓ng_d, o_le, o_lt, o_eq, o_add, o_mul, o_cl, o_inT, o_and, n_31, o_shr, o_shl1, o_or, m_lt, m_ge, m_le, m_gt, m_ne, m_ne2, Option.some.injEq, exists_eq_left', true_and, and_true, true_implies, false_implies, implies_true, not_true_eq_false, not_false_eq_true, bI_0, bI_1, bI_01, b01, true_or, or_true, Nat.reduceEqDiff, Bool.not_eq_false, Bool.not_eq_true, Bool.true_eq_false, Bool.false_eq_true]
  by_cases h1 : v < a
  · have : ¬ (a ≤ v ∧ v ≤ b) := by omega
    simp [h1, this, bI]
  · by_cases h2 : b < v
    · have : ¬ (a ≤ v ∧ v ≤ b) := by omega
      simp [h1, h2, this, bI]
    · have : a ≤ v ∧ v ≤ b := by omega
      simp [h1, h2, this, bI]
theorem q_sizeOf {S : PS} {Q : Int32 → PS → Prop} {k d : Nat} (hk : k ≤ 16) (hd : d < 2 ^ k) (h : Q (nI (pcn k d)) S) : wpX12_sizeOf S (nI d) Q := by
  have main : ∀ (k d acc : Nat) (x0 : Int32), k ≤ 16 → d < 2 ^ k → acc + k ≤ 100 → Q (nI (acc + pcn k d)) S → wpX12_sizeOf_b4 Q (k + 1) S x0 (nI acc) (nI d) := by
    intro k
    induction k with
    | zero =>
      intro d acc x0 _ hd _ h
      have : d = 0 := by simpa using hd
      subst this
      simp (disch := omega) only [wpX12_sizeOf_b4, c_0, c_1, c_2, c_3, c_4, c_5, c_6, c_7, c_8, c_9, c_10, c_11, c_12, c_14, c_16, c_19, c_20, c_24, c_31, c_32, c_35, c_48, c_57, c_59, c_63, c_97, c_100, c_122, c_127, c_169, c_255, c_600, c_1000, c_32767, Nat.le_refl, Nat.zero_le, Nat.add_zero, Nat.lt_irrefl, eq_self, o_sub, Nat.sub_zero, Nat.not_lt_zero, ↓ng_d, o_le, o_lt, o_eq, o_add, o_mul, o_cl, o_inT, o_and, n_31, o_shr, o_shl1, o_or, m_lt, m_ge, m_le, m_gt, m_ne, m_ne2, Option.some.injEq, exists_eq_left', true_and, and_true, true_implies, false_implies, implies_true, not_true_eq_false, not_false_eq_true, bI_0, bI_1, bI_01, b01, true_or, or_true, Nat.reduceEqDiff, Bool.not_eq_false, Bool.not_eq_true, Bool.true_eq_false, Bool.false_eq_true]
      exact h
    | succ k ih =>
      intro d acc x0 hk hd ha h
      have hp : 2 ^ (k + 1) ≤ 2 ^ 16 := Nat.pow_le_pow_right (by decide) hk
      have hp2 : 2 ^ (k + 1) = 2 * 2 ^ k := by rw [Nat.pow_succ, Nat.mul_comm]
      by_cases e : d = 0
      · subst e
        simp (disch := omega) only [wpX12_sizeOf_b4, c_0, c_1, c_2, c_3, c_4, c_5, c_6, c_7, c_8, c_9, c_10, c_11, c_12, c_14, c_16, c_19, c_20, c_24, c_31, c_32, c_35, c_48, c_57, c_59, c_63, c_97, c_100, c_122, c_127, c_169, c_255, c_600, c_1000, c_32767, Nat.le_refl, Nat.zero_le, Nat.add_zero, Nat.lt_irrefl, eq_self, o_sub, Nat.sub_zero, Nat.not_lt_zero, ↓ng_d, o_le, o_lt, o_eq, o_add, o_mul, o_cl, o_inT, o_and, n_31, o_shr, o_shl1, o_or, m_lt, m_ge, m_le, m_gt, m_ne, m_ne2, Option.some.injEq, exists_eq_left', true_and, and_true, true_implies, false_implies, implies_true, not_true_eq_false, not_false_eq_true, bI_0, bI_1, bI_01, b01, true_or, or_true, Nat.reduceEqDiff, Bool.not_eq_false, Bool.not_eq_true, Bool.true_eq_false, Bool.false_eq_true]
        rw [pcn_0] at h
        exact h
      · have hm : d &&& 1 = d % 2 := Nat.and_one_is_mod d
        have hs : d >>> 1 = d / 2 := by rw [Nat.shiftRight_eq_div_pow]
        have e2 : ¬ d ≤ 0 := by omega
        have hn := ih (d / 2) (acc + d % 2) x0 (by omega) (by omega) (by omega) (by simp only [pcn] at h; rw [Nat.add_assoc]; exact h)
        generalize k + 1 = f at hn ⊢
        simp (disch := omega) only [wpX12_sizeOf_b4, c_0, c_1, c_2, c_3, c_4, c_5, c_6, c_7, c_8, c_9, c_10, c_11, c_12, c_14, c_16, c_19, c_20, c_24, c_31, c_32, c_35, c_48, c_57, c_59, c_63, c_97, c_100, c_122, c_127, c_169, c_255, c_600, c_1000, c_32767, Nat.le_refl, Nat.zero_le, Nat.add_zero, Nat.lt_irrefl, eq_self, o_sub, Nat.sub_zero, Nat.not_lt_zero, ↓ng_d, o_le, o_lt, o_eq, o_add, o_mul, o_cl, o_inT, o_and, n_31, o_shr, o_shl1, o_or, m_lt, m_ge, m_le, m_gt, m_ne, m_ne2, Option.some.injEq, exists_eq_left', true_and, and_true, true_implies, false_implies, implies_true, not_true_eq_false, not_false_eq_true, bI_0, bI_1, bI_01, b01, true_or, or_true, Nat.reduceEqDiff, Bool.not_eq_false, Bool.not_eq_true, Bool.true_eq_false, Bool.false_eq_true, hm, hs, e2]
        exact hn
  simp only [wpX12_sizeOf, c_0, c_1, c_2, c_3, c_4, c_5, c_6, c_7, c_8, c_9, c_10, c_11, c_12, c_14, c_16, c_19, c_20, c_24, c_31, c_32, c_35, c_48, c_57, c_59, c_63, c_97, c_100, c_122, c_127, c_169, c_255, c_600, c_1000, c_32767, Nat.le_refl, Nat.zero_le, Nat.add_zero, Nat.lt_irrefl, eq_self, o_sub, Nat.sub_zero, Nat.not_lt_zero, ↓ng_d, o_le, o_lt, o_eq, o_add, o_mul, o_cl, o_inT, o_and, n_31, o_shr, o_shl1, o_or, m_lt, m_ge, m_le, m_gt, m_ne, m_ne2, Option.some.injEq, exists_eq_left', true_and, and_true, true_implies, false_implies, implies_true, not_true_eq_false, not_false_eq_true, bI_0, bI_1, bI_01, b01, true_or, or_true, Nat.reduceEqDiff, Bool.not_eq_false, Bool.not_eq_true, Bool.true_eq_false, Bool.false_eq_true]
  have := main k d 0 (nI d) hk hd (by omega) (by rw [Nat.zero_add]; exact h)
  exact ⟨_, this⟩

/-! ===== counts ===== -/
def loS (P : Nat → Nat) (c b s : Nat) : Nat → Nat := sN (fun v => if s.testBit v then P (9 + 20 * c + (b + v)) else 0)
theorem loS_le {P : Nat → Nat} {c b s k : Nat} (h : ∀ v, v < 5 → P (9 + 20 * c + (b + v)) < 64) (hk : k ≤ 5) : loS P c b s k ≤ k * 63 := by
  refine sN_le (fun i hi => ?_)
  have := h i (by omega)
  show (if s.testBit i then P (9 + 20 * c + (b + i)) else 0) ≤ 63
  split <;> omega
theorem loS_s {P : Nat → Nat} {c b s k : Nat} : loS P c b s (k + 1) = loS P c b s k + (if s.testBit k then P (9 + 20 * c + (b + k)) else 0) := rfl
theorem q_cc92 {S : PS} {P : Nat → Nat} {c a s wi ab : Nat} {K2 : PS → Nat → Int32 → Nat → Int32 → Prop} {Q : Int32 → PS → Prop} (hM : MShape S) (hp : rP S P) (hc : c < 8) (hs : s < 32) (h9 : ∀ v, v < 5 → P (9 + 20 * c + (9 + v)) < 64) (h14 : ∀ v, v < 5 → P (9 + 20 * c + (14 + v)) < 64) (hwi : wi ≤ 7) (hab : ab ≤ 7)
    (h0 : ¬ (wi ≤ loS P c 14 s 5 ∧ loS P c 9 s 5 ≤ ab) → Q (nI 0) S) (h1 : wi ≤ loS P c 14 s 5 ∧ loS P c 9 s 5 ≤ ab → K2 S 87 (nI c) a (nI (s + 1))) :
    ∀ r k, k + r = 5 → wpX12_canCount_b92 K2 Q (r + 1) S 87 (nI c) a (nI s) (nI wi) (nI ab) (nI (loS P c 9 s k)) (nI (loS P c 14 s k)) (nI k) := by
  intro r
  induction r with
  | zero =>
    intro k hk
    have : k = 5 := by omega
    subst this
    have b1 := loS_le (b := 9) (s := s) h9 (Nat.le_refl 5)
    have b2 := loS_le (b := 14) (s := s) h14 (Nat.le_refl 5)
    simp (disch := omega) only [wpX12_canCount_b92, c_0, c_1, c_2, c_3, c_4, c_5, c_6, c_7, c_8, c_9, c_10, c_11, c_12, c_14, c_16, c_19, c_20, c_24, c_31, c_32, c_35, c_48, c_57, c_59, c_63, c_97, c_100, c_122, c_127, c_169, c_255, c_600, c_1000, c_32767, Nat.le_refl, Nat.zero_le, Nat.add_zero, Nat.lt_irrefl, eq_self, o_sub, Nat.sub_zero, Nat.not_lt_zero, ↓ng_d, o_le, o_lt, o_eq, o_add, o_mul, o_cl, o_inT, o_and, n_31, o_shr, o_shl1, o_or, m_lt, m_ge, m_le, m_gt, m_ne, m_ne2, Option.some.injEq, exists_eq_left', true_and, and_true, true_implies, false_implies, implies_true, not_true_eq_false, not_false_eq_true, bI_0, bI_1, bI_01, b01, true_or, or_true, Nat.reduceEqDiff, Bool.not_eq_false, Bool.not_eq_true, Bool.true_eq_false, Bool.false_eq_true]
    refine ⟨fun q => h0 (by omega), fun q => ⟨fun q2 => h1 (by omega), fun q2 => h0 (by omega)⟩⟩
  | succ r ih =>
    intro k hk
    have b1 := loS_le (b := 9) (s := s) h9 (show k ≤ 5 by omega)
    have b2 := loS_le (b := 14) (s := s) h14 (show k ≤ 5 by omega)
    have e5 : ¬ 5 ≤ k := by omega
    have p1 := h9 k (by omega)
    have p2 := h14 k (by omega)
    have hn := ih (k + 1) (by omega)
    rw [loS_s, loS_s] at hn
    generalize r + 1 = f at hn ⊢
    cases hb : s.testBit k
    · simp only [hb, Bool.false_eq_true, if_false] at hn
      simp (disch := omega) only [wpX12_canCount_b92, wpX12_canCount_b123, w_has, w_of hM hp, msk hM, c_0, c_1, c_2, c_3, c_4, c_5, c_6, c_7, c_8, c_9, c_10, c_11, c_12, c_14, c_16, c_19, c_20, c_24, c_31, c_32, c_35, c_48, c_57, c_59, c_63, c_97, c_100, c_122, c_127, c_169, c_255, c_600, c_1000, c_32767, Nat.le_refl, Nat.zero_le, Nat.add_zero, Nat.lt_irrefl, eq_self, o_sub, Nat.sub_zero, Nat.not_lt_zero, ↓ng_d, o_le, o_lt, o_eq, o_add, o_mul, o_cl, o_inT, o_and, n_31, o_shr, o_shl1, o_or, m_lt, m_ge, m_le, m_gt, m_ne, m_ne2, Option.some.injEq, exists_eq_left', true_and, and_true, true_implies, false_implies, implies_true, not_true_eq_false, not_false_eq_true, bI_0, bI_1, bI_01, b01, true_or, or_true, Nat.reduceEqDiff, Bool.not_eq_false, Bool.not_eq_true, Bool.true_eq_false, Bool.false_eq_true, e5, hb]
      exact hn
    · simp only [hb, if_true] at hn
      simp (disch := omega) only [wpX12_canCount_b92, wpX12_canCount_b123, w_has, w_of hM hp, msk hM, c_0, c_1, c_2, c_3, c_4, c_5, c_6, c_7, c_8, c_9, c_10, c_11, c_12, c_14, c_16, c_19, c_20, c_24, c_31, c_32, c_35, c_48, c_57, c_59, c_63, c_97, c_100, c_122, c_127, c_169, c_255, c_600, c_1000, c_32767, Nat.le_refl, Nat.zero_le, Nat.add_zero, Nat.lt_irrefl, eq_self, o_sub, Nat.sub_zero, Nat.not_lt_zero, ↓ng_d, o_le, o_lt, o_eq, o_add, o_mul, o_cl, o_inT, o_and, n_31, o_shr, o_shl1, o_or, m_lt, m_ge, m_le, m_gt, m_ne, m_ne2, Option.some.injEq, exists_eq_left', true_and, and_true, true_implies, false_implies, implies_true, not_true_eq_false, not_false_eq_true, bI_0, bI_1, bI_01, b01, true_or, or_true, Nat.reduceEqDiff, Bool.not_eq_false, Bool.not_eq_true, Bool.true_eq_false, Bool.false_eq_true, e5, hb]
      exact hn
theorem q_cc23 {S : PS} {P d : Nat → Nat} {c a s : Nat} {K2 : PS → Nat → Int32 → Nat → Int32 → Prop} {Q : Int32 → PS → Prop} (hM : MShape S) (hp : rP S P) (hd : rD S a d) (hc : c < 8) (hs : s < 32) (h1 : P (9 + 20 * c + 1) ≤ 7) (h2 : ∀ k, k < P (9 + 20 * c + 1) → P (9 + 20 * c + (2 + k)) < 7) (h9 : ∀ v, v < 5 → P (9 + 20 * c + (9 + v)) < 64) (h14 : ∀ v, v < 5 → P (9 + 20 * c + (14 + v)) < 64)
    (hF : ¬ hallT (P (9 + 20 * c + 1)) (fun k => P (9 + 20 * c + (2 + k))) (fun v => P (9 + 20 * c + (9 + v))) (fun v => P (9 + 20 * c + (14 + v))) d s → Q (nI 0) S)
    (hT : hallT (P (9 + 20 * c + 1)) (fun k => P (9 + 20 * c + (2 + k))) (fun v => P (9 + 20 * c + (9 + v))) (fun v => P (9 + 20 * c + (14 + v))) d s → K2 S 87 (nI c) a (nI (s + 1))) :
    ∀ r k, k + r = P (9 + 20 * c + 1) → wpX12_canCount_b23 K2 Q (r + 1) S 87 (nI c) a (nI s) (nI (cN (fun k => decide (andn (d (P (9 + 20 * c + (2 + k)))) s = 0)) k)) (nI (cN (fun k => decide (d (P (9 + 20 * c + (2 + k))) &&& s ≠ 0)) k)) (nI 0) (nI 0) (nI k) := by
  intro r
  induction r with
  | zero =>
    intro k hk
    have hk' : P (9 + 20 * c + 1) = k := by omega
    have b1 := cN_le (fun k => decide (andn (d (P (9 + 20 * c + (2 + k)))) s = 0)) k
    have b2 := cN_le (fun k => decide (d (P (9 + 20 * c + (2 + k))) &&& s ≠ 0)) k
    have h3 := q_cc92 (K2 := K2) (Q := Q) (a := a) (wi := cN (fun k => decide (andn (d (P (9 + 20 * c + (2 + k)))) s = 0)) k) (ab := cN (fun k => decide (d (P (9 + 20 * c + (2 + k))) &&& s ≠ 0)) k) hM hp hc hs h9 h14 (by omega) (by omega) (fun q => hF (fun w => q (by rw [hk'] at w; exact w))) (fun q => hT (by rw [hk']; exact q)) 5 0 rfl
    simp (disch := omega) only [wpX12_canCount_b23, w_of hM hp, msk hM, c_0, c_1, c_2, c_3, c_4, c_5, c_6, c_7, c_8, c_9, c_10, c_11, c_12, c_14, c_16, c_19, c_20, c_24, c_31, c_32, c_35, c_48, c_57, c_59, c_63, c_97, c_100, c_122, c_127, c_169, c_255, c_600, c_1000, c_32767, Nat.le_refl, Nat.zero_le, Nat.add_zero, Nat.lt_irrefl, eq_self, o_sub, Nat.sub_zero, Nat.not_lt_zero, ↓ng_d, o_le, o_lt, o_eq, o_add, o_mul, o_cl, o_inT, o_and, n_31, o_shr, o_shl1, o_or, m_lt, m_ge, m_le, m_gt, m_ne, m_ne2, Option.some.injEq, exists_eq_left', true_and, and_true, true_implies, false_implies, implies_true, not_true_eq_false, not_false_eq_true, bI_0, bI_1, bI_01, b01, true_or, or_true, Nat.reduceEqDiff, Bool.not_eq_false, Bool.not_eq_true, Bool.true_eq_false, Bool.false_eq_true, hk']
    exact ⟨_, h3⟩
  | succ r ih =>
    intro k hk
    have b1 := cN_le (fun k => decide (andn (d (P (9 + 20 * c + (2 + k)))) s = 0)) k
    have b2 := cN_le (fun k => decide (d (P (9 + 20 * c + (2 + k))) &&& s ≠ 0)) k
    have hx := h2 k (by omega)
    have e5 : ¬ P (9 + 20 * c + 1) ≤ k := by omega
    have hdx := hd.2.2.2 _ hx
    have hn := ih (k + 1) (by omega)
    rw [cN_s, cN_s] at hn
    generalize r + 1 = f at hn ⊢
    have e1 := dm_andn _ hdx s hs
    have e2 : d (P (9 + 20 * c + (2 + k))) &&& s < 32 := dm_and_lt _ hdx s hs
    have e3 := dm_andn_lt _ hdx s hs
    by_cases q1 : andn (d (P (9 + 20 * c + (2 + k)))) s = 0 <;> by_cases q2 : d (P (9 + 20 * c + (2 + k))) &&& s = 0
    · rw [decide_eq_true q1, decide_eq_false (fun z => z q2)] at hn
      simp only [eq_self, if_true, if_false, Bool.false_eq_true, Nat.add_zero] at hn
      simp (disch := omega) only [wpX12_canCount_b23, wpX12_canCount_b63, w_of hM hp, msk hM, c_0, c_1, c_2, c_3, c_4, c_5, c_6, c_7, c_8, c_9, c_10, c_11, c_12, c_14, c_16, c_19, c_20, c_24, c_31, c_32, c_35, c_48, c_57, c_59, c_63, c_97, c_100, c_122, c_127, c_169, c_255, c_600, c_1000, c_32767, Nat.le_refl, Nat.zero_le, Nat.add_zero, Nat.lt_irrefl, eq_self, o_sub, Nat.sub_zero, Nat.not_lt_zero, ↓ng_d, o_le, o_lt, o_eq, o_add, o_mul, o_cl, o_inT, o_and, n_31, o_shr, o_shl1, o_or, m_lt, m_ge, m_le, m_gt, m_ne, m_ne2, Option.some.injEq, exists_eq_left', true_and, and_true, true_implies, false_implies, implies_true, not_true_eq_false, not_false_eq_true, bI_0, bI_1, bI_01, b01, true_or, or_true, Nat.reduceEqDiff, Bool.not_eq_false, Bool.not_eq_true, Bool.true_eq_false, Bool.false_eq_true, e5, hd.1, hd.2.1, hd.2.2.1 _ hx, e1, q1, q2]
      exact hn
    · rw [decide_eq_true q1, decide_eq_true (show d (P (9 + 20 * c + (2 + k))) &&& s ≠ 0 from q2)] at hn
      simp only [eq_self, if_true, if_false, Bool.false_eq_true, Nat.add_zero] at hn
      simp (disch := omega) only [wpX12_canCount_b23, wpX12_canCount_b63, w_of hM hp, msk hM, c_0, c_1, c_2, c_3, c_4, c_5, c_6, c_7, c_8, c_9, c_10, c_11, c_12, c_14, c_16, c_19, c_20, c_24, c_31, c_32, c_35, c_48, c_57, c_59, c_63, c_97, c_100, c_122, c_127, c_169, c_255, c_600, c_1000, c_32767, Nat.le_refl, Nat.zero_le, Nat.add_zero, Nat.lt_irrefl, eq_self, o_sub, Nat.sub_zero, Nat.not_lt_zero, ↓ng_d, o_le, o_lt, o_eq, o_add, o_mul, o_cl, o_inT, o_and, n_31, o_shr, o_shl1, o_or, m_lt, m_ge, m_le, m_gt, m_ne, m_ne2, Option.some.injEq, exists_eq_left', true_and, and_true, true_implies, false_implies, implies_true, not_true_eq_false, not_false_eq_true, bI_0, bI_1, bI_01, b01, true_or, or_true, Nat.reduceEqDiff, Bool.not_eq_false, Bool.not_eq_true, Bool.true_eq_false, Bool.false_eq_true, e5, hd.1, hd.2.1, hd.2.2.1 _ hx, e1, q1, q2]
      exact hn
    · rw [decide_eq_false q1, decide_eq_false (fun z => z q2)] at hn
      simp only [eq_self, if_true, if_false, Bool.false_eq_true, Nat.add_zero] at hn
      simp (disch := omega) only [wpX12_canCount_b23, wpX12_canCount_b63, w_of hM hp, msk hM, c_0, c_1, c_2, c_3, c_4, c_5, c_6, c_7, c_8, c_9, c_10, c_11, c_12, c_14, c_16, c_19, c_20, c_24, c_31, c_32, c_35, c_48, c_57, c_59, c_63, c_97, c_100, c_122, c_127, c_169, c_255, c_600, c_1000, c_32767, Nat.le_refl, Nat.zero_le, Nat.add_zero, Nat.lt_irrefl, eq_self, o_sub, Nat.sub_zero, Nat.not_lt_zero, ↓ng_d, o_le, o_lt, o_eq, o_add, o_mul, o_cl, o_inT, o_and, n_31, o_shr, o_shl1, o_or, m_lt, m_ge, m_le, m_gt, m_ne, m_ne2, Option.some.injEq, exists_eq_left', true_and, and_true, true_implies, false_implies, implies_true, not_true_eq_false, not_false_eq_true, bI_0, bI_1, bI_01, b01, true_or, or_true, Nat.reduceEqDiff, Bool.not_eq_false, Bool.not_eq_true, Bool.true_eq_false, Bool.false_eq_true, e5, hd.1, hd.2.1, hd.2.2.1 _ hx, e1, q1, q2]
      exact hn
    · rw [decide_eq_false q1, decide_eq_true (show d (P (9 + 20 * c + (2 + k))) &&& s ≠ 0 from q2)] at hn
      simp only [eq_self, if_true, if_false, Bool.false_eq_true, Nat.add_zero] at hn
      simp (disch := omega) only [wpX12_canCount_b23, wpX12_canCount_b63, w_of hM hp, msk hM, c_0, c_1, c_2, c_3, c_4, c_5, c_6, c_7, c_8, c_9, c_10, c_11, c_12, c_14, c_16, c_19, c_20, c_24, c_31, c_32, c_35, c_48, c_57, c_59, c_63, c_97, c_100, c_122, c_127, c_169, c_255, c_600, c_1000, c_32767, Nat.le_refl, Nat.zero_le, Nat.add_zero, Nat.lt_irrefl, eq_self, o_sub, Nat.sub_zero, Nat.not_lt_zero, ↓ng_d, o_le, o_lt, o_eq, o_add, o_mul, o_cl, o_inT, o_and, n_31, o_shr, o_shl1, o_or, m_lt, m_ge, m_le, m_gt, m_ne, m_ne2, Option.some.injEq, exists_eq_left', true_and, and_true, true_implies, false_implies, implies_true, not_true_eq_false, not_false_eq_true, bI_0, bI_1, bI_01, b01, true_or, or_true, Nat.reduceEqDiff, Bool.not_eq_false, Bool.not_eq_true, Bool.true_eq_false, Bool.false_eq_true, e5, hd.1, hd.2.1, hd.2.2.1 _ hx, e1, q1, q2]
      exact hn
theorem q_canCount {S : PS} {P d : Nat → Nat} {c a : Nat} {Q : Int32 → PS → Prop} (hM : MShape S) (hp : rP S P) (hd : rD S a d) (hc : c < 8) (hw : Cwf P c) (h0 : P 0 ≤ 7) (hk : P (9 + 20 * c) = 0) (hQ : Q (bI (dB (Can (cK P c) d))) S) : wpX12_canCount S 87 (nI c) a Q := by
  obtain ⟨-, g1, g2, g3, g4, g5, -, -, -, g9, -⟩ := hw
  have h9 : ∀ v, v < 5 → P (9 + 20 * c + (9 + v)) < 64 := fun v hv => g9 _ (by omega)
  have h14 : ∀ v, v < 5 → P (9 + 20 * c + (14 + v)) < 64 := fun v hv => g9 _ (by omega)
  have hm7 : ∀ k, k < P (9 + 20 * c + 1) → P (9 + 20 * c + (2 + k)) < 7 := fun k hk => Nat.lt_of_lt_of_le (g3 k hk) h0
  have hcan := can_counts (n := P (9 + 20 * c + 1)) (m := fun k => P (9 + 20 * c + (2 + k))) (lo := fun v => P (9 + 20 * c + (9 + v))) (hi := fun v => P (9 + 20 * c + (14 + v))) (d := d) g4 (fun k hk => hd.2.2.2 _ (hm7 k hk)) (fun v hv => (g5 hk v hv).1)
  have hcK : Can (cK P c) d ↔ Can (P (9 + 20 * c + 1), (fun k => P (9 + 20 * c + (2 + k))), okCounts (P (9 + 20 * c + 1)) (fun k => P (9 + 20 * c + (2 + k))) (fun v => P (9 + 20 * c + (9 + v))) (fun v => P (9 + 20 * c + (14 + v)))) d := by
    have e : cOk P c = okCounts (P (9 + 20 * c + 1)) (fun k => P (9 + 20 * c + (2 + k))) (fun v => P (9 + 20 * c + (9 + v))) (fun v => P (9 + 20 * c + (14 + v))) := funext fun a => by unfold cOk; rw [if_pos hk]
    unfold cK
    rw [e]
  have main : ∀ r s, s + r = 32 → (∀ t, t < s → hallT (P (9 + 20 * c + 1)) (fun k => P (9 + 20 * c + (2 + k))) (fun v => P (9 + 20 * c + (9 + v))) (fun v => P (9 + 20 * c + (14 + v))) d t) → wpX12_canCount_b2 Q (r + 1) S 87 (nI c) a (nI s) := by
    intro r
    induction r with
    | zero =>
      intro s hs ht
      have : s = 32 := by omega
      subst this
      rw [dB_t.mpr (hcK.mpr (hcan.mp ht))] at hQ
      simp (disch := omega) only [wpX12_canCount_b2, c_0, c_1, c_2, c_3, c_4, c_5, c_6, c_7, c_8, c_9, c_10, c_11, c_12, c_14, c_16, c_19, c_20, c_24, c_31, c_32, c_35, c_48, c_57, c_59, c_63, c_97, c_100, c_122, c_127, c_169, c_255, c_600, c_1000, c_32767, Nat.le_refl, Nat.zero_le, Nat.add_zero, Nat.lt_irrefl, eq_self, o_sub, Nat.sub_zero, Nat.not_lt_zero, ↓ng_d, o_le, o_lt, o_eq, o_add, o_mul, o_cl, o_inT, o_and, n_31, o_shr, o_shl1, o_or, m_lt, m_ge, m_le, m_gt, m_ne, m_ne2, Option.some.injEq, exists_eq_left', true_and, and_true, true_implies, false_implies, implies_true, not_true_eq_false, not_false_eq_true, bI_0, bI_1, bI_01, b01, true_or, or_true, Nat.reduceEqDiff, Bool.not_eq_false, Bool.not_eq_true, Bool.true_eq_false, Bool.false_eq_true]
      exact hQ
    | succ r ih =>
      intro s hs ht
      have e : ¬ 32 ≤ s := by omega
      by_cases q : hallT (P (9 + 20 * c + 1)) (fun k => P (9 + 20 * c + (2 + k))) (fun v => P (9 + 20 * c + (9 + v))) (fun v => P (9 + 20 * c + (14 + v))) d s
      · have hn := ih (s + 1) (by omega) (fun t hts => by
          by_cases e : t = s
          · rw [e]; exact q
          · exact ht t (by omega))
        have h3 := q_cc23 (K2 := wpX12_canCount_b2 Q (r + 1)) (Q := Q) (s := s) hM hp hd hc (by omega) g2 hm7 h9 h14 (fun w => absurd q w) (fun _ => hn) _ 0 (Nat.zero_add _)
        generalize r + 1 = f at h3 ⊢
        simp (disch := omega) only [wpX12_canCount_b2, c_0, c_1, c_2, c_3, c_4, c_5, c_6, c_7, c_8, c_9, c_10, c_11, c_12, c_14, c_16, c_19, c_20, c_24, c_31, c_32, c_35, c_48, c_57, c_59, c_63, c_97, c_100, c_122, c_127, c_169, c_255, c_600, c_1000, c_32767, Nat.le_refl, Nat.zero_le, Nat.add_zero, Nat.lt_irrefl, eq_self, o_sub, Nat.sub_zero, Nat.not_lt_zero, ↓ng_d, o_le, o_lt, o_eq, o_add, o_mul, o_cl, o_inT, o_and, n_31, o_shr, o_shl1, o_or, m_lt, m_ge, m_le, m_gt, m_ne, m_ne2, Option.some.injEq, exists_eq_left', true_and, and_true, true_implies, false_implies, implies_true, not_true_eq_false, not_false_eq_true, bI_0, bI_1, bI_01, b01, true_or, or_true, Nat.reduceEqDiff, Bool.not_eq_false, Bool.not_eq_true, Bool.true_eq_false, Bool.false_eq_true, e]
        exact ⟨_, h3⟩
      · rw [dB_f.mpr (fun w => q (hcan.mpr (hcK.mp w) s (by omega)))] at hQ
        have h3 := q_cc23 (K2 := wpX12_canCount_b2 Q (r + 1)) (Q := Q) (s := s) hM hp hd hc (by omega) g2 hm7 h9 h14 (fun _ => hQ) (fun w => absurd w q) _ 0 (Nat.zero_add _)
        generalize r + 1 = f at h3 ⊢
        simp (disch := omega) only [wpX12_canCount_b2, c_0, c_1, c_2, c_3, c_4, c_5, c_6, c_7, c_8, c_9, c_10, c_11, c_12, c_14, c_16, c_19, c_20, c_24, c_31, c_32, c_35, c_48, c_57, c_59, c_63, c_97, c_100, c_122, c_127, c_169, c_255, c_600, c_1000, c_32767, Nat.le_refl, Nat.zero_le, Nat.add_zero, Nat.lt_irrefl, eq_self, o_sub, Nat.sub_zero, Nat.not_lt_zero, ↓ng_d, o_le, o_lt, o_eq, o_add, o_mul, o_cl, o_inT, o_and, n_31, o_shr, o_shl1, o_or, m_lt, m_ge, m_le, m_gt, m_ne, m_ne2, Option.some.injEq, exists_eq_left', true_and, and_true, true_implies, false_implies, implies_true, not_true_eq_false, not_false_eq_true, bI_0, bI_1, bI_01, b01, true_or, or_true, Nat.reduceEqDiff, Bool.not_eq_false, Bool.not_eq_true, Bool.true_eq_false, Bool.false_eq_true, e]
        exact ⟨_, h3⟩
  simp only [wpX12_canCount, c_0, c_1, c_2, c_3, c_4, c_5, c_6, c_7, c_8, c_9, c_10, c_11, c_12, c_14, c_16, c_19, c_20, c_24, c_31, c_32, c_35, c_48, c_57, c_59, c_63, c_97, c_100, c_122, c_127, c_169, c_255, c_600, c_1000, c_32767, Nat.le_refl, Nat.zero_le, Nat.add_zero, Nat.lt_irrefl, eq_self, o_sub, Nat.sub_zero, Nat.not_lt_zero, ↓ng_d, o_le, o_lt, o_eq, o_add, o_mul, o_cl, o_inT, o_and, n_31, o_shr, o_shl1, o_or, m_lt, m_ge, m_le, m_gt, m_ne, m_ne2, Option.some.injEq, exists_eq_left', true_and, and_true, true_implies, false_implies, implies_true, not_true_eq_false, not_false_eq_true, bI_0, bI_1, bI_01, b01, true_or, or_true, Nat.reduceEqDiff, Bool.not_eq_false, Bool.not_eq_true, Bool.true_eq_false, Bool.false_eq_true]
  exact ⟨_, main 32 0 rfl (fun t ht => by omega)⟩
/-! ===== comparisons, learnt sets ===== -/
theorem q_canBeLess {S : PS} {x y : Nat} {Q : Int32 → PS → Prop} (hx : x < 32) (hy : y < 32) (hQ : ∀ b : Bool, (b = true ↔ ∃ v, v < 5 ∧ x.testBit v = true ∧ y >>> (v + 1) ≠ 0) → Q (bI b) S) : wpX12_canBeLess S 87 (nI x) (nI y) Q := by
  have main : ∀ r k, k + r = 5 → (∀ v, v < k → ¬ (x.testBit v = true ∧ y >>> (v + 1) ≠ 0)) → wpX12_canBeLess_b2 Q (r + 1) S 87 (nI x) (nI y) (nI k) := by
    intro r
    induction r with
    | zero =>
      intro k hk h
      have : k = 5 := by omega
      subst this
      simp (disch := omega) only [wpX12_canBeLess_b2, c_0, c_1, c_2, c_3, c_4, c_5, c_6, c_7, c_8, c_9, c_10, c_11, c_12, c_14, c_16, c_19, c_20, c_24, c_31, c_32, c_35, c_48, c_57, c_59, c_63, c_97, c_100, c_122, c_127, c_169, c_255, c_600, c_1000, c_32767, Nat.le_refl, Nat.zero_le, Nat.add_zero, Nat.lt_irrefl, eq_self, o_sub, Nat.sub_zero, Nat.not_lt_zero, ↓ng_d, o_le, o_lt, o_eq, o_add, o_mul, o_cl, o_inT, o_and, n_31, o_shr, o_shl1, o_or, m_lt, m_ge, m_le, m_gt, m_ne, m_ne2, Option.some.injEq, exists_eq_left', true_and, and_true, true_implies, false_implies, implies_true, not_true_eq_false, not_false_eq_true, bI_0, bI_1, bI_01, b01, true_or, or_true, Nat.reduceEqDiff, Bool.not_eq_false, Bool.not_eq_true, Bool.true_eq_false, Bool.false_eq_true]
      exact hQ false ⟨fun q => by simp at q, fun ⟨v, hv, q⟩ => absurd q (h v hv)⟩
    | succ r ih =>
      intro k hk h
      have e : ¬ 5 ≤ k := by omega
      have hs : y >>> (k + 1) ≤ y := Nat.shiftRight_le _ _
      by_cases q : x.testBit k = true ∧ y >>> (k + 1) ≠ 0
      · have q2 : ¬ y >>> (k + 1) = 0 := q.2
        generalize r + 1 = f
        simp (disch := omega) only [wpX12_canBeLess_b2, w_has, c_0, c_1, c_2, c_3, c_4, c_5, c_6, c_7, c_8, c_9, c_10, c_11, c_12, c_14, c_16, c_19, c_20, c_24, c_31, c_32, c_35, c_48, c_57, c_59, c_63, c_97, c_100, c_122, c_127, c_169, c_255, c_600, c_1000, c_32767, Nat.le_refl, Nat.zero_le, Nat.add_zero, Nat.lt_irrefl, eq_self, o_sub, Nat.sub_zero, Nat.not_lt_zero, ↓ng_d, o_le, o_lt, o_eq, o_add, o_mul, o_cl, o_inT, o_and, n_31, o_shr, o_shl1, o_or, m_lt, m_ge, m_le, m_gt, m_ne, m_ne2, Option.some.injEq, exists_eq_left', true_and, and_true, true_implies, false_implies, implies_true, not_true_eq_false, not_false_eq_true, bI_0, bI_1, bI_01, b01, true_or, or_true, Nat.reduceEqDiff, Bool.not_eq_false, Bool.not_eq_true, Bool.true_eq_false, Bool.false_eq_true, e, q.1, q2]
        exact hQ true ⟨fun _ => ⟨k, by omega, q⟩, fun _ => rfl⟩
      · have hn := ih (k + 1) (by omega) (fun v hv => by
          by_cases ev : v = k
          · rw [ev]; exact q
          · exact h v (by omega))
        generalize r + 1 = f at hn ⊢
        cases hb : x.testBit k
        · simp (disch := omega) only [wpX12_canBeLess_b2, w_has, c_0, c_1, c_2, c_3, c_4, c_5, c_6, c_7, c_8, c_9, c_10, c_11, c_12, c_14, c_16, c_19, c_20, c_24, c_31, c_32, c_35, c_48, c_57, c_59, c_63, c_97, c_100, c_122, c_127, c_169, c_255, c_600, c_1000, c_32767, Nat.le_refl, Nat.zero_le, Nat.add_zero, Nat.lt_irrefl, eq_self, o_sub, Nat.sub_zero, Nat.not_lt_zero, ↓ng_d, o_le, o_lt, o_eq, o_add, o_mul, o_cl, o_inT, o_and, n_31, o_shr, o_shl1, o_or, m_lt, m_ge, m_le, m_gt, m_ne, m_ne2, Option.some.injEq, exists_eq_left', true_and, and_true, true_implies, false_implies, implies_true, not_true_eq_false, not_false_eq_true, bI_0, bI_1, bI_01, b01, true_or, or_true, Nat.reduceEqDiff, Bool.not_eq_false, Bool.not_eq_true, Bool.true_eq_false, Bool.false_eq_true, e, hb]
          exact hn
        · have q2 : y >>> (k + 1) = 0 := Classical.byContradiction fun w => q ⟨hb, w⟩
          simp (disch := omega) only [wpX12_canBeLess_b2, w_has, c_0, c_1, c_2, c_3, c_4, c_5, c_6, c_7, c_8, c_9, c_10, c_11, c_12, c_14, c_16, c_19, c_20, c_24, c_31, c_32, c_35, c_48, c_57, c_59, c_63, c_97, c_100, c_122, c_127, c_169, c_255, c_600, c_1000, c_32767, Nat.le_refl, Nat.zero_le, Nat.add_zero, Nat.lt_irrefl, eq_self, o_sub, Nat.sub_zero, Nat.not_lt_zero, ↓ng_d, o_le, o_lt, o_eq, o_add, o_mul, o_cl, o_inT, o_and, n_31, o_shr, o_shl1, o_or, m_lt, m_ge, m_le, m_gt, m_ne, m_ne2, Option.some.injEq, exists_eq_left', true_and, and_true, true_implies, false_implies, implies_true, not_true_eq_false, not_false_eq_true, bI_0, bI_1, bI_01, b01, true_or, or_true, Nat.reduceEqDiff, Bool.not_eq_false, Bool.not_eq_true, Bool.true_eq_false, Bool.false_eq_true, e, hb, q2]
          exact hn
  simp only [wpX12_canBeLess, c_0, c_1, c_2, c_3, c_4, c_5, c_6, c_7, c_8, c_9, c_10, c_11, c_12, c_14, c_16, c_19, c_20, c_24, c_31, c_32, c_35, c_48, c_57, c_59, c_63, c_97, c_100, c_122, c_127, c_169, c_255, c_600, c_1000, c_32767, Nat.le_refl, Nat.zero_le, Nat.add_zero, Nat.lt_irrefl, eq_self, o_sub, Nat.sub_zero, Nat.not_lt_zero, ↓ng_d, o_le, o_lt, o_eq, o_add, o_mul, o_cl, o_inT, o_and, n_31, o_shr, o_shl1, o_or, m_lt, m_ge, m_le, m_gt, m_ne, m_ne2, Option.some.injEq, exists_eq_left', true_and, and_true, true_implies, false_implies, implies_true, not_true_eq_false, not_false_eq_true, bI_0, bI_1, bI_01, b01, true_or, or_true, Nat.reduceEqDiff, Bool.not_eq_false, Bool.not_eq_true, Bool.true_eq_false, Bool.false_eq_true]
  exact ⟨_, main 5 0 rfl (fun v hv => by omega)⟩
theorem q_canDiffer {S : PS} {x y : Nat} {Q : Int32 → PS → Prop} (hx : x < 32) (hy : y < 32) (hQ : ∀ b : Bool, (b = true ↔ (x ≠ 0 ∧ y ≠ 0 ∧ (x = y → 1 < pcn 5 x))) → Q (bI b) S) : wpX12_canDiffer S 87 (nI x) (nI y) Q := by
  have hp := pcn_le 5 x
  simp (disch := omega) only [wpX12_canDiffer, c_0, c_1, c_2, c_3, c_4, c_5, c_6, c_7, c_8, c_9, c_10, c_11, c_12, c_14, c_16, c_19, c_20, c_24, c_31, c_32, c_35, c_48, c_57, c_59, c_63, c_97, c_100, c_122, c_127, c_169, c_255, c_600, c_1000, c_32767, Nat.le_refl, Nat.zero_le, Nat.add_zero, Nat.lt_irrefl, eq_self, o_sub, Nat.sub_zero, Nat.not_lt_zero, ↓ng_d, o_le, o_lt, o_eq, o_add, o_mul, o_cl, o_inT, o_and, n_31, o_shr, o_shl1, o_or, m_lt, m_ge, m_le, m_gt, m_ne, m_ne2, Option.some.injEq, exists_eq_left', true_and, and_true, true_implies, false_implies, implies_true, not_true_eq_false, not_false_eq_true, bI_0, bI_1, bI_01, b01, true_or, or_true, Nat.reduceEqDiff, Bool.not_eq_false, Bool.not_eq_true, Bool.true_eq_false, Bool.false_eq_true]
  refine ⟨fun q => hQ false (by simp [q]), fun q => ⟨fun q2 => hQ false (by simp [q2]), fun q2 => ⟨fun q3 => hQ true (by simp [q, q2, q3]), fun q3 => ?_⟩⟩⟩
  refine q_sizeOf (k := 5) (by decide) hx ?_
  simp (disch := omega) only [c_0, c_1, c_2, c_3, c_4, c_5, c_6, c_7, c_8, c_9, c_10, c_11, c_12, c_14, c_16, c_19, c_20, c_24, c_31, c_32, c_35, c_48, c_57, c_59, c_63, c_97, c_100, c_122, c_127, c_169, c_255, c_600, c_1000, c_32767, Nat.le_refl, Nat.zero_le, Nat.add_zero, Nat.lt_irrefl, eq_self, o_sub, Nat.sub_zero, Nat.not_lt_zero, ↓ng_d, o_le, o_lt, o_eq, o_add, o_mul, o_cl, o_inT, o_and, n_31, o_shr, o_shl1, o_or, m_lt, m_ge, m_le, m_gt, m_ne, m_ne2, Option.some.injEq, exists_eq_left', true_and, and_true, true_implies, false_implies, implies_true, not_true_eq_false, not_false_eq_true, bI_0, bI_1, bI_01, b01, true_or, or_true, Nat.reduceEqDiff, Bool.not_eq_false, Bool.not_eq_true, Bool.true_eq_false, Bool.false_eq_true]
  refine ⟨fun q4 => hQ false ⟨fun z => (by cases z), fun z => ?_⟩, fun q4 => hQ true ⟨fun _ => ⟨q, q2, fun _ => by omega⟩, fun _ => rfl⟩⟩
  have := z.2.2 q3
  omega
theorem v_lt (g : Nat) (h : g < 8) : (nI g - nI 1 < nI 0) = (g = 0) := by
  have : ∀ g, g < 8 → (nI g - nI 1 < nI 0 ↔ g = 0) := by decide +kernel
  exact propext (this g h)
theorem v_ge (g : Nat) (h : g < 8) : (nI 0 ≤ nI g - nI 1) = (¬ g = 0) := by
  have : ∀ g, g < 8 → (nI 0 ≤ nI g - nI 1 ↔ ¬ g = 0) := by decide +kernel
  exact propext (this g h)
theorem q_canLeave {S : PS} {s a : Nat} {d : Nat → Nat} {Q : Int32 → PS → Prop} (hs : Swf s) (hd : rD S a d) (hQ : Q (bI (dB (Can (lK s) d))) S) : wpX12_canLeave S 87 (nI s) a Q := by
  have hs1 := hs.1
  have hQ' : ∀ b : Bool, (b = true ↔ ((∀ x, x < 7 → dg s x ≠ 0 → d x ≠ 0) ∧ ∃ x, x < 7 ∧ dg s x ≠ 0 ∧ clr (d x) (dg s x - 1) ≠ 0)) → Q (bI b) S := fun b hb => by rw [dB_eq (hb.trans (can_leave hs hd.2.2.2))]; exact hQ
  have main : ∀ r k (o : Bool), k + r = 7 → (∀ x, x < k → dg s x ≠ 0 → d x ≠ 0) → (o = true ↔ ∃ x, x < k ∧ dg s x ≠ 0 ∧ clr (d x) (dg s x - 1) ≠ 0) → wpX12_canLeave_b5 Q (r + 1) S 87 (nI s) a (bI o) (nI k) := by
    intro r
    induction r with
    | zero =>
      intro k o hk h1 h2
      have : k = 7 := by omega
      subst this
      simp (disch := omega) only [wpX12_canLeave_b5, c_0, c_1, c_2, c_3, c_4, c_5, c_6, c_7, c_8, c_9, c_10, c_11, c_12, c_14, c_16, c_19, c_20, c_24, c_31, c_32, c_35, c_48, c_57, c_59, c_63, c_97, c_100, c_122, c_127, c_169, c_255, c_600, c_1000, c_32767, Nat.le_refl, Nat.zero_le, Nat.add_zero, Nat.lt_irrefl, eq_self, o_sub, Nat.sub_zero, Nat.not_lt_zero, ↓ng_d, o_le, o_lt, o_eq, o_add, o_mul, o_cl, o_inT, o_and, n_31, o_shr, o_shl1, o_or, m_lt, m_ge, m_le, m_gt, m_ne, m_ne2, Option.some.injEq, exists_eq_left', true_and, and_true, true_implies, false_implies, implies_true, not_true_eq_false, not_false_eq_true, bI_0, bI_1, bI_01, b01, true_or, or_true, Nat.reduceEqDiff, Bool.not_eq_false, Bool.not_eq_true, Bool.true_eq_false, Bool.false_eq_true]
      exact hQ' o (by rw [h2]; exact ⟨fun q => ⟨h1, q⟩, fun q => q.2⟩)
    | succ r ih =>
      intro k o hk h1 h2
      have e7 : ¬ 7 ≤ k := by omega
      have hdk := hd.2.2.2 k (by omega)
      have hg8 := dg_lt s k
      have hg5 := hs.2 k (by omega)
      by_cases e : dg s k = 0
      · have hn := ih (k + 1) o (by omega) (fun x hx h0 => by
          by_cases ex : x = k
          · rw [ex] at h0; exact absurd e h0
          · exact h1 x (by omega) h0) (by
          rw [h2]
          constructor
          · rintro ⟨x, hx, q⟩; exact ⟨x, by omega, q⟩
          · rintro ⟨x, hx, q⟩
            have : x ≠ k := fun w => q.1 (by rw [w]; exact e)
            exact ⟨x, by omega, q⟩)
        generalize r + 1 = f at hn ⊢
        simp (disch := omega) only [wpX12_canLeave_b5, w_valueIn, v_ge, c_0, c_1, c_2, c_3, c_4, c_5, c_6, c_7, c_8, c_9, c_10, c_11, c_12, c_14, c_16, c_19, c_20, c_24, c_31, c_32, c_35, c_48, c_57, c_59, c_63, c_97, c_100, c_122, c_127, c_169, c_255, c_600, c_1000, c_32767, Nat.le_refl, Nat.zero_le, Nat.add_zero, Nat.lt_irrefl, eq_self, o_sub, Nat.sub_zero, Nat.not_lt_zero, ↓ng_d, o_le, o_lt, o_eq, o_add, o_mul, o_cl, o_inT, o_and, n_31, o_shr, o_shl1, o_or, m_lt, m_ge, m_le, m_gt, m_ne, m_ne2, Option.some.injEq, exists_eq_left', true_and, and_true, true_implies, false_implies, implies_true, not_true_eq_false, not_false_eq_true, bI_0, bI_1, bI_01, b01, true_or, or_true, Nat.reduceEqDiff, Bool.not_eq_false, Bool.not_eq_true, Bool.true_eq_false, Bool.false_eq_true, e7, e]
        exact hn
      · have e1 : nI (dg s k) - nI 1 = nI (dg s k - 1) := o_sub (by omega)
        by_cases e0 : d k = 0
        · generalize r + 1 = f
          simp (disch := omega) only [wpX12_canLeave_b5, w_valueIn, v_ge, c_0, c_1, c_2, c_3, c_4, c_5, c_6, c_7, c_8, c_9, c_10, c_11, c_12, c_14, c_16, c_19, c_20, c_24, c_31, c_32, c_35, c_48, c_57, c_59, c_63, c_97, c_100, c_122, c_127, c_169, c_255, c_600, c_1000, c_32767, Nat.le_refl, Nat.zero_le, Nat.add_zero, Nat.lt_irrefl, eq_self, o_sub, Nat.sub_zero, Nat.not_lt_zero, ↓ng_d, o_le, o_lt, o_eq, o_add, o_mul, o_cl, o_inT, o_and, n_31, o_shr, o_shl1, o_or, m_lt, m_ge, m_le, m_gt, m_ne, m_ne2, Option.some.injEq, exists_eq_left', true_and, and_true, true_implies, false_implies, implies_true, not_true_eq_false, not_false_eq_true, bI_0, bI_1, bI_01, b01, true_or, or_true, Nat.reduceEqDiff, Bool.not_eq_false, Bool.not_eq_true, Bool.true_eq_false, Bool.false_eq_true, e7, e, hd.1, hd.2.1, hd.2.2.1 k (by omega), e0]
          exact hQ' false ⟨fun q => by simp at q, fun q => absurd e0 (q.1 k (by omega) e)⟩
        · have e2 := dm_clr _ hdk (dg s k - 1) (by omega)
          have e3 := dm_clr_lt _ hdk (dg s k - 1) (by omega)
          have hup : ∀ x, x < k + 1 → dg s x ≠ 0 → d x ≠ 0 := fun x hx h0 => by
            by_cases ex : x = k
            · rw [ex]; exact e0
            · exact h1 x (by omega) h0
          cases ho : o
          · by_cases ec : clr (d k) (dg s k - 1) = 0
            · have hn := ih (k + 1) false (by omega) hup (by
                rw [ho] at h2
                rw [h2]
                constructor
                · rintro ⟨x, hx, q⟩; exact ⟨x, by omega, q⟩
                · rintro ⟨x, hx, q⟩
                  have : x ≠ k := fun w => q.2 (by rw [w]; exact ec)
                  exact ⟨x, by omega, q⟩)
              generalize r + 1 = f at hn ⊢
              simp (disch := omega) only [wpX12_canLeave_b5, w_valueIn, v_ge, c_0, c_1, c_2, c_3, c_4, c_5, c_6, c_7, c_8, c_9, c_10, c_11, c_12, c_14, c_16, c_19, c_20, c_24, c_31, c_32, c_35, c_48, c_57, c_59, c_63, c_97, c_100, c_122, c_127, c_169, c_255, c_600, c_1000, c_32767, Nat.le_refl, Nat.zero_le, Nat.add_zero, Nat.lt_irrefl, eq_self, o_sub, Nat.sub_zero, Nat.not_lt_zero, ↓ng_d, o_le, o_lt, o_eq, o_add, o_mul, o_cl, o_inT, o_and, n_31, o_shr, o_shl1, o_or, m_lt, m_ge, m_le, m_gt, m_ne, m_ne2, Option.some.injEq, exists_eq_left', true_and, and_true, true_implies, false_implies, implies_true, not_true_eq_false, not_false_eq_true, bI_0, bI_1, bI_01, b01, true_or, or_true, Nat.reduceEqDiff, Bool.not_eq_false, Bool.not_eq_true, Bool.true_eq_false, Bool.false_eq_true, e7, e, hd.1, hd.2.1, hd.2.2.1 k (by omega), e0, e1, e2, ec]
              exact hn
            · have hn := ih (k + 1) true (by omega) hup ⟨fun _ => ⟨k, by omega, e, ec⟩, fun _ => rfl⟩
              generalize r + 1 = f at hn ⊢
              simp (disch := omega) only [wpX12_canLeave_b5, wpX12_canLeave_b55, w_valueIn, v_ge, c_0, c_1, c_2, c_3, c_4, c_5, c_6, c_7, c_8, c_9, c_10, c_11, c_12, c_14, c_16, c_19, c_20, c_24, c_31, c_32, c_35, c_48, c_57, c_59, c_63, c_97, c_100, c_122, c_127, c_169, c_255, c_600, c_1000, c_32767, Nat.le_refl, Nat.zero_le, Nat.add_zero, Nat.lt_irrefl, eq_self, o_sub, Nat.sub_zero, Nat.not_lt_zero, ↓ng_d, o_le, o_lt, o_eq, o_add, o_mul, o_cl, o_inT, o_and, n_31, o_shr, o_shl1, o_or, m_lt, m_ge, m_le, m_gt, m_ne, m_ne2, Option.some.injEq, exists_eq_left', true_and, and_true, true_implies, false_implies, implies_true, not_true_eq_false, not_false_eq_true, bI_0, bI_1, bI_01, b01, true_or, or_true, Nat.reduceEqDiff, Bool.not_eq_false, Bool.not_eq_true, Bool.true_eq_false, Bool.false_eq_true, e7, e, hd.1, hd.2.1, hd.2.2.1 k (by omega), e0, e1, e2, ec]
              exact hn
          · have hn := ih (k + 1) true (by omega) hup ⟨fun _ => by
              obtain ⟨x, hx, q⟩ := h2.mp ho
              exact ⟨x, by omega, q⟩, fun _ => rfl⟩
            generalize r + 1 = f at hn ⊢
            simp (disch := omega) only [wpX12_canLeave_b5, wpX12_canLeave_b55, w_valueIn, v_ge, c_0, c_1, c_2, c_3, c_4, c_5, c_6, c_7, c_8, c_9, c_10, c_11, c_12, c_14, c_16, c_19, c_20, c_24, c_31, c_32, c_35, c_48, c_57, c_59, c_63, c_97, c_100, c_122, c_127, c_169, c_255, c_600, c_1000, c_32767, Nat.le_refl, Nat.zero_le, Nat.add_zero, Nat.lt_irrefl, eq_self, o_sub, Nat.sub_zero, Nat.not_lt_zero, ↓ng_d, o_le, o_lt, o_eq, o_add, o_mul, o_cl, o_inT, o_and, n_31, o_shr, o_shl1, o_or, m_lt, m_ge, m_le, m_gt, m_ne, m_ne2, Option.some.injEq, exists_eq_left', true_and, and_true, true_implies, false_implies, implies_true, not_true_eq_false, not_false_eq_true, bI_0, bI_1, bI_01, b01, true_or, or_true, Nat.reduceEqDiff, Bool.not_eq_false, Bool.not_eq_true, Bool.true_eq_false, Bool.false_eq_true, e7, e, hd.1, hd.2.1, hd.2.2.1 k (by omega), e0, e1]
            exact hn
  simp only [wpX12_canLeave, c_0, c_1, c_2, c_3, c_4, c_5, c_6, c_7, c_8, c_9, c_10, c_11, c_12, c_14, c_16, c_19, c_20, c_24, c_31, c_32, c_35, c_48, c_57, c_59, c_63, c_97, c_100, c_122, c_127, c_169, c_255, c_600, c_1000, c_32767, Nat.le_refl, Nat.zero_le, Nat.add_zero, Nat.lt_irrefl, eq_self, o_sub, Nat.sub_zero, Nat.not_lt_zero, ↓ng_d, o_le, o_lt, o_eq, o_add, o_mul, o_cl, o_inT, o_and, n_31, o_shr, o_shl1, o_or, m_lt, m_ge, m_le, m_gt, m_ne, m_ne2, Option.some.injEq, exists_eq_left', true_and, and_true, true_implies, false_implies, implies_true, not_true_eq_false, not_false_eq_true, bI_0, bI_1, bI_01, b01, true_or, or_true, Nat.reduceEqDiff, Bool.not_eq_false, Bool.not_eq_true, Bool.true_eq_false, Bool.false_eq_true]
  exact ⟨_, main 7 0 false rfl (fun x hx => by omega) ⟨fun q => by simp at q, fun ⟨x, hx, _⟩ => by omega⟩⟩

/-! THE REFERENCE: windows -/
theorem bit_set (n j i : Nat) : (n ||| 2 ^ j).testBit i = (n.testBit i || decide (i = j)) := by
  rw [Nat.testBit_or, Nat.testBit_two_pow]
  have : (j = i) = (i = j) := propext ⟨Eq.symm, Eq.symm⟩
  simp only [this]
/-- what one member's way from a row to the next needs -/
def okB (w s lo hi dx k b t : Nat) : Prop := canBit s dx b ∧ (w ≤ k + 1 → lo ≤ pcn w t ∧ pcn w t ≤ hi)
def slJ (w s lo hi dx k R i N : Nat) : Prop := N < 65536 ∧ ∀ t, N.testBit t = true ↔ ∃ r b, 2 * r + b < i ∧ b < 2 ∧ R.testBit r = true ∧ t = (2 * r + b) % 2 ^ w ∧ okB w s lo hi dx k b t
theorem slJ_0 {w s lo hi dx k R : Nat} : slJ w s lo hi dx k R 0 0 := ⟨by decide, fun t => ⟨fun q => by simp at q, fun ⟨r, b, q, _⟩ => by omega⟩⟩
theorem slJ_y {w s lo hi dx k R N row b : Nat} (hw : w ≤ 4) (h : slJ w s lo hi dx k R (2 * row + b) N) (hb : b < 2) (hr : R.testBit row = true) (ho : okB w s lo hi dx k b ((2 * row + b) % 2 ^ w)) : slJ w s lo hi dx k R (2 * row + b + 1) (N ||| 2 ^ ((2 * row + b) % 2 ^ w)) := by
  have h16 : (2 * row + b) % 2 ^ w < 16 := Nat.lt_of_lt_of_le (Nat.mod_lt _ (Nat.pow_pos (by decide))) (show 2 ^ w ≤ 2 ^ 4 from Nat.pow_le_pow_right (by decide) hw)
  refine ⟨?_, fun t => ?_⟩
  · have h1 : (2 : Nat) ^ ((2 * row + b) % 2 ^ w) < 2 ^ 16 := Nat.pow_lt_pow_right (by decide) h16
    exact Nat.or_lt_two_pow (n := 16) h.1 h1
  · rw [bit_set]
    simp only [Bool.or_eq_true, decide_eq_true_eq]
    rw [h.2 t]
    constructor
    · rintro (⟨r, b', q1, q⟩ | q)
      · exact ⟨r, b', by omega, q⟩
      · exact ⟨row, b, by omega, hb, hr, q, by rw [q]; exact ho⟩
    · rintro ⟨r, b', q1, q2, q3, q4, q5⟩
      by_cases e : 2 * r + b' = 2 * row + b
      · right; rw [q4, e]
      · left; exact ⟨r, b', by omega, q2, q3, q4, q5⟩
theorem slJ_n {w s lo hi dx k R N row b : Nat} (h : slJ w s lo hi dx k R (2 * row + b) N) (hb : b < 2) (ho : ¬ okB w s lo hi dx k b ((2 * row + b) % 2 ^ w)) : slJ w s lo hi dx k R (2 * row + b + 1) N := by
  refine ⟨h.1, fun t => ?_⟩
  rw [h.2 t]
  constructor
  · rintro ⟨r, b', q1, q⟩; exact ⟨r, b', by omega, q⟩
  · rintro ⟨r, b', q1, q2, q3, q4, q5⟩
    by_cases e : 2 * r + b' = 2 * row + b
    · exfalso
      have e1 : b' = b := by omega
      rw [e] at q4
      rw [q4, e1] at q5
      exact ho q5
    · exact ⟨r, b', by omega, q2, q3, q4, q5⟩
theorem slJ_s {w s lo hi dx k R N row : Nat} (h : slJ w s lo hi dx k R (2 * row) N) (hr : R.testBit row = false) : slJ w s lo hi dx k R (2 * (row + 1)) N := by
  refine ⟨h.1, fun t => ?_⟩
  rw [h.2 t]
  constructor
  · rintro ⟨r, b', q1, q⟩; exact ⟨r, b', by omega, q⟩
  · rintro ⟨r, b', q1, q2, q3, q4, q5⟩
    have e : r ≠ row := fun w => by rw [w, hr] at q3; cases q3
    exact ⟨r, b', by omega, q2, q3, q4, q5⟩
theorem sl_or : ∀ r, r < 16 → ∀ b, b < 2 → r * 2 ^ 1 ||| b = 2 * r + b := by decide +kernel
/-- one bit -/
theorem q_cs67 {S : PS} {P : Nat → Nat} {c a w k R x row : Nat} {K14 : PS → Nat → Int32 → Nat → Int32 → Int32 → Int32 → Prop} {K44 : PS → Nat → Int32 → Nat → Int32 → Int32 → Int32 → Int32 → Int32 → Int32 → Prop} {Q : Int32 → PS → Prop} (hM : MShape S) (hp : rP S P) (hc : c < 8) (hk : k < 7) (hx : x < 32) (hrow : row < 16) (hR : R < 65536) (hr : R.testBit row = true) (hwe : P (9 + 20 * c + 9) = w) (hw0 : 0 < w) (hw4 : w ≤ 4) (hs : P (9 + 20 * c + 10) < 32) (hl : P (9 + 20 * c + 11) < 64) (hh : P (9 + 20 * c + 12) < 64)
    (hK : ∀ N, slJ w (P (9 + 20 * c + 10)) (P (9 + 20 * c + 11)) (P (9 + 20 * c + 12)) x k R (2 * (row + 1)) N → K44 S 87 (nI c) a (nI w) (nI R) (nI k) (nI x) (nI N) (nI (row + 1))) :
    ∀ r b N, b + r = 2 → slJ w (P (9 + 20 * c + 10)) (P (9 + 20 * c + 11)) (P (9 + 20 * c + 12)) x k R (2 * row + b) N → wpX12_canSlide_b67 K14 K44 Q (r + 1) S 87 (nI c) a (nI w) (nI R) (nI k) (nI x) (nI N) (nI row) (nI b) := by
  intro r
  induction r with
  | zero =>
    intro b N hb h
    have : b = 2 := by omega
    subst this
    have h3 := hK N h
    simp (disch := omega) only [wpX12_canSlide_b67, c_0, c_1, c_2, c_3, c_4, c_5, c_6, c_7, c_8, c_9, c_10, c_11, c_12, c_14, c_16, c_19, c_20, c_24, c_31, c_32, c_35, c_48, c_57, c_59, c_63, c_97, c_100, c_122, c_127, c_169, c_255, c_600, c_1000, c_32767, Nat.le_refl, Nat.zero_le, Nat.add_zero, Nat.lt_irrefl, eq_self, o_sub, Nat.sub_zero, Nat.not_lt_zero, ↓ng_d, o_le, o_lt, o_eq, o_add, o_mul, o_cl, o_inT, o_and, n_31, o_shr, o_shl1, o_or, m_lt, m_ge, m_le, m_gt, m_ne, m_ne2, Option.some.injEq, exists_eq_left', true_and, and_true, true_implies, false_implies, implies_true, not_true_eq_false, not_false_eq_true, bI_0, bI_1, bI_01, b01, true_or, or_true, Nat.reduceEqDiff, Bool.not_eq_false, Bool.not_eq_true, Bool.true_eq_false, Bool.false_eq_true]
    exact h3
  | succ r ih =>
    intro b N hb h
    have e2 : ¬ 2 ≤ b := by omega
    have hb2 : b < 2 := by omega
    have hN := h.1
    have p1 : 2 ^ w ≤ 2 ^ 4 := Nat.pow_le_pow_right (by decide) hw4
    have p2 : 1 ≤ 2 ^ w := Nat.one_le_two_pow
    have ht : (2 * row + b) &&& (2 ^ w - 1) = (2 * row + b) % 2 ^ w := Nat.and_two_pow_sub_one_eq_mod _ _
    have ht2 : (2 * row + b) % 2 ^ w < 2 ^ w := Nat.mod_lt _ (by omega)
    obtain ⟨t, hte⟩ : ∃ t, t = (2 * row + b) % 2 ^ w := ⟨_, rfl⟩
    rw [← hte] at ht ht2
    have htp := pcn_le w t
    have hn : (okB w (P (9 + 20 * c + 10)) (P (9 + 20 * c + 11)) (P (9 + 20 * c + 12)) x k b t → wpX12_canSlide_b67 K14 K44 Q (r + 1) S 87 (nI c) a (nI w) (nI R) (nI k) (nI x) (nI (N ||| 2 ^ t)) (nI row) (nI (b + 1))) ∧ (¬ okB w (P (9 + 20 * c + 10)) (P (9 + 20 * c + 11)) (P (9 + 20 * c + 12)) x k b t → wpX12_canSlide_b67 K14 K44 Q (r + 1) S 87 (nI c) a (nI w) (nI R) (nI k) (nI x) (nI N) (nI row) (nI (b + 1))) := by
      by_cases ho : okB w (P (9 + 20 * c + 10)) (P (9 + 20 * c + 11)) (P (9 + 20 * c + 12)) x k b t
      · have hn := ih (b + 1) (N ||| 2 ^ t) (by omega) (by rw [hte] at ho ⊢; exact slJ_y hw4 h hb2 hr ho)
        exact ⟨fun _ => hn, fun q => absurd ho q⟩
      · have hn := ih (b + 1) N (by omega) (by rw [hte] at ho; exact slJ_n h hb2 ho)
        exact ⟨fun q => absurd q ho, fun _ => hn⟩
    generalize r + 1 = fu at hn ⊢
    -- the truth of the bit's way, and the rest of it
    have tail : ∀ (q : Prop) (g : Int32), (q ↔ canBit (P (9 + 20 * c + 10)) x b) → (g = nI 0 ↔ ¬ q) → (g = nI 0 ∨ g = nI 1) → wpX12_canSlide_b124 K14 K44 (wpX12_canSlide_b67 K14 K44 Q fu) Q S 87 (nI c) a (nI w) (nI R) (nI k) (nI x) (nI N) (nI row) (nI b) (nI t) g := by
      intro q g hq hg hg2
      have fin : ∀ f : Prop, (f ↔ (w ≤ k + 1 → P (9 + 20 * c + 11) ≤ pcn w t ∧ pcn w t ≤ P (9 + 20 * c + 12))) → (f → wpX12_canSlide_b164 K14 K44 (wpX12_canSlide_b67 K14 K44 Q fu) Q S 87 (nI c) a (nI w) (nI R) (nI k) (nI x) (nI N) (nI row) (nI b) (nI t) g (nI 1)) ∧ (¬ f → wpX12_canSlide_b164 K14 K44 (wpX12_canSlide_b67 K14 K44 Q fu) Q S 87 (nI c) a (nI w) (nI R) (nI k) (nI x) (nI N) (nI row) (nI b) (nI t) g (nI 0)) := by
        intro f hf
        have g0 : ¬ q → wpX12_canSlide_b67 K14 K44 Q fu S 87 (nI c) a (nI w) (nI R) (nI k) (nI x) (nI N) (nI row) (nI (b + 1)) := fun hq0 => hn.2 (fun ho => hq0 (hq.mpr ho.1))
        constructor
        · intro hf1
          by_cases hq0 : q
          · have hg0 : ¬ g = nI 0 := fun w => hg.mp w hq0
            have h1 := hn.1 ⟨hq.mp hq0, hf.mp hf1⟩
            have h10 : ¬ (1 : Nat) = 0 := by decide
            simp (disch := omega) only [wpX12_canSlide_b164, wpX12_canSlide_b185, c_0, c_1, c_2, c_3, c_4, c_5, c_6, c_7, c_8, c_9, c_10, c_11, c_12, c_14, c_16, c_19, c_20, c_24, c_31, c_32, c_35, c_48, c_57, c_59, c_63, c_97, c_100, c_122, c_127, c_169, c_255, c_600, c_1000, c_32767, Nat.le_refl, Nat.zero_le, Nat.add_zero, Nat.lt_irrefl, eq_self, o_sub, Nat.sub_zero, Nat.not_lt_zero, ↓ng_d, o_le, o_lt, o_eq, o_add, o_mul, o_cl, o_inT, o_and, n_31, o_shr, o_shl1, o_or, m_lt, m_ge, m_le, m_gt, m_ne, m_ne2, Option.some.injEq, exists_eq_left', true_and, and_true, true_implies, false_implies, implies_true, not_true_eq_false, not_false_eq_true, bI_0, bI_1, bI_01, b01, true_or, or_true, Nat.reduceEqDiff, Bool.not_eq_false, Bool.not_eq_true, Bool.true_eq_false, Bool.false_eq_true, hg0, h10]
            exact h1
          · have hg0 := hg.mpr hq0
            have h1 := g0 hq0
            simp (disch := omega) only [wpX12_canSlide_b164, wpX12_canSlide_b185, c_0, c_1, c_2, c_3, c_4, c_5, c_6, c_7, c_8, c_9, c_10, c_11, c_12, c_14, c_16, c_19, c_20, c_24, c_31, c_32, c_35, c_48, c_57, c_59, c_63, c_97, c_100, c_122, c_127, c_169, c_255, c_600, c_1000, c_32767, Nat.le_refl, Nat.zero_le, Nat.add_zero, Nat.lt_irrefl, eq_self, o_sub, Nat.sub_zero, Nat.not_lt_zero, ↓ng_d, o_le, o_lt, o_eq, o_add, o_mul, o_cl, o_inT, o_and, n_31, o_shr, o_shl1, o_or, m_lt, m_ge, m_le, m_gt, m_ne, m_ne2, Option.some.injEq, exists_eq_left', true_and, and_true, true_implies, false_implies, implies_true, not_true_eq_false, not_false_eq_true, bI_0, bI_1, bI_01, b01, true_or, or_true, Nat.reduceEqDiff, Bool.not_eq_false, Bool.not_eq_true, Bool.true_eq_false, Bool.false_eq_true, hg0, Nat.or_zero]
            exact h1
        · intro hf1
          by_cases hq0 : q
          · have hg0 : ¬ g = nI 0 := fun w => hg.mp w hq0
            have h1 := hn.2 (fun ho => hf1 (hf.mpr ho.2))
            simp (disch := omega) only [wpX12_canSlide_b164, wpX12_canSlide_b185, c_0, c_1, c_2, c_3, c_4, c_5, c_6, c_7, c_8, c_9, c_10, c_11, c_12, c_14, c_16, c_19, c_20, c_24, c_31, c_32, c_35, c_48, c_57, c_59, c_63, c_97, c_100, c_122, c_127, c_169, c_255, c_600, c_1000, c_32767, Nat.le_refl, Nat.zero_le, Nat.add_zero, Nat.lt_irrefl, eq_self, o_sub, Nat.sub_zero, Nat.not_lt_zero, ↓ng_d, o_le, o_lt, o_eq, o_add, o_mul, o_cl, o_inT, o_and, n_31, o_shr, o_shl1, o_or, m_lt, m_ge, m_le, m_gt, m_ne, m_ne2, Option.some.injEq, exists_eq_left', true_and, and_true, true_implies, false_implies, implies_true, not_true_eq_false, not_false_eq_true, bI_0, bI_1, bI_01, b01, true_or, or_true, Nat.reduceEqDiff, Bool.not_eq_false, Bool.not_eq_true, Bool.true_eq_false, Bool.false_eq_true, hg0, Nat.or_zero]
            exact h1
          · have hg0 := hg.mpr hq0
            have h1 := g0 hq0
            simp (disch := omega) only [wpX12_canSlide_b164, wpX12_canSlide_b185, c_0, c_1, c_2, c_3, c_4, c_5, c_6, c_7, c_8, c_9, c_10, c_11, c_12, c_14, c_16, c_19, c_20, c_24, c_31, c_32, c_35, c_48, c_57, c_59, c_63, c_97, c_100, c_122, c_127, c_169, c_255, c_600, c_1000, c_32767, Nat.le_refl, Nat.zero_le, Nat.add_zero, Nat.lt_irrefl, eq_self, o_sub, Nat.sub_zero, Nat.not_lt_zero, ↓ng_d, o_le, o_lt, o_eq, o_add, o_mul, o_cl, o_inT, o_and, n_31, o_shr, o_shl1, o_or, m_lt, m_ge, m_le, m_gt, m_ne, m_ne2, Option.some.injEq, exists_eq_left', true_and, and_true, true_implies, false_implies, implies_true, not_true_eq_false, not_false_eq_true, bI_0, bI_1, bI_01, b01, true_or, or_true, Nat.reduceEqDiff, Bool.not_eq_false, Bool.not_eq_true, Bool.true_eq_false, Bool.false_eq_true, hg0, Nat.or_zero]
            exact h1
      by_cases hkw : k + 1 < w
      · have h1 := (fin True ⟨fun _ q => by omega, fun _ => trivial⟩).1 trivial
        simp (disch := omega) only [wpX12_canSlide_b124, wpX12_canSlide_b159, c_0, c_1, c_2, c_3, c_4, c_5, c_6, c_7, c_8, c_9, c_10, c_11, c_12, c_14, c_16, c_19, c_20, c_24, c_31, c_32, c_35, c_48, c_57, c_59, c_63, c_97, c_100, c_122, c_127, c_169, c_255, c_600, c_1000, c_32767, Nat.le_refl, Nat.zero_le, Nat.add_zero, Nat.lt_irrefl, eq_self, o_sub, Nat.sub_zero, Nat.not_lt_zero, ↓ng_d, o_le, o_lt, o_eq, o_add, o_mul, o_cl, o_inT, o_and, n_31, o_shr, o_shl1, o_or, m_lt, m_ge, m_le, m_gt, m_ne, m_ne2, Option.some.injEq, exists_eq_left', true_and, and_true, true_implies, false_implies, implies_true, not_true_eq_false, not_false_eq_true, bI_0, bI_1, bI_01, b01, true_or, or_true, Nat.reduceEqDiff, Bool.not_eq_false, Bool.not_eq_true, Bool.true_eq_false, Bool.false_eq_true, hkw]
        exact h1
      · simp (disch := omega) only [wpX12_canSlide_b124, wpX12_canSlide_b159, c_0, c_1, c_2, c_3, c_4, c_5, c_6, c_7, c_8, c_9, c_10, c_11, c_12, c_14, c_16, c_19, c_20, c_24, c_31, c_32, c_35, c_48, c_57, c_59, c_63, c_97, c_100, c_122, c_127, c_169, c_255, c_600, c_1000, c_32767, Nat.le_refl, Nat.zero_le, Nat.add_zero, Nat.lt_irrefl, eq_self, o_sub, Nat.sub_zero, Nat.not_lt_zero, ↓ng_d, o_le, o_lt, o_eq, o_add, o_mul, o_cl, o_inT, o_and, n_31, o_shr, o_shl1, o_or, m_lt, m_ge, m_le, m_gt, m_ne, m_ne2, Option.some.injEq, exists_eq_left', true_and, and_true, true_implies, false_implies, implies_true, not_true_eq_false, not_false_eq_true, bI_0, bI_1, bI_01, b01, true_or, or_true, Nat.reduceEqDiff, Bool.not_eq_false, Bool.not_eq_true, Bool.true_eq_false, Bool.false_eq_true, hkw]
        refine q_sizeOf (k := w) (by omega) ht2 ?_
        simp (disch := omega) only [w_of hM hp, w_isIn, msk hM, c_0, c_1, c_2, c_3, c_4, c_5, c_6, c_7, c_8, c_9, c_10, c_11, c_12, c_14, c_16, c_19, c_20, c_24, c_31, c_32, c_35, c_48, c_57, c_59, c_63, c_97, c_100, c_122, c_127, c_169, c_255, c_600, c_1000, c_32767, Nat.le_refl, Nat.zero_le, Nat.add_zero, Nat.lt_irrefl, eq_self, o_sub, Nat.sub_zero, Nat.not_lt_zero, ↓ng_d, o_le, o_lt, o_eq, o_add, o_mul, o_cl, o_inT, o_and, n_31, o_shr, o_shl1, o_or, m_lt, m_ge, m_le, m_gt, m_ne, m_ne2, Option.some.injEq, exists_eq_left', true_and, and_true, true_implies, false_implies, implies_true, not_true_eq_false, not_false_eq_true, bI_0, bI_1, bI_01, b01, true_or, or_true, Nat.reduceEqDiff, Bool.not_eq_false, Bool.not_eq_true, Bool.true_eq_false, Bool.false_eq_true]
        have h1 := fin (P (9 + 20 * c + 11) ≤ pcn w t ∧ pcn w t ≤ P (9 + 20 * c + 12)) ⟨fun q _ => q, fun q => q (by omega)⟩
        by_cases hf : P (9 + 20 * c + 11) ≤ pcn w t ∧ pcn w t ≤ P (9 + 20 * c + 12)
        · have h2 := h1.1 hf
          simp only [hf, and_self, decide_true, c_0, c_1, c_2, c_3, c_4, c_5, c_6, c_7, c_8, c_9, c_10, c_11, c_12, c_14, c_16, c_19, c_20, c_24, c_31, c_32, c_35, c_48, c_57, c_59, c_63, c_97, c_100, c_122, c_127, c_169, c_255, c_600, c_1000, c_32767, Nat.le_refl, Nat.zero_le, Nat.add_zero, Nat.lt_irrefl, eq_self, o_sub, Nat.sub_zero, Nat.not_lt_zero, ↓ng_d, o_le, o_lt, o_eq, o_add, o_mul, o_cl, o_inT, o_and, n_31, o_shr, o_shl1, o_or, m_lt, m_ge, m_le, m_gt, m_ne, m_ne2, Option.some.injEq, exists_eq_left', true_and, and_true, true_implies, false_implies, implies_true, not_true_eq_false, not_false_eq_true, bI_0, bI_1, bI_01, b01, true_or, or_true, Nat.reduceEqDiff, Bool.not_eq_false, Bool.not_eq_true, Bool.true_eq_false, Bool.false_eq_true]
          exact h2
        · have h2 := h1.2 hf
          simp only [hf, decide_false, c_0, c_1, c_2, c_3, c_4, c_5, c_6, c_7, c_8, c_9, c_10, c_11, c_12, c_14, c_16, c_19, c_20, c_24, c_31, c_32, c_35, c_48, c_57, c_59, c_63, c_97, c_100, c_122, c_127, c_169, c_255, c_600, c_1000, c_32767, Nat.le_refl, Nat.zero_le, Nat.add_zero, Nat.lt_irrefl, eq_self, o_sub, Nat.sub_zero, Nat.not_lt_zero, ↓ng_d, o_le, o_lt, o_eq, o_add, o_mul, o_cl, o_inT, o_and, n_31, o_shr, o_shl1, o_or, m_lt, m_ge, m_le, m_gt, m_ne, m_ne2, Option.some.injEq, exists_eq_left', true_and, and_true, true_implies, false_implies, implies_true, not_true_eq_false, not_false_eq_true, bI_0, bI_1, bI_01, b01, true_or, or_true, Nat.reduceEqDiff, Bool.not_eq_false, Bool.not_eq_true, Bool.true_eq_false, Bool.false_eq_true]
          exact h2
    have e01 : b = 0 ∨ b = 1 := by omega
    rcases e01 with rfl | rfl
    · have q1 := dm_andn _ hx _ hs
      have q2 := dm_andn_lt _ hx _ hs
      have q3 : ¬ (0 : Nat) = 1 := by decide
      have q4 : row * 2 ^ 1 ||| 0 = 2 * row := sl_or row hrow 0 (by decide)
      have ht0 : 2 * row &&& (2 ^ w - 1) = t := ht
      have q5 := canBit_0 _ hx _ hs
      simp (disch := omega) only [wpX12_canSlide_b67, wpX12_canSlide_b115, w_of hM hp, msk hM, c_0, c_1, c_2, c_3, c_4, c_5, c_6, c_7, c_8, c_9, c_10, c_11, c_12, c_14, c_16, c_19, c_20, c_24, c_31, c_32, c_35, c_48, c_57, c_59, c_63, c_97, c_100, c_122, c_127, c_169, c_255, c_600, c_1000, c_32767, Nat.le_refl, Nat.zero_le, Nat.add_zero, Nat.lt_irrefl, eq_self, o_sub, Nat.sub_zero, Nat.not_lt_zero, ↓ng_d, o_le, o_lt, o_eq, o_add, o_mul, o_cl, o_inT, o_and, n_31, o_shr, o_shl1, o_or, m_lt, m_ge, m_le, m_gt, m_ne, m_ne2, Option.some.injEq, exists_eq_left', true_and, and_true, true_implies, false_implies, implies_true, not_true_eq_false, not_false_eq_true, bI_0, bI_1, bI_01, b01, true_or, or_true, Nat.reduceEqDiff, Bool.not_eq_false, Bool.not_eq_true, Bool.true_eq_false, Bool.false_eq_true, e2, q3, o_shl, Nat.one_mul, q4, ht0, q1]
      refine ⟨fun z => tail False (nI 0) ⟨fun f => f.elim, fun f => q5.mp f z⟩ ⟨fun _ => id, fun _ => rfl⟩ (Or.inl rfl), fun z => tail True (nI 1) ⟨fun _ => q5.mpr z, fun _ => trivial⟩ ⟨fun f => absurd f (by decide), fun f => absurd trivial f⟩ (Or.inr rfl)⟩
    · have q2 := dm_and_lt _ hx _ hs
      have q4 : row * 2 ^ 1 ||| 1 = 2 * row + 1 := sl_or row hrow 1 (by decide)
      have q5 := canBit_1 _ hx _ hs
      simp (disch := omega) only [wpX12_canSlide_b67, wpX12_canSlide_b115, w_of hM hp, msk hM, c_0, c_1, c_2, c_3, c_4, c_5, c_6, c_7, c_8, c_9, c_10, c_11, c_12, c_14, c_16, c_19, c_20, c_24, c_31, c_32, c_35, c_48, c_57, c_59, c_63, c_97, c_100, c_122, c_127, c_169, c_255, c_600, c_1000, c_32767, Nat.le_refl, Nat.zero_le, Nat.add_zero, Nat.lt_irrefl, eq_self, o_sub, Nat.sub_zero, Nat.not_lt_zero, ↓ng_d, o_le, o_lt, o_eq, o_add, o_mul, o_cl, o_inT, o_and, n_31, o_shr, o_shl1, o_or, m_lt, m_ge, m_le, m_gt, m_ne, m_ne2, Option.some.injEq, exists_eq_left', true_and, and_true, true_implies, false_implies, implies_true, not_true_eq_false, not_false_eq_true, bI_0, bI_1, bI_01, b01, true_or, or_true, Nat.reduceEqDiff, Bool.not_eq_false, Bool.not_eq_true, Bool.true_eq_false, Bool.false_eq_true, e2, o_shl, Nat.one_mul, q4, ht]
      refine ⟨fun z => tail False (nI 0) ⟨fun f => f.elim, fun f => q5.mp f z⟩ ⟨fun _ => id, fun _ => rfl⟩ (Or.inl rfl), fun z => tail True (nI 1) ⟨fun _ => q5.mpr z, fun _ => trivial⟩ ⟨fun f => absurd f (by decide), fun f => absurd trivial f⟩ (Or.inr rfl)⟩
theorem q_cs44 {S : PS} {P : Nat → Nat} {c a w k R x : Nat} {K14 : PS → Nat → Int32 → Nat → Int32 → Int32 → Int32 → Prop} {Q : Int32 → PS → Prop} (hM : MShape S) (hp : rP S P) (hc : c < 8) (hk : k < 7) (hx : x < 32) (hR : R < 65536) (hwe : P (9 + 20 * c + 9) = w) (hw0 : 0 < w) (hw4 : w ≤ 4) (hs : P (9 + 20 * c + 10) < 32) (hl : P (9 + 20 * c + 11) < 64) (hh : P (9 + 20 * c + 12) < 64)
    (hK : ∀ N, slJ w (P (9 + 20 * c + 10)) (P (9 + 20 * c + 11)) (P (9 + 20 * c + 12)) x k R 32 N → K14 S 87 (nI c) a (nI w) (nI N) (nI (k + 1))) :
    ∀ r row N, row + r = 16 → slJ w (P (9 + 20 * c + 10)) (P (9 + 20 * c + 11)) (P (9 + 20 * c + 12)) x k R (2 * row) N → wpX12_canSlide_b44 K14 Q (r + 1) S 87 (nI c) a (nI w) (nI R) (nI k) (nI x) (nI N) (nI row) := by
  intro r
  induction r with
  | zero =>
    intro row N hr h
    have : row = 16 := by omega
    subst this
    have h3 := hK N h
    simp (disch := omega) only [wpX12_canSlide_b44, c_0, c_1, c_2, c_3, c_4, c_5, c_6, c_7, c_8, c_9, c_10, c_11, c_12, c_14, c_16, c_19, c_20, c_24, c_31, c_32, c_35, c_48, c_57, c_59, c_63, c_97, c_100, c_122, c_127, c_169, c_255, c_600, c_1000, c_32767, Nat.le_refl, Nat.zero_le, Nat.add_zero, Nat.lt_irrefl, eq_self, o_sub, Nat.sub_zero, Nat.not_lt_zero, ↓ng_d, o_le, o_lt, o_eq, o_add, o_mul, o_cl, o_inT, o_and, n_31, o_shr, o_shl1, o_or, m_lt, m_ge, m_le, m_gt, m_ne, m_ne2, Option.some.injEq, exists_eq_left', true_and, and_true, true_implies, false_implies, implies_true, not_true_eq_false, not_false_eq_true, bI_0, bI_1, bI_01, b01, true_or, or_true, Nat.reduceEqDiff, Bool.not_eq_false, Bool.not_eq_true, Bool.true_eq_false, Bool.false_eq_true]
    exact h3
  | succ r ih =>
    intro row N hr h
    have e : ¬ 16 ≤ row := by omega
    cases hb : R.testBit row
    · have hn := ih (row + 1) N (by omega) (slJ_s h hb)
      generalize r + 1 = fu at hn ⊢
      simp (disch := omega) only [wpX12_canSlide_b44, w_has, c_0, c_1, c_2, c_3, c_4, c_5, c_6, c_7, c_8, c_9, c_10, c_11, c_12, c_14, c_16, c_19, c_20, c_24, c_31, c_32, c_35, c_48, c_57, c_59, c_63, c_97, c_100, c_122, c_127, c_169, c_255, c_600, c_1000, c_32767, Nat.le_refl, Nat.zero_le, Nat.add_zero, Nat.lt_irrefl, eq_self, o_sub, Nat.sub_zero, Nat.not_lt_zero, ↓ng_d, o_le, o_lt, o_eq, o_add, o_mul, o_cl, o_inT, o_and, n_31, o_shr, o_shl1, o_or, m_lt, m_ge, m_le, m_gt, m_ne, m_ne2, Option.some.injEq, exists_eq_left', true_and, and_true, true_implies, false_implies, implies_true, not_true_eq_false, not_false_eq_true, bI_0, bI_1, bI_01, b01, true_or, or_true, Nat.reduceEqDiff, Bool.not_eq_false, Bool.not_eq_true, Bool.true_eq_false, Bool.false_eq_true, e, hb]
      exact hn
    · have hn := ih (row + 1)
      have h3 := q_cs67 (K14 := K14) (K44 := wpX12_canSlide_b44 K14 Q (r + 1)) (Q := Q) (a := a) hM hp hc hk hx (by omega) hR hb hwe hw0 hw4 hs hl hh (fun N2 h2 => hn N2 (by omega) h2) 2 0 N rfl h
      generalize r + 1 = fu at h3 ⊢
      simp (disch := omega) only [wpX12_canSlide_b44, w_has, c_0, c_1, c_2, c_3, c_4, c_5, c_6, c_7, c_8, c_9, c_10, c_11, c_12, c_14, c_16, c_19, c_20, c_24, c_31, c_32, c_35, c_48, c_57, c_59, c_63, c_97, c_100, c_122, c_127, c_169, c_255, c_600, c_1000, c_32767, Nat.le_refl, Nat.zero_le, Nat.add_zero, Nat.lt_irrefl, eq_self, o_sub, Nat.sub_zero, Nat.not_lt_zero, ↓ng_d, o_le, o_lt, o_eq, o_add, o_mul, o_cl, o_inT, o_and, n_31, o_shr, o_shl1, o_or, m_lt, m_ge, m_le, m_gt, m_ne, m_ne2, Option.some.injEq, exists_eq_left', true_and, and_true, true_implies, false_implies, implies_true, not_true_eq_false, not_false_eq_true, bI_0, bI_1, bI_01, b01, true_or, or_true, Nat.reduceEqDiff, Bool.not_eq_false, Bool.not_eq_true, Bool.true_eq_false, Bool.false_eq_true, e, hb]
      exact ⟨_, h3⟩
theorem q_canSlide {S : PS} {P d : Nat → Nat} {c a : Nat} {Q : Int32 → PS → Prop} (hM : MShape S) (hp : rP S P) (hd : rD S a d) (hc : c < 8) (hw : Cwf P c) (h0 : P 0 ≤ 7) (hk : P (9 + 20 * c) = 1) (hQ : Q (bI (dB (Can (cK P c) d))) S) : wpX12_canSlide S 87 (nI c) a Q := by
  obtain ⟨-, g1, g2, g3, g4, -, g6, -, -, g9, -⟩ := hw
  obtain ⟨w0, w4, s0, s5, lh, hw'⟩ := g6 hk
  have hl := g9 11 (by decide)
  have hh := g9 12 (by decide)
  have hm7 : ∀ k, k < P (9 + 20 * c + 1) → P (9 + 20 * c + (2 + k)) < 7 := fun k hk => Nat.lt_of_lt_of_le (g3 k hk) h0
  have hcK : Can (cK P c) d ↔ ∃ r, reach (P (9 + 20 * c + 9)) (P (9 + 20 * c + 10)) (P (9 + 20 * c + 11)) (P (9 + 20 * c + 12)) (fun k => P (9 + 20 * c + (2 + k))) d (P (9 + 20 * c + 1)) r := by
    have e : cOk P c = okWindow (P (9 + 20 * c + 1)) (fun k => P (9 + 20 * c + (2 + k))) (P (9 + 20 * c + 9)) (P (9 + 20 * c + 10)) (P (9 + 20 * c + 11)) (P (9 + 20 * c + 12)) := funext fun a => by
      unfold cOk
      rw [if_neg (by omega), if_pos hk]
    unfold cK
    rw [e]
    exact can_window.symm
  have main : ∀ r k R, k + r = P (9 + 20 * c + 1) → R < 65536 → (∀ t, R.testBit t = true ↔ reach (P (9 + 20 * c + 9)) (P (9 + 20 * c + 10)) (P (9 + 20 * c + 11)) (P (9 + 20 * c + 12)) (fun k => P (9 + 20 * c + (2 + k))) d k t) → wpX12_canSlide_b14 Q (r + 1) S 87 (nI c) a (nI (P (9 + 20 * c + 9))) (nI R) (nI k) := by
    intro r
    induction r with
    | zero =>
      intro k R hk hR h
      have hk' : P (9 + 20 * c + 1) = k := by omega
      simp (disch := omega) only [wpX12_canSlide_b14, w_of hM hp, msk hM, c_0, c_1, c_2, c_3, c_4, c_5, c_6, c_7, c_8, c_9, c_10, c_11, c_12, c_14, c_16, c_19, c_20, c_24, c_31, c_32, c_35, c_48, c_57, c_59, c_63, c_97, c_100, c_122, c_127, c_169, c_255, c_600, c_1000, c_32767, Nat.le_refl, Nat.zero_le, Nat.add_zero, Nat.lt_irrefl, eq_self, o_sub, Nat.sub_zero, Nat.not_lt_zero, ↓ng_d, o_le, o_lt, o_eq, o_add, o_mul, o_cl, o_inT, o_and, n_31, o_shr, o_shl1, o_or, m_lt, m_ge, m_le, m_gt, m_ne, m_ne2, Option.some.injEq, exists_eq_left', true_and, and_true, true_implies, false_implies, implies_true, not_true_eq_false, not_false_eq_true, bI_0, bI_1, bI_01, b01, true_or, or_true, Nat.reduceEqDiff, Bool.not_eq_false, Bool.not_eq_true, Bool.true_eq_false, Bool.false_eq_true, hk']
      refine ⟨fun e => ?_, fun e => ?_⟩
      · rw [dB_f.mpr (fun q => by
          obtain ⟨t, ht⟩ := hcK.mp q
          rw [hk'] at ht
          have := (h t).mpr ht
          rw [e] at this
          simp at this)] at hQ
        exact hQ
      · rw [dB_t.mpr (hcK.mpr (by
          rw [hk']
          apply Classical.byContradiction
          intro q
          apply e
          apply Nat.eq_of_testBit_eq
          intro i
          rw [Nat.zero_testBit]
          cases hb : R.testBit i
          · rfl
          · exact absurd ⟨i, (h i).mp hb⟩ q))] at hQ
        exact hQ
    | succ r ih =>
      intro k R hk hR h
      have e : ¬ P (9 + 20 * c + 1) ≤ k := by omega
      have hx := hm7 k (by omega)
      have hdx := hd.2.2.2 _ hx
      have hn : ∀ N, slJ (P (9 + 20 * c + 9)) (P (9 + 20 * c + 10)) (P (9 + 20 * c + 11)) (P (9 + 20 * c + 12)) (d (P (9 + 20 * c + (2 + k)))) k R 32 N → wpX12_canSlide_b14 Q (r + 1) S 87 (nI c) a (nI (P (9 + 20 * c + 9))) (nI N) (nI (k + 1)) := fun N h1 => ih (k + 1) N (by omega) h1.1 (fun t => by
        rw [h1.2 t, reach_s (n := P (9 + 20 * c + 1)) (m := fun k => P (9 + 20 * c + (2 + k))) g4 (by omega) w0]
        constructor
        · rintro ⟨r, b, q1, q2, q3, q4, q5⟩
          exact ⟨r, b, q2, (h r).mp q3, q4, q5.1, q5.2⟩
        · rintro ⟨r, b, q2, q3, q4, q5, q6⟩
          have hr16 : r < 16 := Nat.lt_of_lt_of_le (reach_lt q3) (show 2 ^ _ ≤ 2 ^ 4 from Nat.pow_le_pow_right (by decide) w4)
          exact ⟨r, b, by omega, q2, (h r).mpr q3, q4, q5, q6⟩)
      have h3 := q_cs44 (K14 := wpX12_canSlide_b14 Q (r + 1)) (Q := Q) (a := a) hM hp hc (show k < 7 by omega) hdx hR rfl w0 w4 s5 hl hh hn 16 0 0 rfl slJ_0
      generalize r + 1 = fu at h3 ⊢
      simp (disch := omega) only [wpX12_canSlide_b14, w_of hM hp, msk hM, c_0, c_1, c_2, c_3, c_4, c_5, c_6, c_7, c_8, c_9, c_10, c_11, c_12, c_14, c_16, c_19, c_20, c_24, c_31, c_32, c_35, c_48, c_57, c_59, c_63, c_97, c_100, c_122, c_127, c_169, c_255, c_600, c_1000, c_32767, Nat.le_refl, Nat.zero_le, Nat.add_zero, Nat.lt_irrefl, eq_self, o_sub, Nat.sub_zero, Nat.not_lt_zero, ↓ng_d, o_le, o_lt, o_eq, o_add, o_mul, o_cl, o_inT, o_and, n_31, o_shr, o_shl1, o_or, m_lt, m_ge, m_le, m_gt, m_ne, m_ne2, Option.some.injEq, exists_eq_left', true_and, and_true, true_implies, false_implies, implies_true, not_true_eq_false, not_false_eq_true, bI_0, bI_1, bI_01, b01, true_or, or_true, Nat.reduceEqDiff, Bool.not_eq_false, Bool.not_eq_true, Bool.true_eq_false, Bool.false_eq_true, e, hd.1, hd.2.1, hd.2.2.1 _ hx]
      exact ⟨_, h3⟩
  have w4' := g9 9 (by decide)
  simp (disch := omega) only [wpX12_canSlide, w_of hM hp, msk hM, c_0, c_1, c_2, c_3, c_4, c_5, c_6, c_7, c_8, c_9, c_10, c_11, c_12, c_14, c_16, c_19, c_20, c_24, c_31, c_32, c_35, c_48, c_57, c_59, c_63, c_97, c_100, c_122, c_127, c_169, c_255, c_600, c_1000, c_32767, Nat.le_refl, Nat.zero_le, Nat.add_zero, Nat.lt_irrefl, eq_self, o_sub, Nat.sub_zero, Nat.not_lt_zero, ↓ng_d, o_le, o_lt, o_eq, o_add, o_mul, o_cl, o_inT, o_and, n_31, o_shr, o_shl1, o_or, m_lt, m_ge, m_le, m_gt, m_ne, m_ne2, Option.some.injEq, exists_eq_left', true_and, and_true, true_implies, false_implies, implies_true, not_true_eq_false, not_false_eq_true, bI_0, bI_1, bI_01, b01, true_or, or_true, Nat.reduceEqDiff, Bool.not_eq_false, Bool.not_eq_true, Bool.true_eq_false, Bool.false_eq_true]
  exact ⟨_, main _ 0 1 (Nat.zero_add _) (by decide) (fun t => by
    rw [reach_0 w0]
    constructor
    · intro q
      cases t with
      | zero => rfl
      | succ t => rw [Nat.testBit_succ] at q; simp at q
    · rintro rfl; rfl)⟩

/-! THE REFERENCE: supports, facts, propagation -/
theorem fr.M {A : List Nat} {S S' : PS} (h : fr A S S') (hM : MShape S) : MShape S' := by
  unfold MShape
  rw [h.2.1, h.2.2.1, h.2.2.2.1]
  exact hM
theorem fr.P {A : List Nat} {S S' : PS} {P : Nat → Nat} (h : fr A S S') (ha : 88 ∉ A) (hp : rP S P) : rP S' P := fun k hk => by rw [h.I ha]; exact hp k hk
theorem fr.D {A : List Nat} {S S' : PS} {a : Nat} {d : Nat → Nat} (h : fr A S S') (ha : a ∉ A) (hd : rD S a d) : rD S' a d := ⟨by rw [h.K]; exact hd.1, by rw [h.L]; exact hd.2.1, fun x hx => by rw [h.I ha]; exact hd.2.2.1 x hx, hd.2.2.2⟩
/-- the number of a constraint, or of a learnt set with its sign -/
def isC (P : Nat → Nat) (C : Int32) (κ : Kon) : Prop := (∃ c, c < P 1 ∧ C = nI c ∧ κ = cK P c) ∨ (∃ s, Swf s ∧ 0 < s ∧ C = -nI s ∧ κ = lK s)
theorem fb_negM {s : Nat} (h : s < 2147483648) : (-nI s).toInt = -(s : Int) := by
  rw [Int32.toInt_neg, nI_toInt h, Int.bmod_eq_of_le (by omega) (by omega)]
theorem n_lt {s : Nat} (h0 : 0 < s) (h : s < 2147483648) : (-nI s < nI 0) = True := by
  apply propext
  rw [Int32.lt_iff_toInt_lt, nI_toInt (by decide), fb_negM h]
  constructor
  · intro _; trivial
  · intro _; omega
theorem n_ge {s : Nat} (h0 : 0 < s) (h : s < 2147483648) : (nI 0 ≤ -nI s) = False := by
  apply propext
  rw [Int32.le_iff_toInt_le, nI_toInt (by decide), fb_negM h]
  constructor
  · intro q; omega
  · intro q; exact q.elim
theorem cK_less {P : Nat → Nat} {c : Nat} (h1 : P (9 + 20 * c + 1) = 2) (hk : P (9 + 20 * c) = 2) : cK P c = (2, (fun k => P (9 + 20 * c + (2 + k))), okLess (fun k => P (9 + 20 * c + (2 + k)))) := by
  unfold cK
  rw [h1]
  have e : cOk P c = okLess (fun k => P (9 + 20 * c + (2 + k))) := funext fun a => by
    unfold cOk
    rw [if_neg (by omega), if_neg (by omega), if_pos hk]
  rw [e]
theorem cK_differ {P : Nat → Nat} {c : Nat} (h1 : P (9 + 20 * c + 1) = 2) (hk : P (9 + 20 * c) = 3) : cK P c = (2, (fun k => P (9 + 20 * c + (2 + k))), okDiffer (fun k => P (9 + 20 * c + (2 + k)))) := by
  unfold cK
  rw [h1]
  have e : cOk P c = okDiffer (fun k => P (9 + 20 * c + (2 + k))) := funext fun a => by
    unfold cOk
    rw [if_neg (by omega), if_neg (by omega), if_neg (by omega)]
  rw [e]
theorem q_can {S : PS} {P d : Nat → Nat} {C : Int32} {κ : Kon} {a : Nat} {Q : Int32 → PS → Prop} (hM : MShape S) (hp : rP S P) (hw : Pwf P) (hd : rD S a d) (hC : isC P C κ) (hQ : Q (bI (dB (Can κ d))) S) : wpX12_can S 87 C a Q := by
  have hQ2 : ∀ b : Bool, Q (bI b) S → ((bI b = nI 0 ∨ bI b = nI 1) ∧ Q (bI b) S) := fun b q => ⟨by rw [bI_01]; trivial, q⟩
  rcases hC with ⟨c, hc, rfl, rfl⟩ | ⟨s, hs, h0, rfl, rfl⟩
  · have hw2 := hw.2.2.2.2.2 c hc
    have hc8 : c < 8 := Nat.lt_of_lt_of_le hc hw.2.1
    obtain ⟨g0, g1, g2, g3, g4, -, -, g7, -, g9, g10⟩ := hw2
    have m0 := g10 0 (by decide)
    have m1 := g10 1 (by decide)
    have m0' : P (9 + 20 * c + 2) < 7 := m0
    have m1' : P (9 + 20 * c + 3) < 7 := m1
    have d0 := hd.2.2.2 _ m0'
    have d1 := hd.2.2.2 _ m1'
    have hk : P (9 + 20 * c) = 0 ∨ P (9 + 20 * c) = 1 ∨ P (9 + 20 * c) = 2 ∨ P (9 + 20 * c) = 3 := by omega
    rcases hk with hk | hk | hk | hk
    · have h1 := q_canCount (Q := fun r S => ((r = nI 0 ∨ r = nI 1) ∧ Q r S)) hM hp hd hc8 (hw.2.2.2.2.2 c hc) hw.1 hk (hQ2 _ hQ)
      have n1 : ¬ (0 : Nat) = 1 := by decide
      have n2 : ¬ (0 : Nat) = 2 := by decide
      simp (disch := omega) only [wpX12_can, w_of hM hp, msk hM, c_0, c_1, c_2, c_3, c_4, c_5, c_6, c_7, c_8, c_9, c_10, c_11, c_12, c_14, c_16, c_19, c_20, c_24, c_31, c_32, c_35, c_48, c_57, c_59, c_63, c_97, c_100, c_122, c_127, c_169, c_255, c_600, c_1000, c_32767, Nat.le_refl, Nat.zero_le, Nat.add_zero, Nat.lt_irrefl, eq_self, o_sub, Nat.sub_zero, Nat.not_lt_zero, ↓ng_d, o_le, o_lt, o_eq, o_add, o_mul, o_cl, o_inT, o_and, n_31, o_shr, o_shl1, o_or, m_lt, m_ge, m_le, m_gt, m_ne, m_ne2, Option.some.injEq, exists_eq_left', true_and, and_true, true_implies, false_implies, implies_true, not_true_eq_false, not_false_eq_true, bI_0, bI_1, bI_01, b01, true_or, or_true, Nat.reduceEqDiff, Bool.not_eq_false, Bool.not_eq_true, Bool.true_eq_false, Bool.false_eq_true, hd.1, hd.2.1, hk, n1, n2, not_false_eq_true, and_false, false_and]
      exact h1
    · have h1 := q_canSlide (Q := fun r S => ((r = nI 0 ∨ r = nI 1) ∧ Q r S)) hM hp hd hc8 (hw.2.2.2.2.2 c hc) hw.1 hk (hQ2 _ hQ)
      have n1 : ¬ (1 : Nat) = 0 := by decide
      have n2 : ¬ (1 : Nat) = 2 := by decide
      simp (disch := omega) only [wpX12_can, w_of hM hp, msk hM, c_0, c_1, c_2, c_3, c_4, c_5, c_6, c_7, c_8, c_9, c_10, c_11, c_12, c_14, c_16, c_19, c_20, c_24, c_31, c_32, c_35, c_48, c_57, c_59, c_63, c_97, c_100, c_122, c_127, c_169, c_255, c_600, c_1000, c_32767, Nat.le_refl, Nat.zero_le, Nat.add_zero, Nat.lt_irrefl, eq_self, o_sub, Nat.sub_zero, Nat.not_lt_zero, ↓ng_d, o_le, o_lt, o_eq, o_add, o_mul, o_cl, o_inT, o_and, n_31, o_shr, o_shl1, o_or, m_lt, m_ge, m_le, m_gt, m_ne, m_ne2, Option.some.injEq, exists_eq_left', true_and, and_true, true_implies, false_implies, implies_true, not_true_eq_false, not_false_eq_true, bI_0, bI_1, bI_01, b01, true_or, or_true, Nat.reduceEqDiff, Bool.not_eq_false, Bool.not_eq_true, Bool.true_eq_false, Bool.false_eq_true, hd.1, hd.2.1, hk, n1, n2, not_false_eq_true, and_false, false_and]
      exact h1
    · have e2 := g7 (by omega)
      have hm : P (9 + 20 * c + 2) ≠ P (9 + 20 * c + 3) := fun q => by
        have := g4 0 1 (by omega) (by omega) q
        omega
      have h1 := q_canBeLess (S := S) (Q := fun r S => ((r = nI 0 ∨ r = nI 1) ∧ Q r S)) d0 d1 (fun b hb => hQ2 b (by
        rw [dB_eq (hb.trans (can_less (m := fun k => P (9 + 20 * c + (2 + k))) hm d0 d1)), ← cK_less e2 hk]
        exact hQ))
      have n1 : ¬ (2 : Nat) = 0 := by decide
      have n2 : ¬ (2 : Nat) = 1 := by decide
      simp (disch := omega) only [wpX12_can, w_of hM hp, msk hM, c_0, c_1, c_2, c_3, c_4, c_5, c_6, c_7, c_8, c_9, c_10, c_11, c_12, c_14, c_16, c_19, c_20, c_24, c_31, c_32, c_35, c_48, c_57, c_59, c_63, c_97, c_100, c_122, c_127, c_169, c_255, c_600, c_1000, c_32767, Nat.le_refl, Nat.zero_le, Nat.add_zero, Nat.lt_irrefl, eq_self, o_sub, Nat.sub_zero, Nat.not_lt_zero, ↓ng_d, o_le, o_lt, o_eq, o_add, o_mul, o_cl, o_inT, o_and, n_31, o_shr, o_shl1, o_or, m_lt, m_ge, m_le, m_gt, m_ne, m_ne2, Option.some.injEq, exists_eq_left', true_and, and_true, true_implies, false_implies, implies_true, not_true_eq_false, not_false_eq_true, bI_0, bI_1, bI_01, b01, true_or, or_true, Nat.reduceEqDiff, Bool.not_eq_false, Bool.not_eq_true, Bool.true_eq_false, Bool.false_eq_true, hd.1, hd.2.1, hk, n1, n2, not_false_eq_true, and_false, false_and, hd.2.2.1 _ m0', hd.2.2.1 _ m1']
      exact h1
    · have e2 := g7 (by omega)
      have hm : P (9 + 20 * c + 2) ≠ P (9 + 20 * c + 3) := fun q => by
        have := g4 0 1 (by omega) (by omega) q
        omega
      have h1 := q_canDiffer (S := S) (Q := fun r S => ((r = nI 0 ∨ r = nI 1) ∧ Q r S)) d0 d1 (fun b hb => hQ2 b (by
        rw [dB_eq (hb.trans (can_differ (m := fun k => P (9 + 20 * c + (2 + k))) hm d0 d1)), ← cK_differ e2 hk]
        exact hQ))
      have n1 : ¬ (3 : Nat) = 0 := by decide
      have n2 : ¬ (3 : Nat) = 1 := by decide
      have n3 : ¬ (3 : Nat) = 2 := by decide
      simp (disch := omega) only [wpX12_can, w_of hM hp, msk hM, c_0, c_1, c_2, c_3, c_4, c_5, c_6, c_7, c_8, c_9, c_10, c_11, c_12, c_14, c_16, c_19, c_20, c_24, c_31, c_32, c_35, c_48, c_57, c_59, c_63, c_97, c_100, c_122, c_127, c_169, c_255, c_600, c_1000, c_32767, Nat.le_refl, Nat.zero_le, Nat.add_zero, Nat.lt_irrefl, eq_self, o_sub, Nat.sub_zero, Nat.not_lt_zero, ↓ng_d, o_le, o_lt, o_eq, o_add, o_mul, o_cl, o_inT, o_and, n_31, o_shr, o_shl1, o_or, m_lt, m_ge, m_le, m_gt, m_ne, m_ne2, Option.some.injEq, exists_eq_left', true_and, and_true, true_implies, false_implies, implies_true, not_true_eq_false, not_false_eq_true, bI_0, bI_1, bI_01, b01, true_or, or_true, Nat.reduceEqDiff, Bool.not_eq_false, Bool.not_eq_true, Bool.true_eq_false, Bool.false_eq_true, hd.1, hd.2.1, hk, n1, n2, n3, not_false_eq_true, and_false, false_and, hd.2.2.1 _ m0', hd.2.2.1 _ m1']
      exact h1
  · have hs1 := hs.1
    have h1 := q_canLeave (Q := fun r S => ((r = nI 0 ∨ r = nI 1) ∧ Q r S)) hs hd (hQ2 _ hQ)
    have hge := n_ge h0 (show s < 2147483648 by omega)
    simp (disch := omega) only [wpX12_can, msk hM, c_0, c_1, c_2, c_3, c_4, c_5, c_6, c_7, c_8, c_9, c_10, c_11, c_12, c_14, c_16, c_19, c_20, c_24, c_31, c_32, c_35, c_48, c_57, c_59, c_63, c_97, c_100, c_122, c_127, c_169, c_255, c_600, c_1000, c_32767, Nat.le_refl, Nat.zero_le, Nat.add_zero, Nat.lt_irrefl, eq_self, o_sub, Nat.sub_zero, Nat.not_lt_zero, ↓ng_d, o_le, o_lt, o_eq, o_add, o_mul, o_cl, o_inT, o_and, n_31, o_shr, o_shl1, o_or, m_lt, m_ge, m_le, m_gt, m_ne, m_ne2, Option.some.injEq, exists_eq_left', true_and, and_true, true_implies, false_implies, implies_true, not_true_eq_false, not_false_eq_true, bI_0, bI_1, bI_01, b01, true_or, or_true, Nat.reduceEqDiff, Bool.not_eq_false, Bool.not_eq_true, Bool.true_eq_false, Bool.false_eq_true, hge, Int32.neg_neg]
    exact h1
theorem q_hasSupport {S : PS} {P d : Nat → Nat} {C : Int32} {κ : Kon} {a x v : Nat} {Q : Int32 → PS → Prop} (hM : MShape S) (hp : rP S P) (hw : Pwf P) (hd : rD S a d) (ha : a ≠ 96) (hx : x < 7) (hv : v < 5) (hC : isC P C κ) (hQ : ∀ S', fr [96] S S' → Q (bI (dB (Can κ (ud d x (2 ^ v))))) S') : wpX12_hasSupport S 87 C (nI x) (nI v) a Q := by
  have ha2 : a ∉ [96] := by simp [ha]
  have hv32 := dm_pow_lt v hv
  have main : ∀ r k S', k + r = 7 → fr [96] S S' → (∀ j, j < k → pI S' 96 j = nI (d j)) → wpX12_hasSupport_b3 Q (r + 1) S' 87 C (nI x) (nI v) a (nI k) := by
    intro r
    induction r with
    | zero =>
      intro k S' hk hf h
      have : k = 7 := by omega
      subst this
      have hM' := hf.M hM
      have hf2 : fr [96] S (sI S' 96 x (nI (2 ^ v))) := fr_t hf (fr_sI _ _ _ (by decide))
      have hd2 : rD (sI S' 96 x (nI (2 ^ v))) 96 (ud d x (2 ^ v)) := by
        refine ⟨msk_trial hM', msl_trial hM', fun y hy => ?_, fun y hy => ?_⟩
        · rw [pI_sI]
          by_cases e : y = x
          · subst e; rw [if_pos ⟨rfl, rfl⟩, ud_s]
          · rw [if_neg (fun q => e q.2), ud_n _ _ e]; exact h y hy
        · by_cases e : y = x
          · subst e; rw [ud_s]; exact hv32
          · rw [ud_n _ _ e]; exact hd.2.2.2 y hy
      have h1 := q_can (Q := fun r S => ((r = nI 0 ∨ r = nI 1) ∧ Q r S)) (hf2.M hM) (hf2.P (by decide) hp) hw hd2 hC ⟨by rw [bI_01]; trivial, hQ _ hf2⟩
      simp (disch := omega) only [wpX12_hasSupport_b3, msk hM', msr_trial hM', msk_trial hM', msl_trial hM', c_0, c_1, c_2, c_3, c_4, c_5, c_6, c_7, c_8, c_9, c_10, c_11, c_12, c_14, c_16, c_19, c_20, c_24, c_31, c_32, c_35, c_48, c_57, c_59, c_63, c_97, c_100, c_122, c_127, c_169, c_255, c_600, c_1000, c_32767, Nat.le_refl, Nat.zero_le, Nat.add_zero, Nat.lt_irrefl, eq_self, o_sub, Nat.sub_zero, Nat.not_lt_zero, ↓ng_d, o_le, o_lt, o_eq, o_add, o_mul, o_cl, o_inT, o_and, n_31, o_shr, o_shl1, o_or, m_lt, m_ge, m_le, m_gt, m_ne, m_ne2, Option.some.injEq, exists_eq_left', true_and, and_true, true_implies, false_implies, implies_true, not_true_eq_false, not_false_eq_true, bI_0, bI_1, bI_01, b01, true_or, or_true, Nat.reduceEqDiff, Bool.not_eq_false, Bool.not_eq_true, Bool.true_eq_false, Bool.false_eq_true]
      exact h1
    | succ r ih =>
      intro k S' hk hf h
      have e : ¬ 7 ≤ k := by omega
      have hM' := hf.M hM
      have hd' := hf.D ha2 hd
      have h1 := ih (k + 1) (sI S' 96 k (nI (d k))) (by omega) (fr_t hf (fr_sI _ _ _ (by decide))) (fun j hj => by
        rw [pI_sI]
        by_cases q : j = k
        · rw [if_pos ⟨rfl, q⟩, q]
        · rw [if_neg (fun w => q w.2)]; exact h j (by omega))
      generalize r + 1 = fu at h1 ⊢
      simp (disch := omega) only [wpX12_hasSupport_b3, msk hM', msr_trial hM', msk_trial hM', msl_trial hM', c_0, c_1, c_2, c_3, c_4, c_5, c_6, c_7, c_8, c_9, c_10, c_11, c_12, c_14, c_16, c_19, c_20, c_24, c_31, c_32, c_35, c_48, c_57, c_59, c_63, c_97, c_100, c_122, c_127, c_169, c_255, c_600, c_1000, c_32767, Nat.le_refl, Nat.zero_le, Nat.add_zero, Nat.lt_irrefl, eq_self, o_sub, Nat.sub_zero, Nat.not_lt_zero, ↓ng_d, o_le, o_lt, o_eq, o_add, o_mul, o_cl, o_inT, o_and, n_31, o_shr, o_shl1, o_or, m_lt, m_ge, m_le, m_gt, m_ne, m_ne2, Option.some.injEq, exists_eq_left', true_and, and_true, true_implies, false_implies, implies_true, not_true_eq_false, not_false_eq_true, bI_0, bI_1, bI_01, b01, true_or, or_true, Nat.reduceEqDiff, Bool.not_eq_false, Bool.not_eq_true, Bool.true_eq_false, Bool.false_eq_true, e, hd'.1, hd'.2.1, hd'.2.2.1 k (by omega)]
      exact h1
  simp only [wpX12_hasSupport, c_0, c_1, c_2, c_3, c_4, c_5, c_6, c_7, c_8, c_9, c_10, c_11, c_12, c_14, c_16, c_19, c_20, c_24, c_31, c_32, c_35, c_48, c_57, c_59, c_63, c_97, c_100, c_122, c_127, c_169, c_255, c_600, c_1000, c_32767, Nat.le_refl, Nat.zero_le, Nat.add_zero, Nat.lt_irrefl, eq_self, o_sub, Nat.sub_zero, Nat.not_lt_zero, ↓ng_d, o_le, o_lt, o_eq, o_add, o_mul, o_cl, o_inT, o_and, n_31, o_shr, o_shl1, o_or, m_lt, m_ge, m_le, m_gt, m_ne, m_ne2, Option.some.injEq, exists_eq_left', true_and, and_true, true_implies, false_implies, implies_true, not_true_eq_false, not_false_eq_true, bI_0, bI_1, bI_01, b01, true_or, or_true, Nat.reduceEqDiff, Bool.not_eq_false, Bool.not_eq_true, Bool.true_eq_false, Bool.false_eq_true]
  exact ⟨_, main 7 0 S rfl (fr_r _ _) (fun j hj => by omega)⟩
/-! ===== facts ===== -/
def fG (T : List FT) (i : Nat) : FT := T.getD i (0, 0, 0, 0, 0)
def rT (S : PS) (T : List FT) : Prop := pI S 87 7 = nI T.length ∧ T.length ≤ 35 ∧ ∀ i, i < T.length → pI S 91 (5 * i) = nI (fG T i).1 ∧ pI S 91 (5 * i + 1) = nI (fG T i).2.1 ∧ pI S 91 (5 * i + 2) = (fG T i).2.2.1 ∧ pI S 91 (5 * i + 3) = nI (fG T i).2.2.2.1 ∧ pI S 91 (5 * i + 4) = nI (fG T i).2.2.2.2
theorem fG_old {T : List FT} {f : FT} {i : Nat} (h : i < T.length) : fG (T ++ [f]) i = fG T i := by
  unfold fG
  rw [List.getD_eq_getElem?_getD, List.getD_eq_getElem?_getD, List.getElem?_append_left h]
theorem fG_new {T : List FT} {f : FT} : fG (T ++ [f]) T.length = f := by
  unfold fG
  rw [List.getD_eq_getElem?_getD, List.getElem?_append_right (Nat.le_refl _)]
  simp
/-- the reference but for rows A and its own fields F -/
def mf (A F : List Nat) (S S' : PS) : Prop := fr (87 :: A) S S' ∧ ∀ k, k ∉ F → pI S' 87 k = pI S 87 k ∧ pJ S' 87 k = pJ S 87 k
theorem mf_r (A F : List Nat) (S : PS) : mf A F S S := ⟨fr_r _ _, fun _ _ => ⟨rfl, rfl⟩⟩
theorem mf_t {A F : List Nat} {S S' S2 : PS} (h : mf A F S S') (h2 : mf A F S' S2) : mf A F S S2 := ⟨fr_t h.1 h2.1, fun k hk => ⟨(h2.2 k hk).1.trans (h.2 k hk).1, (h2.2 k hk).2.trans (h.2 k hk).2⟩⟩
theorem mf_m {A B F E : List Nat} (hs : ∀ a ∈ A, a ∈ B) (hE : ∀ k ∈ F, k ∈ E) {S S' : PS} (h : mf A F S S') : mf B E S S' := ⟨fr_m (fun a ha => by exact (List.mem_cons.mp ha).elim (fun q => q ▸ List.mem_cons_self) (fun q => List.mem_cons_of_mem _ (hs a q))) h.1, fun k hk => h.2 k (fun q => hk (hE k q))⟩
theorem mf_fr {A F : List Nat} {S S' : PS} (h : fr A S S') (h87 : 87 ∉ A) : mf A F S S' := ⟨fr_m (fun a ha => List.mem_cons_of_mem _ ha) h, fun k _ => ⟨h.I h87 k, h.J h87 k⟩⟩
theorem mf_sI {A F : List Nat} (S : PS) {k : Nat} (v : Int32) (hk : k ∈ F) : mf A F S (sI S 87 k v) := ⟨fr_sI _ _ _ List.mem_cons_self, fun j hj => ⟨by rw [pI_sI, if_neg (show ¬ (87 = 87 ∧ j = k) from fun q => hj (q.2 ▸ hk))], rfl⟩⟩
theorem mf_row {A F : List Nat} (S : PS) {a : Nat} (k : Nat) (v : Int32) (ha : a ∈ A) (h87 : a ≠ 87) : mf A F S (sI S a k v) := ⟨fr_sI _ _ _ (List.mem_cons_of_mem _ ha), fun j _ => ⟨by rw [pI_sI, if_neg (show ¬ (87 = a ∧ j = k) from fun q => h87 q.1.symm)], rfl⟩⟩
theorem mf.M {A F : List Nat} {S S' : PS} (h : mf A F S S') (hM : MShape S) : MShape S' := h.1.M hM
theorem mf.P {A F : List Nat} {S S' : PS} {P : Nat → Nat} (h : mf A F S S') (ha : 88 ∉ 87 :: A) (hp : rP S P) : rP S' P := h.1.P ha hp
theorem mf.D {A F : List Nat} {S S' : PS} {a : Nat} {d : Nat → Nat} (h : mf A F S S') (ha : a ∉ 87 :: A) (hd : rD S a d) : rD S' a d := h.1.D ha hd
theorem mf.F {A F : List Nat} {S S' : PS} (h : mf A F S S') {k : Nat} (hk : k ∉ F) : pI S' 87 k = pI S 87 k := (h.2 k hk).1
theorem mf.T {A F : List Nat} {S S' : PS} {T : List FT} (h : mf A F S S') (ha : 91 ∉ 87 :: A) (hk : 7 ∉ F) (hT : rT S T) : rT S' T := by
  refine ⟨by rw [h.F hk]; exact hT.1, hT.2.1, fun i hi => ?_⟩
  rw [h.1.I ha, h.1.I ha, h.1.I ha, h.1.I ha, h.1.I ha]
  exact hT.2.2 i hi
theorem q_lays {S : PS} {T : List FT} {x v l s : Nat} {r : Int32} {Q : PS → Prop} (hM : MShape S) (hT : rT S T) (hn : T.length < 35) (hl : pI S 87 8 = nI l) (hQ : ∀ S', mf [91] [7] S S' → rT S' (T ++ [(x, v, r, l, s)]) → Q S') : wpX12_lays S 87 (nI x) (nI v) r (nI s) Q := by
  obtain ⟨t1, t2, t3⟩ := hT
  simp (disch := omega) only [wpX12_lays, msk hM, msr_facts hM, msk_facts hM, msl_facts hM, c_0, c_1, c_2, c_3, c_4, c_5, c_6, c_7, c_8, c_9, c_10, c_11, c_12, c_14, c_16, c_19, c_20, c_24, c_31, c_32, c_35, c_48, c_57, c_59, c_63, c_97, c_100, c_122, c_127, c_169, c_255, c_600, c_1000, c_32767, Nat.le_refl, Nat.zero_le, Nat.add_zero, Nat.lt_irrefl, eq_self, o_sub, Nat.sub_zero, Nat.not_lt_zero, ↓ng_d, o_le, o_lt, o_eq, o_add, o_mul, o_cl, o_inT, o_and, n_31, o_shr, o_shl1, o_or, m_lt, m_ge, m_le, m_gt, m_ne, m_ne2, Option.some.injEq, exists_eq_left', true_and, and_true, true_implies, false_implies, implies_true, not_true_eq_false, not_false_eq_true, bI_0, bI_1, bI_01, b01, true_or, or_true, Nat.reduceEqDiff, Bool.not_eq_false, Bool.not_eq_true, Bool.true_eq_false, Bool.false_eq_true, t1, pI_sI, hl, show ¬ ((87 : Nat) = 91) by decide, false_and, if_false]
  refine hQ _ ?_ ⟨?_, ?_, fun i hi => ?_⟩
  · exact mf_t (mf_t (mf_t (mf_t (mf_t (mf_row _ _ _ (by decide) (by decide)) (mf_row _ _ _ (by decide) (by decide))) (mf_row _ _ _ (by decide) (by decide))) (mf_row _ _ _ (by decide) (by decide))) (mf_row _ _ _ (by decide) (by decide))) (mf_sI _ _ (by decide))
  · rw [pI_sI, if_pos ⟨rfl, rfl⟩, List.length_append, List.length_singleton]
  · rw [List.length_append, List.length_singleton]; omega
  · rw [List.length_append, List.length_singleton] at hi
    simp only [pI_sI, show ¬ ((91 : Nat) = 87) by decide, false_and, if_false, true_and]
    by_cases e : i = T.length
    · subst e
      rw [fG_new]
      refine ⟨?_, ?_, ?_, ?_, ?_⟩
      · rw [if_neg (by omega), if_neg (by omega), if_neg (by omega), if_neg (by omega), if_pos rfl]
      · rw [if_neg (by omega), if_neg (by omega), if_neg (by omega), if_pos rfl]
      · rw [if_neg (by omega), if_neg (by omega), if_pos rfl]
      · rw [if_neg (by omega), if_pos rfl]
      · rw [if_pos rfl]
    · have hi2 : i < T.length := by omega
      rw [fG_old hi2]
      have := t3 i hi2
      refine ⟨?_, ?_, ?_, ?_, ?_⟩
      · rw [if_neg (by omega), if_neg (by omega), if_neg (by omega), if_neg (by omega), if_neg (by omega)]; exact this.1
      · rw [if_neg (by omega), if_neg (by omega), if_neg (by omega), if_neg (by omega), if_neg (by omega)]; exact this.2.1
      · rw [if_neg (by omega), if_neg (by omega), if_neg (by omega), if_neg (by omega), if_neg (by omega)]; exact this.2.2.1
      · rw [if_neg (by omega), if_neg (by omega), if_neg (by omega), if_neg (by omega), if_neg (by omega)]; exact this.2.2.2.1
      · rw [if_neg (by omega), if_neg (by omega), if_neg (by omega), if_neg (by omega), if_neg (by omega)]; exact this.2.2.2.2

/-! THE REFERENCE: a sweep of one constraint -/
theorem q_manyIn {S : PS} {P : Nat → Nat} {C : Int32} {κ : Kon} {Q : Int32 → PS → Prop} (hM : MShape S) (hp : rP S P) (hw : Pwf P) (hC : isC P C κ) (hQ : Q (nI κ.1) S) : wpX12_manyIn S 87 C Q := by
  rcases hC with ⟨c, hc, rfl, rfl⟩ | ⟨s, hs, h0, rfl, rfl⟩
  · have hc8 : c < 8 := Nat.lt_of_lt_of_le hc hw.2.1
    simp (disch := omega) only [wpX12_manyIn, w_of hM hp, msk hM, c_0, c_1, c_2, c_3, c_4, c_5, c_6, c_7, c_8, c_9, c_10, c_11, c_12, c_14, c_16, c_19, c_20, c_24, c_31, c_32, c_35, c_48, c_57, c_59, c_63, c_97, c_100, c_122, c_127, c_169, c_255, c_600, c_1000, c_32767, Nat.le_refl, Nat.zero_le, Nat.add_zero, Nat.lt_irrefl, eq_self, o_sub, Nat.sub_zero, Nat.not_lt_zero, ↓ng_d, o_le, o_lt, o_eq, o_add, o_mul, o_cl, o_inT, o_and, n_31, o_shr, o_shl1, o_or, m_lt, m_ge, m_le, m_gt, m_ne, m_ne2, Option.some.injEq, exists_eq_left', true_and, and_true, true_implies, false_implies, implies_true, not_true_eq_false, not_false_eq_true, bI_0, bI_1, bI_01, b01, true_or, or_true, Nat.reduceEqDiff, Bool.not_eq_false, Bool.not_eq_true, Bool.true_eq_false, Bool.false_eq_true]
    exact hQ
  · have hs1 := hs.1
    have hlt := n_lt h0 (show s < 2147483648 by omega)
    have main : ∀ r k, k + r = 7 → wpX12_manyIn_b15 Q (r + 1) S 87 (-nI s) (nI (cN (lp s) k)) (nI k) := by
      intro r
      induction r with
      | zero =>
        intro k hk
        have : k = 7 := by omega
        subst this
        simp (disch := omega) only [wpX12_manyIn_b15, c_0, c_1, c_2, c_3, c_4, c_5, c_6, c_7, c_8, c_9, c_10, c_11, c_12, c_14, c_16, c_19, c_20, c_24, c_31, c_32, c_35, c_48, c_57, c_59, c_63, c_97, c_100, c_122, c_127, c_169, c_255, c_600, c_1000, c_32767, Nat.le_refl, Nat.zero_le, Nat.add_zero, Nat.lt_irrefl, eq_self, o_sub, Nat.sub_zero, Nat.not_lt_zero, ↓ng_d, o_le, o_lt, o_eq, o_add, o_mul, o_cl, o_inT, o_and, n_31, o_shr, o_shl1, o_or, m_lt, m_ge, m_le, m_gt, m_ne, m_ne2, Option.some.injEq, exists_eq_left', true_and, and_true, true_implies, false_implies, implies_true, not_true_eq_false, not_false_eq_true, bI_0, bI_1, bI_01, b01, true_or, or_true, Nat.reduceEqDiff, Bool.not_eq_false, Bool.not_eq_true, Bool.true_eq_false, Bool.false_eq_true]
        exact hQ
      | succ r ih =>
        intro k hk
        have e : ¬ 7 ≤ k := by omega
        have hg := dg_lt s k
        have hn := ih (k + 1) (by omega)
        simp only [cN] at hn
        generalize r + 1 = fu at hn ⊢
        by_cases e0 : dg s k = 0
        · have : lp s k = false := by simp [lp, e0]
          simp only [this, Bool.false_eq_true, if_false] at hn
          have e1 : (nI 0 - nI 1 < nI 0) = True := by rw [v_lt 0 (by omega)]; simp
          simp (disch := omega) only [wpX12_manyIn_b15, Int32.neg_neg, w_valueIn, c_0, c_1, c_2, c_3, c_4, c_5, c_6, c_7, c_8, c_9, c_10, c_11, c_12, c_14, c_16, c_19, c_20, c_24, c_31, c_32, c_35, c_48, c_57, c_59, c_63, c_97, c_100, c_122, c_127, c_169, c_255, c_600, c_1000, c_32767, Nat.le_refl, Nat.zero_le, Nat.add_zero, Nat.lt_irrefl, eq_self, o_sub, Nat.sub_zero, Nat.not_lt_zero, ↓ng_d, o_le, o_lt, o_eq, o_add, o_mul, o_cl, o_inT, o_and, n_31, o_shr, o_shl1, o_or, m_lt, m_ge, m_le, m_gt, m_ne, m_ne2, Option.some.injEq, exists_eq_left', true_and, and_true, true_implies, false_implies, implies_true, not_true_eq_false, not_false_eq_true, bI_0, bI_1, bI_01, b01, true_or, or_true, Nat.reduceEqDiff, Bool.not_eq_false, Bool.not_eq_true, Bool.true_eq_false, Bool.false_eq_true, e, e0, e1]
          exact hn
        · have : lp s k = true := by simp [lp, e0]
          simp only [this, if_true] at hn
          have e1 : (nI (dg s k) - nI 1 < nI 0) = False := by rw [v_lt _ hg]; simp [e0]
          have e2 : nI (dg s k) - nI 1 = nI (dg s k - 1) := o_sub (by omega)
          rw [e2] at e1
          simp (disch := omega) only [wpX12_manyIn_b15, Int32.neg_neg, w_valueIn, c_0, c_1, c_2, c_3, c_4, c_5, c_6, c_7, c_8, c_9, c_10, c_11, c_12, c_14, c_16, c_19, c_20, c_24, c_31, c_32, c_35, c_48, c_57, c_59, c_63, c_97, c_100, c_122, c_127, c_169, c_255, c_600, c_1000, c_32767, Nat.le_refl, Nat.zero_le, Nat.add_zero, Nat.lt_irrefl, eq_self, o_sub, Nat.sub_zero, Nat.not_lt_zero, ↓ng_d, o_le, o_lt, o_eq, o_add, o_mul, o_cl, o_inT, o_and, n_31, o_shr, o_shl1, o_or, m_lt, m_ge, m_le, m_gt, m_ne, m_ne2, Option.some.injEq, exists_eq_left', true_and, and_true, true_implies, false_implies, implies_true, not_true_eq_false, not_false_eq_true, bI_0, bI_1, bI_01, b01, true_or, or_true, Nat.reduceEqDiff, Bool.not_eq_false, Bool.not_eq_true, Bool.true_eq_false, Bool.false_eq_true, e, e2, e1]
          exact hn
    simp (disch := omega) only [wpX12_manyIn, c_0, c_1, c_2, c_3, c_4, c_5, c_6, c_7, c_8, c_9, c_10, c_11, c_12, c_14, c_16, c_19, c_20, c_24, c_31, c_32, c_35, c_48, c_57, c_59, c_63, c_97, c_100, c_122, c_127, c_169, c_255, c_600, c_1000, c_32767, Nat.le_refl, Nat.zero_le, Nat.add_zero, Nat.lt_irrefl, eq_self, o_sub, Nat.sub_zero, Nat.not_lt_zero, ↓ng_d, o_le, o_lt, o_eq, o_add, o_mul, o_cl, o_inT, o_and, n_31, o_shr, o_shl1, o_or, m_lt, m_ge, m_le, m_gt, m_ne, m_ne2, Option.some.injEq, exists_eq_left', true_and, and_true, true_implies, false_implies, implies_true, not_true_eq_false, not_false_eq_true, bI_0, bI_1, bI_01, b01, true_or, or_true, Nat.reduceEqDiff, Bool.not_eq_false, Bool.not_eq_true, Bool.true_eq_false, Bool.false_eq_true, hlt]
    exact ⟨_, main 7 0 rfl⟩
theorem q_memberOf {S : PS} {P : Nat → Nat} {C : Int32} {κ : Kon} {k : Nat} {Q : Int32 → PS → Prop} (hM : MShape S) (hp : rP S P) (hw : Pwf P) (hC : isC P C κ) (hk : k < κ.1) (hQ : Q (nI (κ.2.1 k)) S) : wpX12_memberOf S 87 C (nI k) Q := by
  rcases hC with ⟨c, hc, rfl, rfl⟩ | ⟨s, hs, h0, rfl, rfl⟩
  · have hc8 : c < 8 := Nat.lt_of_lt_of_le hc hw.2.1
    have hm := (hw.2.2.2.2.2 c hc).2.2.1
    have hk2 : k < P (9 + 20 * c + 1) := hk
    simp (disch := omega) only [wpX12_memberOf, w_of hM hp, msk hM, c_0, c_1, c_2, c_3, c_4, c_5, c_6, c_7, c_8, c_9, c_10, c_11, c_12, c_14, c_16, c_19, c_20, c_24, c_31, c_32, c_35, c_48, c_57, c_59, c_63, c_97, c_100, c_122, c_127, c_169, c_255, c_600, c_1000, c_32767, Nat.le_refl, Nat.zero_le, Nat.add_zero, Nat.lt_irrefl, eq_self, o_sub, Nat.sub_zero, Nat.not_lt_zero, ↓ng_d, o_le, o_lt, o_eq, o_add, o_mul, o_cl, o_inT, o_and, n_31, o_shr, o_shl1, o_or, m_lt, m_ge, m_le, m_gt, m_ne, m_ne2, Option.some.injEq, exists_eq_left', true_and, and_true, true_implies, false_implies, implies_true, not_true_eq_false, not_false_eq_true, bI_0, bI_1, bI_01, b01, true_or, or_true, Nat.reduceEqDiff, Bool.not_eq_false, Bool.not_eq_true, Bool.true_eq_false, Bool.false_eq_true]
    exact hQ
  · have hs1 := hs.1
    have hlt := n_lt h0 (show s < 2147483648 by omega)
    have hk2 : k < cN (lp s) 7 := hk
    obtain ⟨y7, yp, yk⟩ := kt_in hk2
    have hQ2 : Q (nI (kt (lp s) 7 k)) S := hQ
    generalize kt (lp s) 7 k = y at y7 yp yk hQ2
    have hk7 : k < 7 := Nat.lt_of_lt_of_le hk2 (cN_le _ _)
    have main : ∀ r x, x + r = y → wpX12_memberOf_b18 Q (r + 1) S 87 (-nI s) (nI k) (nI x) (nI (k - cN (lp s) x)) := by
      intro r
      induction r with
      | zero =>
        intro x hx
        have : x = y := by omega
        subst this
        have hg := dg_lt s x
        have e0 := lp_t.mp yp
        have e2 : nI (dg s x) - nI 1 = nI (dg s x - 1) := o_sub (by omega)
        have e3 : k - cN (lp s) x = 0 := by omega
        simp (disch := omega) only [wpX12_memberOf_b18, Int32.neg_neg, w_valueIn, c_0, c_1, c_2, c_3, c_4, c_5, c_6, c_7, c_8, c_9, c_10, c_11, c_12, c_14, c_16, c_19, c_20, c_24, c_31, c_32, c_35, c_48, c_57, c_59, c_63, c_97, c_100, c_122, c_127, c_169, c_255, c_600, c_1000, c_32767, Nat.le_refl, Nat.zero_le, Nat.add_zero, Nat.lt_irrefl, eq_self, o_sub, Nat.sub_zero, Nat.not_lt_zero, ↓ng_d, o_le, o_lt, o_eq, o_add, o_mul, o_cl, o_inT, o_and, n_31, o_shr, o_shl1, o_or, m_lt, m_ge, m_le, m_gt, m_ne, m_ne2, Option.some.injEq, exists_eq_left', true_and, and_true, true_implies, false_implies, implies_true, not_true_eq_false, not_false_eq_true, bI_0, bI_1, bI_01, b01, true_or, or_true, Nat.reduceEqDiff, Bool.not_eq_false, Bool.not_eq_true, Bool.true_eq_false, Bool.false_eq_true, e2, e3]
        exact hQ2
      | succ r ih =>
        intro x hx
        have hg := dg_lt s x
        have hcx : cN (lp s) x ≤ k := by rw [← yk]; exact cN_mono _ (by omega)
        have hn := ih (x + 1) (by omega)
        simp only [cN] at hn
        generalize r + 1 = fu at hn ⊢
        by_cases e0 : dg s x = 0
        · have hl : lp s x = false := by simp [lp, e0]
          simp only [hl, Bool.false_eq_true, if_false, Nat.add_zero] at hn
          have e1 : (nI 0 - nI 1 < nI 0) = True := by rw [v_lt 0 (by omega)]; simp
          have e4 : (nI 0 ≤ nI 0 - nI 1) = False := by rw [v_ge 0 (by omega)]; simp
          by_cases el : 0 < k - cN (lp s) x
          · simp (disch := omega) only [wpX12_memberOf_b18, wpX12_memberOf_b32, Int32.neg_neg, w_valueIn, c_0, c_1, c_2, c_3, c_4, c_5, c_6, c_7, c_8, c_9, c_10, c_11, c_12, c_14, c_16, c_19, c_20, c_24, c_31, c_32, c_35, c_48, c_57, c_59, c_63, c_97, c_100, c_122, c_127, c_169, c_255, c_600, c_1000, c_32767, Nat.le_refl, Nat.zero_le, Nat.add_zero, Nat.lt_irrefl, eq_self, o_sub, Nat.sub_zero, Nat.not_lt_zero, ↓ng_d, o_le, o_lt, o_eq, o_add, o_mul, o_cl, o_inT, o_and, n_31, o_shr, o_shl1, o_or, m_lt, m_ge, m_le, m_gt, m_ne, m_ne2, Option.some.injEq, exists_eq_left', true_and, and_true, true_implies, false_implies, implies_true, not_true_eq_false, not_false_eq_true, bI_0, bI_1, bI_01, b01, true_or, or_true, Nat.reduceEqDiff, Bool.not_eq_false, Bool.not_eq_true, Bool.true_eq_false, Bool.false_eq_true, e0, e1, el]
            exact hn
          · simp (disch := omega) only [wpX12_memberOf_b18, wpX12_memberOf_b32, Int32.neg_neg, w_valueIn, c_0, c_1, c_2, c_3, c_4, c_5, c_6, c_7, c_8, c_9, c_10, c_11, c_12, c_14, c_16, c_19, c_20, c_24, c_31, c_32, c_35, c_48, c_57, c_59, c_63, c_97, c_100, c_122, c_127, c_169, c_255, c_600, c_1000, c_32767, Nat.le_refl, Nat.zero_le, Nat.add_zero, Nat.lt_irrefl, eq_self, o_sub, Nat.sub_zero, Nat.not_lt_zero, ↓ng_d, o_le, o_lt, o_eq, o_add, o_mul, o_cl, o_inT, o_and, n_31, o_shr, o_shl1, o_or, m_lt, m_ge, m_le, m_gt, m_ne, m_ne2, Option.some.injEq, exists_eq_left', true_and, and_true, true_implies, false_implies, implies_true, not_true_eq_false, not_false_eq_true, bI_0, bI_1, bI_01, b01, true_or, or_true, Nat.reduceEqDiff, Bool.not_eq_false, Bool.not_eq_true, Bool.true_eq_false, Bool.false_eq_true, e0, e1, e4, el]
            exact hn
        · have hl : lp s x = true := by simp [lp, e0]
          simp only [hl, if_true] at hn
          have e1 : (nI (dg s x) - nI 1 < nI 0) = False := by rw [v_lt _ hg]; simp [e0]
          have e2 : nI (dg s x) - nI 1 = nI (dg s x - 1) := o_sub (by omega)
          rw [e2] at e1
          have el : 0 < k - cN (lp s) x := by
            by_cases q : cN (lp s) x = k
            · have := kt_uq hl yp (q.trans yk.symm)
              omega
            · omega
          have e5 : k - cN (lp s) x - 1 = k - (cN (lp s) x + 1) := by omega
          simp (disch := omega) only [wpX12_memberOf_b18, wpX12_memberOf_b32, Int32.neg_neg, w_valueIn, c_0, c_1, c_2, c_3, c_4, c_5, c_6, c_7, c_8, c_9, c_10, c_11, c_12, c_14, c_16, c_19, c_20, c_24, c_31, c_32, c_35, c_48, c_57, c_59, c_63, c_97, c_100, c_122, c_127, c_169, c_255, c_600, c_1000, c_32767, Nat.le_refl, Nat.zero_le, Nat.add_zero, Nat.lt_irrefl, eq_self, o_sub, Nat.sub_zero, Nat.not_lt_zero, ↓ng_d, o_le, o_lt, o_eq, o_add, o_mul, o_cl, o_inT, o_and, n_31, o_shr, o_shl1, o_or, m_lt, m_ge, m_le, m_gt, m_ne, m_ne2, Option.some.injEq, exists_eq_left', true_and, and_true, true_implies, false_implies, implies_true, not_true_eq_false, not_false_eq_true, bI_0, bI_1, bI_01, b01, true_or, or_true, Nat.reduceEqDiff, Bool.not_eq_false, Bool.not_eq_true, Bool.true_eq_false, Bool.false_eq_true, e2, e1, el, e5]
          exact hn
    simp (disch := omega) only [wpX12_memberOf, c_0, c_1, c_2, c_3, c_4, c_5, c_6, c_7, c_8, c_9, c_10, c_11, c_12, c_14, c_16, c_19, c_20, c_24, c_31, c_32, c_35, c_48, c_57, c_59, c_63, c_97, c_100, c_122, c_127, c_169, c_255, c_600, c_1000, c_32767, Nat.le_refl, Nat.zero_le, Nat.add_zero, Nat.lt_irrefl, eq_self, o_sub, Nat.sub_zero, Nat.not_lt_zero, ↓ng_d, o_le, o_lt, o_eq, o_add, o_mul, o_cl, o_inT, o_and, n_31, o_shr, o_shl1, o_or, m_lt, m_ge, m_le, m_gt, m_ne, m_ne2, Option.some.injEq, exists_eq_left', true_and, and_true, true_implies, false_implies, implies_true, not_true_eq_false, not_false_eq_true, bI_0, bI_1, bI_01, b01, true_or, or_true, Nat.reduceEqDiff, Bool.not_eq_false, Bool.not_eq_true, Bool.true_eq_false, Bool.false_eq_true, hlt]
    exact ⟨_, main y 0 (Nat.zero_add _)⟩
/-- a constraint or learnt set: its number, what it is, its reason, its set -/
def isR (P : Nat → Nat) (C : Int32) (κ : Kon) (rs : Int32) (s : Nat) : Prop := (∃ c, c < P 1 ∧ C = nI c ∧ κ = cK P c ∧ rs = nI c ∧ s = 0) ∨ (Swf s ∧ 0 < s ∧ (∀ x, P 0 ≤ x → x < 7 → dg s x = 0) ∧ C = -nI s ∧ κ = lK s ∧ rs = nI 100)
theorem isR.C {P : Nat → Nat} {C : Int32} {κ : Kon} {rs : Int32} {s : Nat} (h : isR P C κ rs s) : isC P C κ := by
  rcases h with ⟨c, h1, h2, h3, -, -⟩ | ⟨h1, h2, -, h3, h4, -⟩
  · exact Or.inl ⟨c, h1, h2, h3⟩
  · exact Or.inr ⟨s, h1, h2, h3, h4⟩
theorem isR.mem {P : Nat → Nat} {C : Int32} {κ : Kon} {rs : Int32} {s : Nat} (hw : Pwf P) (h : isR P C κ rs s) : Kwf κ ∧ ∀ k, k < κ.1 → κ.2.1 k < P 0 := by
  rcases h with ⟨c, h1, h2, rfl, -, -⟩ | ⟨h1, h2, h3, -, rfl, -⟩
  · exact ⟨cK_wf (hw.2.2.2.2.2 c h1) hw.1, fun k hk => (hw.2.2.2.2.2 c h1).2.2.2.1 k hk⟩
  · refine ⟨lK_wf _, fun k hk => ?_⟩
    obtain ⟨q1, q2, -⟩ := kt_in (p := lp s) (n := 7) (k := k) hk
    show kt (lp s) 7 k < P 0
    apply Classical.byContradiction
    intro q
    exact lp_t.mp q2 (h3 _ (by omega) q1)
/-- what a sweep may write: on the domains and facts, or on a scratch row -/
def SwH (re : Bool) (a : Nat) (A F : List Nat) : Prop := a ∈ A ∧ 96 ∈ A ∧ a ≠ 96 ∧ a ≠ 87 ∧ a ≠ 91 ∧ a ≠ 88 ∧ (re = true → 91 ∈ A ∧ 7 ∈ F) ∧ 88 ∉ 87 :: A ∧ 93 ∉ 87 :: A ∧ 87 ∉ A ∧ 8 ∉ F ∧ 9 ∉ F
theorem SwH_t : SwH true 90 [90, 91, 96] [7] := by unfold SwH; decide
theorem SwH_f : SwH false 104 [104, 96] [] := by unfold SwH; decide
def IS (re : Bool) (a : Nat) (A F : List Nat) (S0 : PS) (σ : St) (S : PS) : Prop := mf A F S0 S ∧ rD S a σ.1 ∧ (re = true → rT S σ.2)
theorem IS.fr {re : Bool} {a : Nat} {A F : List Nat} {S0 S S' : PS} {σ : St} (h : IS re a A F S0 σ S) (hH : SwH re a A F) (hf : fr [96] S S') : IS re a A F S0 σ S' := by
  refine ⟨mf_t h.1 (mf_fr (fr_m (fun x hx => by rw [List.mem_singleton] at hx; rw [hx]; exact hH.2.1) hf) hH.2.2.2.2.2.2.2.2.2.1), hf.D (by simp [hH.2.2.1]) h.2.1, fun hr => (mf_fr (F := []) hf (by decide)).T (by decide) (by decide) (h.2.2 hr)⟩
theorem fl_ud {N : Nat} {d : Nat → Nat} (h : fl N d = false) {x w : Nat} (hx : x < N) : fl N (ud d x w) = decide (w = 0) := by
  by_cases e : w = 0
  · rw [decide_eq_true e, fl_t]
    exact ⟨x, hx, by rw [ud_s]; exact e⟩
  · rw [decide_eq_false e, fl_f]
    intro y hy
    by_cases q : y = x
    · subst q; rw [ud_s]; exact e
    · rw [ud_n _ _ q]; exact fl_f.mp h y hy
theorem stp_no {κ : Kon} {N : Nat} {r : Int32} {l s x v : Nat} {σ : St} (h : ¬ gone κ N x v σ.1) : stp κ N r l s x v σ = σ := by
  unfold stp
  rw [if_neg (fun q => h (dB_t.mp q))]
theorem stp_go {κ : Kon} {N : Nat} {r : Int32} {l s x v : Nat} {σ : St} (h : gone κ N x v σ.1) : stp κ N r l s x v σ = (ud σ.1 x (clr (σ.1 x) v), σ.2 ++ [(x, v, r, l, s)]) := by
  unfold stp
  rw [if_pos (dB_t.mpr h)]
theorem vls_up {κ : Kon} {N : Nat} {r : Int32} {l s x : Nat} {σ : St} {j : Nat} (h : fl N (vls κ N r l s x j σ).1 = true) : ∀ m, vls κ N r l s x (j + m) σ = vls κ N r l s x j σ := by
  intro m
  induction m with
  | zero => rfl
  | succ m ih =>
    show stp κ N r l s x (j + m) (vls κ N r l s x (j + m) σ) = _
    rw [ih, stp_fl h]
theorem q_so28 {re : Bool} {a : Nat} {A F : List Nat} {S0 : PS} {P : Nat → Nat} {C rs : Int32} {κ : Kon} {l s x kk c0 : Nat} {σ0 : St} {K6 : PS → Nat → Int32 → Nat → Int32 → Int32 → Int32 → Prop} {Q : Int32 → PS → Prop}
    (hH : SwH re a A F) (hM0 : MShape S0) (hp0 : rP S0 P) (hw : Pwf P) (hl : pI S0 87 8 = nI l) (hR : isR P C κ rs s) (hxN : x < P 0) (hd0 : Dwf σ0.1) (hb : dsum σ0.1 + σ0.2.length ≤ 35) (hc0 : c0 ≤ 100) (hkk : kk < 100)
    (hK : ∀ S, IS re a A F S0 (vls κ (P 0) rs l s x 5 σ0) S → fl (P 0) (vls κ (P 0) rs l s x 5 σ0).1 = false → K6 S 87 C a (bI re) (nI (c0 + ((vls κ (P 0) rs l s x 5 σ0).2.length - σ0.2.length))) (nI (kk + 1)))
    (hF : ∀ S, IS re a A F S0 (vls κ (P 0) rs l s x 5 σ0) S → fl (P 0) (vls κ (P 0) rs l s x 5 σ0).1 = true → Q ngI S) (hkw : Kwf κ) (hmem : ∃ k, k < κ.1 ∧ x = κ.2.1 k) :
    ∀ r v S, v + r = 5 → IS re a A F S0 (vls κ (P 0) rs l s x v σ0) S → fl (P 0) (vls κ (P 0) rs l s x v σ0).1 = false → wpX12_sweepsOne_b28 K6 Q (r + 1) S 87 C a (bI re) (nI (c0 + ((vls κ (P 0) rs l s x v σ0).2.length - σ0.2.length))) (nI kk) (nI x) (nI v) := by
  have hx7 : x < 7 := Nat.lt_of_lt_of_le hxN hw.1
  have hdn : ∀ j, j ≤ 5 → Dn (FR κ rs l s) σ0 (vls κ (P 0) rs l s x j σ0) := fun j hj => by
    obtain ⟨k, hk, e⟩ := hmem
    rw [e]
    exact vls_dn hkw hk hd0 j hj
  intro r
  induction r with
  | zero =>
    intro v S hv hI hf
    have : v = 5 := by omega
    subst this
    have h1 := hK S hI hf
    simp (disch := omega) only [wpX12_sweepsOne_b28, c_0, c_1, c_2, c_3, c_4, c_5, c_6, c_7, c_8, c_9, c_10, c_11, c_12, c_14, c_16, c_19, c_20, c_24, c_31, c_32, c_35, c_48, c_57, c_59, c_63, c_97, c_100, c_122, c_127, c_169, c_255, c_600, c_1000, c_32767, Nat.le_refl, Nat.zero_le, Nat.add_zero, Nat.lt_irrefl, eq_self, o_sub, Nat.sub_zero, Nat.not_lt_zero, ↓ng_d, o_le, o_lt, o_eq, o_add, o_mul, o_cl, o_inT, o_and, n_31, o_shr, o_shl1, o_or, m_lt, m_ge, m_le, m_gt, m_ne, m_ne2, Option.some.injEq, exists_eq_left', true_and, and_true, true_implies, false_implies, implies_true, not_true_eq_false, not_false_eq_true, bI_0, bI_1, bI_01, b01, true_or, or_true, Nat.reduceEqDiff, Bool.not_eq_false, Bool.not_eq_true, Bool.true_eq_false, Bool.false_eq_true]
    exact h1
  | succ r ih =>
    intro v S hv hI hf
    have e5 : ¬ 5 ≤ v := by omega
    have h5 : v < 5 := by omega
    have hM := hI.1.M hM0
    have hp := hI.1.P hH.2.2.2.2.2.2.2.1 hp0
    have hD := hI.2.1
    have hdx := hD.2.2.2 x hx7
    have hn := ih (v + 1) 
    have hlen := (hdn v (by omega)).2.1
    obtain ⟨T1, hT1, -⟩ := (hdn v (by omega)).2.2.1
    have hl1 : (vls κ (P 0) rs l s x v σ0).2.length = σ0.2.length + T1.length := by rw [hT1, List.length_append]
    have hvs : vls κ (P 0) rs l s x (v + 1) σ0 = stp κ (P 0) rs l s x v (vls κ (P 0) rs l s x v σ0) := rfl
    rw [hvs] at hn
    generalize r + 1 = fu at hn ⊢
    obtain ⟨σ, hσ⟩ : ∃ σ, σ = vls κ (P 0) rs l s x v σ0 := ⟨_, rfl⟩
    rw [← hσ] at hI hf hn hlen hl1 hvs hD hdx ⊢
    cases hbit : (σ.1 x).testBit v
    · rw [stp_no (fun q => by have q2 := q.2.1; rw [hbit] at q2; cases q2)] at hn
      have h1 := hn S (by omega) hI hf
      simp (disch := omega) only [wpX12_sweepsOne_b28, w_has, c_0, c_1, c_2, c_3, c_4, c_5, c_6, c_7, c_8, c_9, c_10, c_11, c_12, c_14, c_16, c_19, c_20, c_24, c_31, c_32, c_35, c_48, c_57, c_59, c_63, c_97, c_100, c_122, c_127, c_169, c_255, c_600, c_1000, c_32767, Nat.le_refl, Nat.zero_le, Nat.add_zero, Nat.lt_irrefl, eq_self, o_sub, Nat.sub_zero, Nat.not_lt_zero, ↓ng_d, o_le, o_lt, o_eq, o_add, o_mul, o_cl, o_inT, o_and, n_31, o_shr, o_shl1, o_or, m_lt, m_ge, m_le, m_gt, m_ne, m_ne2, Option.some.injEq, exists_eq_left', true_and, and_true, true_implies, false_implies, implies_true, not_true_eq_false, not_false_eq_true, bI_0, bI_1, bI_01, b01, true_or, or_true, Nat.reduceEqDiff, Bool.not_eq_false, Bool.not_eq_true, Bool.true_eq_false, Bool.false_eq_true, e5, hD.1, hD.2.1, hD.2.2.1 x hx7, hbit]
      exact h1
    · simp (disch := omega) only [wpX12_sweepsOne_b28, w_has, msk hM, c_0, c_1, c_2, c_3, c_4, c_5, c_6, c_7, c_8, c_9, c_10, c_11, c_12, c_14, c_16, c_19, c_20, c_24, c_31, c_32, c_35, c_48, c_57, c_59, c_63, c_97, c_100, c_122, c_127, c_169, c_255, c_600, c_1000, c_32767, Nat.le_refl, Nat.zero_le, Nat.add_zero, Nat.lt_irrefl, eq_self, o_sub, Nat.sub_zero, Nat.not_lt_zero, ↓ng_d, o_le, o_lt, o_eq, o_add, o_mul, o_cl, o_inT, o_and, n_31, o_shr, o_shl1, o_or, m_lt, m_ge, m_le, m_gt, m_ne, m_ne2, Option.some.injEq, exists_eq_left', true_and, and_true, true_implies, false_implies, implies_true, not_true_eq_false, not_false_eq_true, bI_0, bI_1, bI_01, b01, true_or, or_true, Nat.reduceEqDiff, Bool.not_eq_false, Bool.not_eq_true, Bool.true_eq_false, Bool.false_eq_true, e5, hD.1, hD.2.1, hD.2.2.1 x hx7, hbit]
      refine q_hasSupport hM hp hw hD hH.2.2.1 hx7 h5 hR.C (fun S1 hf1 => ?_)
      have hI1 := hI.fr hH hf1
      have hD1 := hI1.2.1
      have hM1 := hI1.1.M hM0
      by_cases hcan : Can κ (ud σ.1 x (2 ^ v))
      · rw [stp_no (fun q => q.2.2 hcan)] at hn
        have h1 := hn S1 (by omega) hI1 hf
        have hB := dB_t.mpr hcan
        simp (disch := omega) only [c_0, c_1, c_2, c_3, c_4, c_5, c_6, c_7, c_8, c_9, c_10, c_11, c_12, c_14, c_16, c_19, c_20, c_24, c_31, c_32, c_35, c_48, c_57, c_59, c_63, c_97, c_100, c_122, c_127, c_169, c_255, c_600, c_1000, c_32767, Nat.le_refl, Nat.zero_le, Nat.add_zero, Nat.lt_irrefl, eq_self, o_sub, Nat.sub_zero, Nat.not_lt_zero, ↓ng_d, o_le, o_lt, o_eq, o_add, o_mul, o_cl, o_inT, o_and, n_31, o_shr, o_shl1, o_or, m_lt, m_ge, m_le, m_gt, m_ne, m_ne2, Option.some.injEq, exists_eq_left', true_and, and_true, true_implies, false_implies, implies_true, not_true_eq_false, not_false_eq_true, bI_0, bI_1, bI_01, b01, true_or, or_true, Nat.reduceEqDiff, Bool.not_eq_false, Bool.not_eq_true, Bool.true_eq_false, Bool.false_eq_true, hB]
        exact h1
      · have hgo : gone κ (P 0) x v σ.1 := ⟨hf, hbit, hcan⟩
        rw [stp_go hgo] at hn hvs
        have hB := dB_f.mpr hcan
        have e1 := dm_clr _ hdx v h5
        have hfl := fl_ud hf (w := clr (σ.1 x) v) hxN
        have hc32 := dm_clr_lt _ hdx v h5
        have hds := dsum_clr hD.2.2.2 hx7 h5 hbit
        have hI2 : mf A F S0 (sI S1 a x (nI (clr (σ.1 x) v))) ∧ rD (sI S1 a x (nI (clr (σ.1 x) v))) a (ud σ.1 x (clr (σ.1 x) v)) ∧ (re = true → rT (sI S1 a x (nI (clr (σ.1 x) v))) σ.2) := by
          refine ⟨mf_t hI1.1 (mf_row _ _ _ hH.1 hH.2.2.2.1), ⟨hD1.1, hD1.2.1, fun y hy => ?_, fun y hy => ?_⟩, fun hr => (mf_row (A := [a]) (F := []) _ _ _ (by simp) hH.2.2.2.1).T (by simp [Ne.symm hH.2.2.2.2.1]) (by decide) (hI1.2.2 hr)⟩
          · rw [pI_sI]
            by_cases q : y = x
            · rw [if_pos ⟨rfl, q⟩, q, ud_s]
            · rw [if_neg (fun w => q w.2), ud_n _ _ q]; exact hD1.2.2.1 y hy
          · by_cases q : y = x
            · rw [q, ud_s]; exact hc32
            · rw [ud_n _ _ q]; exact hD1.2.2.2 y hy
        -- the tail behind the facts
        have tail : ∀ S2, IS re a A F S0 (ud σ.1 x (clr (σ.1 x) v), σ.2 ++ [(x, v, rs, l, s)]) S2 → wpX12_sweepsOne_b110 K6 (wpX12_sweepsOne_b28 K6 Q fu) Q S2 87 C a (bI re) (nI (c0 + (σ.2.length - σ0.2.length) + 1)) (nI kk) (nI x) (nI v) := by
          intro S2 hI3
          have hD3 := hI3.2.1
          have e3 : pI S2 a x = nI (clr (σ.1 x) v) := by rw [hD3.2.2.1 x hx7]; simp only [ud_s]
          have hcl : c0 + ((σ.2 ++ [(x, v, rs, l, s)]).length - σ0.2.length) = c0 + (σ.2.length - σ0.2.length) + 1 := by rw [List.length_append, List.length_singleton]; omega
          by_cases e0 : clr (σ.1 x) v = 0
          · have hf2 : fl (P 0) (ud σ.1 x (clr (σ.1 x) v)) = true := by rw [hfl, decide_eq_true e0]
            have hv5 : vls κ (P 0) rs l s x 5 σ0 = (ud σ.1 x (clr (σ.1 x) v), σ.2 ++ [(x, v, rs, l, s)]) := by
              have h9 := vls_up (κ := κ) (N := P 0) (r := rs) (l := l) (s := s) (x := x) (σ := σ0) (j := v + 1) (by rw [hvs]; exact hf2) (4 - v)
              rw [show v + 1 + (4 - v) = 5 by omega] at h9
              rw [h9, hvs]
            have h1 := hF S2 (by rw [hv5]; exact hI3) (by rw [hv5]; exact hf2)
            simp (disch := omega) only [wpX12_sweepsOne_b110, c_0, c_1, c_2, c_3, c_4, c_5, c_6, c_7, c_8, c_9, c_10, c_11, c_12, c_14, c_16, c_19, c_20, c_24, c_31, c_32, c_35, c_48, c_57, c_59, c_63, c_97, c_100, c_122, c_127, c_169, c_255, c_600, c_1000, c_32767, Nat.le_refl, Nat.zero_le, Nat.add_zero, Nat.lt_irrefl, eq_self, o_sub, Nat.sub_zero, Nat.not_lt_zero, ↓ng_d, o_le, o_lt, o_eq, o_add, o_mul, o_cl, o_inT, o_and, n_31, o_shr, o_shl1, o_or, m_lt, m_ge, m_le, m_gt, m_ne, m_ne2, Option.some.injEq, exists_eq_left', true_and, and_true, true_implies, false_implies, implies_true, not_true_eq_false, not_false_eq_true, bI_0, bI_1, bI_01, b01, true_or, or_true, Nat.reduceEqDiff, Bool.not_eq_false, Bool.not_eq_true, Bool.true_eq_false, Bool.false_eq_true, hD3.1, hD3.2.1, e3, e0]
            exact h1
          · have hf2 : fl (P 0) (ud σ.1 x (clr (σ.1 x) v)) = false := by rw [hfl, decide_eq_false e0]
            have h1 := hn S2 (by omega) hI3 hf2
            simp only [hcl] at h1
            simp (disch := omega) only [wpX12_sweepsOne_b110, c_0, c_1, c_2, c_3, c_4, c_5, c_6, c_7, c_8, c_9, c_10, c_11, c_12, c_14, c_16, c_19, c_20, c_24, c_31, c_32, c_35, c_48, c_57, c_59, c_63, c_97, c_100, c_122, c_127, c_169, c_255, c_600, c_1000, c_32767, Nat.le_refl, Nat.zero_le, Nat.add_zero, Nat.lt_irrefl, eq_self, o_sub, Nat.sub_zero, Nat.not_lt_zero, ↓ng_d, o_le, o_lt, o_eq, o_add, o_mul, o_cl, o_inT, o_and, n_31, o_shr, o_shl1, o_or, m_lt, m_ge, m_le, m_gt, m_ne, m_ne2, Option.some.injEq, exists_eq_left', true_and, and_true, true_implies, false_implies, implies_true, not_true_eq_false, not_false_eq_true, bI_0, bI_1, bI_01, b01, true_or, or_true, Nat.reduceEqDiff, Bool.not_eq_false, Bool.not_eq_true, Bool.true_eq_false, Bool.false_eq_true, hD3.1, hD3.2.1, e3, e0]
            exact h1
        cases re with
        | false =>
          have h1 := tail _ ⟨hI2.1, hI2.2.1, fun q => by cases q⟩
          simp (disch := omega) only [c_0, c_1, c_2, c_3, c_4, c_5, c_6, c_7, c_8, c_9, c_10, c_11, c_12, c_14, c_16, c_19, c_20, c_24, c_31, c_32, c_35, c_48, c_57, c_59, c_63, c_97, c_100, c_122, c_127, c_169, c_255, c_600, c_1000, c_32767, Nat.le_refl, Nat.zero_le, Nat.add_zero, Nat.lt_irrefl, eq_self, o_sub, Nat.sub_zero, Nat.not_lt_zero, ↓ng_d, o_le, o_lt, o_eq, o_add, o_mul, o_cl, o_inT, o_and, n_31, o_shr, o_shl1, o_or, m_lt, m_ge, m_le, m_gt, m_ne, m_ne2, Option.some.injEq, exists_eq_left', true_and, and_true, true_implies, false_implies, implies_true, not_true_eq_false, not_false_eq_true, bI_0, bI_1, bI_01, b01, true_or, or_true, Nat.reduceEqDiff, Bool.not_eq_false, Bool.not_eq_true, Bool.true_eq_false, Bool.false_eq_true, hB, hD1.1, hD1.2.1, hD1.2.2.1 x hx7, e1]
          exact h1
        | true =>
          have hM2 := hI2.1.M hM0
          have hl2 : pI (sI S1 a x (nI (clr (σ.1 x) v))) 87 8 = nI l := by rw [hI2.1.F hH.2.2.2.2.2.2.2.2.2.2.1]; exact hl
          have hmf : ∀ S2, mf [91] [7] (sI S1 a x (nI (clr (σ.1 x) v))) S2 → mf A F (sI S1 a x (nI (clr (σ.1 x) v))) S2 := fun S2 q => mf_m (fun z hz => by rw [List.mem_singleton] at hz; rw [hz]; exact (hH.2.2.2.2.2.2.1 rfl).1) (fun z hz => by rw [List.mem_singleton] at hz; rw [hz]; exact (hH.2.2.2.2.2.2.1 rfl).2) q
          have hlay : wpX12_lays (sI S1 a x (nI (clr (σ.1 x) v))) 87 (nI x) (nI v) rs (nI s) (fun S5 => wpX12_sweepsOne_b110 K6 (wpX12_sweepsOne_b28 K6 Q fu) Q S5 87 C a (bI true) (nI (c0 + (σ.2.length - σ0.2.length) + 1)) (nI kk) (nI x) (nI v)) :=
            q_lays hM2 (hI2.2.2 rfl) (by omega) hl2 (fun S3 m3 t3 => tail S3 ⟨mf_t hI2.1 (hmf _ m3), m3.D (by simp [hH.2.2.2.1, hH.2.2.2.2.1]) hI2.2.1, fun _ => t3⟩)
          rcases hR with ⟨c, hc, rfl, -, rfl, rfl⟩ | ⟨hs, h0, -, rfl, -, rfl⟩
          · have hc8 : c < 8 := Nat.lt_of_lt_of_le hc hw.2.1
            simp (disch := omega) only [wpX12_sweepsOne_b97, wpX12_sweepsOne_b107, c_0, c_1, c_2, c_3, c_4, c_5, c_6, c_7, c_8, c_9, c_10, c_11, c_12, c_14, c_16, c_19, c_20, c_24, c_31, c_32, c_35, c_48, c_57, c_59, c_63, c_97, c_100, c_122, c_127, c_169, c_255, c_600, c_1000, c_32767, Nat.le_refl, Nat.zero_le, Nat.add_zero, Nat.lt_irrefl, eq_self, o_sub, Nat.sub_zero, Nat.not_lt_zero, ↓ng_d, o_le, o_lt, o_eq, o_add, o_mul, o_cl, o_inT, o_and, n_31, o_shr, o_shl1, o_or, m_lt, m_ge, m_le, m_gt, m_ne, m_ne2, Option.some.injEq, exists_eq_left', true_and, and_true, true_implies, false_implies, implies_true, not_true_eq_false, not_false_eq_true, bI_0, bI_1, bI_01, b01, true_or, or_true, Nat.reduceEqDiff, Bool.not_eq_false, Bool.not_eq_true, Bool.true_eq_false, Bool.false_eq_true, hB, hD1.1, hD1.2.1, hD1.2.2.1 x hx7, e1, pK_sI, msk hM1]
            exact hlay
          · have hs1 := hs.1
            have hge := n_ge h0 (show s < 2147483648 by omega)
            simp (disch := omega) only [wpX12_sweepsOne_b97, wpX12_sweepsOne_b107, c_0, c_1, c_2, c_3, c_4, c_5, c_6, c_7, c_8, c_9, c_10, c_11, c_12, c_14, c_16, c_19, c_20, c_24, c_31, c_32, c_35, c_48, c_57, c_59, c_63, c_97, c_100, c_122, c_127, c_169, c_255, c_600, c_1000, c_32767, Nat.le_refl, Nat.zero_le, Nat.add_zero, Nat.lt_irrefl, eq_self, o_sub, Nat.sub_zero, Nat.not_lt_zero, ↓ng_d, o_le, o_lt, o_eq, o_add, o_mul, o_cl, o_inT, o_and, n_31, o_shr, o_shl1, o_or, m_lt, m_ge, m_le, m_gt, m_ne, m_ne2, Option.some.injEq, exists_eq_left', true_and, and_true, true_implies, false_implies, implies_true, not_true_eq_false, not_false_eq_true, bI_0, bI_1, bI_01, b01, true_or, or_true, Nat.reduceEqDiff, Bool.not_eq_false, Bool.not_eq_true, Bool.true_eq_false, Bool.false_eq_true, hB, hD1.1, hD1.2.1, hD1.2.2.1 x hx7, e1, hge, Int32.neg_neg, pK_sI, msk hM1]
            exact hlay

theorem sw1_up {κ : Kon} {N : Nat} {r : Int32} {l s : Nat} {σ : St} {j : Nat} (h : fl N (sw1 κ N r l s j σ).1 = true) : ∀ m, sw1 κ N r l s (j + m) σ = sw1 κ N r l s j σ := by
  intro m
  induction m with
  | zero => rfl
  | succ m ih =>
    show vls κ N r l s (κ.2.1 (j + m)) 5 (sw1 κ N r l s (j + m) σ) = _
    rw [ih, vls_fl h]
theorem q_sweepsOne {re : Bool} {a : Nat} {A F : List Nat} {S0 : PS} {P : Nat → Nat} {C rs : Int32} {κ : Kon} {l s : Nat} {σ0 : St} {Q : Int32 → PS → Prop}
    (hH : SwH re a A F) (hM0 : MShape S0) (hp0 : rP S0 P) (hw : Pwf P) (hl : pI S0 87 8 = nI l) (hR : isR P C κ rs s) (hd0 : Dwf σ0.1) (hb : dsum σ0.1 + σ0.2.length ≤ 35) (hf0 : fl (P 0) σ0.1 = false)
    (hK : ∀ S, IS re a A F S0 (sw1 κ (P 0) rs l s κ.1 σ0) S → fl (P 0) (sw1 κ (P 0) rs l s κ.1 σ0).1 = false → Q (nI ((sw1 κ (P 0) rs l s κ.1 σ0).2.length - σ0.2.length)) S)
    (hF : ∀ S, IS re a A F S0 (sw1 κ (P 0) rs l s κ.1 σ0) S → fl (P 0) (sw1 κ (P 0) rs l s κ.1 σ0).1 = true → Q ngI S) :
    ∀ S, IS re a A F S0 σ0 S → wpX12_sweepsOne S 87 C a (bI re) Q := by
  obtain ⟨hkw, hmN⟩ := hR.mem hw
  have hdn : ∀ j, j ≤ κ.1 → Dn (FR κ rs l s) σ0 (sw1 κ (P 0) rs l s j σ0) := fun j hj => sw1_dn hkw hd0 j hj
  have main : ∀ r k S, k + r = κ.1 → IS re a A F S0 (sw1 κ (P 0) rs l s k σ0) S → fl (P 0) (sw1 κ (P 0) rs l s k σ0).1 = false → wpX12_sweepsOne_b6 Q (r + 1) S 87 C a (bI re) (nI ((sw1 κ (P 0) rs l s k σ0).2.length - σ0.2.length)) (nI k) := by
    intro r
    induction r with
    | zero =>
      intro k S hk hI hf
      have hk' : κ.1 = k := by omega
      have hM := hI.1.M hM0
      have hp := hI.1.P hH.2.2.2.2.2.2.2.1 hp0
      have hκ7 := hkw.1
      rw [hk'] at hK
      have h1 := hK S hI hf
      simp (disch := omega) only [wpX12_sweepsOne_b6, msk hM, c_0, c_1, c_2, c_3, c_4, c_5, c_6, c_7, c_8, c_9, c_10, c_11, c_12, c_14, c_16, c_19, c_20, c_24, c_31, c_32, c_35, c_48, c_57, c_59, c_63, c_97, c_100, c_122, c_127, c_169, c_255, c_600, c_1000, c_32767, Nat.le_refl, Nat.zero_le, Nat.add_zero, Nat.lt_irrefl, eq_self, o_sub, Nat.sub_zero, Nat.not_lt_zero, ↓ng_d, o_le, o_lt, o_eq, o_add, o_mul, o_cl, o_inT, o_and, n_31, o_shr, o_shl1, o_or, m_lt, m_ge, m_le, m_gt, m_ne, m_ne2, Option.some.injEq, exists_eq_left', true_and, and_true, true_implies, false_implies, implies_true, not_true_eq_false, not_false_eq_true, bI_0, bI_1, bI_01, b01, true_or, or_true, Nat.reduceEqDiff, Bool.not_eq_false, Bool.not_eq_true, Bool.true_eq_false, Bool.false_eq_true]
      refine q_manyIn hM hp hw hR.C ?_
      rw [hk']
      simp (disch := omega) only [c_0, c_1, c_2, c_3, c_4, c_5, c_6, c_7, c_8, c_9, c_10, c_11, c_12, c_14, c_16, c_19, c_20, c_24, c_31, c_32, c_35, c_48, c_57, c_59, c_63, c_97, c_100, c_122, c_127, c_169, c_255, c_600, c_1000, c_32767, Nat.le_refl, Nat.zero_le, Nat.add_zero, Nat.lt_irrefl, eq_self, o_sub, Nat.sub_zero, Nat.not_lt_zero, ↓ng_d, o_le, o_lt, o_eq, o_add, o_mul, o_cl, o_inT, o_and, n_31, o_shr, o_shl1, o_or, m_lt, m_ge, m_le, m_gt, m_ne, m_ne2, Option.some.injEq, exists_eq_left', true_and, and_true, true_implies, false_implies, implies_true, not_true_eq_false, not_false_eq_true, bI_0, bI_1, bI_01, b01, true_or, or_true, Nat.reduceEqDiff, Bool.not_eq_false, Bool.not_eq_true, Bool.true_eq_false, Bool.false_eq_true]
      exact h1
    | succ r ih =>
      intro k S hk hI hf
      have hM := hI.1.M hM0
      have hp := hI.1.P hH.2.2.2.2.2.2.2.1 hp0
      have hκ7 := hkw.1
      have e : ¬ κ.1 ≤ k := by omega
      have hn := ih (k + 1)
      generalize r + 1 = fu at hn ⊢
      have hd := hdn k (by omega)
      have hd' := hdn (k + 1) (by omega)
      obtain ⟨T1, hT1, -⟩ := hd.2.2.1
      obtain ⟨T2, hT2, -⟩ := hd'.2.2.1
      have hl1 : (sw1 κ (P 0) rs l s k σ0).2.length = σ0.2.length + T1.length := by rw [hT1, List.length_append]
      have hl2 : (sw1 κ (P 0) rs l s (k + 1) σ0).2.length = σ0.2.length + T2.length := by rw [hT2, List.length_append]
      have hsum := hd.2.1
      have hsum2 := hd'.2.1
      have hvd := vls_dn (N := P 0) (r := rs) (l := l) (s := s) hkw (show k < κ.1 by omega) hd.1 5 (Nat.le_refl _)
      obtain ⟨T3, hT3, -⟩ := hvd.2.2.1
      have hl3 : (sw1 κ (P 0) rs l s (k + 1) σ0).2.length = (sw1 κ (P 0) rs l s k σ0).2.length + T3.length := by
        show (vls κ (P 0) rs l s (κ.2.1 k) 5 (sw1 κ (P 0) rs l s k σ0)).2.length = _
        rw [hT3, List.length_append]
      have h3 := q_so28 (K6 := wpX12_sweepsOne_b6 Q fu) (Q := Q) (kk := k) (c0 := (sw1 κ (P 0) rs l s k σ0).2.length - σ0.2.length) (x := κ.2.1 k) (σ0 := sw1 κ (P 0) rs l s k σ0) hH hM0 hp0 hw hl hR (hmN k (by omega)) hd.1 (by omega) (by omega) (by omega)
        (fun S2 hI2 hf2 => by
          have h4 := hn S2 (by omega) hI2 hf2
          rw [show (sw1 κ (P 0) rs l s k σ0).2.length - σ0.2.length + ((vls κ (P 0) rs l s (κ.2.1 k) 5 (sw1 κ (P 0) rs l s k σ0)).2.length - (sw1 κ (P 0) rs l s k σ0).2.length) = (sw1 κ (P 0) rs l s (k + 1) σ0).2.length - σ0.2.length by
            have : (vls κ (P 0) rs l s (κ.2.1 k) 5 (sw1 κ (P 0) rs l s k σ0)).2.length = (sw1 κ (P 0) rs l s (k + 1) σ0).2.length := rfl
            omega]
          exact h4)
        (fun S2 hI2 hf2 => by
          have h9 := sw1_up (κ := κ) (N := P 0) (r := rs) (l := l) (s := s) (σ := σ0) (j := k + 1) hf2 r
          rw [show k + 1 + r = κ.1 by omega] at h9
          exact hF S2 (by rw [h9]; exact hI2) (by rw [h9]; exact hf2)) hkw ⟨k, by omega, rfl⟩ 5 0 S rfl hI hf
      rw [show vls κ (P 0) rs l s (κ.2.1 k) 0 (sw1 κ (P 0) rs l s k σ0) = sw1 κ (P 0) rs l s k σ0 from rfl, Nat.sub_self, Nat.add_zero] at h3
      simp (disch := omega) only [wpX12_sweepsOne_b6, msk hM, c_0, c_1, c_2, c_3, c_4, c_5, c_6, c_7, c_8, c_9, c_10, c_11, c_12, c_14, c_16, c_19, c_20, c_24, c_31, c_32, c_35, c_48, c_57, c_59, c_63, c_97, c_100, c_122, c_127, c_169, c_255, c_600, c_1000, c_32767, Nat.le_refl, Nat.zero_le, Nat.add_zero, Nat.lt_irrefl, eq_self, o_sub, Nat.sub_zero, Nat.not_lt_zero, ↓ng_d, o_le, o_lt, o_eq, o_add, o_mul, o_cl, o_inT, o_and, n_31, o_shr, o_shl1, o_or, m_lt, m_ge, m_le, m_gt, m_ne, m_ne2, Option.some.injEq, exists_eq_left', true_and, and_true, true_implies, false_implies, implies_true, not_true_eq_false, not_false_eq_true, bI_0, bI_1, bI_01, b01, true_or, or_true, Nat.reduceEqDiff, Bool.not_eq_false, Bool.not_eq_true, Bool.true_eq_false, Bool.false_eq_true]
      refine q_manyIn hM hp hw hR.C ?_
      simp (disch := omega) only [msk hM, c_0, c_1, c_2, c_3, c_4, c_5, c_6, c_7, c_8, c_9, c_10, c_11, c_12, c_14, c_16, c_19, c_20, c_24, c_31, c_32, c_35, c_48, c_57, c_59, c_63, c_97, c_100, c_122, c_127, c_169, c_255, c_600, c_1000, c_32767, Nat.le_refl, Nat.zero_le, Nat.add_zero, Nat.lt_irrefl, eq_self, o_sub, Nat.sub_zero, Nat.not_lt_zero, ↓ng_d, o_le, o_lt, o_eq, o_add, o_mul, o_cl, o_inT, o_and, n_31, o_shr, o_shl1, o_or, m_lt, m_ge, m_le, m_gt, m_ne, m_ne2, Option.some.injEq, exists_eq_left', true_and, and_true, true_implies, false_implies, implies_true, not_true_eq_false, not_false_eq_true, bI_0, bI_1, bI_01, b01, true_or, or_true, Nat.reduceEqDiff, Bool.not_eq_false, Bool.not_eq_true, Bool.true_eq_false, Bool.false_eq_true, e]
      refine q_memberOf hM hp hw hR.C (by omega) ?_
      exact ⟨_, h3⟩
  intro S hI
  have h1 := main κ.1 0 S (Nat.zero_add _) hI hf0
  rw [show sw1 κ (P 0) rs l s 0 σ0 = σ0 from rfl, Nat.sub_self] at h1
  simp only [wpX12_sweepsOne, c_0, c_1, c_2, c_3, c_4, c_5, c_6, c_7, c_8, c_9, c_10, c_11, c_12, c_14, c_16, c_19, c_20, c_24, c_31, c_32, c_35, c_48, c_57, c_59, c_63, c_97, c_100, c_122, c_127, c_169, c_255, c_600, c_1000, c_32767, Nat.le_refl, Nat.zero_le, Nat.add_zero, Nat.lt_irrefl, eq_self, o_sub, Nat.sub_zero, Nat.not_lt_zero, ↓ng_d, o_le, o_lt, o_eq, o_add, o_mul, o_cl, o_inT, o_and, n_31, o_shr, o_shl1, o_or, m_lt, m_ge, m_le, m_gt, m_ne, m_ne2, Option.some.injEq, exists_eq_left', true_and, and_true, true_implies, false_implies, implies_true, not_true_eq_false, not_false_eq_true, bI_0, bI_1, bI_01, b01, true_or, or_true, Nat.reduceEqDiff, Bool.not_eq_false, Bool.not_eq_true, Bool.true_eq_false, Bool.false_eq_true]
  exact ⟨_, h1⟩

/-! THE REFERENCE: propagation -/
noncomputable def prE (P : Nat → Nat) (ss : List Nat) (l : Nat) (σ : St) : St := prp P ss l 36 σ
theorem prE_stop {P : Nat → Nat} {ss : List Nat} {l : Nat} {σ : St} (h : (rnd P ss l (P 1 + ss.length) σ).2.length = σ.2.length) : prE P ss l σ = rnd P ss l (P 1 + ss.length) σ := by
  unfold prE
  simp only [prp]
  rw [if_pos h]
theorem prE_step {P : Nat → Nat} {ss : List Nat} {l : Nat} {σ : St} (hw : Pwf P) (hd : Dwf σ.1) (h : ¬ (rnd P ss l (P 1 + ss.length) σ).2.length = σ.2.length) : prE P ss l σ = prE P ss l (rnd P ss l (P 1 + ss.length) σ) := by
  have h1 := prp_up (ss := ss) (l := l) hw 36 37 σ hd (by have := dsum_le σ.1; omega) (by omega)
  unfold prE
  rw [← h1]
  show (if (rnd P ss l (P 1 + ss.length) σ).2.length = σ.2.length then rnd P ss l (P 1 + ss.length) σ else prp P ss l 36 (rnd P ss l (P 1 + ss.length) σ)) = _
  rw [if_neg h]
theorem prE_fl {P : Nat → Nat} {ss : List Nat} {l : Nat} {σ : St} (h : fl (P 0) σ.1 = true) : prE P ss l σ = σ := prp_fl h 36
theorem prE_dn {P : Nat → Nat} {ss : List Nat} {l : Nat} {σ : St} (hw : Pwf P) (hd : Dwf σ.1) : Dn (FP1 P ss l) σ (prE P ss l σ) := prp_dn hw 36 σ hd
theorem prE_T {P : Nat → Nat} {ss : List Nat} {l : Nat} (d : Nat → Nat) (T : List FT) : prE P ss l (d, T) = ((prE P ss l (d, [])).1, T ++ (prE P ss l (d, [])).2) := prp_T 36 d T
theorem rnd_up {P : Nat → Nat} {ss : List Nat} {l : Nat} {σ : St} {j : Nat} (h : fl (P 0) (rnd P ss l j σ).1 = true) : ∀ m, rnd P ss l (j + m) σ = rnd P ss l j σ := by
  intro m
  induction m with
  | zero => rfl
  | succ m ih =>
    show sw1 _ _ _ _ _ _ (rnd P ss l (j + m) σ) = _
    rw [ih, sw1_fl h]
def rSS (S : PS) (ss : List Nat) : Prop := pI S 87 9 = nI ss.length ∧ ss.length ≤ 12 ∧ ∀ i, i < ss.length → pI S 93 i = nI (ss.getD i 0)
theorem mf.S {A F : List Nat} {S S' : PS} {ss : List Nat} (h : mf A F S S') (ha : 93 ∉ 87 :: A) (hk : 9 ∉ F) (hs : rSS S ss) : rSS S' ss := ⟨by rw [h.F hk]; exact hs.1, hs.2.1, fun i hi => by rw [h.1.I ha]; exact hs.2.2 i hi⟩
/-- the learnt sets are well-formed, over the problem's variables -/
def SSw (P : Nat → Nat) (ss : List Nat) : Prop := ∀ i, i < ss.length → Swf (ss.getD i 0) ∧ ∀ x, P 0 ≤ x → x < 7 → dg (ss.getD i 0) x = 0
theorem lK_0 : (lK 0).1 = 0 := by
  show cN (lp 0) 7 = 0
  decide
theorem kl_lt {P : Nat → Nat} {ss : List Nat} {c : Nat} (h : c < P 1) : kl P ss c = (cK P c, nI c, 0) := by unfold kl; rw [if_pos h]
theorem kl_ge {P : Nat → Nat} {ss : List Nat} {c : Nat} (h : ¬ c < P 1) : kl P ss c = (lK (ss.getD (c - P 1) 0), nI 100, ss.getD (c - P 1) 0) := by unfold kl; rw [if_neg h]
theorem q_sw11 {re : Bool} {a : Nat} {A F : List Nat} {S0 : PS} {P : Nat → Nat} {ss : List Nat} {l : Nat} {σ0 : St} {K2 : PS → Nat → Nat → Int32 → Int32 → Prop} {Q : Int32 → PS → Prop}
    (hH : SwH re a A F) (hM0 : MShape S0) (hp0 : rP S0 P) (hw : Pwf P) (hl : pI S0 87 8 = nI l) (hs0 : rSS S0 ss) (hsw : SSw P ss) (hd0 : Dwf σ0.1) (hb : dsum σ0.1 + σ0.2.length ≤ 35)
    (hK : ∀ S, IS re a A F S0 (rnd P ss l (P 1 + ss.length) σ0) S → fl (P 0) (rnd P ss l (P 1 + ss.length) σ0).1 = false → K2 S 87 a (bI re) (bI (decide (σ0.2.length < (rnd P ss l (P 1 + ss.length) σ0).2.length))))
    (hF : ∀ S, IS re a A F S0 (rnd P ss l (P 1 + ss.length) σ0) S → fl (P 0) (rnd P ss l (P 1 + ss.length) σ0).1 = true → Q (nI 0) S) :
    ∀ r k S, k + r = P 1 + ss.length → IS re a A F S0 (rnd P ss l k σ0) S → fl (P 0) (rnd P ss l k σ0).1 = false → wpX12_sweeps_b11 K2 Q (r + 1) S 87 a (bI re) (bI (decide (σ0.2.length < (rnd P ss l k σ0).2.length))) (nI k) := by
  have hdn : ∀ j, j ≤ P 1 + ss.length → Dn (FP1 P ss l) σ0 (rnd P ss l j σ0) := fun j hj => rnd_dn hw hd0 j hj
  have hP1 := hw.2.1
  have hs12 := hs0.2.1
  intro r
  induction r with
  | zero =>
    intro k S hk hI hf
    have hk' : k = P 1 + ss.length := by omega
    have hM := hI.1.M hM0
    have hp := hI.1.P hH.2.2.2.2.2.2.2.1 hp0
    have hS := hI.1.S hH.2.2.2.2.2.2.2.2.1 hH.2.2.2.2.2.2.2.2.2.2.2 hs0
    subst hk'
    have h1 := hK S hI hf
    simp (disch := omega) only [wpX12_sweeps_b11, msk hM, msr_p hM, msk_p hM, msl_p hM, hp 1 (by decide), hS.1, c_0, c_1, c_2, c_3, c_4, c_5, c_6, c_7, c_8, c_9, c_10, c_11, c_12, c_14, c_16, c_19, c_20, c_24, c_31, c_32, c_35, c_48, c_57, c_59, c_63, c_97, c_100, c_122, c_127, c_169, c_255, c_600, c_1000, c_32767, Nat.le_refl, Nat.zero_le, Nat.add_zero, Nat.lt_irrefl, eq_self, o_sub, Nat.sub_zero, Nat.not_lt_zero, ↓ng_d, o_le, o_lt, o_eq, o_add, o_mul, o_cl, o_inT, o_and, n_31, o_shr, o_shl1, o_or, m_lt, m_ge, m_le, m_gt, m_ne, m_ne2, Option.some.injEq, exists_eq_left', true_and, and_true, true_implies, false_implies, implies_true, not_true_eq_false, not_false_eq_true, bI_0, bI_1, bI_01, b01, true_or, or_true, Nat.reduceEqDiff, Bool.not_eq_false, Bool.not_eq_true, Bool.true_eq_false, Bool.false_eq_true]
    exact h1
  | succ r ih =>
    intro k S hk hI hf
    have hM := hI.1.M hM0
    have hp := hI.1.P hH.2.2.2.2.2.2.2.1 hp0
    have hS := hI.1.S hH.2.2.2.2.2.2.2.2.1 hH.2.2.2.2.2.2.2.2.2.2.2 hs0
    have e : ¬ P 1 + ss.length ≤ k := by omega
    have hn := ih (k + 1)
    generalize r + 1 = fu at hn ⊢
    have hd := hdn k (by omega)
    have hd' := hdn (k + 1) (by omega)
    obtain ⟨T1, hT1, -⟩ := hd.2.2.1
    have hl1 : (rnd P ss l k σ0).2.length = σ0.2.length + T1.length := by rw [hT1, List.length_append]
    have hsum := hd.2.1
    have hsum2 := hd'.2.1
    have hsd := sw1_dn (N := P 0) (r := (kl P ss k).2.1) (l := l) (s := (kl P ss k).2.2) (kl_wf (ss := ss) hw k) hd.1 _ (Nat.le_refl _)
    obtain ⟨T3, hT3, -⟩ := hsd.2.2.1
    have hl3 : (rnd P ss l (k + 1) σ0).2.length = (rnd P ss l k σ0).2.length + T3.length := by
      show (sw1 (kl P ss k).1 (P 0) (kl P ss k).2.1 l (kl P ss k).2.2 (kl P ss k).1.1 (rnd P ss l k σ0)).2.length = _
      rw [hT3, List.length_append]
    -- behind the sweep of one
    have tail : ∀ S2, IS re a A F S0 (rnd P ss l (k + 1) σ0) S2 → fl (P 0) (rnd P ss l (k + 1) σ0).1 = false → wpX12_sweeps_b108 K2 (wpX12_sweeps_b11 K2 Q fu) Q S2 87 a (bI re) (bI (decide (σ0.2.length < (rnd P ss l k σ0).2.length))) (nI k) (nI 0) (nI T3.length) := by
      intro S2 hI2 hf2
      have h1 := hn S2 (by omega) hI2 hf2
      by_cases q1 : σ0.2.length < (rnd P ss l k σ0).2.length
      · have q2 : σ0.2.length < (rnd P ss l (k + 1) σ0).2.length := by omega
        rw [decide_eq_true q1]
        rw [decide_eq_true q2] at h1
        simp (disch := omega) only [wpX12_sweeps_b108, wpX12_sweeps_b126, c_0, c_1, c_2, c_3, c_4, c_5, c_6, c_7, c_8, c_9, c_10, c_11, c_12, c_14, c_16, c_19, c_20, c_24, c_31, c_32, c_35, c_48, c_57, c_59, c_63, c_97, c_100, c_122, c_127, c_169, c_255, c_600, c_1000, c_32767, Nat.le_refl, Nat.zero_le, Nat.add_zero, Nat.lt_irrefl, eq_self, o_sub, Nat.sub_zero, Nat.not_lt_zero, ↓ng_d, o_le, o_lt, o_eq, o_add, o_mul, o_cl, o_inT, o_and, n_31, o_shr, o_shl1, o_or, m_lt, m_ge, m_le, m_gt, m_ne, m_ne2, Option.some.injEq, exists_eq_left', true_and, and_true, true_implies, false_implies, implies_true, not_true_eq_false, not_false_eq_true, bI_0, bI_1, bI_01, b01, true_or, or_true, Nat.reduceEqDiff, Bool.not_eq_false, Bool.not_eq_true, Bool.true_eq_false, Bool.false_eq_true]
        exact h1
      · rw [decide_eq_false q1]
        by_cases q3 : T3.length = 0
        · have q2 : ¬ σ0.2.length < (rnd P ss l (k + 1) σ0).2.length := by omega
          rw [decide_eq_false q2] at h1
          simp (disch := omega) only [wpX12_sweeps_b108, wpX12_sweeps_b126, c_0, c_1, c_2, c_3, c_4, c_5, c_6, c_7, c_8, c_9, c_10, c_11, c_12, c_14, c_16, c_19, c_20, c_24, c_31, c_32, c_35, c_48, c_57, c_59, c_63, c_97, c_100, c_122, c_127, c_169, c_255, c_600, c_1000, c_32767, Nat.le_refl, Nat.zero_le, Nat.add_zero, Nat.lt_irrefl, eq_self, o_sub, Nat.sub_zero, Nat.not_lt_zero, ↓ng_d, o_le, o_lt, o_eq, o_add, o_mul, o_cl, o_inT, o_and, n_31, o_shr, o_shl1, o_or, m_lt, m_ge, m_le, m_gt, m_ne, m_ne2, Option.some.injEq, exists_eq_left', true_and, and_true, true_implies, false_implies, implies_true, not_true_eq_false, not_false_eq_true, bI_0, bI_1, bI_01, b01, true_or, or_true, Nat.reduceEqDiff, Bool.not_eq_false, Bool.not_eq_true, Bool.true_eq_false, Bool.false_eq_true, q3]
          exact h1
        · have q2 : σ0.2.length < (rnd P ss l (k + 1) σ0).2.length := by omega
          rw [decide_eq_true q2] at h1
          have q4 : ¬ T3.length ≤ 0 := by omega
          simp (disch := omega) only [wpX12_sweeps_b108, wpX12_sweeps_b126, c_0, c_1, c_2, c_3, c_4, c_5, c_6, c_7, c_8, c_9, c_10, c_11, c_12, c_14, c_16, c_19, c_20, c_24, c_31, c_32, c_35, c_48, c_57, c_59, c_63, c_97, c_100, c_122, c_127, c_169, c_255, c_600, c_1000, c_32767, Nat.le_refl, Nat.zero_le, Nat.add_zero, Nat.lt_irrefl, eq_self, o_sub, Nat.sub_zero, Nat.not_lt_zero, ↓ng_d, o_le, o_lt, o_eq, o_add, o_mul, o_cl, o_inT, o_and, n_31, o_shr, o_shl1, o_or, m_lt, m_ge, m_le, m_gt, m_ne, m_ne2, Option.some.injEq, exists_eq_left', true_and, and_true, true_implies, false_implies, implies_true, not_true_eq_false, not_false_eq_true, bI_0, bI_1, bI_01, b01, true_or, or_true, Nat.reduceEqDiff, Bool.not_eq_false, Bool.not_eq_true, Bool.true_eq_false, Bool.false_eq_true, q4]
          exact h1
    have tailF : ∀ S2, IS re a A F S0 (rnd P ss l (k + 1) σ0) S2 → fl (P 0) (rnd P ss l (k + 1) σ0).1 = true → wpX12_sweeps_b108 K2 (wpX12_sweeps_b11 K2 Q fu) Q S2 87 a (bI re) (bI (decide (σ0.2.length < (rnd P ss l k σ0).2.length))) (nI k) (nI 0) ngI := by
      intro S2 hI2 hf2
      have h9 := rnd_up (P := P) (ss := ss) (l := l) (σ := σ0) (j := k + 1) hf2 r
      rw [show k + 1 + r = P 1 + ss.length by omega] at h9
      have h1 := hF S2 (by rw [h9]; exact hI2) (by rw [h9]; exact hf2)
      simp (disch := omega) only [wpX12_sweeps_b108, c_0, c_1, c_2, c_3, c_4, c_5, c_6, c_7, c_8, c_9, c_10, c_11, c_12, c_14, c_16, c_19, c_20, c_24, c_31, c_32, c_35, c_48, c_57, c_59, c_63, c_97, c_100, c_122, c_127, c_169, c_255, c_600, c_1000, c_32767, Nat.le_refl, Nat.zero_le, Nat.add_zero, Nat.lt_irrefl, eq_self, o_sub, Nat.sub_zero, Nat.not_lt_zero, ↓ng_d, o_le, o_lt, o_eq, o_add, o_mul, o_cl, o_inT, o_and, n_31, o_shr, o_shl1, o_or, m_lt, m_ge, m_le, m_gt, m_ne, m_ne2, Option.some.injEq, exists_eq_left', true_and, and_true, true_implies, false_implies, implies_true, not_true_eq_false, not_false_eq_true, bI_0, bI_1, bI_01, b01, true_or, or_true, Nat.reduceEqDiff, Bool.not_eq_false, Bool.not_eq_true, Bool.true_eq_false, Bool.false_eq_true]
      exact h1
    have one : ∀ (C : Int32), isR P C (kl P ss k).1 (kl P ss k).2.1 (kl P ss k).2.2 → wpX12_sweepsOne S 87 C a (bI re) (fun r2 S3 => wpX12_sweeps_b108 K2 (wpX12_sweeps_b11 K2 Q fu) Q S3 87 a (bI re) (bI (decide (σ0.2.length < (rnd P ss l k σ0).2.length))) (nI k) (nI 0) r2) := by
      intro C hR
      refine q_sweepsOne hH hM0 hp0 hw hl hR hd.1 (by omega) hf (fun S2 hI2 hf2 => ?_) (fun S2 hI2 hf2 => tailF S2 hI2 hf2) S hI
      have h1 := tail S2 hI2 hf2
      have e9 : (sw1 (kl P ss k).1 (P 0) (kl P ss k).2.1 l (kl P ss k).2.2 (kl P ss k).1.1 (rnd P ss l k σ0)).2.length - (rnd P ss l k σ0).2.length = T3.length := by
        have : (sw1 (kl P ss k).1 (P 0) (kl P ss k).2.1 l (kl P ss k).2.2 (kl P ss k).1.1 (rnd P ss l k σ0)).2.length = (rnd P ss l (k + 1) σ0).2.length := rfl
        omega
      rw [e9]
      exact h1
    by_cases hk1 : k < P 1
    · have h1 := one (nI k) (Or.inl ⟨k, hk1, rfl, by rw [kl_lt hk1], by rw [kl_lt hk1], by rw [kl_lt hk1]⟩)
      have e2 : ¬ P 1 ≤ k := by omega
      simp (disch := omega) only [wpX12_sweeps_b11, wpX12_sweeps_b59, wpX12_sweeps_b60, wpX12_sweeps_b103, msk hM, msr_p hM, msk_p hM, msl_p hM, hp 1 (by decide), hS.1, c_0, c_1, c_2, c_3, c_4, c_5, c_6, c_7, c_8, c_9, c_10, c_11, c_12, c_14, c_16, c_19, c_20, c_24, c_31, c_32, c_35, c_48, c_57, c_59, c_63, c_97, c_100, c_122, c_127, c_169, c_255, c_600, c_1000, c_32767, Nat.le_refl, Nat.zero_le, Nat.add_zero, Nat.lt_irrefl, eq_self, o_sub, Nat.sub_zero, Nat.not_lt_zero, ↓ng_d, o_le, o_lt, o_eq, o_add, o_mul, o_cl, o_inT, o_and, n_31, o_shr, o_shl1, o_or, m_lt, m_ge, m_le, m_gt, m_ne, m_ne2, Option.some.injEq, exists_eq_left', true_and, and_true, true_implies, false_implies, implies_true, not_true_eq_false, not_false_eq_true, bI_0, bI_1, bI_01, b01, true_or, or_true, Nat.reduceEqDiff, Bool.not_eq_false, Bool.not_eq_true, Bool.true_eq_false, Bool.false_eq_true, e, hk1, e2]
      exact h1
    · have e2 : P 1 ≤ k := by omega
      have e3 : k - P 1 < ss.length := by omega
      have hss := hsw _ e3
      have hs1 := hss.1.1
      have hrow := hS.2.2 _ e3
      by_cases e4 : ss.getD (k - P 1) 0 = 0
      · have hsame : rnd P ss l (k + 1) σ0 = rnd P ss l k σ0 := by
          show sw1 (kl P ss k).1 (P 0) (kl P ss k).2.1 l (kl P ss k).2.2 (kl P ss k).1.1 (rnd P ss l k σ0) = _
          rw [kl_ge hk1, e4]
          show sw1 (lK 0) (P 0) (nI 100) l 0 (lK 0).1 (rnd P ss l k σ0) = _
          rw [lK_0]
          rfl
        have h1 := tail S (by rw [hsame]; exact hI) (by rw [hsame]; exact hf)
        have e5 : T3.length = 0 := by rw [hsame] at hl3; omega
        rw [e5] at h1
        have n1 : ¬ (1 : Nat) = 0 := by decide
        have h2 : wpX12_sweeps_b108 K2 (wpX12_sweeps_b11 K2 Q fu) Q S 87 a (bI re) (bI (decide (σ0.2.length < (rnd P ss l k σ0).2.length))) (nI k) (nI 1) (nI 0) := h1
        simp (disch := omega) only [wpX12_sweeps_b11, wpX12_sweeps_b60, msk hM, msr_p hM, msk_p hM, msl_p hM, msr_sets hM, msk_sets hM, msl_sets hM, hp 1 (by decide), hS.1, hrow, c_0, c_1, c_2, c_3, c_4, c_5, c_6, c_7, c_8, c_9, c_10, c_11, c_12, c_14, c_16, c_19, c_20, c_24, c_31, c_32, c_35, c_48, c_57, c_59, c_63, c_97, c_100, c_122, c_127, c_169, c_255, c_600, c_1000, c_32767, Nat.le_refl, Nat.zero_le, Nat.add_zero, Nat.lt_irrefl, eq_self, o_sub, Nat.sub_zero, Nat.not_lt_zero, ↓ng_d, o_le, o_lt, o_eq, o_add, o_mul, o_cl, o_inT, o_and, n_31, o_shr, o_shl1, o_or, m_lt, m_ge, m_le, m_gt, m_ne, m_ne2, Option.some.injEq, exists_eq_left', true_and, and_true, true_implies, false_implies, implies_true, not_true_eq_false, not_false_eq_true, bI_0, bI_1, bI_01, b01, true_or, or_true, Nat.reduceEqDiff, Bool.not_eq_false, Bool.not_eq_true, Bool.true_eq_false, Bool.false_eq_true, e, hk1, e2, e4, n1]
        exact h2
      · have h1 := one (-nI (ss.getD (k - P 1) 0)) (Or.inr (by rw [kl_ge hk1]; exact ⟨hss.1, Nat.pos_of_ne_zero e4, hss.2, rfl, rfl, rfl⟩))
        simp (disch := omega) only [wpX12_sweeps_b11, wpX12_sweeps_b59, wpX12_sweeps_b60, wpX12_sweeps_b103, msk hM, msr_p hM, msk_p hM, msl_p hM, msr_sets hM, msk_sets hM, msl_sets hM, hp 1 (by decide), hS.1, hrow, c_0, c_1, c_2, c_3, c_4, c_5, c_6, c_7, c_8, c_9, c_10, c_11, c_12, c_14, c_16, c_19, c_20, c_24, c_31, c_32, c_35, c_48, c_57, c_59, c_63, c_97, c_100, c_122, c_127, c_169, c_255, c_600, c_1000, c_32767, Nat.le_refl, Nat.zero_le, Nat.add_zero, Nat.lt_irrefl, eq_self, o_sub, Nat.sub_zero, Nat.not_lt_zero, ↓ng_d, o_le, o_lt, o_eq, o_add, o_mul, o_cl, o_inT, o_and, n_31, o_shr, o_shl1, o_or, m_lt, m_ge, m_le, m_gt, m_ne, m_ne2, Option.some.injEq, exists_eq_left', true_and, and_true, true_implies, false_implies, implies_true, not_true_eq_false, not_false_eq_true, bI_0, bI_1, bI_01, b01, true_or, or_true, Nat.reduceEqDiff, Bool.not_eq_false, Bool.not_eq_true, Bool.true_eq_false, Bool.false_eq_true, e, hk1, e2, e4]
        exact h1
theorem q_sweeps {re : Bool} {a : Nat} {A F : List Nat} {S0 : PS} {P : Nat → Nat} {ss : List Nat} {l : Nat} {σ0 : St} {Q : Int32 → PS → Prop}
    (hH : SwH re a A F) (hM0 : MShape S0) (hp0 : rP S0 P) (hw : Pwf P) (hl : pI S0 87 8 = nI l) (hs0 : rSS S0 ss) (hsw : SSw P ss) (hd0 : Dwf σ0.1) (hb : dsum σ0.1 + σ0.2.length ≤ 35) (hf0 : fl (P 0) σ0.1 = false) (hI0 : IS re a A F S0 σ0 S0)
    (hQ : ∀ S, IS re a A F S0 (prE P ss l σ0) S → Q (bI (!fl (P 0) (prE P ss l σ0).1)) S) : wpX12_sweeps S0 87 a (bI re) Q := by
  have main : ∀ n σ S, dsum σ.1 < n → Dwf σ.1 → dsum σ.1 + σ.2.length ≤ 35 → IS re a A F S0 σ S → fl (P 0) σ.1 = false → prE P ss l σ = prE P ss l σ0 → wpX12_sweeps_b2 Q (n + 1) S 87 a (bI re) (bI true) := by
    intro n
    induction n with
    | zero => intro σ S h; omega
    | succ n ih =>
      intro σ S h1 h2 h3 hI hf he
      have hd := rnd_dn (ss := ss) (l := l) hw h2 _ (Nat.le_refl _)
      obtain ⟨T, hT, -⟩ := hd.2.2.1
      have hl1 : (rnd P ss l (P 1 + ss.length) σ).2.length = σ.2.length + T.length := by rw [hT, List.length_append]
      have hsum := hd.2.1
      have hM := hI.1.M hM0
      generalize hfu : n + 1 = fu at ih ⊢
      have h4 := q_sw11 (K2 := wpX12_sweeps_b2 Q fu) (Q := Q) (σ0 := σ) hH hM0 hp0 hw hl hs0 hsw h2 h3 (fun S2 hI2 hf2 => by
        by_cases q : T.length = 0
        · have e1 : ¬ σ.2.length < (rnd P ss l (P 1 + ss.length) σ).2.length := by omega
          rw [decide_eq_false e1]
          have e2 : prE P ss l σ = rnd P ss l (P 1 + ss.length) σ := prE_stop (by omega)
          have h5 := hQ S2 (by rw [← he, e2]; exact hI2)
          rw [← he, e2, hf2] at h5
          rw [← hfu]
          simp (disch := omega) only [wpX12_sweeps_b2, c_0, c_1, c_2, c_3, c_4, c_5, c_6, c_7, c_8, c_9, c_10, c_11, c_12, c_14, c_16, c_19, c_20, c_24, c_31, c_32, c_35, c_48, c_57, c_59, c_63, c_97, c_100, c_122, c_127, c_169, c_255, c_600, c_1000, c_32767, Nat.le_refl, Nat.zero_le, Nat.add_zero, Nat.lt_irrefl, eq_self, o_sub, Nat.sub_zero, Nat.not_lt_zero, ↓ng_d, o_le, o_lt, o_eq, o_add, o_mul, o_cl, o_inT, o_and, n_31, o_shr, o_shl1, o_or, m_lt, m_ge, m_le, m_gt, m_ne, m_ne2, Option.some.injEq, exists_eq_left', true_and, and_true, true_implies, false_implies, implies_true, not_true_eq_false, not_false_eq_true, bI_0, bI_1, bI_01, b01, true_or, or_true, Nat.reduceEqDiff, Bool.not_eq_false, Bool.not_eq_true, Bool.true_eq_false, Bool.false_eq_true]
          exact h5
        · have e1 : σ.2.length < (rnd P ss l (P 1 + ss.length) σ).2.length := by omega
          rw [decide_eq_true e1]
          exact ih _ S2 (by omega) hd.1 (by omega) hI2 hf2 (by rw [← he]; exact (prE_step hw h2 (by omega)).symm)) (fun S2 hI2 hf2 => by
        have e2 : prE P ss l σ = rnd P ss l (P 1 + ss.length) σ := by
          by_cases q : (rnd P ss l (P 1 + ss.length) σ).2.length = σ.2.length
          · exact prE_stop q
          · rw [prE_step hw h2 q, prE_fl hf2]
        have h5 := hQ S2 (by rw [← he, e2]; exact hI2)
        rw [← he, e2, hf2] at h5
        exact h5) (P 1 + ss.length) 0 S (Nat.zero_add _) hI hf
      rw [show decide (σ.2.length < (rnd P ss l 0 σ).2.length) = false from decide_eq_false (Nat.lt_irrefl _)] at h4
      simp (disch := omega) only [wpX12_sweeps_b2, c_0, c_1, c_2, c_3, c_4, c_5, c_6, c_7, c_8, c_9, c_10, c_11, c_12, c_14, c_16, c_19, c_20, c_24, c_31, c_32, c_35, c_48, c_57, c_59, c_63, c_97, c_100, c_122, c_127, c_169, c_255, c_600, c_1000, c_32767, Nat.le_refl, Nat.zero_le, Nat.add_zero, Nat.lt_irrefl, eq_self, o_sub, Nat.sub_zero, Nat.not_lt_zero, ↓ng_d, o_le, o_lt, o_eq, o_add, o_mul, o_cl, o_inT, o_and, n_31, o_shr, o_shl1, o_or, m_lt, m_ge, m_le, m_gt, m_ne, m_ne2, Option.some.injEq, exists_eq_left', true_and, and_true, true_implies, false_implies, implies_true, not_true_eq_false, not_false_eq_true, bI_0, bI_1, bI_01, b01, true_or, or_true, Nat.reduceEqDiff, Bool.not_eq_false, Bool.not_eq_true, Bool.true_eq_false, Bool.false_eq_true]
      exact ⟨_, h4⟩
  have h1 := main 36 σ0 S0 (by have := dsum_le σ0.1; omega) hd0 hb hI0 hf0 rfl
  simp only [wpX12_sweeps, c_0, c_1, c_2, c_3, c_4, c_5, c_6, c_7, c_8, c_9, c_10, c_11, c_12, c_14, c_16, c_19, c_20, c_24, c_31, c_32, c_35, c_48, c_57, c_59, c_63, c_97, c_100, c_122, c_127, c_169, c_255, c_600, c_1000, c_32767, Nat.le_refl, Nat.zero_le, Nat.add_zero, Nat.lt_irrefl, eq_self, o_sub, Nat.sub_zero, Nat.not_lt_zero, ↓ng_d, o_le, o_lt, o_eq, o_add, o_mul, o_cl, o_inT, o_and, n_31, o_shr, o_shl1, o_or, m_lt, m_ge, m_le, m_gt, m_ne, m_ne2, Option.some.injEq, exists_eq_left', true_and, and_true, true_implies, false_implies, implies_true, not_true_eq_false, not_false_eq_true, bI_0, bI_1, bI_01, b01, true_or, or_true, Nat.reduceEqDiff, Bool.not_eq_false, Bool.not_eq_true, Bool.true_eq_false, Bool.false_eq_true]
  exact ⟨_, h1⟩

/-! THE CLASS: constraints by what is asked of them; the search for the least support -/
/-- a member of the constraint -/
noncomputable def inM (κ : Kon) (x : Nat) : Bool := dB (∃ k, k < κ.1 ∧ κ.2.1 k = x)
theorem inM_t {κ : Kon} {x : Nat} : inM κ x = true ↔ ∃ k, k < κ.1 ∧ κ.2.1 k = x := dB_t
noncomputable def scp (κ : Kon) : Nat → Nat := fun x => if inM κ x = true then 31 else 0
theorem scp_t {κ : Kon} {x : Nat} (h : inM κ x = true) : scp κ x = 31 := if_pos h
theorem scp_f {κ : Kon} {x : Nat} (h : inM κ x = false) : scp κ x = 0 := if_neg (by rw [h]; decide)
theorem scp_wf (κ : Kon) : Dwf (scp κ) := fun x _ => by unfold scp; split <;> omega
def vOK (κ : Kon) (d : Nat → Nat) (v : Nat) : Prop := v ≤ 2 ∧ ∀ a, Asg κ d a → (v = 0 → κ.2.2 a = false) ∧ (v = 2 → κ.2.2 a = true) ∧ (v = 1 → (∀ k, k < κ.1 → ∀ u, u < 5 → (d (κ.2.1 k)).testBit u = true → u = a (κ.2.1 k)) → κ.2.2 a = true)
def alk (κ : Kon) (v A : Nat) : Prop := A < 32 ∧ A.testBit v = true ∧ ∀ u, u < 5 → A.testBit u = true → ∀ k, k < κ.1 → ∀ a : Nat → Nat, (∀ j, j < κ.1 → a (κ.2.1 j) < 5) → a (κ.2.1 k) = u → κ.2.2 (ud a (κ.2.1 k) v) = κ.2.2 a
/-- what the class's constraint o answers: it is κ -/
def CC (S : PS) (o : Nat) (κ : Kon) : Prop := pC4 S o ∧ pI S o 1 = nI κ.1 ∧ pJ S o 2 = pk (scp κ) ∧ pI S o 3 = nI (ds 3 κ.2.1 κ.1) ∧ (∀ (d : Nat → Nat) (Q : Int32 → PS → Prop), Dwf d → (∀ v, vOK κ d v → Q (nI v) S) → wpC_verdict S o (pk d) Q) ∧ (∀ (v : Nat) (Q : Int32 → PS → Prop), v < 5 → (∀ A, alk κ v A → Q (nI A) S) → wpC_alike S o (nI v) Q)
/-! ===== pairs ===== -/
theorem w_allOf {S : PS} {x : Nat} {Q : Int64 → PS → Prop} (hx : x < 7) : wpX5_allOf S (nI x) Q = Q (pk (sg x 31)) S := by
  unfold wpX5_allOf
  rw [show (31 : Int64) = lN 31 from rfl, show (5 : Int32) = nI 5 from rfl, o_mul, show (63 : Int64) = lN 63 from rfl, l_shl (by omega), l_allOf x hx]
theorem w_pair {S : PS} {x v : Nat} {Q : Int64 → PS → Prop} (hx : x < 7) (hv : v < 5) : wpX5_pair S (nI x) (nI v) Q = Q (pk (sg x (2 ^ v))) S := by
  unfold wpX5_pair
  rw [show (1 : Int64) = lN 1 from rfl, show (5 : Int32) = nI 5 from rfl, o_mul, o_add, show (63 : Int64) = lN 63 from rfl, l_shl (by omega), l_pair x hx v hv]
theorem w_narrowed {S : PS} {d : Nat → Nat} {x v : Nat} {Q : Int64 → PS → Prop} (hd : Dwf d) (hx : x < 7) (hv : v < 5) : wpX5_narrowed S (pk d) (nI x) (nI v) Q = Q (pk (ud d x (d x &&& 2 ^ v))) S := by
  unfold wpX5_narrowed
  rw [w_allOf hx]
  rw [w_pair hx hv]
  rw [ngL_d, pq_nr hd hx (dm_pow_lt v hv)]
theorem w_valuesOf {S : PS} {d : Nat → Nat} {x : Nat} {Q : Int32 → PS → Prop} (hd : Dwf d) (hx : x < 7) : wpX5_valuesOf S (pk d) (nI x) Q = Q (nI (d x)) S := by
  unfold wpX5_valuesOf pk
  rw [show (5 : Int32) = nI 5 from rfl, o_mul, show (63 : Int64) = lN 63 from rfl, l_ushr (by have := pq_lt hd; omega) (by omega), lN_i, show (31 : Int32) = nI 31 from rfl, o_and, pq_v hd hx]
theorem w_isValue {S : PS} {v : Nat} {Q : Int32 → PS → Prop} (hv : v < 2147483648) : wpX11_isValue S (nI v) Q = Q (bI (decide (v < 5))) S := by
  simp (disch := omega) only [wpX11_isValue, c_0, c_1, c_2, c_3, c_4, c_5, c_6, c_7, c_8, c_9, c_10, c_11, c_12, c_14, c_16, c_19, c_20, c_24, c_31, c_32, c_35, c_48, c_57, c_59, c_63, c_97, c_100, c_122, c_127, c_169, c_255, c_600, c_1000, c_32767, Nat.le_refl, Nat.zero_le, Nat.add_zero, Nat.lt_irrefl, eq_self, o_sub, Nat.sub_zero, Nat.not_lt_zero, ↓ng_d, o_le, o_lt, o_eq, o_add, o_mul, o_cl, o_inT, o_and, n_31, o_shr, o_shl1, o_or, m_lt, m_ge, m_le, m_gt, m_ne, m_ne2, Option.some.injEq, exists_eq_left', true_and, and_true, true_implies, false_implies, implies_true, not_true_eq_false, not_false_eq_true, bI_0, bI_1, bI_01, b01, true_or, or_true, Nat.reduceEqDiff, Bool.not_eq_false, Bool.not_eq_true, Bool.true_eq_false, Bool.false_eq_true]
  by_cases h : 5 ≤ v
  · have : ¬ v < 5 := by omega
    simp [h, this, bI]
  · have : v < 5 := by omega
    simp [h, this, bI]
theorem dm_bit0 : ∀ d, d < 32 → ∀ v, v < 5 → (d &&& 2 ^ v = 0 ↔ d.testBit v = false) := by decide +kernel
theorem pq_sg0 {d : Nat → Nat} {x w : Nat} (hx : x < 7) (hw : w < 32) : (pk (sg x w) = lN 0) = (w = 0) := by
  rw [pq_0 (sg_wf hw)]
  apply propext
  constructor
  · intro h; have := h x hx; rw [sg_s] at this; exact this
  · intro h y hy
    unfold sg
    split
    · exact h
    · rfl
theorem w_has5 {S : PS} {d : Nat → Nat} {x v : Nat} {Q : Int32 → PS → Prop} (hd : Dwf d) (hx : x < 7) (hv : v < 5) : wpX5_has S (pk d) (nI x) (nI v) Q = Q (bI ((d x).testBit v)) S := by
  unfold wpX5_has
  rw [w_isValue (by omega)]
  have e : decide (v < 5) = true := decide_eq_true hv
  simp (disch := omega) only [e, c_0, c_1, c_2, c_3, c_4, c_5, c_6, c_7, c_8, c_9, c_10, c_11, c_12, c_14, c_16, c_19, c_20, c_24, c_31, c_32, c_35, c_48, c_57, c_59, c_63, c_97, c_100, c_122, c_127, c_169, c_255, c_600, c_1000, c_32767, Nat.le_refl, Nat.zero_le, Nat.add_zero, Nat.lt_irrefl, eq_self, o_sub, Nat.sub_zero, Nat.not_lt_zero, ↓ng_d, o_le, o_lt, o_eq, o_add, o_mul, o_cl, o_inT, o_and, n_31, o_shr, o_shl1, o_or, m_lt, m_ge, m_le, m_gt, m_ne, m_ne2, Option.some.injEq, exists_eq_left', true_and, and_true, true_implies, false_implies, implies_true, not_true_eq_false, not_false_eq_true, bI_0, bI_1, bI_01, b01, true_or, or_true, Nat.reduceEqDiff, Bool.not_eq_false, Bool.not_eq_true, Bool.true_eq_false, Bool.false_eq_true, w_pair hx hv]
  rw [pq_asg hd hx (dm_pow_lt v hv), l_0, lg_0, pq_sg0 (d := d) hx (dm_and_lt _ (hd x hx) _ (dm_pow_lt v hv)), propext (dm_bit0 _ (hd x hx) v hv)]
  cases (d x).testBit v <;> simp [bI, c_0, c_1]
/-- a value out of range is in no domain -/
theorem w_has5n {S : PS} {L : Int64} {X v : Int32} {Q : Int32 → PS → Prop} (h : v < nI 0 ∨ nI 5 ≤ v) : wpX5_has S L X v Q = Q (nI 0) S := by
  unfold wpX5_has wpX11_isValue
  rw [c_0, c_5]
  by_cases h1 : v < nI 0
  · simp only [h1, not_true_eq_false, true_implies, false_implies, and_true, eq_self]
  · have h2 : nI 5 ≤ v := h.resolve_left h1
    simp only [h1, h2, not_true_eq_false, not_false_eq_true, true_implies, false_implies, and_true, true_and, eq_self]
def m1 (w : Nat) : Nat := if w = 0 then 0 else 1
theorem m1_wf (d : Nat → Nat) : Dwf (fun x => m1 (d x)) := fun x _ => by show m1 (d x) < 32; unfold m1; split <;> omega
theorem dm_any : ∀ w, w < 32 → (w.testBit 0 || w.testBit 1 || w.testBit 2 || w.testBit 3 || w.testBit 4) = (m1 w).testBit 0 := by decide +kernel
theorem m1_hi : ∀ w, w < 32 → ∀ j, j < 5 → j ≠ 0 → (m1 w).testBit j = false := by decide +kernel
theorem zeros_tb : ∀ i, i < 64 → (1108378657 : Nat).testBit i = (decide (i < 35) && decide (i % 5 = 0)) := by decide +kernel
theorem w_marks {S : PS} {d : Nat → Nat} {Q : Int64 → PS → Prop} (hd : Dwf d) : wpX5_marks S (pk d) Q = Q (pk (fun x => m1 (d x))) S := by
  unfold wpX5_marks
  have hl := pq_lt hd
  congr 1
  unfold pk
  rw [show (63 : Int64) = lN 63 from rfl, show (1 : Int32) = nI 1 from rfl, show (2 : Int32) = nI 2 from rfl, show (3 : Int32) = nI 3 from rfl, show (4 : Int32) = nI 4 from rfl, l_ushr (by omega) (by decide), l_ushr (by omega) (by decide), l_ushr (by omega) (by decide), l_ushr (by omega) (by decide), lN_or, lN_or, lN_or, lN_or, show (1108378657 : Int64) = lN 1108378657 from rfl, lN_and]
  refine pq_of (m1_wf d) (fun i => ?_)
  rw [Nat.testBit_and, Nat.testBit_or, Nat.testBit_or, Nat.testBit_or, Nat.testBit_or, Nat.testBit_shiftRight, Nat.testBit_shiftRight, Nat.testBit_shiftRight, Nat.testBit_shiftRight]
  by_cases h64 : i < 64
  · rw [zeros_tb i h64]
    by_cases h : i < 35
    · by_cases h5 : i % 5 = 0
      · have e : ∀ j, j < 5 → (ds 5 d 7).testBit (j + i) = (d (i / 5)).testBit j := fun j hj => by
          rw [pq_tb hd]
          have e1 : (j + i) / 5 = i / 5 := by omega
          have e2 : (j + i) % 5 = j := by omega
          have e3 : j + i < 35 := by omega
          rw [e1, e2]
          simp [e3]
        have e0 := e 0 (by decide)
        rw [Nat.zero_add] at e0
        rw [e0, e 1 (by decide), e 2 (by decide), e 3 (by decide), e 4 (by decide), dm_any _ (hd _ (i5 h).1), h5]
        simp [h]
      · rw [m1_hi _ (hd _ (i5 h).1) _ (i5 h).2 h5]
        simp [h5]
    · simp [h]
  · have : (1108378657 : Nat).testBit i = false := Nat.testBit_lt_two_pow (Nat.lt_of_lt_of_le (show (1108378657 : Nat) < 2 ^ 64 by decide) (Nat.pow_le_pow_right (by decide) (by omega)))
    have h35 : ¬ i < 35 := by omega
    simp [this, h35]
/-- how many variables have a value -/
def nzs (d : Nat → Nat) : Nat := cN (fun x => decide (d x ≠ 0)) 7
theorem dsum_m1 (d : Nat → Nat) : dsum (fun x => m1 (d x)) = nzs d := by
  have h : ∀ n, sN (fun x => pcn 5 (m1 (d x))) n = cN (fun x => decide (d x ≠ 0)) n := by
    intro n
    induction n with
    | zero => rfl
    | succ n ih =>
      simp only [sN, cN]
      rw [ih]
      unfold m1
      by_cases e : d n = 0
      · simp [e, pcn]
      · simp [e, pcn]
  exact h 7
theorem w_variablesIn {S : PS} {d : Nat → Nat} {Q : Int32 → PS → Prop} (hd : Dwf d) : wpX5_variablesIn S (pk d) Q = Q (nI (nzs d)) S := by
  unfold wpX5_variablesIn
  rw [w_marks hd]
  rw [w_bcl, bcl_pk (m1_wf d), dsum_m1]
/-- the least value alone -/
def lo1 (w : Nat) : Nat := if w = 0 then 0 else 2 ^ pick5 (dF w)
theorem lo1_lt : ∀ w, w < 32 → lo1 w < 32 := by decide +kernel
theorem l_lo1 : ∀ x, x < 7 → ∀ w, w < 32 → pk (sg x w) &&& (-(pk (sg x w))) = pk (sg x (lo1 w)) := by decide +kernel
theorem q_leastOfEach {S : PS} {d : Nat → Nat} {Q : Int64 → PS → Prop} (hd : Dwf d) (hQ : Q (pk (fun x => lo1 (d x))) S) : wpX5_leastOfEach S (pk d) Q := by
  have main : ∀ r k, k + r = 7 → wpX5_leastOfEach_b5 Q (r + 1) S (pk d) (pk (fun x => if x < k then lo1 (d x) else 0)) (nI k) := by
    intro r
    induction r with
    | zero =>
      intro k hk
      have : k = 7 := by omega
      subst this
      have e : pk (fun x => if x < 7 then lo1 (d x) else 0) = pk (fun x => lo1 (d x)) := pq_cg (fun x hx => if_pos hx)
      simp (disch := omega) only [wpX5_leastOfEach_b5, c_0, c_1, c_2, c_3, c_4, c_5, c_6, c_7, c_8, c_9, c_10, c_11, c_12, c_14, c_16, c_19, c_20, c_24, c_31, c_32, c_35, c_48, c_57, c_59, c_63, c_97, c_100, c_122, c_127, c_169, c_255, c_600, c_1000, c_32767, Nat.le_refl, Nat.zero_le, Nat.add_zero, Nat.lt_irrefl, eq_self, o_sub, Nat.sub_zero, Nat.not_lt_zero, ↓ng_d, o_le, o_lt, o_eq, o_add, o_mul, o_cl, o_inT, o_and, n_31, o_shr, o_shl1, o_or, m_lt, m_ge, m_le, m_gt, m_ne, m_ne2, Option.some.injEq, exists_eq_left', true_and, and_true, true_implies, false_implies, implies_true, not_true_eq_false, not_false_eq_true, bI_0, bI_1, bI_01, b01, true_or, or_true, Nat.reduceEqDiff, Bool.not_eq_false, Bool.not_eq_true, Bool.true_eq_false, Bool.false_eq_true]
      rw [e]
      exact hQ
    | succ r ih =>
      intro k hk
      have e : ¬ 7 ≤ k := by omega
      have hdk := hd k (by omega)
      have hn := ih (k + 1) (by omega)
      generalize r + 1 = fu at hn ⊢
      have hw1 : Dwf (fun x => if x < k then lo1 (d x) else 0) := fun x hx => by
        show (if x < k then lo1 (d x) else 0) < 32
        split
        · exact lo1_lt _ (hd x hx)
        · omega
      have e2 : pk (fun x => if x < k then lo1 (d x) else 0) ||| pk (sg k (lo1 (d k))) = pk (fun x => if x < k + 1 then lo1 (d x) else 0) := by
        rw [pq_or hw1 (sg_wf (lo1_lt _ hdk))]
        apply pq_cg
        intro x hx
        show (if x < k then lo1 (d x) else 0) ||| sg k (lo1 (d k)) x = if x < k + 1 then lo1 (d x) else 0
        by_cases q : x = k
        · subst q; rw [sg_s, if_neg (Nat.lt_irrefl _), if_pos (Nat.lt_succ_self _), Nat.zero_or]
        · rw [sg_n q, Nat.or_zero]
          by_cases q2 : x < k
          · rw [if_pos q2, if_pos (by omega)]
          · rw [if_neg q2, if_neg (by omega)]
      simp (disch := omega) only [wpX5_leastOfEach_b5, c_0, c_1, c_2, c_3, c_4, c_5, c_6, c_7, c_8, c_9, c_10, c_11, c_12, c_14, c_16, c_19, c_20, c_24, c_31, c_32, c_35, c_48, c_57, c_59, c_63, c_97, c_100, c_122, c_127, c_169, c_255, c_600, c_1000, c_32767, Nat.le_refl, Nat.zero_le, Nat.add_zero, Nat.lt_irrefl, eq_self, o_sub, Nat.sub_zero, Nat.not_lt_zero, ↓ng_d, o_le, o_lt, o_eq, o_add, o_mul, o_cl, o_inT, o_and, n_31, o_shr, o_shl1, o_or, m_lt, m_ge, m_le, m_gt, m_ne, m_ne2, Option.some.injEq, exists_eq_left', true_and, and_true, true_implies, false_implies, implies_true, not_true_eq_false, not_false_eq_true, bI_0, bI_1, bI_01, b01, true_or, or_true, Nat.reduceEqDiff, Bool.not_eq_false, Bool.not_eq_true, Bool.true_eq_false, Bool.false_eq_true, e, w_allOf]
      rw [pq_asg hd (by omega) (by decide), dm_31 _ hdk, l_lo1 _ (by omega) _ hdk, e2]
      exact hn
  have h1 := main 7 0 rfl
  have e0 : pk (fun x => if x < 0 then lo1 (d x) else 0) = lN 0 := by rw [pq_z]; exact pq_cg (fun x _ => if_neg (Nat.not_lt_zero _))
  rw [e0] at h1
  unfold wpX5_leastOfEach
  exact ⟨_, h1⟩
/-! ===== places of a constraint ===== -/
theorem ds3_at {m : Nat → Nat} {n k : Nat} (hm : ∀ i, i < n → m i < 8) (hk : k < n) : (ds 3 m n >>> (3 * k)) &&& 7 = m k := by
  apply Nat.eq_of_testBit_eq
  intro i
  rw [Nat.testBit_and, Nat.testBit_shiftRight, ds_tb (by decide) hm, show (7 : Nat) = 2 ^ 3 - 1 from rfl, Nat.testBit_two_pow_sub_one]
  by_cases h : i < 3
  · have e1 : (3 * k + i) / 3 = k := by omega
    have e2 : (3 * k + i) % 3 = i := by omega
    have e3 : 3 * k + i < 3 * n := by omega
    rw [e1, e2]
    simp [h, e3]
  · have : (m k).testBit i = false := Nat.testBit_lt_two_pow (Nat.lt_of_lt_of_le (hm k hk) (show 2 ^ 3 ≤ 2 ^ i from Nat.pow_le_pow_right (by decide) (by omega)))
    simp [h, this]
theorem ds3_lt {m : Nat → Nat} {n : Nat} (hm : ∀ i, i < n → m i < 8) (hn : n ≤ 7) : ds 3 m n < 2097152 := Nat.lt_of_lt_of_le (ds_lt (k := 3) hm) (show 2 ^ (3 * n) ≤ 2 ^ 21 from Nat.pow_le_pow_right (by decide) (by omega))
theorem w_variableAt {S : PS} {o : Nat} {κ : Kon} {k : Nat} {Q : Int32 → PS → Prop} (h4 : pC4 S o) (h3 : pI S o 3 = nI (ds 3 κ.2.1 κ.1)) (hκ : Kwf κ) (hk : k < κ.1) : wpX1_variableAt S o (nI k) Q = Q (nI (κ.2.1 k)) S := by
  have hm : ∀ i, i < κ.1 → κ.2.1 i < 8 := fun i hi => by have := hκ.2.1 i hi; omega
  have hlt := ds3_lt hm hκ.1
  have hk7 := hκ.1
  unfold wpX1_variableAt
  rw [h3, show (3 : Int32) = nI 3 from rfl, o_mul, show (31 : Int32) = nI 31 from rfl, o_ushr (by omega) (by omega), show (7 : Int32) = nI 7 from rfl, o_and, ds3_at hm hk]
  exact propext ⟨fun q => q.2, fun q => ⟨h4, q⟩⟩
theorem w_hasVariable {S : PS} {o : Nat} {κ : Kon} {x : Nat} {Q : Int32 → PS → Prop} (h4 : pC4 S o) (h2 : pJ S o 2 = pk (scp κ)) (hx : x < 7) : wpX1_hasVariable S o (nI x) Q = Q (bI (inM κ x)) S := by
  unfold wpX1_hasVariable
  have e7 : ¬ 7 ≤ x := by omega
  simp (disch := omega) only [c_0, c_1, c_2, c_3, c_4, c_5, c_6, c_7, c_8, c_9, c_10, c_11, c_12, c_14, c_16, c_19, c_20, c_24, c_31, c_32, c_35, c_48, c_57, c_59, c_63, c_97, c_100, c_122, c_127, c_169, c_255, c_600, c_1000, c_32767, Nat.le_refl, Nat.zero_le, Nat.add_zero, Nat.lt_irrefl, eq_self, o_sub, Nat.sub_zero, Nat.not_lt_zero, ↓ng_d, o_le, o_lt, o_eq, o_add, o_mul, o_cl, o_inT, o_and, n_31, o_shr, o_shl1, o_or, m_lt, m_ge, m_le, m_gt, m_ne, m_ne2, Option.some.injEq, exists_eq_left', true_and, and_true, true_implies, false_implies, implies_true, not_true_eq_false, not_false_eq_true, bI_0, bI_1, bI_01, b01, true_or, or_true, Nat.reduceEqDiff, Bool.not_eq_false, Bool.not_eq_true, Bool.true_eq_false, Bool.false_eq_true, e7, w_allOf hx, h4, h2]
  rw [pq_asg (scp_wf κ) hx (by decide), l_0, lg_0, pq_sg0 (d := scp κ) hx (dm_and_lt _ (scp_wf κ x hx) _ (by decide)), dm_31 _ (scp_wf κ x hx)]
  unfold scp
  cases inM κ x <;> simp [bI, c_0, c_1]

/-! THE CLASS: the least support -/
def lexlt (κ : Kon) (a b : Nat → Nat) : Prop := ∃ k, k < κ.1 ∧ a (κ.2.1 k) < b (κ.2.1 k) ∧ ∀ j, j < k → a (κ.2.1 j) = b (κ.2.1 j)
def agr (κ : Kon) (a b : Nat → Nat) : Prop := ∀ k, k < κ.1 → a (κ.2.1 k) = b (κ.2.1 k)
/-- the lexicographically first that fulfils -/
def Lea (κ : Kon) (d a : Nat → Nat) : Prop := Ful κ d a ∧ ∀ b, Ful κ d b → agr κ a b ∨ lexlt κ a b
theorem lex_as {κ : Kon} {a b : Nat → Nat} (h : lexlt κ a b) (h2 : agr κ b a ∨ lexlt κ b a) : False := by
  obtain ⟨k, h1, h3, h4⟩ := h
  rcases h2 with q | ⟨j, q1, q2, q3⟩
  · have := q k h1; omega
  · by_cases e : j < k
    · have := h4 j e; omega
    · by_cases e2 : k < j
      · have := q3 k e2; omega
      · have : j = k := by omega
        subst this; omega
theorem Lea_uq {κ : Kon} {d a b : Nat → Nat} (h1 : Lea κ d a) (h2 : Lea κ d b) : agr κ a b := by
  rcases h1.2 b h2.1 with q | q
  · exact q
  · exact (lex_as q (h2.2 a h1.1)).elim
/-- an assignment's pairs -/
noncomputable def oneOf (κ : Kon) (a : Nat → Nat) : Nat → Nat := fun x => if inM κ x = true then 2 ^ a x else 0
theorem oneOf_wf {κ : Kon} {a : Nat → Nat} (h : ∀ k, k < κ.1 → a (κ.2.1 k) < 5) : Dwf (oneOf κ a) := fun x _ => by
  unfold oneOf
  by_cases e : inM κ x = true
  · rw [if_pos e]
    obtain ⟨k, hk, rfl⟩ := inM_t.mp e
    exact dm_pow_lt _ (h k hk)
  · rw [if_neg e]; omega
/-- what the search answers -/
def Lres (κ : Kon) (d : Nat → Nat) (res : Int64) : Prop := (res = lN 0 ∧ ¬ Can κ d) ∨ ∃ a, Lea κ d a ∧ res = pk (oneOf κ a)
theorem Lres_0 {κ : Kon} {d : Nat → Nat} {res : Int64} (hκ : Kwf κ) (hn : 0 < κ.1) (h : Lres κ d res) : (res = lN 0) = ¬ Can κ d := by
  apply propext
  rcases h with ⟨h1, h2⟩ | ⟨a, h1, rfl⟩
  · exact ⟨fun _ => h2, fun _ => h1⟩
  · have ha : ∀ k, k < κ.1 → a (κ.2.1 k) < 5 := fun k hk => (h1.1.1 k hk).1
    rw [pq_0 (oneOf_wf ha)]
    constructor
    · intro q
      have h2 := q (κ.2.1 0) (hκ.2.1 0 hn)
      unfold oneOf at h2
      rw [if_pos (inM_t.mpr ⟨0, hn, rfl⟩)] at h2
      have := Nat.pow_pos (n := a (κ.2.1 0)) (show 0 < 2 by decide)
      omega
    · intro q; exact absurd ⟨a, h1.1⟩ q
theorem lo1_tb : ∀ w, w < 32 → w ≠ 0 → pick5 (dF w) < 5 ∧ w.testBit (pick5 (dF w)) = true ∧ ∀ u, u < 5 → w.testBit u = true → pick5 (dF w) ≤ u := by decide +kernel
/-- all least values together -/
def a0 (d : Nat → Nat) : Nat → Nat := fun x => pick5 (dF (d x))
theorem a0_asg {κ : Kon} {d : Nat → Nat} (hκ : Kwf κ) (hd : Dwf d) (h : ∀ k, k < κ.1 → d (κ.2.1 k) ≠ 0) : Asg κ d (a0 d) := fun k hk => by
  have := lo1_tb _ (hd _ (hκ.2.1 k hk)) (h k hk)
  exact ⟨this.1, this.2.1⟩
theorem a0_lea {κ : Kon} {d : Nat → Nat} (hκ : Kwf κ) (hd : Dwf d) (h : ∀ k, k < κ.1 → d (κ.2.1 k) ≠ 0) (hok : κ.2.2 (a0 d) = true) : Lea κ d (a0 d) := by
  refine ⟨⟨a0_asg hκ hd h, hok⟩, fun b hb => ?_⟩
  have hle : ∀ k, k < κ.1 → a0 d (κ.2.1 k) ≤ b (κ.2.1 k) := fun k hk => (lo1_tb _ (hd _ (hκ.2.1 k hk)) (h k hk)).2.2 _ (hb.1 k hk).1 (hb.1 k hk).2
  apply Classical.byContradiction
  intro q
  have q1 : ¬ agr κ (a0 d) b := fun w => q (Or.inl w)
  apply q1
  intro k
  induction k using Nat.strongRecOn with
  | _ k ih =>
    intro hk
    apply Classical.byContradiction
    intro e
    exact q (Or.inr ⟨k, hk, by have := hle k hk; omega, fun j hj => ih j hj (by omega)⟩)
/-- the number of members -/
theorem inM_cnt {κ : Kon} (hκ : Kwf κ) : cN (fun x => inM κ x) 7 = κ.1 := by
  have h : ∀ n, n ≤ κ.1 → cN (fun x => dB (∃ k, k < n ∧ κ.2.1 k = x)) 7 = n := by
    intro n
    induction n with
    | zero =>
      intro _
      have : ∀ j, cN (fun x => dB (∃ k, k < 0 ∧ κ.2.1 k = x)) j = 0 := by
        intro j
        induction j with
        | zero => rfl
        | succ j ih =>
          rw [cN_s, ih, show dB (∃ k, k < 0 ∧ κ.2.1 k = j) = false from dB_f.mpr (fun ⟨k, q, _⟩ => by omega)]
          rfl
      exact this 7
    | succ n ih =>
      intro hn
      have h1 := ih (by omega)
      have h7 := hκ.2.1 n (by omega)
      have hfresh : dB (∃ k, k < n ∧ κ.2.1 k = κ.2.1 n) = false := dB_f.mpr (fun ⟨k, q, w⟩ => by have := hκ.2.2.1 k n (by omega) (by omega) w; omega)
      have gen : ∀ j, cN (fun x => dB (∃ k, k < n + 1 ∧ κ.2.1 k = x)) j = cN (fun x => dB (∃ k, k < n ∧ κ.2.1 k = x)) j + (if κ.2.1 n < j then 1 else 0) := by
        intro j
        induction j with
        | zero => simp [cN]
        | succ j ihj =>
          rw [cN_s, cN_s, ihj]
          by_cases e : κ.2.1 n = j
          · have t1 : dB (∃ k, k < n + 1 ∧ κ.2.1 k = j) = true := dB_t.mpr ⟨n, by omega, e⟩
            have t2 : dB (∃ k, k < n ∧ κ.2.1 k = j) = false := by rw [← e]; exact hfresh
            rw [t1, t2, if_neg (show ¬ κ.2.1 n < j by omega), if_pos (show κ.2.1 n < j + 1 by omega)]
            simp
          · have t : dB (∃ k, k < n + 1 ∧ κ.2.1 k = j) = dB (∃ k, k < n ∧ κ.2.1 k = j) := dB_c ⟨fun ⟨k, q, w⟩ => ⟨k, Or.elim (Nat.lt_or_ge k n) id (fun z => absurd ((show k = n by omega) ▸ w) e), w⟩, fun ⟨k, q, w⟩ => ⟨k, by omega, w⟩⟩
            rw [t]
            by_cases z : κ.2.1 n < j
            · rw [if_pos z, if_pos (show κ.2.1 n < j + 1 by omega)]; omega
            · rw [if_neg z, if_neg (show ¬ κ.2.1 n < j + 1 by omega)]; omega
      rw [gen 7, h1, if_pos h7]
  exact h κ.1 (Nat.le_refl _)
/-- all members have a value just where so many pairs are left -/
theorem cN_full {p q : Nat → Bool} : ∀ n, (∀ i, i < n → p i = true → q i = true) → (cN p n = cN q n ↔ ∀ i, i < n → q i = true → p i = true) := by
  intro n h
  have hle : ∀ n, (∀ i, i < n → p i = true → q i = true) → cN p n ≤ cN q n := by
    intro n
    induction n with
    | zero => intro _; exact Nat.le_refl _
    | succ n ih =>
      intro h
      have h1 := ih (fun i hi => h i (by omega))
      have h2 := h n (by omega)
      simp only [cN]
      cases hp : p n
      · simp; omega
      · rw [h2 hp]; simp; omega
  induction n with
  | zero => exact ⟨fun _ i hi => by omega, fun _ => rfl⟩
  | succ n ih =>
    have h1 := ih (fun i hi => h i (by omega))
    have h2 := h n (by omega)
    have h3 := hle n (fun i hi => h i (by omega))
    simp only [cN]
    constructor
    · intro e i hi hq
      by_cases z : i = n
      · subst z
        cases hp : p i
        · rw [hp, hq] at e; simp at e; omega
        · rfl
      · refine h1.mp ?_ i (by omega) hq
        cases hp : p n
        · cases hqn : q n
          · rw [hp, hqn] at e; simpa using e
          · rw [hp, hqn] at e; simp at e; omega
        · rw [hp, h2 hp] at e; simpa using e
    · intro e
      rw [h1.mpr (fun i hi => e i (by omega))]
      cases hp : p n
      · cases hqn : q n
        · rfl
        · have := e n (by omega) hqn; rw [hp] at this; cases this
      · rw [h2 hp]
theorem lo1_0 : ∀ w, w < 32 → (lo1 w = 0 ↔ w = 0) := by decide +kernel
theorem lo1_1 : ∀ w, w < 32 → pcn 5 (lo1 w) = if w = 0 then 0 else 1 := by decide +kernel
theorem dsum_lo1 {e : Nat → Nat} (he : Dwf e) : dsum (fun x => lo1 (e x)) = cN (fun x => decide (e x ≠ 0)) 7 := by
  have h : ∀ n, n ≤ 7 → sN (fun x => pcn 5 (lo1 (e x))) n = cN (fun x => decide (e x ≠ 0)) n := by
    intro n
    induction n with
    | zero => intro _; rfl
    | succ n ih =>
      intro hn
      simp only [sN, cN]
      rw [ih (by omega), lo1_1 _ (he n (by omega))]
      by_cases q : e n = 0
      · simp [q]
      · simp [q]
  exact h 7 (Nat.le_refl _)
theorem and_scp {κ : Kon} {d : Nat → Nat} (hd : Dwf d) {x : Nat} (hx : x < 7) : d x &&& scp κ x = if inM κ x = true then d x else 0 := by
  unfold scp
  split
  · exact dm_31 _ (hd x hx)
  · exact Nat.and_zero _
/-- the end of the search: all the least values, if each member has one -/
theorem q_lf28 {S : PS} {o : Nat} {κ : Kon} {d : Nat → Nat} {Rc : PS → Nat → Int64 → Int32 → (Int64 → PS → Prop) → Prop} {Q : Int64 → PS → Prop} {x3 x4 : Int32} (h4 : pC4 S o) (h1 : pI S o 1 = nI κ.1) (h2 : pJ S o 2 = pk (scp κ)) (hκ : Kwf κ) (hd : Dwf d)
    (hok : (∀ k, k < κ.1 → d (κ.2.1 k) ≠ 0) → κ.2.2 (a0 d) = true) (hQ : ∀ res, Lres κ d res → Q res S) : wpX1_leastFrom_b28 Rc Q S o (pk d) x3 x4 := by
  have hk7 := hκ.1
  have he : Dwf (fun x => d x &&& scp κ x) := fun x hx => dm_and_lt _ (hd x hx) _ (scp_wf κ x hx)
  unfold wpX1_leastFrom_b28
  refine ⟨h4, ?_⟩
  rw [h2, pq_and hd (scp_wf κ)]
  refine q_leastOfEach he ?_
  show wpJ13_bitCount_95d88 S _ _
  rw [w_bcl, bcl_pk (fun x hx => lo1_lt _ (he x hx)), dsum_lo1 he]
  refine ⟨h4, ?_⟩
  rw [h1]
  have hc7 := cN_le (fun x => decide (d x &&& scp κ x ≠ 0)) 7
  rw [o_eq (by omega) (by omega)]
  have hiff : (cN (fun x => decide (d x &&& scp κ x ≠ 0)) 7 = κ.1) ↔ ∀ k, k < κ.1 → d (κ.2.1 k) ≠ 0 := by
    have h3 := cN_full (p := fun x => decide (d x &&& scp κ x ≠ 0)) (q := fun x => inM κ x) 7 (fun i hi q => by
      rw [and_scp hd hi] at q
      cases hm : inM κ i
      · simp [hm] at q
      · rfl)
    rw [inM_cnt hκ] at h3
    rw [h3]
    constructor
    · intro w k hk
      have h5 := w _ (hκ.2.1 k hk) (inM_t.mpr ⟨k, hk, rfl⟩)
      rw [and_scp hd (hκ.2.1 k hk), if_pos (inM_t.mpr ⟨k, hk, rfl⟩)] at h5
      simpa using h5
    · intro w i hi hm
      obtain ⟨k, hk, rfl⟩ := inM_t.mp hm
      rw [and_scp hd hi, if_pos hm]
      simpa using w k hk
  rw [propext hiff]
  constructor
  · intro hne
    exact hQ _ (Or.inl ⟨rfl, fun ⟨a, ha, _⟩ => hne (fun k hk h0 => by have := (ha k hk).2; rw [h0] at this; simp at this)⟩)
  · intro hall
    refine hQ _ (Or.inr ⟨a0 d, a0_lea hκ hd hall (hok hall), ?_⟩)
    apply pq_cg
    intro x hx
    rw [and_scp hd hx]
    unfold oneOf
    cases hm : inM κ x
    · simp [lo1]
    · obtain ⟨k, hk, rfl⟩ := inM_t.mp hm
      have := hall k hk
      simp [lo1, this, a0]
theorem and_pow : ∀ d, d < 32 → ∀ v, v < 5 → d.testBit v = true → d &&& 2 ^ v = 2 ^ v := by decide +kernel
theorem ud_asg {κ : Kon} {d a : Nat → Nat} (hκ : Kwf κ) {p u : Nat} (hp : p < κ.1) (hu : u < 5) (hd : Dwf d) : Asg κ (ud d (κ.2.1 p) (2 ^ u)) a ↔ (a (κ.2.1 p) = u ∧ ∀ k, k < κ.1 → k ≠ p → a (κ.2.1 k) < 5 ∧ (d (κ.2.1 k)).testBit (a (κ.2.1 k)) = true) := by
  constructor
  · intro h
    refine ⟨?_, fun k hk hn => ?_⟩
    · have := h p hp
      rw [ud_s, dm_pow_tb u hu _ this.1] at this
      simpa using this.2
    · have := h k hk
      rw [ud_n _ _ (fun q => hn (hκ.2.2.1 k p hk hp q))] at this
      exact this
  · rintro ⟨h1, h2⟩ k hk
    by_cases e : k = p
    · subst e
      rw [ud_s, h1, dm_pow_tb u hu u hu]
      exact ⟨hu, by simp⟩
    · rw [ud_n _ _ (fun q => e (hκ.2.2.1 k p hk hp q))]
      exact h2 k hk e
theorem asg_ud {κ : Kon} {d a : Nat → Nat} (hκ : Kwf κ) {p : Nat} (hp : p < κ.1) (hd : Dwf d) (h : Asg κ d a) : Asg κ (ud d (κ.2.1 p) (2 ^ a (κ.2.1 p))) a := (ud_asg hκ hp (h p hp).1 hd).mpr ⟨rfl, fun k hk _ => h k hk⟩
theorem asg_of_ud {κ : Kon} {d a : Nat → Nat} (hκ : Kwf κ) {p u : Nat} (hp : p < κ.1) (hu : u < 5) (hd : Dwf d) (hb : (d (κ.2.1 p)).testBit u = true) (h : Asg κ (ud d (κ.2.1 p) (2 ^ u)) a) : Asg κ d a := fun k hk => by
  obtain ⟨h1, h2⟩ := (ud_asg hκ hp hu hd).mp h
  by_cases e : k = p
  · subst e; rw [h1]; exact ⟨hu, hb⟩
  · exact h2 k hk e
/-- what an alike value cannot, another one cannot -/
theorem alk_can {κ : Kon} {d : Nat → Nat} (hκ : Kwf κ) (hd : Dwf d) {p v u A : Nat} (hp : p < κ.1) (hv : v < 5) (hu : u < 5) (hA : alk κ v A) (hb : A.testBit u = true) (hn : ¬ Can κ (ud d (κ.2.1 p) (2 ^ v))) : ¬ Can κ (ud d (κ.2.1 p) (2 ^ u)) := by
  rintro ⟨a, h1, h2⟩
  apply hn
  obtain ⟨h3, h4⟩ := (ud_asg hκ hp hu hd).mp h1
  refine ⟨ud a (κ.2.1 p) v, (ud_asg hκ hp hv hd).mpr ⟨ud_s _ _ _, fun k hk hne => ?_⟩, ?_⟩
  · rw [ud_n _ _ (fun q => hne (hκ.2.2.1 k p hk hp q))]
    exact h4 k hk hne
  · rw [hA.2.2 u hu hb p hp a (fun j hj => (h1 j hj).1) h3]
    exact h2
theorem lf_bit (x v : Nat) : (x >>> v) &&& 1 = if x.testBit v then 1 else 0 := by
  have h : ((x >>> v) &&& 1).testBit 0 = x.testBit v := by rw [Nat.testBit_and, Nat.testBit_shiftRight]; simp
  have h1 : (x >>> v) &&& 1 < 2 := Nat.lt_of_le_of_lt Nat.and_le_right (by decide)
  generalize (x >>> v) &&& 1 = z at h h1
  have : z = 0 ∨ z = 1 := by omega
  rcases this with rfl | rfl
  · rw [← h]; rfl
  · rw [← h]; rfl
theorem q_least {S : PS} {o : Nat} {κ : Kon} (hC : CC S o κ) (hκ : Kwf κ) : ∀ (dep r p : Nat) (d : Nat → Nat) (Q : Int64 → PS → Prop), p + r = κ.1 → r < dep → Dwf d → (∀ k, k < p → ∃ u, u < 5 ∧ d (κ.2.1 k) = 2 ^ u) → 0 < κ.1 → (∀ res, Lres κ d res → Q res S) → wpX1_leastFrom dep S o (pk d) (nI p) Q := by
  obtain ⟨h4, hc1, hc2, hc3, hver, halk⟩ := hC
  have hk7 := hκ.1
  intro dep
  induction dep with
  | zero => intro r p d Q _ h; omega
  | succ dep ihd =>
    intro r p d Q hpr hdep hd hfix hn0 hQ
    unfold wpX1_leastFrom
    refine ⟨h4, hver d _ hd (fun v hv => ?_)⟩
    obtain ⟨hv2, hva⟩ := hv
    have e028 : v ≠ 0 → (∀ k, k < κ.1 → d (κ.2.1 k) ≠ 0) → (v = 2 ∨ p = κ.1) → κ.2.2 (a0 d) = true := by
      intro hv0 hall hor
      have hA := a0_asg hκ hd hall
      have h5 := hva _ hA
      by_cases e : v = 2
      · exact h5.2.1 e
      · have hp : p = κ.1 := hor.resolve_left e
        refine h5.2.2 (by omega) (fun k hk u hu hb => ?_)
        obtain ⟨w, hw, hdw⟩ := hfix k (by omega)
        have h6 := (hA k hk)
        rw [hdw, dm_pow_tb w hw u hu] at hb
        rw [hdw, dm_pow_tb w hw _ h6.1] at h6
        have h7 : u = w := by simpa using hb
        have h8 : a0 d (κ.2.1 k) = w := by simpa using h6.2
        rw [h7, h8]
    by_cases ev0 : v = 0
    · subst ev0
      have hno : ¬ Can κ d := fun ⟨a, ha, hok⟩ => by rw [(hva a ha).1 rfl] at hok; cases hok
      have h1 := hQ (lN 0) (Or.inl ⟨rfl, hno⟩)
      simp (disch := omega) only [c_0, c_1, c_2, c_3, c_4, c_5, c_6, c_7, c_8, c_9, c_10, c_11, c_12, c_14, c_16, c_19, c_20, c_24, c_31, c_32, c_35, c_48, c_57, c_59, c_63, c_97, c_100, c_122, c_127, c_169, c_255, c_600, c_1000, c_32767, Nat.le_refl, Nat.zero_le, Nat.add_zero, Nat.lt_irrefl, eq_self, o_sub, Nat.sub_zero, Nat.not_lt_zero, ↓ng_d, o_le, o_lt, o_eq, o_add, o_mul, o_cl, o_inT, o_and, n_31, o_shr, o_shl1, o_or, m_lt, m_ge, m_le, m_gt, m_ne, m_ne2, Option.some.injEq, exists_eq_left', true_and, and_true, true_implies, false_implies, implies_true, not_true_eq_false, not_false_eq_true, bI_0, bI_1, bI_01, b01, true_or, or_true, Nat.reduceEqDiff, Bool.not_eq_false, Bool.not_eq_true, Bool.true_eq_false, Bool.false_eq_true]
      exact h1
    · by_cases ev2 : v = 2
      · have h1 := q_lf28 (Rc := wpX1_leastFrom dep) (Q := Q) (x3 := nI p) (x4 := nI v) h4 hc1 hc2 hκ hd (fun hall => e028 ev0 hall (Or.inl ev2)) hQ
        simp (disch := omega) only [c_0, c_1, c_2, c_3, c_4, c_5, c_6, c_7, c_8, c_9, c_10, c_11, c_12, c_14, c_16, c_19, c_20, c_24, c_31, c_32, c_35, c_48, c_57, c_59, c_63, c_97, c_100, c_122, c_127, c_169, c_255, c_600, c_1000, c_32767, Nat.le_refl, Nat.zero_le, Nat.add_zero, Nat.lt_irrefl, eq_self, o_sub, Nat.sub_zero, Nat.not_lt_zero, ↓ng_d, o_le, o_lt, o_eq, o_add, o_mul, o_cl, o_inT, o_and, n_31, o_shr, o_shl1, o_or, m_lt, m_ge, m_le, m_gt, m_ne, m_ne2, Option.some.injEq, exists_eq_left', true_and, and_true, true_implies, false_implies, implies_true, not_true_eq_false, not_false_eq_true, bI_0, bI_1, bI_01, b01, true_or, or_true, Nat.reduceEqDiff, Bool.not_eq_false, Bool.not_eq_true, Bool.true_eq_false, Bool.false_eq_true, ev0, ev2] at h1 ⊢
        exact h1
      · by_cases ep : p = κ.1
        · have h1 := q_lf28 (Rc := wpX1_leastFrom dep) (Q := Q) (x3 := nI p) (x4 := nI v) h4 hc1 hc2 hκ hd (fun hall => e028 ev0 hall (Or.inr ep)) hQ
          have e9 : ¬ p < κ.1 := by omega
          simp (disch := omega) only [c_0, c_1, c_2, c_3, c_4, c_5, c_6, c_7, c_8, c_9, c_10, c_11, c_12, c_14, c_16, c_19, c_20, c_24, c_31, c_32, c_35, c_48, c_57, c_59, c_63, c_97, c_100, c_122, c_127, c_169, c_255, c_600, c_1000, c_32767, Nat.le_refl, Nat.zero_le, Nat.add_zero, Nat.lt_irrefl, eq_self, o_sub, Nat.sub_zero, Nat.not_lt_zero, ↓ng_d, o_le, o_lt, o_eq, o_add, o_mul, o_cl, o_inT, o_and, n_31, o_shr, o_shl1, o_or, m_lt, m_ge, m_le, m_gt, m_ne, m_ne2, Option.some.injEq, exists_eq_left', true_and, and_true, true_implies, false_implies, implies_true, not_true_eq_false, not_false_eq_true, bI_0, bI_1, bI_01, b01, true_or, or_true, Nat.reduceEqDiff, Bool.not_eq_false, Bool.not_eq_true, Bool.true_eq_false, Bool.false_eq_true, ev0, ev2, hc1, e9, h4]
          exact h1
        · have ep2 : p < κ.1 := by omega
          have hx7 := hκ.2.1 p ep2
          have hdx := hd _ hx7
          -- the loop over the values
          have loop : ∀ r2 u left, u + r2 = 5 → left < 32 → (∀ w, w < 5 → left.testBit w = true → (d (κ.2.1 p)).testBit w = true) → (∀ w, w < 5 → (d (κ.2.1 p)).testBit w = true → (w < u ∨ left.testBit w = false) → ¬ Can κ (ud d (κ.2.1 p) (2 ^ w))) → wpX1_leastFrom_b76 (wpX1_leastFrom dep) Q (r2 + 1) S o (pk d) (nI p) (nI v) (nI (κ.2.1 p)) (nI left) (nI u) := by
            intro r2
            induction r2 with
            | zero =>
              intro u left hu hl hsub hno
              have : u = 5 := by omega
              subst this
              have h1 := hQ (lN 0) (Or.inl ⟨rfl, fun ⟨a, ha, hok⟩ => hno _ (ha p ep2).1 (ha p ep2).2 (Or.inl (ha p ep2).1) ⟨a, asg_ud hκ ep2 hd ha, hok⟩⟩)
              simp (disch := omega) only [wpX1_leastFrom_b76, c_0, c_1, c_2, c_3, c_4, c_5, c_6, c_7, c_8, c_9, c_10, c_11, c_12, c_14, c_16, c_19, c_20, c_24, c_31, c_32, c_35, c_48, c_57, c_59, c_63, c_97, c_100, c_122, c_127, c_169, c_255, c_600, c_1000, c_32767, Nat.le_refl, Nat.zero_le, Nat.add_zero, Nat.lt_irrefl, eq_self, o_sub, Nat.sub_zero, Nat.not_lt_zero, ↓ng_d, o_le, o_lt, o_eq, o_add, o_mul, o_cl, o_inT, o_and, n_31, o_shr, o_shl1, o_or, m_lt, m_ge, m_le, m_gt, m_ne, m_ne2, Option.some.injEq, exists_eq_left', true_and, and_true, true_implies, false_implies, implies_true, not_true_eq_false, not_false_eq_true, bI_0, bI_1, bI_01, b01, true_or, or_true, Nat.reduceEqDiff, Bool.not_eq_false, Bool.not_eq_true, Bool.true_eq_false, Bool.false_eq_true]
              exact h1
            | succ r2 ih2 =>
              intro u left hu hl hsub hno
              generalize r2 + 1 = fu at ih2 ⊢
              have e5 : ¬ 5 ≤ u := by omega
              have hu5 : u < 5 := by omega
              cases hb : left.testBit u
              · have hz : (left >>> u) &&& 1 = 0 := by rw [lf_bit, hb]; rfl
                have h1 := ih2 (u + 1) left (by omega) hl hsub (fun w hw hbw hor => hno w hw hbw (by
                  by_cases q : w = u
                  · right; rw [q]; exact hb
                  · rcases hor with q2 | q2
                    · left; omega
                    · right; exact q2))
                simp (disch := omega) only [wpX1_leastFrom_b76, c_0, c_1, c_2, c_3, c_4, c_5, c_6, c_7, c_8, c_9, c_10, c_11, c_12, c_14, c_16, c_19, c_20, c_24, c_31, c_32, c_35, c_48, c_57, c_59, c_63, c_97, c_100, c_122, c_127, c_169, c_255, c_600, c_1000, c_32767, Nat.le_refl, Nat.zero_le, Nat.add_zero, Nat.lt_irrefl, eq_self, o_sub, Nat.sub_zero, Nat.not_lt_zero, ↓ng_d, o_le, o_lt, o_eq, o_add, o_mul, o_cl, o_inT, o_and, n_31, o_shr, o_shl1, o_or, m_lt, m_ge, m_le, m_gt, m_ne, m_ne2, Option.some.injEq, exists_eq_left', true_and, and_true, true_implies, false_implies, implies_true, not_true_eq_false, not_false_eq_true, bI_0, bI_1, bI_01, b01, true_or, or_true, Nat.reduceEqDiff, Bool.not_eq_false, Bool.not_eq_true, Bool.true_eq_false, Bool.false_eq_true, e5, o_ushr, hz]
                exact h1
              · have hz : (left >>> u) &&& 1 = 1 := by rw [lf_bit, hb]; rfl
                have n10 : ¬ (1 : Nat) = 0 := by decide
                have hbd := hsub u hu5 hb
                have hd2 : Dwf (ud d (κ.2.1 p) (2 ^ u)) := fun y hy => by
                  by_cases q : y = κ.2.1 p
                  · rw [q, ud_s]; exact dm_pow_lt u hu5
                  · rw [ud_n _ _ q]; exact hd y hy
                have hrec := ihd (r - 1) (p + 1) (ud d (κ.2.1 p) (2 ^ u)) (fun r9 S10 => ((lg_cmp r9 (0 : Int64)) = 0 → (pC4 S10 o ∧ (wpC_alike S10 o (nI u) (fun r12 S13 => (wpX1_leastFrom_b76 (wpX1_leastFrom dep) Q fu S13 o (pk d) (nI p) (nI v) (nI (κ.2.1 p)) (nI left &&& (r12 ^^^ (-1 : Int32))) (nI u + 1)))))) ∧ (¬ (lg_cmp r9 (0 : Int64)) = 0 → (Q r9 S10))) (by omega) (by omega) hd2 (fun k hk => by
                    by_cases q : k = p
                    · subst q; exact ⟨u, hu5, ud_s _ _ _⟩
                    · obtain ⟨w, hw, hdw⟩ := hfix k (by omega)
                      exact ⟨w, hw, by rw [ud_n _ _ (fun z => q (hκ.2.2.1 k p (by omega) ep2 z))]; exact hdw⟩) hn0
                  (fun res hres => by
                    have hr0 := Lres_0 hκ hn0 hres
                    refine ⟨fun hz0 => ⟨h4, halk u _ hu5 (fun A hA => ?_)⟩, fun hz0 => ?_⟩
                    · rw [show (0 : Int64) = lN 0 from rfl, show (0 : Int32) = nI 0 from rfl, lg_0, hr0] at hz0
                      have h1 := ih2 (u + 1) (andn left A) (by omega) (dm_andn_lt _ hl _ hA.1) (fun w hw hbw => by
                        rw [dm_andn_tb _ hl _ hA.1 w hw] at hbw
                        simp only [Bool.and_eq_true] at hbw
                        exact hsub w hw hbw.1) (fun w hw hbw hor => by
                        by_cases q1 : A.testBit w = true
                        · exact alk_can hκ hd ep2 hu5 hw hA q1 hz0
                        · by_cases q2 : w = u
                          · rw [q2]; exact hz0
                          · refine hno w hw hbw ?_
                            rcases hor with q3 | q3
                            · left; omega
                            · right
                              rw [dm_andn_tb _ hl _ hA.1 w hw] at q3
                              have : A.testBit w = false := by simpa using q1
                              rw [this] at q3
                              simpa using q3)
                      rw [ng_d, dm_andn _ hl _ hA.1, show (1 : Int32) = nI 1 from rfl, o_add]
                      exact h1
                    · rw [show (0 : Int64) = lN 0 from rfl, show (0 : Int32) = nI 0 from rfl, lg_0, hr0] at hz0
                      have hcan : Can κ (ud d (κ.2.1 p) (2 ^ u)) := Classical.byContradiction hz0
                      rcases hres with ⟨-, q⟩ | ⟨a, ha, rfl⟩
                      · exact absurd hcan q
                      · refine hQ _ (Or.inr ⟨a, ⟨⟨asg_of_ud hκ ep2 hu5 hd hbd ha.1.1, ha.1.2⟩, fun b hb2 => ?_⟩, rfl⟩)
                        have hap : a (κ.2.1 p) = u := ((ud_asg hκ ep2 hu5 hd).mp ha.1.1).1
                        have hbp := hb2.1 p ep2
                        by_cases q1 : b (κ.2.1 p) = u
                        · have := asg_ud hκ ep2 hd hb2.1
                          rw [q1] at this
                          exact ha.2 b ⟨this, hb2.2⟩
                        · have hgt : u < b (κ.2.1 p) := by
                            apply Classical.byContradiction
                            intro q2
                            exact hno _ hbp.1 hbp.2 (Or.inl (by omega)) ⟨b, asg_ud hκ ep2 hd hb2.1, hb2.2⟩
                          refine Or.inr ⟨p, ep2, by omega, fun j hj => ?_⟩
                          obtain ⟨w, hw, hdw⟩ := hfix j hj
                          have q3 := hb2.1 j (by omega)
                          have q4 := (asg_of_ud hκ ep2 hu5 hd hbd ha.1.1) j (by omega)
                          rw [hdw, dm_pow_tb w hw _ q3.1] at q3
                          rw [hdw, dm_pow_tb w hw _ q4.1] at q4
                          have q5 : b (κ.2.1 j) = w := by simpa using q3.2
                          have q6 : a (κ.2.1 j) = w := by simpa using q4.2
                          rw [q5, q6])
                have hap2 := and_pow _ hdx u hu5 hbd
                simp (disch := omega) only [wpX1_leastFrom_b76, e5, o_ushr, hz, n10, c_0, c_1, c_5, c_31, o_le, o_add, o_and, o_eq, not_false_eq_true, true_implies, false_implies, true_and, and_true, implies_true, w_narrowed hd hx7 hu5, hap2]
                simp only [c_0, c_1] at hrec
                exact hrec
          have h1 := loop 5 0 (d (κ.2.1 p)) rfl hdx (fun w _ h => h) (fun w hw hbw hor => by
            rcases hor with q | q
            · omega
            · rw [hbw] at q; cases q)
          simp (disch := omega) only [c_0, c_1, c_2, c_3, c_4, c_5, c_6, c_7, c_8, c_9, c_10, c_11, c_12, c_14, c_16, c_19, c_20, c_24, c_31, c_32, c_35, c_48, c_57, c_59, c_63, c_97, c_100, c_122, c_127, c_169, c_255, c_600, c_1000, c_32767, Nat.le_refl, Nat.zero_le, Nat.add_zero, Nat.lt_irrefl, eq_self, o_sub, Nat.sub_zero, Nat.not_lt_zero, ↓ng_d, o_le, o_lt, o_eq, o_add, o_mul, o_cl, o_inT, o_and, n_31, o_shr, o_shl1, o_or, m_lt, m_ge, m_le, m_gt, m_ne, m_ne2, Option.some.injEq, exists_eq_left', true_and, and_true, true_implies, false_implies, implies_true, not_true_eq_false, not_false_eq_true, bI_0, bI_1, bI_01, b01, true_or, or_true, Nat.reduceEqDiff, Bool.not_eq_false, Bool.not_eq_true, Bool.true_eq_false, Bool.false_eq_true, ev0, ev2, hc1, ep2, h4, w_variableAt h4 hc3 hκ ep2, w_valuesOf hd hx7]
          exact ⟨_, h1⟩

/-! THE CLASS: each kind of constraint answers as it must -/
theorem alk_self {κ : Kon} (hκ : Kwf κ) {v : Nat} (hv : v < 5) : alk κ v (2 ^ v) := by
  refine ⟨dm_pow_lt v hv, by rw [dm_pow_tb v hv v hv]; simp, fun u hu hb k hk a ha hak => ?_⟩
  rw [dm_pow_tb v hv u hu] at hb
  have e : u = v := by simpa using hb
  apply hκ.2.2.2
  intro j hj
  by_cases q : κ.2.1 j = κ.2.1 k
  · rw [q, ud_s, hak, e]
  · rw [ud_n _ _ q]
theorem one_shl {v : Nat} (hv : v < 5) : (nI 1 <<< (nI v &&& nI 31)) = nI (2 ^ v) := by rw [o_and31 (by omega), o_shl1 (by omega)]
/-! ===== comparisons ===== -/
def vdL (l r : Nat) : Nat := if 2 * lo1 l ≤ r then (if lo1 r ≤ l then 1 else 2) else 0
def vdD (l r : Nat) : Nat := if l &&& r = 0 then 2 else if l = r then (if pcn 5 l = 1 then 0 else 1) else 1
def sing (l x : Nat) : Prop := ∀ u, u < 5 → l.testBit u = true → u = x
theorem lv_2 : ∀ w, w < 32 → ∀ v, v < 5 → w.testBit v = true → (∀ u, u < 5 → w.testBit u = true → u = v) → w = 2 ^ v := by decide +kernel
theorem vdL_ok : ∀ l, l < 32 → ∀ r, r < 32 → ∀ x, x < 5 → ∀ y, y < 5 → l.testBit x = true → r.testBit y = true → (vdL l r = 0 → ¬ x < y) ∧ (vdL l r = 2 → x < y) ∧ (vdL l r = 1 → l = 2 ^ x → r = 2 ^ y → x < y) := by decide +kernel
theorem vdD_ok : ∀ l, l < 32 → ∀ r, r < 32 → ∀ x, x < 5 → ∀ y, y < 5 → l.testBit x = true → r.testBit y = true → (vdD l r = 0 → ¬ x ≠ y) ∧ (vdD l r = 2 → x ≠ y) ∧ (vdD l r = 1 → l = 2 ^ x → r = 2 ^ y → x ≠ y) := by decide +kernel
theorem i_lo1 : ∀ l, l < 32 → nI l &&& (-(nI l)) = nI (lo1 l) := by decide +kernel
theorem w_vLess {S : PS} {l r : Nat} {Q : Int32 → PS → Prop} (hl : l < 32) (hr : r < 32) : wpX0_verdictOnLess S (nI l) (nI r) Q = Q (nI (vdL l r)) S := by
  have h1 := lo1_lt l hl
  have h2 := lo1_lt r hr
  unfold wpX0_verdictOnLess
  rw [i_lo1 l hl, i_lo1 r hr]
  simp (disch := omega) only [c_0, c_1, c_2, c_3, c_4, c_5, c_6, c_7, c_8, c_9, c_10, c_11, c_12, c_14, c_16, c_19, c_20, c_24, c_31, c_32, c_35, c_48, c_57, c_59, c_63, c_97, c_100, c_122, c_127, c_169, c_255, c_600, c_1000, c_32767, Nat.le_refl, Nat.zero_le, Nat.add_zero, Nat.lt_irrefl, eq_self, o_sub, Nat.sub_zero, Nat.not_lt_zero, ↓ng_d, o_le, o_lt, o_eq, o_add, o_mul, o_cl, o_inT, o_and, n_31, o_shr, o_shl1, o_or, m_lt, m_ge, m_le, m_gt, m_ne, m_ne2, Option.some.injEq, exists_eq_left', true_and, and_true, true_implies, false_implies, implies_true, not_true_eq_false, not_false_eq_true, bI_0, bI_1, bI_01, b01, true_or, or_true, Nat.reduceEqDiff, Bool.not_eq_false, Bool.not_eq_true, Bool.true_eq_false, Bool.false_eq_true]
  unfold vdL
  by_cases e1 : 2 * lo1 l ≤ r
  · by_cases e2 : lo1 r ≤ l
    · simp [e1, e2]
    · simp [e1, e2]
  · simp [e1]
/-- a constraint object of the class holds constraint c of P -/
def KRep (S : PS) (o : Nat) (P : Nat → Nat) (c : Nat) : Prop := pI S o 0 = nI (P (9 + 20 * c)) ∧ pI S o 1 = nI (P (9 + 20 * c + 1)) ∧ pJ S o 2 = pk (scp (cK P c)) ∧ pI S o 3 = nI (ds 3 (cK P c).2.1 (cK P c).1)
  ∧ (P (9 + 20 * c) = 0 → pK S o = 2 ∧ pI S o 4 = nI (ds 3 (fun v => P (9 + 20 * c + (9 + v))) 5) ∧ pI S o 5 = nI (ds 3 (fun v => P (9 + 20 * c + (14 + v))) 5) ∧ pI S o 6 = nI (P (9 + 20 * c + 19)))
  ∧ (P (9 + 20 * c) = 1 → pK S o = 9 ∧ pI S o 4 = nI (P (9 + 20 * c + 9)) ∧ pI S o 5 = nI (P (9 + 20 * c + 10)) ∧ pI S o 6 = nI (P (9 + 20 * c + 11)) ∧ pI S o 7 = nI (P (9 + 20 * c + 12)))
  ∧ (2 ≤ P (9 + 20 * c) → pK S o = 1)
theorem CC_cmp {S : PS} {o : Nat} {P : Nat → Nat} {c : Nat} (h : KRep S o P c) (hw : Cwf P c) (h0 : P 0 ≤ 7) (hk : 2 ≤ P (9 + 20 * c)) : CC S o (cK P c) := by
  obtain ⟨r0, r1, r2, r3, -, -, r6⟩ := h
  have hK := r6 hk
  have h4 : pC4 S o := Or.inl hK
  have hκ := cK_wf hw h0
  have e2 := hw.2.2.2.2.2.2.2.1 hk
  have en : (cK P c).1 = 2 := e2
  have q1 : ¬ pK S o = 2 := by rw [hK]; decide
  have q2 : ¬ pK S o = 4 := by rw [hK]; decide
  have q3 : ¬ pK S o = 9 := by rw [hK]; decide
  refine ⟨h4, r1, r2, r3, fun d Q hd hQ => ⟨fun _ => ?_, fun w => absurd w q1, fun w => absurd w q2, fun w => absurd w q3⟩, fun v Q hv hQ => ⟨fun _ => ?_, fun w => absurd w q1, fun w => absurd w q2, fun w => absurd w q3⟩⟩
  · have hm0 := hκ.2.1 0 (by omega)
    have hm1 := hκ.2.1 1 (by omega)
    have d0 := hd _ hm0
    have d1 := hd _ hm1
    have hkd : P (9 + 20 * c) = 2 ∨ P (9 + 20 * c) = 3 := by have := hw.1; omega
    have hk3 := hw.1
    rcases hkd with e | e
    · have hv : vOK (cK P c) d (vdL (d ((cK P c).2.1 0)) (d ((cK P c).2.1 1))) := by
        refine ⟨by unfold vdL; split <;> (try split) <;> omega, fun a ha => ?_⟩
        have a0' := ha 0 (by omega)
        have a1' := ha 1 (by omega)
        have h5 := vdL_ok _ d0 _ d1 _ a0'.1 _ a1'.1 a0'.2 a1'.2
        have hok : (cK P c).2.2 a = decide (a ((cK P c).2.1 0) < a ((cK P c).2.1 1)) := by rw [cK_less e2 e]; rfl
        rw [hok]
        exact ⟨fun q => decide_eq_false (h5.1 q), fun q => decide_eq_true (h5.2.1 q), fun q w => decide_eq_true (h5.2.2 q (lv_2 _ d0 _ a0'.1 a0'.2 (w 0 (by omega))) (lv_2 _ d1 _ a1'.1 a1'.2 (w 1 (by omega))))⟩
      have h6 := hQ _ hv
      simp (disch := omega) only [wpX0_verdict, c_0, c_1, c_2, c_3, c_4, c_5, c_6, c_7, c_8, c_9, c_10, c_11, c_12, c_14, c_16, c_19, c_20, c_24, c_31, c_32, c_35, c_48, c_57, c_59, c_63, c_97, c_100, c_122, c_127, c_169, c_255, c_600, c_1000, c_32767, Nat.le_refl, Nat.zero_le, Nat.add_zero, Nat.lt_irrefl, eq_self, o_sub, Nat.sub_zero, Nat.not_lt_zero, ↓ng_d, o_le, o_lt, o_eq, o_add, o_mul, o_cl, o_inT, o_and, n_31, o_shr, o_shl1, o_or, m_lt, m_ge, m_le, m_gt, m_ne, m_ne2, Option.some.injEq, exists_eq_left', true_and, and_true, true_implies, false_implies, implies_true, not_true_eq_false, not_false_eq_true, bI_0, bI_1, bI_01, b01, true_or, or_true, Nat.reduceEqDiff, Bool.not_eq_false, Bool.not_eq_true, Bool.true_eq_false, Bool.false_eq_true, w_variableAt h4 r3 hκ, w_valuesOf hd hm0, w_valuesOf hd hm1, hK, r0, e, w_vLess d0 d1]
      exact h6
    · have hv : vOK (cK P c) d (vdD (d ((cK P c).2.1 0)) (d ((cK P c).2.1 1))) := by
        refine ⟨by unfold vdD; split <;> (try split) <;> (try split) <;> omega, fun a ha => ?_⟩
        have a0' := ha 0 (by omega)
        have a1' := ha 1 (by omega)
        have h5 := vdD_ok _ d0 _ d1 _ a0'.1 _ a1'.1 a0'.2 a1'.2
        have hok : (cK P c).2.2 a = decide (a ((cK P c).2.1 0) ≠ a ((cK P c).2.1 1)) := by rw [cK_differ e2 e]; rfl
        rw [hok]
        exact ⟨fun q => decide_eq_false (h5.1 q), fun q => decide_eq_true (h5.2.1 q), fun q w => decide_eq_true (h5.2.2 q (lv_2 _ d0 _ a0'.1 a0'.2 (w 0 (by omega))) (lv_2 _ d1 _ a1'.1 a1'.2 (w 1 (by omega))))⟩
      have h6 := hQ _ hv
      have n32 : ¬ (3 : Nat) = 2 := by decide
      have hab := dm_and_lt _ d0 _ d1
      have hp := pcn_le 5 (d ((cK P c).2.1 0))
      simp (disch := omega) only [wpX0_verdict, c_0, c_1, c_2, c_3, c_4, c_5, c_6, c_7, c_8, c_9, c_10, c_11, c_12, c_14, c_16, c_19, c_20, c_24, c_31, c_32, c_35, c_48, c_57, c_59, c_63, c_97, c_100, c_122, c_127, c_169, c_255, c_600, c_1000, c_32767, Nat.le_refl, Nat.zero_le, Nat.add_zero, Nat.lt_irrefl, eq_self, o_sub, Nat.sub_zero, Nat.not_lt_zero, ↓ng_d, o_le, o_lt, o_eq, o_add, o_mul, o_cl, o_inT, o_and, n_31, o_shr, o_shl1, o_or, m_lt, m_ge, m_le, m_gt, m_ne, m_ne2, Option.some.injEq, exists_eq_left', true_and, and_true, true_implies, false_implies, implies_true, not_true_eq_false, not_false_eq_true, bI_0, bI_1, bI_01, b01, true_or, or_true, Nat.reduceEqDiff, Bool.not_eq_false, Bool.not_eq_true, Bool.true_eq_false, Bool.false_eq_true, w_variableAt h4 r3 hκ, w_valuesOf hd hm0, w_valuesOf hd hm1, hK, r0, e, n32, w_bci, bci_5 _ d0]
      unfold vdD at h6
      refine ⟨fun z => ⟨fun z2 => ?_, fun z2 => ⟨fun z3 => ?_, fun z3 => ?_⟩⟩, fun z => ?_⟩
      · rw [if_neg z, if_neg z2] at h6; exact h6
      · rw [if_neg z, if_pos z2, if_neg z3] at h6; exact h6
      · rw [if_neg z, if_pos z2, if_pos z3] at h6; exact h6
      · rw [if_pos z] at h6; exact h6
  · have h6 := hQ _ (alk_self hκ hv)
    unfold wpX0_alike
    rw [show (1 : Int32) = nI 1 from rfl, show (31 : Int32) = nI 31 from rfl, one_shl hv]
    exact h6
/-! ===== learnt sets ===== -/
def sset (s : Nat) : Nat → Nat := fun x => if dg s x = 0 then 0 else 2 ^ (dg s x - 1)
theorem sset_wf {s : Nat} (hs : Swf s) : Dwf (sset s) := fun x hx => by
  unfold sset
  split
  · omega
  · exact dm_pow_lt _ (by have := hs.2 x hx; omega)
/-- the view shows the set s -/
def VRep (S : PS) (s : Nat) : Prop := pK S 82 = 4 ∧ pI S 82 1 = nI (lK s).1 ∧ pJ S 82 2 = pk (scp (lK s)) ∧ pI S 82 3 = nI (ds 3 (lK s).2.1 (lK s).1) ∧ pJ S 82 4 = pk (sset s)
theorem inM_lK {s x : Nat} (hx : x < 7) : inM (lK s) x = decide (dg s x ≠ 0) := by
  by_cases e : dg s x ≠ 0
  · rw [decide_eq_true e, inM_t]
    exact ⟨cN (lp s) x, cN_lt hx (lp_t.mpr e), kt_of hx (lp_t.mpr e)⟩
  · rw [decide_eq_false e]
    cases h : inM (lK s) x
    · rfl
    · obtain ⟨k, hk, rfl⟩ := inM_t.mp h
      exact absurd (lp_t.mp (kt_in hk).2.1) e
theorem lv_1 : ∀ w, w < 32 → ∀ g, g < 6 → g ≠ 0 → (w &&& 2 ^ (g - 1) = 2 ^ (g - 1) ↔ w.testBit (g - 1) = true) := by decide +kernel
theorem CC_lK {S : PS} {s : Nat} (h : VRep S s) (hs : Swf s) : CC S 82 (lK s) := by
  obtain ⟨hK, r1, r2, r3, r4⟩ := h
  have h4 : pC4 S 82 := Or.inr (Or.inr (Or.inl hK))
  have hκ := lK_wf s
  have q1 : ¬ pK S 82 = 1 := by rw [hK]; decide
  have q2 : ¬ pK S 82 = 2 := by rw [hK]; decide
  have q3 : ¬ pK S 82 = 9 := by rw [hK]; decide
  have hss := sset_wf hs
  refine ⟨h4, r1, r2, r3, fun d Q hd hQ => ⟨fun w => absurd w q1, fun w => absurd w q2, fun _ => ?_, fun w => absurd w q3⟩, fun v Q hv hQ => ⟨fun w => absurd w q1, fun w => absurd w q2, fun _ => ?_, fun w => absurd w q3⟩⟩
  · have ew : ∀ x, x < 7 → (d x &&& sset s x = sset s x ↔ (dg s x ≠ 0 → (d x).testBit (dg s x - 1) = true)) := fun x hx => by
      unfold sset
      by_cases e : dg s x = 0
      · rw [if_pos e]; simp [e]
      · rw [if_neg e, lv_1 _ (hd x hx) _ (by have := hs.2 x hx; omega) e]
        exact ⟨fun q _ => q, fun q => q e⟩
    have mem : ∀ a, Asg (lK s) d a → ∀ x, x < 7 → dg s x ≠ 0 → a x < 5 ∧ (d x).testBit (a x) = true := fun a ha x hx h0 => by
      have h5 := ha (cN (lp s) x) (cN_lt hx (lp_t.mpr h0))
      have h6 : kt (lp s) 7 (cN (lp s) x) = x := kt_of hx (lp_t.mpr h0)
      have h7 : a (kt (lp s) 7 (cN (lp s) x)) < 5 ∧ (d (kt (lp s) 7 (cN (lp s) x))).testBit (a (kt (lp s) 7 (cN (lp s) x))) = true := h5
      rw [h6] at h7
      exact h7
    unfold wpX4_verdict
    refine ⟨hK, ?_⟩
    rw [r2, r4, show (0 : Int32) = nI 0 from rfl, show (1 : Int32) = nI 1 from rfl, show (2 : Int32) = nI 2 from rfl, lg_0, lg_0, pq_and hd hss, pq_and hd (scp_wf _), pq_inj (fun x hx => dm_and_lt _ (hd x hx) _ (hss x hx)) hss, pq_inj (fun x hx => dm_and_lt _ (hd x hx) _ (scp_wf _ x hx)) hss]
    have hno : (∀ x, x < 7 → d x &&& scp (lK s) x = sset s x) → ∀ a, Asg (lK s) d a → (lK s).2.2 a = false := fun hall a ha => by
      show dB _ = false
      rw [dB_f]
      rintro ⟨x, hx, h0, hne⟩
      have h5 := hall x hx
      rw [and_scp hd hx, inM_lK hx, if_pos (by simpa using h0)] at h5
      have h6 := mem a ha x hx h0
      unfold sset at h5
      rw [if_neg h0] at h5
      rw [h5, dm_pow_tb _ (by have := hs.2 x hx; omega) _ h6.1] at h6
      exact hne (by simpa using h6.2)
    refine ⟨fun hsub => ⟨fun hne => hQ 1 ⟨by omega, fun a ha => ⟨fun q => by omega, fun q => by omega, fun _ hsing => ?_⟩⟩, fun he => hQ 0 ⟨by omega, fun a ha => ⟨fun _ => hno he a ha, fun q => by omega, fun q => by omega⟩⟩⟩, fun hnsub => hQ 2 ⟨by omega, fun a ha => ⟨fun q => by omega, fun _ => ?_, fun q => by omega⟩⟩⟩
    · exfalso
      apply hne
      intro x hx
      rw [and_scp hd hx, inM_lK hx]
      unfold sset
      by_cases e : dg s x = 0
      · rw [if_pos e, if_neg (by simp [e])]
      · rw [if_neg e, if_pos (by simpa using e)]
        have hb := (ew x hx).mp (hsub x hx) e
        have h5 : ∀ u, u < 5 → (d x).testBit u = true → u = dg s x - 1 := fun u hu hbu => by
          have h6 := hsing (cN (lp s) x) (cN_lt hx (lp_t.mpr e))
          have h7 : kt (lp s) 7 (cN (lp s) x) = x := kt_of hx (lp_t.mpr e)
          have h8 : ∀ u, u < 5 → (d (kt (lp s) 7 (cN (lp s) x))).testBit u = true → u = a (kt (lp s) 7 (cN (lp s) x)) := h6
          rw [h7] at h8
          rw [h8 u hu hbu, h8 (dg s x - 1) (by have := hs.2 x hx; omega) hb]
        exact lv_2 _ (hd x hx) _ (by have := hs.2 x hx; omega) hb h5
    · show dB _ = true
      rw [dB_t]
      apply Classical.byContradiction
      intro q
      apply hnsub
      intro x hx
      rw [ew x hx]
      intro h0
      have h6 := mem a ha x hx h0
      by_cases e : a x = dg s x - 1
      · rw [← e]; exact h6.2
      · exact absurd ⟨x, hx, h0, e⟩ q
  · have h6 := hQ _ (alk_self hκ hv)
    unfold wpX4_alike
    rw [show (1 : Int32) = nI 1 from rfl, show (31 : Int32) = nI 31 from rfl, one_shl hv]
    exact h6

/-! THE CLASS: counts -/
/-- a count over the members is one over the variables -/
theorem mem_cnt {κ : Kon} (hκ : Kwf κ) (p : Nat → Bool) : cN (fun x => inM κ x && p x) 7 = cN (fun k => p (κ.2.1 k)) κ.1 := by
  have h : ∀ n, n ≤ κ.1 → cN (fun x => dB (∃ k, k < n ∧ κ.2.1 k = x) && p x) 7 = cN (fun k => p (κ.2.1 k)) n := by
    intro n
    induction n with
    | zero =>
      intro _
      have : ∀ j, cN (fun x => dB (∃ k, k < 0 ∧ κ.2.1 k = x) && p x) j = 0 := by
        intro j
        induction j with
        | zero => rfl
        | succ j ih =>
          rw [cN_s, ih, show dB (∃ k, k < 0 ∧ κ.2.1 k = j) = false from dB_f.mpr (fun ⟨k, q, _⟩ => by omega)]
          rfl
      exact this 7
    | succ n ih =>
      intro hn
      have h1 := ih (by omega)
      have h7 := hκ.2.1 n (by omega)
      have hfresh : dB (∃ k, k < n ∧ κ.2.1 k = κ.2.1 n) = false := dB_f.mpr (fun ⟨k, q, w⟩ => by have := hκ.2.2.1 k n (by omega) (by omega) w; omega)
      have gen : ∀ j, cN (fun x => dB (∃ k, k < n + 1 ∧ κ.2.1 k = x) && p x) j = cN (fun x => dB (∃ k, k < n ∧ κ.2.1 k = x) && p x) j + (if κ.2.1 n < j ∧ p (κ.2.1 n) = true then 1 else 0) := by
        intro j
        induction j with
        | zero => simp [cN]
        | succ j ihj =>
          rw [cN_s, cN_s, ihj]
          by_cases e : κ.2.1 n = j
          · have t1 : dB (∃ k, k < n + 1 ∧ κ.2.1 k = j) = true := dB_t.mpr ⟨n, by omega, e⟩
            have t2 : dB (∃ k, k < n ∧ κ.2.1 k = j) = false := by rw [← e]; exact hfresh
            rw [t1, t2, e]
            cases hp : p j
            · simp
            · simp
          · have t : dB (∃ k, k < n + 1 ∧ κ.2.1 k = j) = dB (∃ k, k < n ∧ κ.2.1 k = j) := dB_c ⟨fun ⟨k, q, w⟩ => ⟨k, Or.elim (Nat.lt_or_ge k n) id (fun z => absurd ((show k = n by omega) ▸ w) e), w⟩, fun ⟨k, q, w⟩ => ⟨k, by omega, w⟩⟩
            rw [t]
            by_cases z : κ.2.1 n < j
            · have z2 : κ.2.1 n < j + 1 := by omega
              simp only [z, z2, true_and]
              omega
            · have z2 : ¬ κ.2.1 n < j + 1 := by omega
              simp only [z, z2, false_and, if_false]
              omega
      rw [gen 7, h1, cN_s]
      simp only [h7, true_and]
  exact h κ.1 (Nat.le_refl _)
theorem zeros_shl : ∀ u, u < 5 → lN 1108378657 <<< ((nI u).toInt64 &&& lN 63) = pk (fun _ => 2 ^ u) := by decide +kernel
theorem pc_pow : ∀ w, w < 32 → ∀ u, u < 5 → pcn 5 (w &&& (2 ^ u &&& 31)) = if w.testBit u then 1 else 0 := by decide +kernel
theorem cl_andn : ∀ w, w < 32 → ∀ u, u < 5 → andn (w &&& 31) (2 ^ u &&& 31) = clr w u := by decide +kernel
/-- most and fewest -/
def mst (κ : Kon) (d : Nat → Nat) (u : Nat) : Nat := cN (fun k => (d (κ.2.1 k)).testBit u) κ.1
def few (κ : Kon) (d : Nat → Nat) (u : Nat) : Nat := cN (fun k => decide (clr (d (κ.2.1 k)) u = 0)) κ.1
theorem cN_not (p : Nat → Bool) (n : Nat) : n - cN (fun k => !p k) n = cN p n := by
  have : ∀ n, cN p n + cN (fun k => !p k) n = n := by
    intro n
    induction n with
    | zero => rfl
    | succ n ih => rw [cN_s, cN_s]; cases p n <;> simp <;> omega
  have := this n
  omega
theorem pw_wf {u : Nat} (hu : u < 5) : Dwf (fun _ => 2 ^ u) := fun _ _ => dm_pow_lt u hu
theorem mst_eq {κ : Kon} {d : Nat → Nat} (hκ : Kwf κ) (hd : Dwf d) {u : Nat} (hu : u < 5) : bcl (pk d &&& (pk (fun _ => 2 ^ u) &&& pk (scp κ))) = nI (mst κ d u) := by
  rw [pq_and (pw_wf hu) (scp_wf κ), pq_and hd (fun x hx => dm_and_lt _ (dm_pow_lt u hu) _ (scp_wf κ x hx)), bcl_pk (fun x hx => dm_and_lt _ (hd x hx) _ (dm_and_lt _ (dm_pow_lt u hu) _ (scp_wf κ x hx)))]
  congr 1
  unfold mst
  rw [← mem_cnt hκ (fun x => (d x).testBit u)]
  have : ∀ n, n ≤ 7 → sN (fun x => pcn 5 (d x &&& (2 ^ u &&& scp κ x))) n = cN (fun x => inM κ x && (d x).testBit u) n := by
    intro n
    induction n with
    | zero => intro _; rfl
    | succ n ih =>
      intro hn
      rw [sN_s, cN_s, ih (by omega)]
      cases hm : inM κ n
      · rw [scp_f hm]; simp [pcn_0]
      · rw [scp_t hm, pc_pow _ (hd n (by omega)) u hu]; simp
  exact this 7 (Nat.le_refl _)
theorem few_eq {S : PS} {κ : Kon} {d : Nat → Nat} {Q : Int32 → PS → Prop} (hκ : Kwf κ) (hd : Dwf d) {u : Nat} (hu : u < 5) : wpX5_variablesIn S ((pk d &&& pk (scp κ)) &&& ((pk (fun _ => 2 ^ u) &&& pk (scp κ)) ^^^ ngL)) Q = Q (nI (κ.1 - few κ d u)) S := by
  have w1 : Dwf (fun x => d x &&& scp κ x) := fun x hx => dm_and_lt _ (hd x hx) _ (scp_wf κ x hx)
  have w2 : Dwf (fun x => 2 ^ u &&& scp κ x) := fun x hx => dm_and_lt _ (dm_pow_lt u hu) _ (scp_wf κ x hx)
  rw [pq_and (pw_wf hu) (scp_wf κ), pq_and hd (scp_wf κ), pq_andn w1 w2, w_variablesIn (fun x hx => dm_andn_lt _ (w1 x hx) _ (w2 x hx))]
  congr 2
  have e1 : nzs (fun x => andn (d x &&& scp κ x) (2 ^ u &&& scp κ x)) = cN (fun k => !decide (clr (d (κ.2.1 k)) u = 0)) κ.1 := by
    rw [← mem_cnt hκ (fun x => !decide (clr (d x) u = 0))]
    unfold nzs
    apply cN_cong
    intro x hx
    cases hm : inM κ x
    · simp [scp_f hm, andn]
    · simp only [scp_t hm, Bool.true_and, cl_andn _ (hd x hx) u hu]
      by_cases q : clr (d x) u = 0
      · simp [q]
      · simp [q]
  rw [e1]
  unfold few
  have h2 := cN_not (fun k => decide (clr (d (κ.2.1 k)) u = 0)) κ.1
  have h3 := cN_le (fun k => !decide (clr (d (κ.2.1 k)) u = 0)) κ.1
  omega
theorem cN_sub {p q : Nat → Bool} {n : Nat} (h : ∀ k, k < n → p k = true → q k = true) : cN p n ≤ cN q n := by
  induction n with
  | zero => exact Nat.le_refl _
  | succ n ih =>
    have h1 := ih (fun k hk => h k (by omega))
    have h2 := h n (by omega)
    simp only [cN]
    cases hp : p n
    · simp; omega
    · rw [h2 hp]; simp; omega
/-- an assignment's count lies between fewest and most; with single values they are the same -/
theorem few_mst {κ : Kon} {d a : Nat → Nat} (hκ : Kwf κ) (hd : Dwf d) (ha : Asg κ d a) {u : Nat} (hu : u < 5) : few κ d u ≤ cnt κ.2.1 a u κ.1 ∧ cnt κ.2.1 a u κ.1 ≤ mst κ d u := by
  constructor
  · apply cN_sub
    intro k hk h
    have h1 : clr (d (κ.2.1 k)) u = 0 := by simpa using h
    have h2 := dm_clr_tb _ (hd _ (hκ.2.1 k hk)) u hu _ (ha k hk).1
    rw [h1, (ha k hk).2] at h2
    simp at h2
    simpa using h2
  · apply cN_sub
    intro k hk h
    have h1 : a (κ.2.1 k) = u := by simpa using h
    rw [← h1]
    exact (ha k hk).2
theorem few_mst1 {κ : Kon} {d a : Nat → Nat} (hκ : Kwf κ) (hd : Dwf d) (ha : Asg κ d a) (hs : ∀ k, k < κ.1 → ∀ u, u < 5 → (d (κ.2.1 k)).testBit u = true → u = a (κ.2.1 k)) {u : Nat} (hu : u < 5) : cnt κ.2.1 a u κ.1 ≤ few κ d u ∧ mst κ d u ≤ cnt κ.2.1 a u κ.1 := by
  constructor
  · apply cN_sub
    intro k hk h
    have h1 : a (κ.2.1 k) = u := by simpa using h
    have : clr (d (κ.2.1 k)) u = 0 := by
      rw [dm_0 _ (dm_clr_lt _ (hd _ (hκ.2.1 k hk)) u hu)]
      intro v hv
      rw [dm_clr_tb _ (hd _ (hκ.2.1 k hk)) u hu v hv]
      cases hb : (d (κ.2.1 k)).testBit v
      · rfl
      · have := hs k hk v hv hb
        rw [h1] at this
        simp [this]
    simpa using this
  · apply cN_sub
    intro k hk h
    have := hs k hk u hu h
    simp [this]
theorem cnt_sum {m a : Nat → Nat} {n : Nat} (h : ∀ k, k < n → a (m k) < 5) : sN (fun u => cnt m a u n) 5 = n := by
  induction n with
  | zero => rfl
  | succ n ih =>
    have h1 := ih (fun k hk => h k (by omega))
    have h2 := h n (by omega)
    simp only [sN, cnt, cN] at h1 ⊢
    rcases lt5 h2 with e | e | e | e | e <;> simp [e] <;> omega
/-- the verdict on one number, the least of two -/
def vOn (f m a b : Nat) : Nat := if m < a then 0 else if f ≤ b then (if f < a then 1 else if b < m then 1 else 2) else 0
theorem w_vOn {S : PS} {f m a b : Nat} {Q : Int32 → PS → Prop} (hf : f < 1000) (hm : m < 1000) (ha : a < 1000) (hb : b < 1000) : wpX1_verdictOn S (nI f) (nI m) (nI a) (nI b) Q = Q (nI (vOn f m a b)) S := by
  simp (disch := omega) only [wpX1_verdictOn, c_0, c_1, c_2, c_3, c_4, c_5, c_6, c_7, c_8, c_9, c_10, c_11, c_12, c_14, c_16, c_19, c_20, c_24, c_31, c_32, c_35, c_48, c_57, c_59, c_63, c_97, c_100, c_122, c_127, c_169, c_255, c_600, c_1000, c_32767, Nat.le_refl, Nat.zero_le, Nat.add_zero, Nat.lt_irrefl, eq_self, o_sub, Nat.sub_zero, Nat.not_lt_zero, ↓ng_d, o_le, o_lt, o_eq, o_add, o_mul, o_cl, o_inT, o_and, n_31, o_shr, o_shl1, o_or, m_lt, m_ge, m_le, m_gt, m_ne, m_ne2, Option.some.injEq, exists_eq_left', true_and, and_true, true_implies, false_implies, implies_true, not_true_eq_false, not_false_eq_true, bI_0, bI_1, bI_01, b01, true_or, or_true, Nat.reduceEqDiff, Bool.not_eq_false, Bool.not_eq_true, Bool.true_eq_false, Bool.false_eq_true]
  unfold vOn
  by_cases e1 : m < a
  · simp [e1]
  · by_cases e2 : f ≤ b
    · by_cases e3 : f < a
      · simp [e1, e2, e3]
      · by_cases e4 : b < m
        · simp [e1, e2, e3, e4]
        · simp [e1, e2, e3, e4]
    · simp [e1, e2]
theorem vOn_2 (f m a b : Nat) : vOn f m a b ≤ 2 := by unfold vOn; split <;> (try split) <;> (try split) <;> (try split) <;> omega
theorem vOn_0 {f m a b : Nat} (h : vOn f m a b = 0) : m < a ∨ b < f := by
  unfold vOn at h
  by_cases e1 : m < a
  · exact Or.inl e1
  · rw [if_neg e1] at h
    by_cases e2 : f ≤ b
    · rw [if_pos e2] at h; split at h <;> (try split at h) <;> omega
    · exact Or.inr (by omega)
theorem vOn_n {f m a b : Nat} (h : vOn f m a b ≠ 0) : a ≤ m ∧ f ≤ b := by
  unfold vOn at h
  by_cases e1 : m < a
  · rw [if_pos e1] at h; omega
  · rw [if_neg e1] at h
    by_cases e2 : f ≤ b
    · omega
    · rw [if_neg e2] at h; omega
theorem vOn_a {f m a b : Nat} (h : vOn f m a b = 2) : a ≤ f ∧ m ≤ b := by
  unfold vOn at h
  by_cases e1 : m < a
  · rw [if_pos e1] at h; omega
  · rw [if_neg e1] at h
    by_cases e2 : f ≤ b
    · rw [if_pos e2] at h
      by_cases e3 : f < a
      · rw [if_pos e3] at h; omega
      · rw [if_neg e3] at h
        by_cases e4 : b < m
        · rw [if_pos e4] at h; omega
        · omega
    · rw [if_neg e2] at h; omega
theorem if_nI {a b : Nat} (ha : a < 2147483648) (hb : b < 2147483648) (x y : Nat) : (if nI a < nI b then nI x else nI y) = nI (if a < b then x else y) := by
  by_cases h : a < b
  · rw [if_pos h, if_pos (by rw [o_lt ha hb]; exact h)]
  · rw [if_neg h, if_neg (by rw [o_lt ha hb]; exact h)]
theorem CC_counts {S : PS} {o : Nat} {P : Nat → Nat} {c : Nat} (h : KRep S o P c) (hw : Cwf P c) (h0 : P 0 ≤ 7) (hk : P (9 + 20 * c) = 0) : CC S o (cK P c) := by
  obtain ⟨r0, r1, r2, r3, r4, -, -⟩ := h
  obtain ⟨hK, k4, k5, k6⟩ := r4 hk
  have h4 : pC4 S o := Or.inr (Or.inl hK)
  have hκ := cK_wf hw h0
  have q1 : ¬ pK S o = 1 := by rw [hK]; decide
  have q2 : ¬ pK S o = 4 := by rw [hK]; decide
  have q3 : ¬ pK S o = 9 := by rw [hK]; decide
  obtain ⟨-, g1, g2, g3, g4, g5, -, -, g8, g9, -⟩ := hw
  have hn7 := hκ.1
  have lo8 : ∀ v, v < 5 → P (9 + 20 * c + (9 + v)) < 8 := fun v hv => by have := g5 hk v hv; omega
  have hi8 : ∀ v, v < 5 → P (9 + 20 * c + (14 + v)) < 8 := fun v hv => by have := g5 hk v hv; omega
  have hok : ∀ a, (cK P c).2.2 a = okCounts (cK P c).1 (cK P c).2.1 (fun v => P (9 + 20 * c + (9 + v))) (fun v => P (9 + 20 * c + (14 + v))) a := fun a => by
    show cOk P c a = _
    unfold cOk
    rw [if_pos hk]
    rfl
  refine ⟨h4, r1, r2, r3, fun d Q hd hQ => ⟨fun w => absurd w q1, fun _ => ?_, fun w => absurd w q2, fun w => absurd w q3⟩, fun v Q hv hQ => ⟨fun w => absurd w q1, fun _ => ?_, fun w => absurd w q2, fun w => absurd w q3⟩⟩
  · obtain ⟨κ, hκe⟩ : ∃ κ, κ = cK P c := ⟨_, rfl⟩
    have r1 : pI S o 1 = nI κ.1 := by rw [hκe]; exact r1
    clear hn7
    rw [← hκe] at hκ r2 r3 hQ hok
    have hn7 := hκ.1
    obtain ⟨lo, hlo⟩ : ∃ lo : Nat → Nat, lo = fun v => P (9 + 20 * c + (9 + v)) := ⟨_, rfl⟩
    obtain ⟨hi, hhi⟩ : ∃ hi : Nat → Nat, hi = fun v => P (9 + 20 * c + (14 + v)) := ⟨_, rfl⟩
    have lo8' : ∀ v, v < 5 → lo v < 8 := fun v hv => by rw [hlo]; exact lo8 v hv
    have hi8' : ∀ v, v < 5 → hi v < 8 := fun v hv => by rw [hhi]; exact hi8 v hv
    rw [← hlo] at k4
    rw [← hhi] at k5
    have hok' : ∀ a, κ.2.2 a = okCounts κ.1 κ.2.1 lo hi a := fun a => by rw [hlo, hhi]; exact hok a
    have hl4 : ds 3 lo 5 < 32768 := ds_lt (k := 3) lo8'
    have hl5 : ds 3 hi 5 < 32768 := ds_lt (k := 3) hi8'
    have fm : ∀ u, few κ d u ≤ 7 ∧ mst κ d u ≤ 7 := fun u => ⟨Nat.le_trans (cN_le _ _) hn7, Nat.le_trans (cN_le _ _) hn7⟩
    -- what the end of the loop answers
    have fin : ∀ vd u nd rm, u ≤ 5 → vd ≤ 2 → nd ≤ 200 → rm ≤ 200 → (vd = 0 → ∃ w, w < 5 ∧ (mst κ d w < lo w ∨ hi w < few κ d w)) → (vd ≠ 0 → u = 5 ∧ (∀ w, w < 5 → lo w ≤ mst κ d w ∧ few κ d w ≤ hi w) ∧ nd = sN (fun w => if few κ d w < lo w then lo w else few κ d w) 5 ∧ rm = sN (fun w => if hi w < mst κ d w then hi w else mst κ d w) 5) → (vd = 2 → ∀ w, w < 5 → lo w ≤ few κ d w ∧ mst κ d w ≤ hi w) → wpX2_verdict_b140 Q S o (pk d) (nI vd) (nI nd) (nI rm) (nI u) := by
      intro vd u nd rm hu hvd hnd hrm c0 cn c2
      have bad0 : vd = 0 → Q (nI 0) S := fun e => hQ 0 ⟨by omega, fun a ha => ⟨fun _ => by
        obtain ⟨w, hw, hor⟩ := c0 e
        have := few_mst hκ hd ha hw
        rw [hok' a]
        unfold okCounts
        rw [dB_f]
        intro q
        have := q w hw
        omega, fun q => by omega, fun q => by omega⟩⟩
      have bad1 : vd ≠ 0 → (κ.1 < nd ∨ rm < κ.1) → Q (nI 0) S := fun e hor => hQ 0 ⟨by omega, fun a ha => ⟨fun _ => by
        obtain ⟨-, -, e1, e2⟩ := cn e
        rw [hok' a]
        unfold okCounts
        rw [dB_f]
        intro q
        have hs := cnt_sum (m := κ.2.1) (a := a) (n := κ.1) (fun k hk => (ha k hk).1)
        have l1 : nd ≤ sN (fun u => cnt κ.2.1 a u κ.1) 5 := by
          rw [e1]
          simp only [sN]
          have f0 := few_mst hκ hd ha (show 0 < 5 by decide); have f1 := few_mst hκ hd ha (show 1 < 5 by decide); have f2 := few_mst hκ hd ha (show 2 < 5 by decide); have f3 := few_mst hκ hd ha (show 3 < 5 by decide); have f4 := few_mst hκ hd ha (show 4 < 5 by decide)
          have t0 := q 0 (by decide); have t1 := q 1 (by decide); have t2 := q 2 (by decide); have t3 := q 3 (by decide); have t4 := q 4 (by decide)
          split <;> split <;> split <;> split <;> split <;> omega
        have l2 : sN (fun u => cnt κ.2.1 a u κ.1) 5 ≤ rm := by
          rw [e2]
          simp only [sN]
          have f0 := few_mst hκ hd ha (show 0 < 5 by decide); have f1 := few_mst hκ hd ha (show 1 < 5 by decide); have f2 := few_mst hκ hd ha (show 2 < 5 by decide); have f3 := few_mst hκ hd ha (show 3 < 5 by decide); have f4 := few_mst hκ hd ha (show 4 < 5 by decide)
          have t0 := q 0 (by decide); have t1 := q 1 (by decide); have t2 := q 2 (by decide); have t3 := q 3 (by decide); have t4 := q 4 (by decide)
          split <;> split <;> split <;> split <;> split <;> omega
        omega, fun q => by omega, fun q => by omega⟩⟩
      have good : vd ≠ 0 → Q (nI vd) S := fun e => hQ vd ⟨hvd, fun a ha => ⟨fun q => absurd q e, fun q => by
        have h5 := c2 q
        rw [hok' a]
        unfold okCounts
        rw [dB_t]
        intro w hw
        have h6 := h5 w hw
        have := few_mst hκ hd ha hw
        omega, fun q hs => by
        obtain ⟨-, h5, -, -⟩ := cn e
        rw [hok' a]
        unfold okCounts
        rw [dB_t]
        intro w hw
        have h6 := h5 w hw
        have := few_mst1 hκ hd ha hs hw
        omega⟩⟩
      simp (disch := omega) only [wpX2_verdict_b140, c_0, c_1, c_2, c_3, c_4, c_5, c_6, c_7, c_8, c_9, c_10, c_11, c_12, c_14, c_16, c_19, c_20, c_24, c_31, c_32, c_35, c_48, c_57, c_59, c_63, c_97, c_100, c_122, c_127, c_169, c_255, c_600, c_1000, c_32767, Nat.le_refl, Nat.zero_le, Nat.add_zero, Nat.lt_irrefl, eq_self, o_sub, Nat.sub_zero, Nat.not_lt_zero, ↓ng_d, o_le, o_lt, o_eq, o_add, o_mul, o_cl, o_inT, o_and, n_31, o_shr, o_shl1, o_or, m_lt, m_ge, m_le, m_gt, m_ne, m_ne2, Option.some.injEq, exists_eq_left', true_and, and_true, true_implies, false_implies, implies_true, not_true_eq_false, not_false_eq_true, bI_0, bI_1, bI_01, b01, true_or, or_true, Nat.reduceEqDiff, Bool.not_eq_false, Bool.not_eq_true, Bool.true_eq_false, Bool.false_eq_true, hK, r1]
      by_cases e : vd = 0
      · subst e
        have hb := bad0 rfl
        exact ⟨fun _ => hb, fun _ => ⟨fun _ => hb, fun _ => hb⟩⟩
      · refine ⟨fun q => bad1 e (Or.inl q), fun q => ⟨fun _ => good e, fun q2 => bad1 e (Or.inr (by omega))⟩⟩
    have main : ∀ r u vd nd rm, u + r = 5 → vd ≤ 2 → nd = sN (fun w => if few κ d w < lo w then lo w else few κ d w) u → rm = sN (fun w => if hi w < mst κ d w then hi w else mst κ d w) u → (vd = 0 → ∃ w, w < u ∧ (mst κ d w < lo w ∨ hi w < few κ d w)) → (vd ≠ 0 → ∀ w, w < u → lo w ≤ mst κ d w ∧ few κ d w ≤ hi w) → (vd = 2 → ∀ w, w < u → lo w ≤ few κ d w ∧ mst κ d w ≤ hi w) → wpX2_verdict_b11 Q (r + 1) S o (pk d) (nI vd) (nI nd) (nI rm) (nI u) := by
      intro r
      induction r with
      | zero =>
        intro u vd nd rm hu hvd hnd hrm c0 cn c2
        have : u = 5 := by omega
        subst this
        have b1 : nd ≤ 5 * 14 := by rw [hnd]; refine sN_le (fun i hi' => ?_); have := fm i; have := lo8' i hi'; show (if few κ d i < lo i then lo i else few κ d i) ≤ 14; split <;> omega
        have b2 : rm ≤ 5 * 14 := by rw [hrm]; refine sN_le (fun i hi' => ?_); have := fm i; have := hi8' i hi'; show (if hi i < mst κ d i then hi i else mst κ d i) ≤ 14; split <;> omega
        have h5 := fin vd 5 nd rm (by omega) hvd (by omega) (by omega) c0 (fun e => ⟨rfl, cn e, hnd, hrm⟩) c2
        simp (disch := omega) only [wpX2_verdict_b11, c_0, c_1, c_2, c_3, c_4, c_5, c_6, c_7, c_8, c_9, c_10, c_11, c_12, c_14, c_16, c_19, c_20, c_24, c_31, c_32, c_35, c_48, c_57, c_59, c_63, c_97, c_100, c_122, c_127, c_169, c_255, c_600, c_1000, c_32767, Nat.le_refl, Nat.zero_le, Nat.add_zero, Nat.lt_irrefl, eq_self, o_sub, Nat.sub_zero, Nat.not_lt_zero, ↓ng_d, o_le, o_lt, o_eq, o_add, o_mul, o_cl, o_inT, o_and, n_31, o_shr, o_shl1, o_or, m_lt, m_ge, m_le, m_gt, m_ne, m_ne2, Option.some.injEq, exists_eq_left', true_and, and_true, true_implies, false_implies, implies_true, not_true_eq_false, not_false_eq_true, bI_0, bI_1, bI_01, b01, true_or, or_true, Nat.reduceEqDiff, Bool.not_eq_false, Bool.not_eq_true, Bool.true_eq_false, Bool.false_eq_true]
        exact h5
      | succ r ih =>
        intro u vd nd rm hu hvd hnd hrm c0 cn c2
        have e5 : ¬ 5 ≤ u := by omega
        have hu5 : u < 5 := by omega
        have b1 : nd ≤ u * 14 := by rw [hnd]; refine sN_le (fun i hi' => ?_); have := fm i; have := lo8' i (by omega); show (if few κ d i < lo i then lo i else few κ d i) ≤ 14; split <;> omega
        have b2 : rm ≤ u * 14 := by rw [hrm]; refine sN_le (fun i hi' => ?_); have := fm i; have := hi8' i (by omega); show (if hi i < mst κ d i then hi i else mst κ d i) ≤ 14; split <;> omega
        by_cases ev : vd = 0
        · subst ev
          have h5 := fin 0 u nd rm (by omega) (by omega) (by omega) (by omega) (fun _ => by obtain ⟨w, hw, q⟩ := c0 rfl; exact ⟨w, by omega, q⟩) (fun e => absurd rfl e) (fun e => by omega)
          simp (disch := omega) only [wpX2_verdict_b11, c_0, c_1, c_2, c_3, c_4, c_5, c_6, c_7, c_8, c_9, c_10, c_11, c_12, c_14, c_16, c_19, c_20, c_24, c_31, c_32, c_35, c_48, c_57, c_59, c_63, c_97, c_100, c_122, c_127, c_169, c_255, c_600, c_1000, c_32767, Nat.le_refl, Nat.zero_le, Nat.add_zero, Nat.lt_irrefl, eq_self, o_sub, Nat.sub_zero, Nat.not_lt_zero, ↓ng_d, o_le, o_lt, o_eq, o_add, o_mul, o_cl, o_inT, o_and, n_31, o_shr, o_shl1, o_or, m_lt, m_ge, m_le, m_gt, m_ne, m_ne2, Option.some.injEq, exists_eq_left', true_and, and_true, true_implies, false_implies, implies_true, not_true_eq_false, not_false_eq_true, bI_0, bI_1, bI_01, b01, true_or, or_true, Nat.reduceEqDiff, Bool.not_eq_false, Bool.not_eq_true, Bool.true_eq_false, Bool.false_eq_true, e5]
          exact h5
        · have hf := fm u
          have hl := lo8' u hu5
          have hh := hi8' u hu5
          have hv2 := vOn_2 (few κ d u) (mst κ d u) (lo u) (hi u)
          have e1 : κ.1 - (κ.1 - few κ d u) = few κ d u := by have := cN_le (fun k => decide (clr (d (κ.2.1 k)) u = 0)) κ.1; show κ.1 - (κ.1 - few κ d u) = few κ d u; unfold few at *; omega
          have e2 : (ds 3 lo 5 >>> (3 * u)) &&& 7 = lo u := ds3_at lo8' hu5
          have e3 : (ds 3 hi 5 >>> (3 * u)) &&& 7 = hi u := ds3_at hi8' hu5
          have h5 := ih (u + 1) (if vOn (few κ d u) (mst κ d u) (lo u) (hi u) < vd then vOn (few κ d u) (mst κ d u) (lo u) (hi u) else vd) (nd + (if few κ d u < lo u then lo u else few κ d u)) (rm + (if hi u < mst κ d u then hi u else mst κ d u)) (by omega) (by split <;> omega) (by rw [hnd]; rfl) (by rw [hrm]; rfl)
            (fun q => by
              have : vOn (few κ d u) (mst κ d u) (lo u) (hi u) = 0 := by split at q <;> omega
              exact ⟨u, by omega, vOn_0 this⟩)
            (fun q w hw => by
              by_cases z : w = u
              · subst z
                exact vOn_n (fun y => by rw [y] at q; rw [if_pos (by omega)] at q; exact q rfl)
              · exact cn ev w (by omega))
            (fun q w hw => by
              have hv : vd = 2 ∧ vOn (few κ d u) (mst κ d u) (lo u) (hi u) = 2 := by split at q <;> omega
              by_cases z : w = u
              · subst z; exact vOn_a hv.2
              · exact c2 hv.1 w (by omega))
          unfold wpX2_verdict_b11
          rw [show (1108378657 : Int64) = lN 1108378657 from rfl, show (63 : Int64) = lN 63 from rfl, zeros_shl u hu5, ngL_d]
          simp (disch := omega) only [c_0, c_1, c_2, c_3, c_4, c_5, c_6, c_7, c_8, c_9, c_10, c_11, c_12, c_14, c_16, c_19, c_20, c_24, c_31, c_32, c_35, c_48, c_57, c_59, c_63, c_97, c_100, c_122, c_127, c_169, c_255, c_600, c_1000, c_32767, Nat.le_refl, Nat.zero_le, Nat.add_zero, Nat.lt_irrefl, eq_self, o_sub, Nat.sub_zero, Nat.not_lt_zero, ↓ng_d, o_le, o_lt, o_eq, o_add, o_mul, o_cl, o_inT, o_and, n_31, o_shr, o_shl1, o_or, m_lt, m_ge, m_le, m_gt, m_ne, m_ne2, Option.some.injEq, exists_eq_left', true_and, and_true, true_implies, false_implies, implies_true, not_true_eq_false, not_false_eq_true, bI_0, bI_1, bI_01, b01, true_or, or_true, Nat.reduceEqDiff, Bool.not_eq_false, Bool.not_eq_true, Bool.true_eq_false, Bool.false_eq_true, e5, ev, hK, w_bcl]
          rw [r2, mst_eq hκ hd hu5, few_eq hκ hd hu5]
          simp (disch := omega) only [c_0, c_1, c_2, c_3, c_4, c_5, c_6, c_7, c_8, c_9, c_10, c_11, c_12, c_14, c_16, c_19, c_20, c_24, c_31, c_32, c_35, c_48, c_57, c_59, c_63, c_97, c_100, c_122, c_127, c_169, c_255, c_600, c_1000, c_32767, Nat.le_refl, Nat.zero_le, Nat.add_zero, Nat.lt_irrefl, eq_self, o_sub, Nat.sub_zero, Nat.not_lt_zero, ↓ng_d, o_le, o_lt, o_eq, o_add, o_mul, o_cl, o_inT, o_and, n_31, o_shr, o_shl1, o_or, m_lt, m_ge, m_le, m_gt, m_ne, m_ne2, Option.some.injEq, exists_eq_left', true_and, and_true, true_implies, false_implies, implies_true, not_true_eq_false, not_false_eq_true, bI_0, bI_1, bI_01, b01, true_or, or_true, Nat.reduceEqDiff, Bool.not_eq_false, Bool.not_eq_true, Bool.true_eq_false, Bool.false_eq_true, hK, r1, e1, k4, k5, o_ushr, e2, e3, w_vOn, if_nI]
          exact h5
    have h9 := main 5 0 2 0 0 rfl (by omega) rfl rfl (fun q => by omega) (fun _ w hw => by omega) (fun _ w hw => by omega)
    unfold wpX2_verdict
    exact ⟨_, h9⟩
  · have hc32 := (g8 hk).1
    have hfree := (g8 hk).2
    unfold wpX2_alike wpX2_hasCount
    refine ⟨hK, ?_⟩
    rw [w_isValue (by omega)]
    have ev : decide (v < 5) = true := decide_eq_true hv
    simp (disch := omega) only [ev, c_0, c_1, c_2, c_3, c_4, c_5, c_6, c_7, c_8, c_9, c_10, c_11, c_12, c_14, c_16, c_19, c_20, c_24, c_31, c_32, c_35, c_48, c_57, c_59, c_63, c_97, c_100, c_122, c_127, c_169, c_255, c_600, c_1000, c_32767, Nat.le_refl, Nat.zero_le, Nat.add_zero, Nat.lt_irrefl, eq_self, o_sub, Nat.sub_zero, Nat.not_lt_zero, ↓ng_d, o_le, o_lt, o_eq, o_add, o_mul, o_cl, o_inT, o_and, n_31, o_shr, o_shl1, o_or, m_lt, m_ge, m_le, m_gt, m_ne, m_ne2, Option.some.injEq, exists_eq_left', true_and, and_true, true_implies, false_implies, implies_true, not_true_eq_false, not_false_eq_true, bI_0, bI_1, bI_01, b01, true_or, or_true, Nat.reduceEqDiff, Bool.not_eq_false, Bool.not_eq_true, Bool.true_eq_false, Bool.false_eq_true, hK, k6, o_ushr]
    rw [o_has0]
    cases hb : (P (9 + 20 * c + 19)).testBit v
    · simp (disch := omega) only [c_0, c_1, c_2, c_3, c_4, c_5, c_6, c_7, c_8, c_9, c_10, c_11, c_12, c_14, c_16, c_19, c_20, c_24, c_31, c_32, c_35, c_48, c_57, c_59, c_63, c_97, c_100, c_122, c_127, c_169, c_255, c_600, c_1000, c_32767, Nat.le_refl, Nat.zero_le, Nat.add_zero, Nat.lt_irrefl, eq_self, o_sub, Nat.sub_zero, Nat.not_lt_zero, ↓ng_d, o_le, o_lt, o_eq, o_add, o_mul, o_cl, o_inT, o_and, n_31, o_shr, o_shl1, o_or, m_lt, m_ge, m_le, m_gt, m_ne, m_ne2, Option.some.injEq, exists_eq_left', true_and, and_true, true_implies, false_implies, implies_true, not_true_eq_false, not_false_eq_true, bI_0, bI_1, bI_01, b01, true_or, or_true, Nat.reduceEqDiff, Bool.not_eq_false, Bool.not_eq_true, Bool.true_eq_false, Bool.false_eq_true]
      rw [dm_andn 31 (by decide) _ hc32]
      refine hQ _ ⟨dm_andn_lt _ (by decide) _ hc32, by rw [dm_andn_tb _ (by decide) _ hc32 v hv, hb]; rcases lt5 hv with rfl | rfl | rfl | rfl | rfl <;> rfl, fun u hu hbu k hkk a ha hak => ?_⟩
      rw [dm_andn_tb _ (by decide) _ hc32 u hu] at hbu
      have hbu2 : (P (9 + 20 * c + 19)).testBit u = false := by simp only [Bool.and_eq_true, Bool.not_eq_true'] at hbu; exact hbu.2
      rw [hok, hok]
      unfold okCounts
      apply dB_c
      have same : ∀ w, w ≠ v → w ≠ u → cnt (cK P c).2.1 (ud a ((cK P c).2.1 k) v) w (cK P c).1 = cnt (cK P c).2.1 a w (cK P c).1 := fun w h1 h2 => cN_cong (fun j hj => by
        by_cases q : (cK P c).2.1 j = (cK P c).2.1 k
        · rw [q, ud_s, hak, decide_eq_false (fun z => h1 z.symm), decide_eq_false (fun z => h2 z.symm)]
        · rw [ud_n _ _ q])
      have fr1 : ∀ b w, (P (9 + 20 * c + 19)).testBit w = false → w < 5 → P (9 + 20 * c + (9 + w)) ≤ cnt (cK P c).2.1 b w (cK P c).1 ∧ cnt (cK P c).2.1 b w (cK P c).1 ≤ P (9 + 20 * c + (14 + w)) := fun b w h1 h2 => by
        have := hfree w h2 h1
        have := cN_le (fun k => decide (b ((cK P c).2.1 k) = w)) (cK P c).1
        show P (9 + 20 * c + (9 + w)) ≤ cN (fun k => decide (b ((cK P c).2.1 k) = w)) (cK P c).1 ∧ cN (fun k => decide (b ((cK P c).2.1 k) = w)) (cK P c).1 ≤ P (9 + 20 * c + (14 + w))
        omega
      constructor
      · intro q w hw
        by_cases h1 : w = v
        · subst h1; exact fr1 a w hb hw
        · by_cases h2 : w = u
          · subst h2; exact fr1 a w hbu2 hw
          · have := q w hw; rw [same w h1 h2] at this; exact this
      · intro q w hw
        by_cases h1 : w = v
        · subst h1; exact fr1 _ w hb hw
        · by_cases h2 : w = u
          · subst h2; exact fr1 _ w hbu2 hw
          · rw [same w h1 h2]; exact q w hw
    · simp (disch := omega) only [c_0, c_1, c_2, c_3, c_4, c_5, c_6, c_7, c_8, c_9, c_10, c_11, c_12, c_14, c_16, c_19, c_20, c_24, c_31, c_32, c_35, c_48, c_57, c_59, c_63, c_97, c_100, c_122, c_127, c_169, c_255, c_600, c_1000, c_32767, Nat.le_refl, Nat.zero_le, Nat.add_zero, Nat.lt_irrefl, eq_self, o_sub, Nat.sub_zero, Nat.not_lt_zero, ↓ng_d, o_le, o_lt, o_eq, o_add, o_mul, o_cl, o_inT, o_and, n_31, o_shr, o_shl1, o_or, m_lt, m_ge, m_le, m_gt, m_ne, m_ne2, Option.some.injEq, exists_eq_left', true_and, and_true, true_implies, false_implies, implies_true, not_true_eq_false, not_false_eq_true, bI_0, bI_1, bI_01, b01, true_or, or_true, Nat.reduceEqDiff, Bool.not_eq_false, Bool.not_eq_true, Bool.true_eq_false, Bool.false_eq_true]
      exact hQ _ (alk_self hκ hv)

/-! THE CLASS: windows -/
theorem zeros_mul : ∀ s, s < 32 → lN 1108378657 * (nI s).toInt64 = pk (fun _ => s) := by decide +kernel
/-- the members of one window -/
def wK (κ : Kon) (i w : Nat) : Kon := (w, (fun j => κ.2.1 (i + j)), fun _ => true)
theorem wK_wf {κ : Kon} (hκ : Kwf κ) {i w : Nat} (h : i + w ≤ κ.1) : Kwf (wK κ i w) := by
  have h7 := hκ.1
  exact ⟨by show w ≤ 7; omega, fun k hk => hκ.2.1 (i + k) (by have : k < w := hk; omega), fun a b ha hb e => by
    have ha' : a < w := ha
    have hb' : b < w := hb
    have := hκ.2.2.1 (i + a) (i + b) (by omega) (by omega) e
    omega, fun _ _ _ => rfl⟩
theorem sw_wf {s : Nat} (hs : s < 32) : Dwf (fun _ => s) := fun _ _ => hs
theorem s31 : ∀ w, w < 32 → ∀ s, s < 32 → w &&& (s &&& 31) = w &&& s ∧ andn (w &&& 31) (s &&& 31) = andn w s := by decide +kernel
theorem w_most {S : PS} {κ : Kon} {d : Nat → Nat} {s : Nat} {Q : Int32 → PS → Prop} (hκ : Kwf κ) (hd : Dwf d) (hs : s < 32) : wpX5_variablesIn S (pk d &&& (pk (fun _ => s) &&& pk (scp κ))) Q = Q (nI (cN (fun k => decide (d (κ.2.1 k) &&& s ≠ 0)) κ.1)) S := by
  rw [pq_and (sw_wf hs) (scp_wf κ), pq_and hd (fun x hx => dm_and_lt _ hs _ (scp_wf κ x hx)), w_variablesIn (fun x hx => dm_and_lt _ (hd x hx) _ (dm_and_lt _ hs _ (scp_wf κ x hx)))]
  congr 2
  rw [← mem_cnt hκ (fun x => decide (d x &&& s ≠ 0))]
  unfold nzs
  apply cN_cong
  intro x hx
  cases hm : inM κ x
  · simp [scp_f hm]
  · simp only [scp_t hm, Bool.true_and, (s31 _ (hd x hx) _ hs).1]
theorem w_out {S : PS} {κ : Kon} {d : Nat → Nat} {s : Nat} {Q : Int32 → PS → Prop} (hκ : Kwf κ) (hd : Dwf d) (hs : s < 32) : wpX5_variablesIn S ((pk d &&& pk (scp κ)) &&& ((pk (fun _ => s) &&& pk (scp κ)) ^^^ ngL)) Q = Q (nI (cN (fun k => !decide (andn (d (κ.2.1 k)) s = 0)) κ.1)) S := by
  have w1 : Dwf (fun x => d x &&& scp κ x) := fun x hx => dm_and_lt _ (hd x hx) _ (scp_wf κ x hx)
  have w2 : Dwf (fun x => s &&& scp κ x) := fun x hx => dm_and_lt _ hs _ (scp_wf κ x hx)
  rw [pq_and (sw_wf hs) (scp_wf κ), pq_and hd (scp_wf κ), pq_andn w1 w2, w_variablesIn (fun x hx => dm_andn_lt _ (w1 x hx) _ (w2 x hx))]
  congr 2
  rw [← mem_cnt hκ (fun x => !decide (andn (d x) s = 0))]
  unfold nzs
  apply cN_cong
  intro x hx
  cases hm : inM κ x
  · simp [scp_f hm, andn]
  · simp only [scp_t hm, Bool.true_and, (s31 _ (hd x hx) _ hs).2]
    by_cases q : andn (d x) s = 0
    · simp [q]
    · simp [q]
def wmo (κ : Kon) (d : Nat → Nat) (w s i : Nat) : Nat := cN (fun j => decide (d (κ.2.1 (i + j)) &&& s ≠ 0)) w
def wfe (κ : Kon) (d : Nat → Nat) (w s i : Nat) : Nat := cN (fun j => decide (andn (d (κ.2.1 (i + j))) s = 0)) w
theorem w_bounds {κ : Kon} {d a : Nat → Nat} (hκ : Kwf κ) (hd : Dwf d) (ha : Asg κ d a) {w s i : Nat} (hs : s < 32) (h : i + w ≤ κ.1) : wfe κ d w s i ≤ wct w s κ.2.1 a i ∧ wct w s κ.2.1 a i ≤ wmo κ d w s i := by
  constructor
  · apply cN_sub
    intro j hj q
    have h1 := ha (i + j) (by omega)
    have h2 := dm_andn_tb _ (hd _ (hκ.2.1 (i + j) (by omega))) _ hs _ h1.1
    have q1 : andn (d (κ.2.1 (i + j))) s = 0 := by simpa using q
    rw [q1, h1.2] at h2
    simp at h2
    exact h2
  · apply cN_sub
    intro j hj q
    have h1 := ha (i + j) (by omega)
    have : d (κ.2.1 (i + j)) &&& s ≠ 0 := fun z => by
      have h3 : (d (κ.2.1 (i + j)) &&& s).testBit (a (κ.2.1 (i + j))) = true := by rw [Nat.testBit_and, h1.2, q]; rfl
      rw [z] at h3
      simp at h3
    simpa using this
theorem w_bounds1 {κ : Kon} {d a : Nat → Nat} (hκ : Kwf κ) (hd : Dwf d) (ha : Asg κ d a) (hsg : ∀ k, k < κ.1 → ∀ u, u < 5 → (d (κ.2.1 k)).testBit u = true → u = a (κ.2.1 k)) {w s i : Nat} (hs : s < 32) (h : i + w ≤ κ.1) : wct w s κ.2.1 a i ≤ wfe κ d w s i ∧ wmo κ d w s i ≤ wct w s κ.2.1 a i := by
  constructor
  · apply cN_sub
    intro j hj q
    have hdx := hd _ (hκ.2.1 (i + j) (by omega))
    have : andn (d (κ.2.1 (i + j))) s = 0 := by
      rw [dm_0 _ (dm_andn_lt _ hdx _ hs)]
      intro v hv
      rw [dm_andn_tb _ hdx _ hs v hv]
      cases hb : (d (κ.2.1 (i + j))).testBit v
      · rfl
      · have := hsg (i + j) (by omega) v hv hb
        rw [this, q]
        rfl
    simpa using this
  · apply cN_sub
    intro j hj q
    have hdx := hd _ (hκ.2.1 (i + j) (by omega))
    have q1 : d (κ.2.1 (i + j)) &&& s ≠ 0 := by simpa using q
    obtain ⟨v, hv, hb⟩ := dm_ex (dm_and_lt _ hdx _ hs) q1
    rw [Nat.testBit_and, Bool.and_eq_true] at hb
    have := hsg (i + j) (by omega) v hv hb.1
    rw [← this]
    exact hb.2
theorem CC_window {S : PS} {o : Nat} {P : Nat → Nat} {c : Nat} (h : KRep S o P c) (hw : Cwf P c) (h0 : P 0 ≤ 7) (hk : P (9 + 20 * c) = 1) : CC S o (cK P c) := by
  obtain ⟨r0, r1, r2, r3, -, r5, -⟩ := h
  obtain ⟨hK, k4, k5, k6, k7⟩ := r5 hk
  have h4 : pC4 S o := Or.inr (Or.inr (Or.inr hK))
  have hκ := cK_wf hw h0
  have q1 : ¬ pK S o = 1 := by rw [hK]; decide
  have q2 : ¬ pK S o = 2 := by rw [hK]; decide
  have q3 : ¬ pK S o = 4 := by rw [hK]; decide
  obtain ⟨-, g1, g2, g3, g4, -, g6, -, -, g9, -⟩ := hw
  obtain ⟨w0, w4, s0, s5, lh, hw'⟩ := g6 hk
  have hn7 := hκ.1
  obtain ⟨κ, hκe⟩ : ∃ κ, κ = cK P c := ⟨_, rfl⟩
  obtain ⟨w, hwe⟩ : ∃ w, w = P (9 + 20 * c + 9) := ⟨_, rfl⟩
  obtain ⟨s, hse⟩ : ∃ s, s = P (9 + 20 * c + 10) := ⟨_, rfl⟩
  obtain ⟨lo, hle⟩ : ∃ lo, lo = P (9 + 20 * c + 11) := ⟨_, rfl⟩
  obtain ⟨hi, hhe⟩ : ∃ hi, hi = P (9 + 20 * c + 12) := ⟨_, rfl⟩
  have hok : ∀ a, κ.2.2 a = okWindow κ.1 κ.2.1 w s lo hi a := fun a => by
    rw [hκe, hwe, hse, hle, hhe]
    show cOk P c a = _
    unfold cOk
    rw [if_neg (by omega), if_pos hk]
    rfl
  rw [← hwe] at k4 w0 w4 hw'
  rw [← hse] at k5 s0 s5
  rw [← hle] at k6 lh
  rw [← hhe] at k7 lh hw'
  have r1 : pI S o 1 = nI κ.1 := by rw [hκe]; exact r1
  clear hn7
  rw [← hκe] at hκ r2 r3 ⊢
  have hn7 := hκ.1
  refine ⟨h4, r1, r2, r3, fun d Q hd hQ => ⟨fun q => absurd q q1, fun q => absurd q q2, fun q => absurd q q3, fun _ => ?_⟩, fun v Q hv hQ => ⟨fun q => absurd q q1, fun q => absurd q q2, fun q => absurd q q3, fun _ => ?_⟩⟩
  · have fm : ∀ i, wfe κ d w s i ≤ w ∧ wmo κ d w s i ≤ w := fun i => ⟨cN_le _ _, cN_le _ _⟩
    have main : ∀ r i vd, κ.1 < i + r + w → i + r ≤ κ.1 + 1 → i ≤ 8 → vd ≤ 2 → (vd = 0 → ∃ j, j + w ≤ κ.1 ∧ (wmo κ d w s j < lo ∨ hi < wfe κ d w s j)) → (vd ≠ 0 → ∀ j, j < i → j + w ≤ κ.1 → lo ≤ wmo κ d w s j ∧ wfe κ d w s j ≤ hi) → (vd = 2 → ∀ j, j < i → j + w ≤ κ.1 → lo ≤ wfe κ d w s j ∧ wmo κ d w s j ≤ hi) → wpX10_verdict_b5 Q (r + 1) S o (pk d) (nI vd) (nI i) := by
      intro r
      induction r with
      | zero =>
        intro i vd hi1 hi2 hi8 hvd c0 cn c2
        have e : κ.1 < i + w := by omega
        have h5 := hQ vd ⟨hvd, fun a ha => ⟨fun q => by
          obtain ⟨j, hj, hor⟩ := c0 q
          have := w_bounds hκ hd ha s5 hj
          rw [hok]; unfold okWindow; rw [dB_f]
          intro z
          have := z j hj
          omega, fun q => by
          have h6 := c2 q
          rw [hok]; unfold okWindow; rw [dB_t]
          intro j hj
          have := w_bounds hκ hd ha s5 hj
          have := h6 j (by omega) hj
          omega, fun q hsg => by
          have h6 := cn (by omega)
          rw [hok]; unfold okWindow; rw [dB_t]
          intro j hj
          have := w_bounds1 hκ hd ha hsg s5 hj
          have := h6 j (by omega) hj
          omega⟩⟩
        simp (disch := omega) only [wpX10_verdict_b5, c_0, c_1, c_2, c_3, c_4, c_5, c_6, c_7, c_8, c_9, c_10, c_11, c_12, c_14, c_16, c_19, c_20, c_24, c_31, c_32, c_35, c_48, c_57, c_59, c_63, c_97, c_100, c_122, c_127, c_169, c_255, c_600, c_1000, c_32767, Nat.le_refl, Nat.zero_le, Nat.add_zero, Nat.lt_irrefl, eq_self, o_sub, Nat.sub_zero, Nat.not_lt_zero, ↓ng_d, o_le, o_lt, o_eq, o_add, o_mul, o_cl, o_inT, o_and, n_31, o_shr, o_shl1, o_or, m_lt, m_ge, m_le, m_gt, m_ne, m_ne2, Option.some.injEq, exists_eq_left', true_and, and_true, true_implies, false_implies, implies_true, not_true_eq_false, not_false_eq_true, bI_0, bI_1, bI_01, b01, true_or, or_true, Nat.reduceEqDiff, Bool.not_eq_false, Bool.not_eq_true, Bool.true_eq_false, Bool.false_eq_true, hK, r1, k4, e]
        exact h5
      | succ r ih =>
        intro i vd hi1 hi2 hi8 hvd c0 cn c2
        by_cases e : κ.1 < i + w
        · have h5 := hQ vd ⟨hvd, fun a ha => ⟨fun q => by
            obtain ⟨j, hj, hor⟩ := c0 q
            have := w_bounds hκ hd ha s5 hj
            rw [hok]; unfold okWindow; rw [dB_f]
            intro z
            have := z j hj
            omega, fun q => by
            have h6 := c2 q
            rw [hok]; unfold okWindow; rw [dB_t]
            intro j hj
            have := w_bounds hκ hd ha s5 hj
            have := h6 j (by omega) hj
            omega, fun q hsg => by
            have h6 := cn (by omega)
            rw [hok]; unfold okWindow; rw [dB_t]
            intro j hj
            have := w_bounds1 hκ hd ha hsg s5 hj
            have := h6 j (by omega) hj
            omega⟩⟩
          simp (disch := omega) only [wpX10_verdict_b5, c_0, c_1, c_2, c_3, c_4, c_5, c_6, c_7, c_8, c_9, c_10, c_11, c_12, c_14, c_16, c_19, c_20, c_24, c_31, c_32, c_35, c_48, c_57, c_59, c_63, c_97, c_100, c_122, c_127, c_169, c_255, c_600, c_1000, c_32767, Nat.le_refl, Nat.zero_le, Nat.add_zero, Nat.lt_irrefl, eq_self, o_sub, Nat.sub_zero, Nat.not_lt_zero, ↓ng_d, o_le, o_lt, o_eq, o_add, o_mul, o_cl, o_inT, o_and, n_31, o_shr, o_shl1, o_or, m_lt, m_ge, m_le, m_gt, m_ne, m_ne2, Option.some.injEq, exists_eq_left', true_and, and_true, true_implies, false_implies, implies_true, not_true_eq_false, not_false_eq_true, bI_0, bI_1, bI_01, b01, true_or, or_true, Nat.reduceEqDiff, Bool.not_eq_false, Bool.not_eq_true, Bool.true_eq_false, Bool.false_eq_true, hK, r1, k4, e]
          exact h5
        · by_cases ev : vd = 0
          · subst ev
            have h5 := hQ 0 ⟨by omega, fun a ha => ⟨fun q => by
              obtain ⟨j, hj, hor⟩ := c0 q
              have := w_bounds hκ hd ha s5 hj
              rw [hok]; unfold okWindow; rw [dB_f]
              intro z
              have := z j hj
              omega, fun q => by omega, fun q => by omega⟩⟩
            simp (disch := omega) only [wpX10_verdict_b5, c_0, c_1, c_2, c_3, c_4, c_5, c_6, c_7, c_8, c_9, c_10, c_11, c_12, c_14, c_16, c_19, c_20, c_24, c_31, c_32, c_35, c_48, c_57, c_59, c_63, c_97, c_100, c_122, c_127, c_169, c_255, c_600, c_1000, c_32767, Nat.le_refl, Nat.zero_le, Nat.add_zero, Nat.lt_irrefl, eq_self, o_sub, Nat.sub_zero, Nat.not_lt_zero, ↓ng_d, o_le, o_lt, o_eq, o_add, o_mul, o_cl, o_inT, o_and, n_31, o_shr, o_shl1, o_or, m_lt, m_ge, m_le, m_gt, m_ne, m_ne2, Option.some.injEq, exists_eq_left', true_and, and_true, true_implies, false_implies, implies_true, not_true_eq_false, not_false_eq_true, bI_0, bI_1, bI_01, b01, true_or, or_true, Nat.reduceEqDiff, Bool.not_eq_false, Bool.not_eq_true, Bool.true_eq_false, Bool.false_eq_true, hK, r1, k4, e]
            exact h5
          · have hin : i + w ≤ κ.1 := by omega
            have hv2 := vOn_2 (wfe κ d w s i) (wmo κ d w s i) lo hi
            have hf := fm i
            have h5 := ih (i + 1) (if vOn (wfe κ d w s i) (wmo κ d w s i) lo hi < vd then vOn (wfe κ d w s i) (wmo κ d w s i) lo hi else vd) (by omega) (by omega) (by omega) (by split <;> omega)
              (fun q => by
                have : vOn (wfe κ d w s i) (wmo κ d w s i) lo hi = 0 := by split at q <;> omega
                exact ⟨i, hin, vOn_0 this⟩)
              (fun q j hj hjn => by
                by_cases z : j = i
                · subst z
                  exact vOn_n (fun y => by rw [y] at q; rw [if_pos (by omega)] at q; exact q rfl)
                · exact cn ev j (by omega) hjn)
              (fun q j hj hjn => by
                have hv : vd = 2 ∧ vOn (wfe κ d w s i) (wmo κ d w s i) lo hi = 2 := by split at q <;> omega
                by_cases z : j = i
                · subst z; exact vOn_a hv.2
                · exact c2 hv.1 j (by omega) hjn)
            have inner : ∀ r2 p, p + r2 = w → wpX10_verdict_b30 (wpX10_verdict_b5 Q (r + 1)) Q (r2 + 1) S o (pk d) (nI vd) (nI i) (pk (scp (wK κ i p))) (nI (i + p)) := by
              intro r2
              induction r2 with
              | zero =>
                intro p hp
                have : p = w := by omega
                subst this
                have hκw := wK_wf hκ hin
                have e1 : wfe κ d p s i = p - cN (fun j => !decide (andn (d (κ.2.1 (i + j))) s = 0)) p := (cN_not (fun j => decide (andn (d (κ.2.1 (i + j))) s = 0)) p).symm
                have e2 := cN_le (fun j => !decide (andn (d (κ.2.1 (i + j))) s = 0)) p
                have e3 := w_most (S := S) (s := s) hκw hd s5
                have e4 := w_out (S := S) (s := s) hκw hd s5
                unfold wpX10_verdict_b30
                simp (disch := omega) only [c_0, c_1, c_2, c_3, c_4, c_5, c_6, c_7, c_8, c_9, c_10, c_11, c_12, c_14, c_16, c_19, c_20, c_24, c_31, c_32, c_35, c_48, c_57, c_59, c_63, c_97, c_100, c_122, c_127, c_169, c_255, c_600, c_1000, c_32767, Nat.le_refl, Nat.zero_le, Nat.add_zero, Nat.lt_irrefl, eq_self, o_sub, Nat.sub_zero, Nat.not_lt_zero, ↓ng_d, o_le, o_lt, o_eq, o_add, o_mul, o_cl, o_inT, o_and, n_31, o_shr, o_shl1, o_or, m_lt, m_ge, m_le, m_gt, m_ne, m_ne2, Option.some.injEq, exists_eq_left', true_and, and_true, true_implies, false_implies, implies_true, not_true_eq_false, not_false_eq_true, bI_0, bI_1, bI_01, b01, true_or, or_true, Nat.reduceEqDiff, Bool.not_eq_false, Bool.not_eq_true, Bool.true_eq_false, Bool.false_eq_true, hK, k4, k5, ngL_d]
                rw [show (1108378657 : Int64) = lN 1108378657 from rfl, zeros_mul s s5, e3]
                simp (disch := omega) only [c_0, c_1, c_2, c_3, c_4, c_5, c_6, c_7, c_8, c_9, c_10, c_11, c_12, c_14, c_16, c_19, c_20, c_24, c_31, c_32, c_35, c_48, c_57, c_59, c_63, c_97, c_100, c_122, c_127, c_169, c_255, c_600, c_1000, c_32767, Nat.le_refl, Nat.zero_le, Nat.add_zero, Nat.lt_irrefl, eq_self, o_sub, Nat.sub_zero, Nat.not_lt_zero, ↓ng_d, o_le, o_lt, o_eq, o_add, o_mul, o_cl, o_inT, o_and, n_31, o_shr, o_shl1, o_or, m_lt, m_ge, m_le, m_gt, m_ne, m_ne2, Option.some.injEq, exists_eq_left', true_and, and_true, true_implies, false_implies, implies_true, not_true_eq_false, not_false_eq_true, bI_0, bI_1, bI_01, b01, true_or, or_true, Nat.reduceEqDiff, Bool.not_eq_false, Bool.not_eq_true, Bool.true_eq_false, Bool.false_eq_true, hK, k4, k5, ngL_d]
                rw [e4]
                have e5 : nI p - nI (cN (fun k => !decide (andn (d ((wK κ i p).2.1 k)) s = 0)) (wK κ i p).1) = nI (wfe κ d p s i) := by rw [e1]; exact o_sub e2
                have e6 : cN (fun k => decide (d ((wK κ i p).2.1 k) &&& s ≠ 0)) (wK κ i p).1 = wmo κ d p s i := rfl
                rw [e5, e6]
                simp (disch := omega) only [c_0, c_1, c_2, c_3, c_4, c_5, c_6, c_7, c_8, c_9, c_10, c_11, c_12, c_14, c_16, c_19, c_20, c_24, c_31, c_32, c_35, c_48, c_57, c_59, c_63, c_97, c_100, c_122, c_127, c_169, c_255, c_600, c_1000, c_32767, Nat.le_refl, Nat.zero_le, Nat.add_zero, Nat.lt_irrefl, eq_self, o_sub, Nat.sub_zero, Nat.not_lt_zero, ↓ng_d, o_le, o_lt, o_eq, o_add, o_mul, o_cl, o_inT, o_and, n_31, o_shr, o_shl1, o_or, m_lt, m_ge, m_le, m_gt, m_ne, m_ne2, Option.some.injEq, exists_eq_left', true_and, and_true, true_implies, false_implies, implies_true, not_true_eq_false, not_false_eq_true, bI_0, bI_1, bI_01, b01, true_or, or_true, Nat.reduceEqDiff, Bool.not_eq_false, Bool.not_eq_true, Bool.true_eq_false, Bool.false_eq_true, hK, k6, k7, w_vOn, if_nI]
                exact h5
              | succ r2 ih2 =>
                intro p hp
                have hx := hκ.2.1 (i + p) (by omega)
                have h6 := ih2 (p + 1) (by omega)
                have e1 : ¬ i + w ≤ i + p := by omega
                have e2 : pk (scp (wK κ i p)) ||| pk (sg (κ.2.1 (i + p)) 31) = pk (scp (wK κ i (p + 1))) := by
                  rw [pq_or (scp_wf _) (sg_wf (by decide))]
                  apply pq_cg
                  intro x hx7
                  show scp (wK κ i p) x ||| sg (κ.2.1 (i + p)) 31 x = scp (wK κ i (p + 1)) x
                  have t : inM (wK κ i (p + 1)) x = true ↔ (inM (wK κ i p) x = true ∨ κ.2.1 (i + p) = x) := by
                    rw [inM_t, inM_t]
                    constructor
                    · rintro ⟨k, hk1, hk2⟩
                      have hk1' : k < p + 1 := hk1
                      by_cases z : k = p
                      · right; rw [← z]; exact hk2
                      · left; exact ⟨k, by show k < p; omega, hk2⟩
                    · rintro (⟨k, hk1, hk2⟩ | q)
                      · exact ⟨k, by have : k < p := hk1; show k < p + 1; omega, hk2⟩
                      · exact ⟨p, Nat.lt_succ_self p, q⟩
                  unfold scp
                  by_cases z : κ.2.1 (i + p) = x
                  · rw [if_pos (t.mpr (Or.inr z)), ← z, sg_s]
                    split <;> rfl
                  · rw [sg_n (fun y => z y.symm), Nat.or_zero]
                    by_cases y : inM (wK κ i p) x = true
                    · rw [if_pos y, if_pos (t.mpr (Or.inl y))]
                    · rw [if_neg y, if_neg (fun q => (t.mp q).elim y z)]
                unfold wpX10_verdict_b30
                simp (disch := omega) only [c_0, c_1, c_2, c_3, c_4, c_5, c_6, c_7, c_8, c_9, c_10, c_11, c_12, c_14, c_16, c_19, c_20, c_24, c_31, c_32, c_35, c_48, c_57, c_59, c_63, c_97, c_100, c_122, c_127, c_169, c_255, c_600, c_1000, c_32767, Nat.le_refl, Nat.zero_le, Nat.add_zero, Nat.lt_irrefl, eq_self, o_sub, Nat.sub_zero, Nat.not_lt_zero, ↓ng_d, o_le, o_lt, o_eq, o_add, o_mul, o_cl, o_inT, o_and, n_31, o_shr, o_shl1, o_or, m_lt, m_ge, m_le, m_gt, m_ne, m_ne2, Option.some.injEq, exists_eq_left', true_and, and_true, true_implies, false_implies, implies_true, not_true_eq_false, not_false_eq_true, bI_0, bI_1, bI_01, b01, true_or, or_true, Nat.reduceEqDiff, Bool.not_eq_false, Bool.not_eq_true, Bool.true_eq_false, Bool.false_eq_true, hK, k4, e1, w_variableAt h4 r3 hκ, w_allOf hx, e2]
                exact h6
            have h7 := inner w 0 (Nat.zero_add _)
            have e8 : pk (scp (wK κ i 0)) = lN 0 := by
              rw [pq_z]
              apply pq_cg
              intro x _
              unfold scp
              rw [if_neg (fun q => by obtain ⟨k, hk1, _⟩ := inM_t.mp q; exact absurd hk1 (Nat.not_lt_zero _))]
            rw [e8] at h7
            generalize r + 1 = fu at h7 ⊢
            simp (disch := omega) only [wpX10_verdict_b5, c_0, c_1, c_2, c_3, c_4, c_5, c_6, c_7, c_8, c_9, c_10, c_11, c_12, c_14, c_16, c_19, c_20, c_24, c_31, c_32, c_35, c_48, c_57, c_59, c_63, c_97, c_100, c_122, c_127, c_169, c_255, c_600, c_1000, c_32767, Nat.le_refl, Nat.zero_le, Nat.add_zero, Nat.lt_irrefl, eq_self, o_sub, Nat.sub_zero, Nat.not_lt_zero, ↓ng_d, o_le, o_lt, o_eq, o_add, o_mul, o_cl, o_inT, o_and, n_31, o_shr, o_shl1, o_or, m_lt, m_ge, m_le, m_gt, m_ne, m_ne2, Option.some.injEq, exists_eq_left', true_and, and_true, true_implies, false_implies, implies_true, not_true_eq_false, not_false_eq_true, bI_0, bI_1, bI_01, b01, true_or, or_true, Nat.reduceEqDiff, Bool.not_eq_false, Bool.not_eq_true, Bool.true_eq_false, Bool.false_eq_true, hK, r1, k4, e, ev]
            exact ⟨_, h7⟩
    have h9 := main (κ.1 + 1) 0 2 (by omega) (by omega) (by omega) (by omega) (fun q => by omega) (fun _ j hj => by omega) (fun _ j hj => by omega)
    unfold wpX10_verdict
    exact ⟨_, h9⟩
  · have gen : ∀ A, A < 32 → A.testBit v = true → (∀ u, u < 5 → A.testBit u = true → s.testBit u = s.testBit v) → alk κ v A := fun A hA hAv hAs => ⟨hA, hAv, fun u hu hb k hkk a ha hak => by
      rw [hok, hok]
      unfold okWindow
      apply dB_c
      have same : ∀ i, i + w ≤ κ.1 → wct w s κ.2.1 (ud a (κ.2.1 k) v) i = wct w s κ.2.1 a i := fun i hiw => cN_cong (fun j hj => by
        by_cases q : κ.2.1 (i + j) = κ.2.1 k
        · rw [q, ud_s, hak]; exact (hAs u hu hb).symm
        · rw [ud_n _ _ q])
      constructor
      · intro q i hiw; rw [← same i hiw]; exact q i hiw
      · intro q i hiw; rw [same i hiw]; exact q i hiw⟩
    unfold wpX10_alike
    simp (disch := omega) only [c_0, c_1, c_2, c_3, c_4, c_5, c_6, c_7, c_8, c_9, c_10, c_11, c_12, c_14, c_16, c_19, c_20, c_24, c_31, c_32, c_35, c_48, c_57, c_59, c_63, c_97, c_100, c_122, c_127, c_169, c_255, c_600, c_1000, c_32767, Nat.le_refl, Nat.zero_le, Nat.add_zero, Nat.lt_irrefl, eq_self, o_sub, Nat.sub_zero, Nat.not_lt_zero, ↓ng_d, o_le, o_lt, o_eq, o_add, o_mul, o_cl, o_inT, o_and, n_31, o_shr, o_shl1, o_or, m_lt, m_ge, m_le, m_gt, m_ne, m_ne2, Option.some.injEq, exists_eq_left', true_and, and_true, true_implies, false_implies, implies_true, not_true_eq_false, not_false_eq_true, bI_0, bI_1, bI_01, b01, true_or, or_true, Nat.reduceEqDiff, Bool.not_eq_false, Bool.not_eq_true, Bool.true_eq_false, Bool.false_eq_true, hK, k5, o_ushr]
    rw [o_has0]
    cases hb : s.testBit v
    · simp (disch := omega) only [c_0, c_1, c_2, c_3, c_4, c_5, c_6, c_7, c_8, c_9, c_10, c_11, c_12, c_14, c_16, c_19, c_20, c_24, c_31, c_32, c_35, c_48, c_57, c_59, c_63, c_97, c_100, c_122, c_127, c_169, c_255, c_600, c_1000, c_32767, Nat.le_refl, Nat.zero_le, Nat.add_zero, Nat.lt_irrefl, eq_self, o_sub, Nat.sub_zero, Nat.not_lt_zero, ↓ng_d, o_le, o_lt, o_eq, o_add, o_mul, o_cl, o_inT, o_and, n_31, o_shr, o_shl1, o_or, m_lt, m_ge, m_le, m_gt, m_ne, m_ne2, Option.some.injEq, exists_eq_left', true_and, and_true, true_implies, false_implies, implies_true, not_true_eq_false, not_false_eq_true, bI_0, bI_1, bI_01, b01, true_or, or_true, Nat.reduceEqDiff, Bool.not_eq_false, Bool.not_eq_true, Bool.true_eq_false, Bool.false_eq_true]
      rw [dm_andn 31 (by decide) _ s5]
      have f31 : ∀ u, u < 5 → (31 : Nat).testBit u = true := by decide
      refine hQ _ (gen _ (dm_andn_lt _ (by decide) _ s5) (by rw [dm_andn_tb _ (by decide) _ s5 v hv, hb, f31 v hv]; rfl) (fun u hu hbu => ?_))
      rw [dm_andn_tb _ (by decide) _ s5 u hu, f31 u hu] at hbu
      simpa [hb] using hbu
    · simp (disch := omega) only [c_0, c_1, c_2, c_3, c_4, c_5, c_6, c_7, c_8, c_9, c_10, c_11, c_12, c_14, c_16, c_19, c_20, c_24, c_31, c_32, c_35, c_48, c_57, c_59, c_63, c_97, c_100, c_122, c_127, c_169, c_255, c_600, c_1000, c_32767, Nat.le_refl, Nat.zero_le, Nat.add_zero, Nat.lt_irrefl, eq_self, o_sub, Nat.sub_zero, Nat.not_lt_zero, ↓ng_d, o_le, o_lt, o_eq, o_add, o_mul, o_cl, o_inT, o_and, n_31, o_shr, o_shl1, o_or, m_lt, m_ge, m_le, m_gt, m_ne, m_ne2, Option.some.injEq, exists_eq_left', true_and, and_true, true_implies, false_implies, implies_true, not_true_eq_false, not_false_eq_true, bI_0, bI_1, bI_01, b01, true_or, or_true, Nat.reduceEqDiff, Bool.not_eq_false, Bool.not_eq_true, Bool.true_eq_false, Bool.false_eq_true]
      exact hQ _ (gen s s5 hb (fun u hu hbu => by rw [hbu, hb]))
theorem CC_of {S : PS} {o : Nat} {P : Nat → Nat} {c : Nat} (h : KRep S o P c) (hw : Cwf P c) (h0 : P 0 ≤ 7) : CC S o (cK P c) := by
  by_cases e0 : P (9 + 20 * c) = 0
  · exact CC_counts h hw h0 e0
  · by_cases e1 : P (9 + 20 * c) = 1
    · exact CC_window h hw h0 e1
    · exact CC_cmp h hw h0 (by omega)

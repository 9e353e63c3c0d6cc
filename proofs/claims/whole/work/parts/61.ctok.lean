/-! THE TEXT: tokens -/
/-- a run of characters -/
def rnF (q : Nat → Bool) : Nat → Nat → Nat
  | 0, i => i
  | r + 1, i => if q i = true then rnF q r (i + 1) else i
def rn (q : Nat → Bool) (n i : Nat) : Nat := rnF q (n - i) i
theorem rn_t {q : Nat → Bool} {n i : Nat} (hq : ∀ j, n ≤ j → q j = false) (h : q i = true) : rn q n i = rn q n (i + 1) := by
  have hi : i < n := by
    rcases Nat.lt_or_ge i n with z | z
    · exact z
    · rw [hq i z] at h
      cases h
  unfold rn
  rw [show n - i = (n - (i + 1)) + 1 by omega]
  show (if q i = true then rnF q (n - (i + 1)) (i + 1) else i) = _
  rw [if_pos h]
theorem rn_f {q : Nat → Bool} {n i : Nat} (h : q i = false) : rn q n i = i := by
  unfold rn
  cases n - i with
  | zero => rfl
  | succ r =>
    show (if q i = true then rnF q r (i + 1) else i) = i
    rw [if_neg (by rw [h]; decide)]
theorem rn_sp {q : Nat → Bool} {n : Nat} (hq : ∀ j, n ≤ j → q j = false) : ∀ r i, n - i = r → i ≤ rn q n i ∧ (i ≤ n → rn q n i ≤ n) ∧ (∀ j, i ≤ j → j < rn q n i → q j = true) ∧ q (rn q n i) = false := by
  intro r
  induction r with
  | zero =>
    intro i hi
    have h := hq i (by omega)
    rw [rn_f h]
    exact ⟨Nat.le_refl _, fun z => z, fun j h1 h2 => absurd h2 (by omega), h⟩
  | succ r ih =>
    intro i hi
    cases h : q i
    · rw [rn_f h]
      exact ⟨Nat.le_refl _, fun z => z, fun j h1 h2 => absurd h2 (by omega), h⟩
    · obtain ⟨a1, a2, a3, a4⟩ := ih (i + 1) (by omega)
      rw [rn_t hq h]
      refine ⟨by omega, fun z => a2 (by omega), fun j h1 h2 => ?_, a4⟩
      by_cases e : j = i
      · rw [e]
        exact h
      · exact a3 j (by omega) h2
def blB (tx : Nat → Nat) (n i : Nat) : Bool := decide (i < n) && (decide (tx i = 32) || decide (tx i = 10))
def ltB (tx : Nat → Nat) (n i : Nat) : Bool := decide (i < n) && (decide (97 ≤ tx i) && decide (tx i ≤ 122))
def dgB (tx : Nat → Nat) (n i : Nat) : Bool := decide (i < n) && (decide (48 ≤ tx i) && decide (tx i ≤ 57))
theorem blB_n {tx : Nat → Nat} {n : Nat} : ∀ j, n ≤ j → blB tx n j = false := fun j hj => by unfold blB; rw [decide_eq_false (by omega)]; rfl
theorem ltB_n {tx : Nat → Nat} {n : Nat} : ∀ j, n ≤ j → ltB tx n j = false := fun j hj => by unfold ltB; rw [decide_eq_false (by omega)]; rfl
theorem dgB_n {tx : Nat → Nat} {n : Nat} : ∀ j, n ≤ j → dgB tx n j = false := fun j hj => by unfold dgB; rw [decide_eq_false (by omega)]; rfl
theorem ltB_i {tx : Nat → Nat} {n i : Nat} (h : ltB tx n i = true) : i < n ∧ 97 ≤ tx i ∧ tx i ≤ 122 := by
  unfold ltB at h
  rw [Bool.and_eq_true, Bool.and_eq_true, decide_eq_true_iff, decide_eq_true_iff, decide_eq_true_iff] at h
  exact ⟨h.1, h.2.1, h.2.2⟩
theorem dgB_i {tx : Nat → Nat} {n i : Nat} (h : dgB tx n i = true) : i < n ∧ 48 ≤ tx i ∧ tx i ≤ 57 := by
  unfold dgB at h
  rw [Bool.and_eq_true, Bool.and_eq_true, decide_eq_true_iff, decide_eq_true_iff, decide_eq_true_iff] at h
  exact ⟨h.1, h.2.1, h.2.2⟩
/-- where the token behind a place starts, where it ends, and its kind -/
def sT (tx : Nat → Nat) (n p : Nat) : Nat := rn (blB tx n) n p
def eT (tx : Nat → Nat) (n p : Nat) : Nat := if n ≤ sT tx n p then sT tx n p else if ltB tx n (sT tx n p) = true then rn (ltB tx n) n (sT tx n p) else if dgB tx n (sT tx n p) = true then rn (dgB tx n) n (sT tx n p) else sT tx n p + 1
def kT (tx : Nat → Nat) (n p : Nat) : Nat := if n ≤ sT tx n p then 0 else if ltB tx n (sT tx n p) = true then 1 else if dgB tx n (sT tx n p) = true then (if eT tx n p - sT tx n p ≤ 2 then 2 else 4) else if tx (sT tx n p) = 59 then 3 else 4
theorem sT_le {tx : Nat → Nat} {n p : Nat} (hp : p ≤ n) : p ≤ sT tx n p ∧ sT tx n p ≤ n := by
  obtain ⟨a1, a2, _⟩ := rn_sp (q := blB tx n) (n := n) blB_n _ p rfl
  exact ⟨a1, a2 hp⟩
theorem eT_le {tx : Nat → Nat} {n p : Nat} (hp : p ≤ n) : sT tx n p ≤ eT tx n p ∧ eT tx n p ≤ n := by
  have h1 := sT_le (tx := tx) hp
  obtain ⟨b1, b2, _⟩ := rn_sp (q := ltB tx n) (n := n) ltB_n _ (sT tx n p) rfl
  obtain ⟨c1, c2, _⟩ := rn_sp (q := dgB tx n) (n := n) dgB_n _ (sT tx n p) rfl
  unfold eT
  by_cases e : n ≤ sT tx n p
  · rw [if_pos e]
    exact ⟨Nat.le_refl _, h1.2⟩
  · rw [if_neg e]
    by_cases e2 : ltB tx n (sT tx n p) = true
    · rw [if_pos e2]
      exact ⟨b1, b2 h1.2⟩
    · rw [if_neg e2]
      by_cases e3 : dgB tx n (sT tx n p) = true
      · rw [if_pos e3]
        exact ⟨c1, c2 h1.2⟩
      · rw [if_neg e3]
        exact ⟨by omega, by omega⟩
/-- the number that digits tell -/
def nvN (tx : Nat → Nat) (s : Nat) : Nat → Nat
  | 0 => 0
  | j + 1 => 10 * nvN tx s j + tx (s + j) - 48
/-- the class's code of a word -/
def cdW (tx : Nat → Nat) (s : Nat) : Nat → Int32
  | 0 => nI 0
  | j + 1 => (cdW tx s j <<< (nI 5 &&& nI 31)) ||| nI (tx (s + j) - 96)
/-- the reference's -/
def nmN (tx : Nat → Nat) (s : Nat) : Nat → Nat
  | 0 => 0
  | j + 1 => 27 * nmN tx s j + (tx (s + j) - 96)
def cat (tx : Nat → Nat) (n i : Nat) : Int32 := if i < n then nI (tx i) else ngI
/-- the text that is read: the class -/
def cLn (S : PS) (tx : Nat → Nat) (n : Nat) : Prop := pI S 1 2 = nI n ∧ n ≤ 600 ∧ ∀ i, i < n → pI S 2 i &&& nI 255 = nI (tx i) ∧ tx i < 256
theorem w_byteAt {S : PS} {tx : Nat → Nat} {n i : Nat} {Q : Int32 → PS → Prop} (hc : CSh S) (hx : cLn S tx n) (hi : i < 100000) : wpX8_byteAt S 1 (nI i) Q = Q (cat tx n i) S := by
  obtain ⟨h1, h2, h3⟩ := hx
  have hK1 := hc.2.2.2.2.2.2.2.2.2.2.2.2.2.1
  have hR1 := hc.2.2.2.2.2.2.2.2.2.2.2.2.2.2.1
  have hK2 := hc.2.2.2.2.2.2.2.2.2.2.2.2.2.2.2.2.1
  have hL2 := hc.2.2.2.2.2.2.2.2.2.2.2.2.2.2.2.2.2.1
  have n0 : ¬ nI i < nI 0 := by
    rw [o_lt (by omega) (by omega)]
    omega
  unfold wpX8_byteAt cat
  rw [c_0, c_255, h1, o_cl (by omega), o_le (by omega) (by omega)]
  simp only [↓ng_d]
  apply propext
  by_cases hin : i < n
  · rw [if_pos hin]
    have n2 : ¬ nI 600 ≤ nI i := by
      rw [o_le (by omega) (by omega)]
      omega
    constructor
    · rintro ⟨_, q⟩
      obtain ⟨_, _, q2⟩ := q n0
      obtain ⟨o, ho, _, _, q3⟩ := q2 (by omega)
      rw [hR1] at ho
      cases ho
      rw [hL2, (h3 i hin).1] at q3
      exact (q3 n2).2
    · intro q
      refine ⟨fun z => absurd z n0, fun _ => ⟨hK1, fun z => absurd hin (by omega), fun _ => ⟨2, hR1, hK2, ?_⟩⟩⟩
      rw [hL2, (h3 i hin).1]
      refine ⟨fun z => absurd z n2, fun _ => ⟨?_, q⟩⟩
      rw [o_inT (by omega) (by omega)]
      trivial
  · rw [if_neg hin]
    constructor
    · rintro ⟨_, q⟩
      exact (q n0).2.1 (by omega)
    · intro q
      exact ⟨fun z => absurd z n0, fun _ => ⟨hK1, fun _ => q, fun z => absurd z (by omega)⟩⟩
theorem w_isLt {S : PS} {tx : Nat → Nat} {n i : Nat} {Q : Int32 → PS → Prop} (h : i < n → tx i < 256) : wpX8_isLetter S (cat tx n i) Q = Q (bI (ltB tx n i)) S := by
  unfold wpX8_isLetter cat ltB
  rw [c_0, c_1, c_97, c_122]
  by_cases hin : i < n
  · have h2 := h hin
    rw [if_pos hin, decide_eq_true hin, Bool.true_and, o_lt (by omega) (by omega), o_lt (by omega) (by omega)]
    by_cases e1 : tx i < 97
    · rw [decide_eq_false (show ¬ 97 ≤ tx i by omega), Bool.false_and]
      exact propext ⟨fun q => q.1 e1, fun q => ⟨fun _ => q, fun z => absurd e1 z⟩⟩
    · rw [decide_eq_true (show 97 ≤ tx i by omega), Bool.true_and]
      by_cases e2 : 122 < tx i
      · rw [decide_eq_false (show ¬ tx i ≤ 122 by omega)]
        exact propext ⟨fun q => (q.2 e1).1 e2, fun q => ⟨fun z => absurd z e1, fun _ => ⟨fun _ => q, fun z => absurd e2 z⟩⟩⟩
      · rw [decide_eq_true (show tx i ≤ 122 by omega)]
        exact propext ⟨fun q => (q.2 e1).2 e2, fun q => ⟨fun z => absurd z e1, fun _ => ⟨fun z => absurd z e2, fun _ => q⟩⟩⟩
  · rw [if_neg hin, decide_eq_false hin, Bool.false_and]
    have : ngI < nI 97 := by rw [m_lt 97 (by decide)]; trivial
    exact propext ⟨fun q => q.1 this, fun q => ⟨fun _ => q, fun z => absurd this z⟩⟩
theorem w_isDg {S : PS} {tx : Nat → Nat} {n i : Nat} {Q : Int32 → PS → Prop} (h : i < n → tx i < 256) : wpX8_isDigit S (cat tx n i) Q = Q (bI (dgB tx n i)) S := by
  unfold wpX8_isDigit cat dgB
  rw [c_0, c_1, c_48, c_57]
  by_cases hin : i < n
  · have h2 := h hin
    rw [if_pos hin, decide_eq_true hin, Bool.true_and, o_lt (by omega) (by omega), o_lt (by omega) (by omega)]
    by_cases e1 : tx i < 48
    · rw [decide_eq_false (show ¬ 48 ≤ tx i by omega), Bool.false_and]
      exact propext ⟨fun q => q.1 e1, fun q => ⟨fun _ => q, fun z => absurd e1 z⟩⟩
    · rw [decide_eq_true (show 48 ≤ tx i by omega), Bool.true_and]
      by_cases e2 : 57 < tx i
      · rw [decide_eq_false (show ¬ tx i ≤ 57 by omega)]
        exact propext ⟨fun q => (q.2 e1).1 e2, fun q => ⟨fun z => absurd z e1, fun _ => ⟨fun _ => q, fun z => absurd e2 z⟩⟩⟩
      · rw [decide_eq_true (show tx i ≤ 57 by omega)]
        exact propext ⟨fun q => (q.2 e1).2 e2, fun q => ⟨fun z => absurd z e1, fun _ => ⟨fun z => absurd z e2, fun _ => q⟩⟩⟩
  · rw [if_neg hin, decide_eq_false hin, Bool.false_and]
    have : ngI < nI 48 := by rw [m_lt 48 (by decide)]; trivial
    exact propext ⟨fun q => q.1 this, fun q => ⟨fun _ => q, fun z => absurd this z⟩⟩
/-- the class's token -/
def cTk (S : PS) (tx : Nat → Nat) (n p : Nat) : Prop := pI S 1 7 = nI (sT tx n p) ∧ pI S 1 8 = nI (eT tx n p) ∧ pI S 1 6 = nI (kT tx n p) ∧ (kT tx n p = 1 → pI S 1 9 = if eT tx n p - sT tx n p ≤ 6 then cdW tx (sT tx n p) (eT tx n p - sT tx n p) else ngI) ∧ (kT tx n p = 2 → pI S 1 9 = nI (nvN tx (sT tx n p) (eT tx n p - sT tx n p)))
/-- the reader's fields that a token changes -/
def tkF (S S' : PS) : Prop := fr [1] S S' ∧ ∀ k, k ≠ 6 → k ≠ 7 → k ≠ 8 → k ≠ 9 → pI S' 1 k = pI S 1 k
theorem tkF_r (S : PS) : tkF S S := ⟨fr_r _ _, fun _ _ _ _ _ => rfl⟩
theorem tkF_t {S S1 S2 : PS} (h : tkF S S1) (h2 : tkF S1 S2) : tkF S S2 := ⟨fr_t h.1 h2.1, fun k a b c d => (h2.2 k a b c d).trans (h.2 k a b c d)⟩
theorem tkF_s (S : PS) {k : Nat} (v : Int32) (hk : k = 6 ∨ k = 7 ∨ k = 8 ∨ k = 9) : tkF S (sI S 1 k v) := ⟨fr_sI _ _ _ (by decide), fun j a b c d => by rw [pI_sI, if_neg (fun q => by omega)]⟩
theorem tkF.X {S S' : PS} {tx : Nat → Nat} {n : Nat} (h : tkF S S') (hx : cLn S tx n) : cLn S' tx n := ⟨by rw [h.2 2 (by decide) (by decide) (by decide) (by decide)]; exact hx.1, hx.2.1, fun i hi => by rw [h.1.I (by decide)]; exact hx.2.2 i hi⟩
theorem q_takeWord {S : PS} {tx : Nat → Nat} {n s : Nat} {Q : PS → Prop} (hc : CSh S) (hx : cLn S tx n) (h7 : pI S 1 7 = nI s) (h8 : pI S 1 8 = nI s) (hs : s ≤ n)
    (hQ : ∀ S', tkF S S' → pI S' 1 7 = nI s → pI S' 1 8 = nI (rn (ltB tx n) n s) → pI S' 1 6 = nI 1 → (pI S' 1 9 = if rn (ltB tx n) n s - s ≤ 6 then cdW tx s (rn (ltB tx n) n s - s) else ngI) → Q S') : wpX8_takeWord S 1 Q := by
  have h600 := hx.2.1
  have fin : ∀ j S', tkF S S' → pI S' 1 7 = nI s → pI S' 1 8 = nI (s + j) → rn (ltB tx n) n s = s + j → j ≤ 600 → wpX8_takeWord_b58 Q S' 1 (cdW tx s j) := fun j S' hf g7 g8 he hj => by
    have hc' := hf.1.CS hc
    unfold wpX8_takeWord_b58
    simp only [c_1, c_6, ↓ng_d]
    have e7 : pI (sI S' 1 6 (nI 1)) 1 7 = nI s := by rw [pI_sI, if_neg (fun q => absurd q.2 (by decide))]; exact g7
    have e8 : pI (sI S' 1 6 (nI 1)) 1 8 = nI (s + j) := by rw [pI_sI, if_neg (fun q => absurd q.2 (by decide))]; exact g8
    rw [e7, e8, o_sub (by omega), show s + j - s = j by omega, o_le (by omega) (by decide)]
    have hq : ∀ v : Int32, (v = if j ≤ 6 then cdW tx s j else ngI) → Q (sI (sI S' 1 6 (nI 1)) 1 9 v) := fun v hv => by
      refine hQ _ (tkF_t hf (tkF_t (tkF_s _ _ (Or.inl rfl)) (tkF_s _ _ (Or.inr (Or.inr (Or.inr rfl)))))) (by rw [pI_sI, if_neg (fun q => absurd q.2 (by decide))]; exact e7) (by rw [pI_sI, if_neg (fun q => absurd q.2 (by decide)), he]; exact e8) (by rw [pI_sI, if_neg (fun q => absurd q.2 (by decide)), pI_sI, if_pos ⟨rfl, rfl⟩]) ?_
      rw [pI_sI, if_pos ⟨rfl, rfl⟩, he, show s + j - s = j by omega]
      exact hv
    exact ⟨hc'.2.2.2.2.2.2.2.2.2.2.2.2.2.1, fun z => hq _ (by rw [if_pos z]), fun z => hq _ (by rw [if_neg z])⟩
  have loop : ∀ r j S', n - (s + j) = r → s + j ≤ n → tkF S S' → pI S' 1 7 = nI s → pI S' 1 8 = nI (s + j) → rn (ltB tx n) n s = rn (ltB tx n) n (s + j) → wpX8_takeWord_b2 Q (r + 1) S' 1 (cdW tx s j) := by
    intro r
    induction r with
    | zero =>
      intro j S' hr hle hf g7 g8 he
      have hc' := hf.1.CS hc
      have hx' := hf.X hx
      have e : rn (ltB tx n) n (s + j) = s + j := rn_f (ltB_n _ (by omega))
      unfold wpX8_takeWord_b2
      rw [hx'.1, g8, o_le (by omega) (by omega)]
      exact ⟨hc'.2.2.2.2.2.2.2.2.2.2.2.2.2.1, fun _ => fin j S' hf g7 g8 (he.trans e) (by omega), fun z => absurd (show n ≤ s + j by omega) z⟩
    | succ r ih =>
      intro j S' hr hle hf g7 g8 he
      have hc' := hf.1.CS hc
      have hK1 := hc'.2.2.2.2.2.2.2.2.2.2.2.2.2.1
      have hx' := hf.X hx
      have hlt : s + j < n := by omega
      have h256 := (hx.2.2 (s + j) hlt).2
      have hnx := ih (j + 1)
      generalize r + 1 = fu at hnx ⊢
      unfold wpX8_takeWord_b2
      simp only [c_0, c_1, c_5, c_31, c_97]
      rw [hx'.1, g8, o_le (by omega) (by omega)]
      refine ⟨hK1, fun z => absurd z (by omega), fun _ => ?_⟩
      rw [w_byteAt hc' hx' (by omega), w_isLt (fun _ => h256), bI_0]
      refine ⟨fun z => fin j S' hf g7 g8 (he.trans (rn_f z)) (by omega), fun z => ⟨hK1, ?_⟩⟩
      rw [Bool.not_eq_false] at z
      obtain ⟨z1, z2, z3⟩ := ltB_i z
      rw [g8, w_byteAt hc' hx' (by omega)]
      refine ⟨hK1, ?_⟩
      rw [g8, o_add]
      unfold cat
      rw [if_pos hlt, o_sub (by omega), o_add, show tx (s + j) - 97 + 1 = tx (s + j) - 96 by omega]
      exact hnx _ (by omega) (by omega) (tkF_t hf (tkF_s _ _ (Or.inr (Or.inr (Or.inl rfl))))) (by rw [pI_sI, if_neg (fun q => absurd q.2 (by decide))]; exact g7) (by rw [pI_sI, if_pos ⟨rfl, rfl⟩]; rfl) (he.trans (rn_t ltB_n z))
  unfold wpX8_takeWord
  exact ⟨_, loop _ 0 S rfl (by omega) (tkF_r S) h7 h8 rfl⟩
theorem q_takeNumber {S : PS} {tx : Nat → Nat} {n s : Nat} {Q : PS → Prop} (hc : CSh S) (hx : cLn S tx n) (h7 : pI S 1 7 = nI s) (h8 : pI S 1 8 = nI s) (hs : s ≤ n)
    (hQ : ∀ S', tkF S S' → pI S' 1 7 = nI s → pI S' 1 8 = nI (rn (dgB tx n) n s) → (pI S' 1 6 = nI (if rn (dgB tx n) n s - s ≤ 2 then 2 else 4)) → pI S' 1 9 = nI (nvN tx s (rn (dgB tx n) n s - s)) → Q S') : wpX8_takeNumber S 1 Q := by
  have h600 := hx.2.1
  have fin : ∀ j S', tkF S S' → pI S' 1 7 = nI s → pI S' 1 8 = nI (s + j) → rn (dgB tx n) n s = s + j → j ≤ 600 → wpX8_takeNumber_b57 Q S' 1 (nI (nvN tx s j)) := fun j S' hf g7 g8 he hj => by
    have hc' := hf.1.CS hc
    unfold wpX8_takeNumber_b57
    simp only [c_2, c_4]
    rw [g7, g8, o_sub (by omega), show s + j - s = j by omega, o_le (by omega) (by decide)]
    have hq : ∀ v : Nat, (v = if j ≤ 2 then 2 else 4) → Q (sI (sI S' 1 6 (nI v)) 1 9 (nI (nvN tx s j))) := fun v hv => by
      refine hQ _ (tkF_t hf (tkF_t (tkF_s _ _ (Or.inl rfl)) (tkF_s _ _ (Or.inr (Or.inr (Or.inr rfl)))))) (by rw [pI_sI, if_neg (fun q => absurd q.2 (by decide)), pI_sI, if_neg (fun q => absurd q.2 (by decide))]; exact g7) (by rw [pI_sI, if_neg (fun q => absurd q.2 (by decide)), pI_sI, if_neg (fun q => absurd q.2 (by decide)), he]; exact g8) ?_ ?_
      · rw [pI_sI, if_neg (fun q => absurd q.2 (by decide)), pI_sI, if_pos ⟨rfl, rfl⟩, he, show s + j - s = j by omega, hv]
      · rw [pI_sI, if_pos ⟨rfl, rfl⟩, he, show s + j - s = j by omega]
    exact ⟨hc'.2.2.2.2.2.2.2.2.2.2.2.2.2.1, fun z => hq _ (by rw [if_pos z]), fun z => hq _ (by rw [if_neg z])⟩
  have loop : ∀ r j S', n - (s + j) = r → s + j ≤ n → tkF S S' → pI S' 1 7 = nI s → pI S' 1 8 = nI (s + j) → rn (dgB tx n) n s = rn (dgB tx n) n (s + j) → wpX8_takeNumber_b2 Q (r + 1) S' 1 (nI (nvN tx s j)) := by
    intro r
    induction r with
    | zero =>
      intro j S' hr hle hf g7 g8 he
      have hc' := hf.1.CS hc
      have hx' := hf.X hx
      have e : rn (dgB tx n) n (s + j) = s + j := rn_f (dgB_n _ (by omega))
      unfold wpX8_takeNumber_b2
      rw [hx'.1, g8, o_le (by omega) (by omega)]
      exact ⟨hc'.2.2.2.2.2.2.2.2.2.2.2.2.2.1, fun _ => fin j S' hf g7 g8 (he.trans e) (by omega), fun z => absurd (show n ≤ s + j by omega) z⟩
    | succ r ih =>
      intro j S' hr hle hf g7 g8 he
      have hc' := hf.1.CS hc
      have hK1 := hc'.2.2.2.2.2.2.2.2.2.2.2.2.2.1
      have hx' := hf.X hx
      have hlt : s + j < n := by omega
      have h256 := (hx.2.2 (s + j) hlt).2
      have hnx := ih (j + 1)
      generalize r + 1 = fu at hnx ⊢
      unfold wpX8_takeNumber_b2
      simp only [c_0, c_1, c_48, show (10 : Int32) = nI 10 from rfl]
      rw [hx'.1, g8, o_le (by omega) (by omega)]
      refine ⟨hK1, fun z => absurd z (by omega), fun _ => ?_⟩
      rw [w_byteAt hc' hx' (by omega), w_isDg (fun _ => h256), bI_0]
      refine ⟨fun z => fin j S' hf g7 g8 (he.trans (rn_f z)) (by omega), fun z => ⟨hK1, ?_⟩⟩
      rw [Bool.not_eq_false] at z
      obtain ⟨z1, z2, z3⟩ := dgB_i z
      rw [g8, w_byteAt hc' hx' (by omega)]
      refine ⟨hK1, ?_⟩
      rw [g8, o_add]
      unfold cat
      rw [if_pos hlt, o_mul, o_add, o_sub (by omega)]
      exact hnx _ (by omega) (by omega) (tkF_t hf (tkF_s _ _ (Or.inr (Or.inr (Or.inl rfl))))) (by rw [pI_sI, if_neg (fun q => absurd q.2 (by decide))]; exact g7) (by rw [pI_sI, if_pos ⟨rfl, rfl⟩]; rfl) (he.trans (rn_t dgB_n z))
  unfold wpX8_takeNumber
  exact ⟨_, loop _ 0 S rfl (by omega) (tkF_r S) h7 h8 rfl⟩
theorem q_next {S : PS} {tx : Nat → Nat} {n p : Nat} {Q : PS → Prop} (hc : CSh S) (hx : cLn S tx n) (h8 : pI S 1 8 = nI p) (hp : p ≤ n) (hQ : ∀ S', tkF S S' → cTk S' tx n p → Q S') : wpX8_nextToken S 1 Q := by
  have h600 := hx.2.1
  have hsl := sT_le (tx := tx) hp
  have fin : ∀ S', tkF S S' → pI S' 1 7 = nI (sT tx n p) → wpX8_nextToken_b58 Q S' 1 := fun S' hf g7 => by
    have f2 : tkF S (sI S' 1 8 (nI (sT tx n p))) := tkF_t hf (tkF_s _ _ (Or.inr (Or.inr (Or.inl rfl))))
    have hc' := f2.1.CS hc
    have hK1 := hc'.2.2.2.2.2.2.2.2.2.2.2.2.2.1
    have hx' := f2.X hx
    have e7 : pI (sI S' 1 8 (nI (sT tx n p))) 1 7 = nI (sT tx n p) := by rw [pI_sI, if_neg (fun q => absurd q.2 (by decide))]; exact g7
    have e8 : pI (sI S' 1 8 (nI (sT tx n p))) 1 8 = nI (sT tx n p) := by rw [pI_sI, if_pos ⟨rfl, rfl⟩]
    have h256 : sT tx n p < n → tx (sT tx n p) < 256 := fun q => (hx.2.2 _ q).2
    unfold wpX8_nextToken_b58 wpX8_nextToken_b134
    simp only [c_0, c_1, c_3, c_4, c_59]
    rw [g7, e7, w_byteAt hc' hx' (by omega), w_isLt h256, bI_0]
    refine ⟨(hf.1.CS hc).2.2.2.2.2.2.2.2.2.2.2.2.2.1, fun z => ?_, fun z => ⟨hK1, ?_⟩⟩
    · rw [w_isDg h256, bI_0]
      refine ⟨fun z2 => ⟨hK1, ?_⟩, fun z2 => ⟨hK1, ?_⟩⟩
      · rw [e7, hx'.1, o_lt (by omega) (by omega)]
        refine ⟨fun z3 => ?_, fun z3 => ?_⟩
        · have hE : eT tx n p = sT tx n p + 1 := by
            unfold eT
            rw [if_neg (by omega), if_neg (by rw [z]; decide), if_neg (by rw [z2]; decide)]
          have hK : kT tx n p = if tx (sT tx n p) = 59 then 3 else 4 := by
            unfold kT
            rw [if_neg (by omega), if_neg (by rw [z]; decide), if_neg (by rw [z2]; decide)]
          have one : ∀ v : Nat, kT tx n p = v → (v = 3 ∨ v = 4) → pK (sI S' 1 8 (nI (sT tx n p))) 1 = 7 ∧ pK (sI S' 1 8 (nI (sT tx n p))) 1 = 7 ∧ Q (sI (sI (sI S' 1 8 (nI (sT tx n p))) 1 6 (nI v)) 1 8 (pI (sI (sI S' 1 8 (nI (sT tx n p))) 1 6 (nI v)) 1 7 + nI 1)) := fun v hv h34 => by
            have e72 : pI (sI (sI S' 1 8 (nI (sT tx n p))) 1 6 (nI v)) 1 7 = nI (sT tx n p) := by rw [pI_sI, if_neg (fun q => absurd q.2 (by decide))]; exact e7
            rw [e72, o_add]
            refine ⟨hK1, hK1, hQ _ (tkF_t f2 (tkF_t (tkF_s _ _ (Or.inl rfl)) (tkF_s _ _ (Or.inr (Or.inr (Or.inl rfl)))))) ⟨?_, ?_, ?_, fun q => by omega, fun q => by omega⟩⟩
            · rw [pI_sI, if_neg (fun q => absurd q.2 (by decide))]
              exact e72
            · rw [pI_sI, if_pos ⟨rfl, rfl⟩, hE]
            · rw [pI_sI, if_neg (fun q => absurd q.2 (by decide)), pI_sI, if_pos ⟨rfl, rfl⟩, hv]
          unfold cat
          rw [if_pos z3, o_eq (by have := h256 z3; omega) (by decide)]
          refine ⟨fun z4 => one 4 (by rw [hK, if_neg z4]) (Or.inr rfl), fun z4 => one 3 (by rw [hK, if_pos z4]) (Or.inl rfl)⟩
        · have hE : eT tx n p = sT tx n p := by
            unfold eT
            rw [if_pos (by omega)]
          have hK : kT tx n p = 0 := by
            unfold kT
            rw [if_pos (by omega)]
          refine hQ _ (tkF_t f2 (tkF_s _ _ (Or.inl rfl))) ⟨?_, ?_, ?_, fun q => by omega, fun q => by omega⟩
          · rw [pI_sI, if_neg (fun q => absurd q.2 (by decide))]
            exact e7
          · rw [pI_sI, if_neg (fun q => absurd q.2 (by decide)), hE]
            exact e8
          · rw [pI_sI, if_pos ⟨rfl, rfl⟩, hK]
      · rw [Bool.not_eq_false] at z2
        obtain ⟨y1, _⟩ := dgB_i z2
        have hE : eT tx n p = rn (dgB tx n) n (sT tx n p) := by
          unfold eT
          rw [if_neg (by omega), if_neg (by rw [z]; decide), if_pos z2]
        have hK : kT tx n p = if eT tx n p - sT tx n p ≤ 2 then 2 else 4 := by
          unfold kT
          rw [if_neg (by omega), if_neg (by rw [z]; decide), if_pos z2]
        refine q_takeNumber hc' hx' e7 e8 hsl.2 (fun S2 hf2 k7 k8 k6 k9 => hQ S2 (tkF_t f2 hf2) ⟨k7, by rw [hE]; exact k8, by rw [hK, hE]; exact k6, fun q => ?_, fun q => by rw [hE]; exact k9⟩)
        rw [hK] at q
        split at q <;> omega
    · rw [Bool.not_eq_false] at z
      obtain ⟨y1, _⟩ := ltB_i z
      have hE : eT tx n p = rn (ltB tx n) n (sT tx n p) := by
        unfold eT
        rw [if_neg (by omega), if_pos z]
      have hK : kT tx n p = 1 := by
        unfold kT
        rw [if_neg (by omega), if_pos z]
      exact q_takeWord hc' hx' e7 e8 hsl.2 (fun S2 hf2 k7 k8 k6 k9 => hQ S2 (tkF_t f2 hf2) ⟨k7, by rw [hE]; exact k8, by rw [hK]; exact k6, fun _ => by rw [hE]; exact k9, fun q => by omega⟩)
  have loop : ∀ r i S', n - i = r → i ≤ n → tkF S S' → pI S' 1 7 = nI i → sT tx n p = rn (blB tx n) n i → wpX8_nextToken_b8 Q (r + 1) S' 1 := by
    intro r
    induction r with
    | zero =>
      intro i S' hr hle hf g7 he
      have hc' := hf.1.CS hc
      have hx' := hf.X hx
      have e : rn (blB tx n) n i = i := rn_f (blB_n _ (by omega))
      unfold wpX8_nextToken_b8
      rw [hx'.1, g7, o_le (by omega) (by omega)]
      exact ⟨hc'.2.2.2.2.2.2.2.2.2.2.2.2.2.1, fun _ => fin S' hf (by rw [he, e]; exact g7), fun z => absurd (show n ≤ i by omega) z⟩
    | succ r ih =>
      intro i S' hr hle hf g7 he
      have hc' := hf.1.CS hc
      have hK1 := hc'.2.2.2.2.2.2.2.2.2.2.2.2.2.1
      have hx' := hf.X hx
      have hlt : i < n := by omega
      have h256 := (hx.2.2 i hlt).2
      have hnx := ih (i + 1)
      generalize r + 1 = fu at hnx ⊢
      have next : blB tx n i = true → pK S' 1 = 7 ∧ wpX8_nextToken_b8 Q fu (sI S' 1 7 (nI (i + 1))) 1 := fun q => ⟨hK1, hnx _ (by omega) (by omega) (tkF_t hf (tkF_s _ _ (Or.inr (Or.inl rfl)))) (by rw [pI_sI, if_pos ⟨rfl, rfl⟩]) (he.trans (rn_t blB_n q))⟩
      unfold wpX8_nextToken_b8 wpX8_nextToken_b45
      simp only [c_1, c_32, show (10 : Int32) = nI 10 from rfl]
      rw [hx'.1, g7, o_le (by omega) (by omega)]
      refine ⟨hK1, fun z => absurd z (by omega), fun _ => ?_⟩
      rw [w_byteAt hc' hx' (by omega), g7, o_add]
      unfold cat
      rw [if_pos hlt, o_eq (by omega) (by decide)]
      refine ⟨fun z => next (by unfold blB; rw [decide_eq_true hlt, decide_eq_true z]; rfl), fun z => ⟨hK1, ?_⟩⟩
      rw [w_byteAt hc' hx' (by omega), g7, o_add]
      unfold cat
      rw [if_pos hlt, o_eq (by omega) (by decide)]
      refine ⟨fun z2 => fin S' hf ?_, fun z2 => next (by unfold blB; rw [decide_eq_true hlt, decide_eq_true z2, Bool.or_true]; rfl)⟩
      rw [he, rn_f (by unfold blB; rw [decide_eq_false z, decide_eq_false z2, Bool.or_false, Bool.and_false])]
      exact g7
  unfold wpX8_nextToken
  rw [h8]
  exact ⟨hc.2.2.2.2.2.2.2.2.2.2.2.2.2.1, _, loop _ p _ rfl hp (tkF_s S _ (Or.inr (Or.inl rfl))) (by rw [pI_sI, if_pos ⟨rfl, rfl⟩]) rfl⟩

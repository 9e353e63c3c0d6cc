/-! READING: what a text says -/
abbrev Rd (α : Type) := Sum (Nat × Nat) (α × Nat)
def er {α : Type} (c e : Nat) : Rd α := Sum.inl (c, e)
def ok {α : Type} (a : α) (p : Nat) : Rd α := Sum.inr (a, p)
def Rbd {α β : Type} (r : Rd α) (f : α → Nat → Rd β) : Rd β := match r with | Sum.inl z => Sum.inl z | Sum.inr q => f q.1 q.2
theorem Rbd_er {α β : Type} (c e : Nat) (f : α → Nat → Rd β) : Rbd (er c e) f = er c e := rfl
theorem Rbd_ok {α β : Type} (a : α) (p : Nat) (f : α → Nat → Rd β) : Rbd (ok a p) f = f a p := rfl
theorem er_ok {α : Type} {c e p : Nat} {a : α} (h : er c e = ok a p) : False := by cases h
theorem ok_er {α : Type} {c e p : Nat} {a : α} (h : ok a p = er c e) : False := by cases h
theorem er_i {α : Type} {c e c' e' : Nat} (h : (er c e : Rd α) = er c' e') : c = c' ∧ e = e' := by cases h; exact ⟨rfl, rfl⟩
theorem ok_i {α : Type} {a a' : α} {p p' : Nat} (h : ok a p = ok a' p') : a = a' ∧ p = p' := by cases h; exact ⟨rfl, rfl⟩
theorem Rd_c {α : Type} (r : Rd α) : (∃ c e, r = er c e) ∨ ∃ a p, r = ok a p := by
  rcases r with z | z
  · exact Or.inl ⟨z.1, z.2, rfl⟩
  · exact Or.inr ⟨z.1, z.2, rfl⟩
def nvT (tx : Nat → Nat) (n p : Nat) : Nat := nvN tx (sT tx n p) (eT tx n p - sT tx n p)
def nmT (tx : Nat → Nat) (n p : Nat) : Nat := nmN tx (sT tx n p) (eT tx n p - sT tx n p)
def rNum (tx : Nat → Nat) (n lo hi p : Nat) : Rd Nat := if kT tx n p = 2 then (if lo ≤ nvT tx n p ∧ nvT tx n p ≤ hi then ok (nvT tx n p) (eT tx n p) else er 2 (sT tx n p)) else er 1 (sT tx n p)
def rSem (tx : Nat → Nat) (n p : Nat) : Rd Nat := if kT tx n p = 3 then ok 0 (eT tx n p) else er 1 (sT tx n p)
def eqF (tx : Nat → Nat) (s : Nat) (w : List Nat) : Nat → Nat → Bool
  | 0, _ => true
  | r + 1, i => if tx (s + i) = w.getD i 0 then eqF tx s w r (i + 1) else false
def isW (tx : Nat → Nat) (n : Nat) (w : List Nat) (p : Nat) : Bool := decide (kT tx n p = 1) && (decide (eT tx n p - sT tx n p = w.length) && eqF tx (sT tx n p) w w.length 0)
def wVal : List Nat := [118, 97, 108, 117, 101]
def wVar : List Nat := [118, 97, 114]
def wCnt : List Nat := [99, 111, 117, 110, 116, 115]
def wWin : List Nat := [119, 105, 110, 100, 111, 119]
def wLes : List Nat := [108, 101, 115, 115]
def wDif : List Nat := [100, 105, 102, 102, 101, 114]
def isNm (tx : Nat → Nat) (n p : Nat) : Bool := decide (kT tx n p = 1) && (decide (eT tx n p - sT tx n p ≤ 6) && !isW tx n wVal p)
theorem isNm_i {tx : Nat → Nat} {n p : Nat} (h : isNm tx n p = true) : kT tx n p = 1 ∧ eT tx n p - sT tx n p ≤ 6 ∧ isW tx n wVal p = false := by
  unfold isNm at h
  rw [Bool.and_eq_true, Bool.and_eq_true, decide_eq_true_iff, decide_eq_true_iff, Bool.not_eq_true'] at h
  exact ⟨h.1, h.2.1, h.2.2⟩
/-- the first of v names that is the word at p, or v -/
def lk (tx : Nat → Nat) (n : Nat) (N : Nat → Nat) (v p : Nat) : Nat := rn (fun i => decide (i < v) && !decide (nmT tx n (N i) = nmT tx n p)) v 0
theorem lk_n {tx : Nat → Nat} {n : Nat} {N : Nat → Nat} {v p : Nat} : ∀ j, v ≤ j → (fun i => decide (i < v) && !decide (nmT tx n (N i) = nmT tx n p)) j = false := fun j hj => by
  show (decide (j < v) && _) = false
  rw [decide_eq_false (by omega), Bool.false_and]
theorem lk_le {tx : Nat → Nat} {n : Nat} {N : Nat → Nat} {v p : Nat} : lk tx n N v p ≤ v := (rn_sp lk_n _ 0 rfl).2.1 (by omega)
def up (P : Nat → Nat) (k v : Nat) : Nat → Nat := fun i => if i = k then v else P i
theorem up_s (P : Nat → Nat) (k v : Nat) : up P k v k = v := if_pos rfl
theorem up_n (P : Nat → Nat) {k i : Nat} (v : Nat) (h : i ≠ k) : up P k v i = P i := if_neg h
/-- whether constraint at b has member x -/
def hasM (P : Nat → Nat) (b x : Nat) : Bool := (List.range (P (b + 1))).any (fun j => decide (P (b + (2 + j)) = x))
theorem hasM_t {P : Nat → Nat} {b x : Nat} : hasM P b x = true ↔ ∃ j, j < P (b + 1) ∧ P (b + (2 + j)) = x := by
  unfold hasM
  rw [List.any_eq_true]
  constructor
  · rintro ⟨j, h1, h2⟩
    exact ⟨j, List.mem_range.mp h1, of_decide_eq_true h2⟩
  · rintro ⟨j, h1, h2⟩
    exact ⟨j, List.mem_range.mpr h1, decide_eq_true h2⟩
/-- a variable: the cursor is at the word var -/
def rVar (tx : Nat → Nat) (n : Nat) (P N : Nat → Nat) (p : Nat) : Rd ((Nat → Nat) × (Nat → Nat)) :=
  if isNm tx n (eT tx n p) = true then (if lk tx n N (P 0) (eT tx n p) < P 0 then er 3 (sT tx n (eT tx n p)) else
    Rbd (rNum tx n 0 4 (eT tx n (eT tx n p))) (fun lo p1 => Rbd (rNum tx n lo 4 p1) (fun hi p2 => Rbd (rSem tx n p2) (fun _ p3 => ok (up (up P (2 + P 0) (2 ^ (hi + 1) - 2 ^ lo)) 0 (P 0 + 1), up N (P 0) (eT tx n p)) p3))))
  else er 1 (sT tx n (eT tx n p))
def rVars (tx : Nat → Nat) (n : Nat) : Nat → (Nat → Nat) → (Nat → Nat) → Nat → Rd ((Nat → Nat) × (Nat → Nat))
  | 0, P, N, p => ok (P, N) p
  | r + 1, P, N, p => if isW tx n wVar p = true then (if P 0 = 7 then er 4 (sT tx n p) else Rbd (rVar tx n P N p) (fun z p' => rVars tx n r z.1 z.2 p')) else ok (P, N) p
def rMem (tx : Nat → Nat) (n : Nat) (N : Nat → Nat) (b : Nat) (P : Nat → Nat) (p : Nat) : Rd (Nat → Nat) :=
  if isNm tx n p = true then (if lk tx n N (P 0) p < P 0 ∧ hasM P b (lk tx n N (P 0) p) = false then ok (up (up P (b + (2 + P (b + 1))) (lk tx n N (P 0) p)) (b + 1) (P (b + 1) + 1)) (eT tx n p) else er 3 (sT tx n p)) else er 1 (sT tx n p)
def rMs (tx : Nat → Nat) (n : Nat) (N : Nat → Nat) (b : Nat) : Nat → (Nat → Nat) → Nat → Rd (Nat → Nat)
  | 0, P, p => ok P p
  | r + 1, P, p => Rbd (rMem tx n N b P p) (fun P' p' => if isW tx n wVal p' = true then ok P' p' else rMs tx n N b r P' p')
def rWs (tx : Nat → Nat) (n : Nat) (N : Nat → Nat) (b : Nat) : Nat → (Nat → Nat) → Nat → Rd (Nat → Nat)
  | 0, P, p => ok P p
  | r + 1, P, p => Rbd (rMem tx n N b P p) (fun P' p' => if kT tx n p' = 3 then ok P' p' else rWs tx n N b r P' p')
def rCount (tx : Nat → Nat) (n b : Nat) (P : Nat → Nat) (p : Nat) : Rd (Nat → Nat) :=
  if kT tx n (eT tx n p) = 2 ∧ nvT tx n (eT tx n p) < 5 ∧ (P (b + 19)).testBit (nvT tx n (eT tx n p)) = true then er 3 (sT tx n (eT tx n p)) else
    Rbd (rNum tx n 0 4 (eT tx n p)) (fun v p1 => Rbd (rNum tx n 0 7 p1) (fun lo p2 => Rbd (rNum tx n lo 7 p2) (fun hi p3 => ok (up (up (up P (b + 19) (P (b + 19) ||| 2 ^ v)) (b + (9 + v)) lo) (b + (14 + v)) hi) p3)))
def rCs (tx : Nat → Nat) (n b : Nat) : Nat → (Nat → Nat) → Nat → Rd (Nat → Nat)
  | 0, P, p => ok P p
  | r + 1, P, p => if isW tx n wVal p = true then Rbd (rCount tx n b P p) (fun P' p' => rCs tx n b r P' p') else ok P p
def cn0 (P : Nat → Nat) (b : Nat) : Nat → Nat := fun i => if b + 14 ≤ i ∧ i < b + 19 then 7 else P i
def rCnts (tx : Nat → Nat) (n : Nat) (N : Nat → Nat) (b : Nat) (P : Nat → Nat) (p : Nat) : Rd (Nat → Nat) := Rbd (rMs tx n N b 8 (cn0 P b) p) (fun P' p' => rCs tx n b 6 P' p')
def rWin (tx : Nat → Nat) (n : Nat) (N : Nat → Nat) (b : Nat) (P : Nat → Nat) (p : Nat) : Rd (Nat → Nat) :=
  Rbd (rNum tx n 1 4 p) (fun w p1 => Rbd (rNum tx n 1 31 p1) (fun s p2 => Rbd (rNum tx n 0 w p2) (fun lo p3 => Rbd (rNum tx n lo w p3) (fun hi p4 => rWs tx n N b 8 (up (up (up (up P (b + 9) w) (b + 10) s) (b + 11) lo) (b + 12) hi) p4))))
def rCmp (tx : Nat → Nat) (n : Nat) (N : Nat → Nat) (b : Nat) (P : Nat → Nat) (p : Nat) : Rd (Nat → Nat) := Rbd (rMem tx n N b P p) (fun P' p' => rMem tx n N b P' p')
def rKd (tx : Nat → Nat) (n p : Nat) : Nat := if isW tx n wCnt p = true then 0 else if isW tx n wWin p = true then 1 else if isW tx n wLes p = true then 2 else if isW tx n wDif p = true then 3 else 4
def rBody (tx : Nat → Nat) (n : Nat) (N : Nat → Nat) (t b : Nat) (P : Nat → Nat) (p : Nat) : Rd (Nat → Nat) := if t = 0 then rCnts tx n N b P p else if t = 1 then rWin tx n N b P p else rCmp tx n N b P p
def rCon (tx : Nat → Nat) (n : Nat) (N : Nat → Nat) (P : Nat → Nat) (p : Nat) : Rd (Nat → Nat) :=
  if rKd tx n p = 4 then er 1 (sT tx n p) else if P 1 = 8 then er 4 (sT tx n p) else
    Rbd (rBody tx n N (rKd tx n p) (9 + 20 * P 1) (up P (9 + 20 * P 1) (rKd tx n p)) (eT tx n p)) (fun P' p' => Rbd (rSem tx n p') (fun _ q => ok (up P' 1 (P 1 + 1)) q))
def rCons (tx : Nat → Nat) (n : Nat) (N : Nat → Nat) : Nat → (Nat → Nat) → Nat → Rd (Nat → Nat)
  | 0, P, p => ok P p
  | r + 1, P, p => if kT tx n p = 0 then ok P p else Rbd (rCon tx n N P p) (fun P' p' => rCons tx n N r P' p')
def rLoad (tx : Nat → Nat) (n : Nat) : Rd (Nat → Nat) := Rbd (rVars tx n 8 (fun _ => 0) (fun _ => 0) 0) (fun z p => rCons tx n z.2 9 z.1 p)
/-! the two codes of a word -/
def cdN (tx : Nat → Nat) (s : Nat) : Nat → Nat
  | 0 => 0
  | j + 1 => 32 * cdN tx s j + (tx (s + j) - 96)
def ltS (tx : Nat → Nat) (s j : Nat) : Prop := ∀ i, i < j → 97 ≤ tx (s + i) ∧ tx (s + i) ≤ 122
theorem cd_iff {tx : Nat → Nat} {s s' : Nat} : ∀ j j', ltS tx s j → ltS tx s' j' → (cdN tx s j = cdN tx s' j' ↔ nmN tx s j = nmN tx s' j') := by
  intro j
  induction j with
  | zero =>
    intro j' h h'
    cases j' with
    | zero => exact ⟨fun _ => rfl, fun _ => rfl⟩
    | succ j' =>
      have h1 := h' j' (by omega)
      constructor
      · intro q
        have q' : 0 = 32 * cdN tx s' j' + (tx (s' + j') - 96) := q
        omega
      · intro q
        have q' : 0 = 27 * nmN tx s' j' + (tx (s' + j') - 96) := q
        omega
  | succ j ih =>
    intro j' h h'
    have h0 := h j (by omega)
    cases j' with
    | zero =>
      constructor
      · intro q
        have q' : 32 * cdN tx s j + (tx (s + j) - 96) = 0 := q
        omega
      · intro q
        have q' : 27 * nmN tx s j + (tx (s + j) - 96) = 0 := q
        omega
    | succ j' =>
      have h1 := h' j' (by omega)
      have hi := ih j' (fun i q => h i (by omega)) (fun i q => h' i (by omega))
      show 32 * cdN tx s j + (tx (s + j) - 96) = 32 * cdN tx s' j' + (tx (s' + j') - 96) ↔ 27 * nmN tx s j + (tx (s + j) - 96) = 27 * nmN tx s' j' + (tx (s' + j') - 96)
      constructor
      · intro q
        have e : cdN tx s j = cdN tx s' j' := by omega
        rw [hi.mp e]
        omega
      · intro q
        have e : nmN tx s j = nmN tx s' j' := by omega
        rw [hi.mpr e]
        omega
theorem cdN_lt {tx : Nat → Nat} {s : Nat} : ∀ j, ltS tx s j → cdN tx s j < 32 ^ j := by
  intro j
  induction j with
  | zero => exact fun _ => Nat.zero_lt_one
  | succ j ih =>
    intro h
    have h0 := h j (by omega)
    have h1 := ih (fun i q => h i (by omega))
    show 32 * cdN tx s j + (tx (s + j) - 96) < 32 ^ (j + 1)
    rw [Nat.pow_succ]
    omega
theorem nmN_lt {tx : Nat → Nat} {s : Nat} : ∀ j, ltS tx s j → nmN tx s j < 27 ^ j := by
  intro j
  induction j with
  | zero => exact fun _ => Nat.zero_lt_one
  | succ j ih =>
    intro h
    have h0 := h j (by omega)
    have h1 := ih (fun i q => h i (by omega))
    show 27 * nmN tx s j + (tx (s + j) - 96) < 27 ^ (j + 1)
    rw [Nat.pow_succ]
    omega
theorem cd5_or {a b : Nat} (hb : b < 32) : (32 * a) ||| b = 32 * a + b := by
  rw [show 32 * a = 2 ^ 5 * a from rfl, Nat.two_pow_add_eq_or_of_lt (i := 5) hb]
theorem cdW_eq {tx : Nat → Nat} {s : Nat} : ∀ j, j ≤ 6 → ltS tx s j → cdW tx s j = nI (cdN tx s j) := by
  intro j
  induction j with
  | zero => exact fun _ _ => rfl
  | succ j ih =>
    intro hj h
    have h0 := h j (by omega)
    have h1 := cdN_lt j (fun i q => h i (by omega))
    have h2 : 32 ^ j ≤ 32 ^ 5 := Nat.pow_le_pow_right (by decide) (by omega)
    rw [show (32 : Nat) ^ 5 = 33554432 from by decide] at h2
    have h4 : cdN tx s j < 33554432 := Nat.lt_of_lt_of_le h1 h2
    clear h1 h2
    show (cdW tx s j <<< (nI 5 &&& nI 31)) ||| nI (tx (s + j) - 96) = nI (32 * cdN tx s j + (tx (s + j) - 96))
    rw [ih (by omega) (fun i q => h i (by omega)), o_and31 (by decide), o_shl (by decide) (by omega), o_or, show cdN tx s j * 2 ^ 5 = 32 * cdN tx s j by omega, cd5_or (by omega)]
theorem kT1_lt {tx : Nat → Nat} {n p : Nat} (h : kT tx n p = 1) : ltS tx (sT tx n p) (eT tx n p - sT tx n p) := by
  unfold kT at h
  by_cases e : n ≤ sT tx n p
  · rw [if_pos e] at h
    cases h
  · rw [if_neg e] at h
    by_cases e2 : ltB tx n (sT tx n p) = true
    · intro i hi
      have hE : eT tx n p = rn (ltB tx n) n (sT tx n p) := by
        unfold eT
        rw [if_neg e, if_pos e2]
      rw [hE] at hi
      obtain ⟨_, _, b3, _⟩ := rn_sp (q := ltB tx n) (n := n) ltB_n _ (sT tx n p) rfl
      exact (ltB_i (b3 (sT tx n p + i) (by omega) (by omega))).2
    · rw [if_neg e2] at h
      by_cases e3 : dgB tx n (sT tx n p) = true
      · rw [if_pos e3] at h
        split at h <;> cases h
      · rw [if_neg e3] at h
        split at h <;> cases h

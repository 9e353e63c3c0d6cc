/-! THE CLASS READS: numbers, words, names -/
theorem kT2_lt {tx : Nat → Nat} {n p : Nat} (h : kT tx n p = 2) : nvT tx n p < 1000 := by
  unfold kT at h
  by_cases e : n ≤ sT tx n p
  · rw [if_pos e] at h
    cases h
  · rw [if_neg e] at h
    by_cases e2 : ltB tx n (sT tx n p) = true
    · rw [if_pos e2] at h
      cases h
    · rw [if_neg e2] at h
      by_cases e3 : dgB tx n (sT tx n p) = true
      · rw [if_pos e3] at h
        have hE : eT tx n p = rn (dgB tx n) n (sT tx n p) := by
          unfold eT
          rw [if_neg e, if_neg e2, if_pos e3]
        obtain ⟨_, _, b3, _⟩ := rn_sp (q := dgB tx n) (n := n) dgB_n _ (sT tx n p) rfl
        have hl : eT tx n p - sT tx n p ≤ 2 := by
          by_cases q : eT tx n p - sT tx n p ≤ 2
          · exact q
          · rw [if_neg q] at h
            cases h
        have h2 : ∀ j, j < eT tx n p - sT tx n p → tx (sT tx n p + j) ≤ 57 := fun j hj => (dgB_i (b3 (sT tx n p + j) (by omega) (by omega))).2.2
        unfold nvT
        generalize eT tx n p - sT tx n p = m at hl h2
        have hm : m = 0 ∨ m = 1 ∨ m = 2 := by omega
        rcases hm with e | e | e
        · rw [e]
          exact (by decide : 0 < 1000)
        · rw [e] at h2 ⊢
          have := h2 0 (by decide)
          show 10 * 0 + tx (sT tx n p + 0) - 48 < 1000
          omega
        · rw [e] at h2 ⊢
          have h20 := h2 0 (by decide)
          have h21 := h2 1 (by decide)
          show 10 * (10 * 0 + tx (sT tx n p + 0) - 48) + tx (sT tx n p + 1) - 48 < 1000
          omega
      · rw [if_neg e3] at h
        split at h <;> cases h
/-- the reader's fields that reading changes -/
def rF (S S' : PS) : Prop := fr [1] S S' ∧ ∀ k, k ≠ 3 → k ≠ 4 → k ≠ 6 → k ≠ 7 → k ≠ 8 → k ≠ 9 → pI S' 1 k = pI S 1 k
theorem rF_r (S : PS) : rF S S := ⟨fr_r _ _, fun _ _ _ _ _ _ _ => rfl⟩
theorem rF_t {S S1 S2 : PS} (h : rF S S1) (h2 : rF S1 S2) : rF S S2 := ⟨fr_t h.1 h2.1, fun k a b c d e f => (h2.2 k a b c d e f).trans (h.2 k a b c d e f)⟩
theorem tkF.R {S S' : PS} (h : tkF S S') : rF S S' := ⟨h.1, fun k _ _ c d e f => h.2 k c d e f⟩
/-- reading ended: with an error, or at a cursor -/
def cEr (S S' : PS) (c e : Nat) : Prop := rF S S' ∧ pI S' 1 3 = nI c ∧ pI S' 1 4 = nI e
theorem cEr_t {S S1 S2 : PS} {c e : Nat} (h : rF S S1) (h2 : cEr S1 S2 c e) : cEr S S2 c e := ⟨rF_t h h2.1, h2.2⟩
theorem w_cfail {S : PS} {tx : Nat → Nat} {n p c : Nat} {Q : Int32 → PS → Prop} (hc : CSh S) (hT : cTk S tx n p) (hQ : ∀ S', cEr S S' c (sT tx n p) → Q (nI 0) S') : wpX8_fail S 1 (nI c) Q := by
  unfold wpX8_fail
  rw [c_0]
  refine ⟨hc.2.2.2.2.2.2.2.2.2.2.2.2.2.1, hQ _ ⟨⟨fr_t (fr_sI _ _ _ (by decide)) (fr_sI _ _ _ (by decide)), fun k a b _ _ _ _ => ?_⟩, ?_, ?_⟩⟩
  · rw [pI_sI, if_neg (fun q => b q.2), pI_sI, if_neg (fun q => a q.2)]
  · rw [pI_sI, if_neg (fun q => absurd q.2 (by decide)), pI_sI, if_pos ⟨rfl, rfl⟩]
  · rw [pI_sI, if_pos ⟨rfl, rfl⟩, pI_sI, if_neg (fun q => absurd q.2 (by decide))]
    exact hT.1
theorem q_readNum {S : PS} {tx : Nat → Nat} {n p lo hi : Nat} {Q : Int32 → PS → Prop} (hc : CSh S) (hx : cLn S tx n) (hT : cTk S tx n p) (hp : p ≤ n) (hl : lo < 100000) (hh : hi < 100000)
    (hE : ∀ S' c e, rNum tx n lo hi p = er c e → cEr S S' c e → Q ngI S') (hQ : ∀ S' v p', rNum tx n lo hi p = ok v p' → lo ≤ v → v ≤ hi → p' ≤ n → tkF S S' → cTk S' tx n p' → Q (nI v) S') : wpX8_readNumber S 1 (nI lo) (nI hi) Q := by
  have h600 := hx.2.1
  have hK := hc.2.2.2.2.2.2.2.2.2.2.2.2.2.1
  have hk : kT tx n p < 5 := by
    unfold kT
    repeat' split
    all_goals omega
  unfold wpX8_readNumber wpX8_readNumber_b32
  rw [ng_d, c_1, c_2, hT.2.2.1, o_eq (by omega) (by decide)]
  refine ⟨hK, fun z => ?_, fun z => ?_⟩
  · have hv := kT2_lt z
    have h9 : pI S 1 9 = nI (nvT tx n p) := hT.2.2.2.2 z
    rw [h9, o_lt (by omega) (by omega), o_le (by omega) (by omega)]
    have bad : ¬ (lo ≤ nvT tx n p ∧ nvT tx n p ≤ hi) → pK S 1 = 7 ∧ wpX8_fail S 1 (nI 2) (fun r2 S3 => Q ngI S3) := fun q => ⟨hK, w_cfail hc hT (fun S' h => by
      refine hE S' _ _ ?_ h
      unfold rNum
      rw [if_pos z, if_neg q])⟩
    refine ⟨fun q => bad (by omega), fun q => ⟨fun q2 => ?_, fun q2 => bad (by omega)⟩⟩
    refine q_next hc hx hT.2.1 (eT_le hp).2 (fun S' hf hT' => hQ S' _ _ ?_ (by omega) q2 (eT_le hp).2 hf hT')
    unfold rNum
    rw [if_pos z, if_pos ⟨by omega, q2⟩]
  · exact w_cfail hc hT (fun S' h => by
      refine hE S' _ _ ?_ h
      unfold rNum
      rw [if_neg z])
theorem q_readSem {S : PS} {tx : Nat → Nat} {n p : Nat} {Q : Int32 → PS → Prop} (hc : CSh S) (hx : cLn S tx n) (hT : cTk S tx n p) (hp : p ≤ n)
    (hE : ∀ S' c e, rSem tx n p = er c e → cEr S S' c e → Q (nI 0) S') (hQ : ∀ S' v p', rSem tx n p = ok v p' → p' ≤ n → tkF S S' → cTk S' tx n p' → Q (nI 1) S') : wpX8_readSemicolon S 1 Q := by
  have h600 := hx.2.1
  have hK := hc.2.2.2.2.2.2.2.2.2.2.2.2.2.1
  have hk : kT tx n p < 5 := by
    unfold kT
    repeat' split
    all_goals omega
  unfold wpX8_readSemicolon
  rw [c_0, c_1, c_3, hT.2.2.1, o_eq (by omega) (by decide)]
  refine ⟨hK, fun z => ?_, fun z => ?_⟩
  · refine q_next hc hx hT.2.1 (eT_le hp).2 (fun S' hf hT' => hQ S' 0 _ ?_ (eT_le hp).2 hf hT')
    unfold rSem
    rw [if_pos z]
  · refine w_cfail hc hT (fun S' h => ⟨Or.inl rfl, hE S' _ _ ?_ h⟩)
    unfold rSem
    rw [if_neg z]
/-- a string of the program -/
def wOK (bW : List Int32) (w : List Nat) : Prop := w.length ≤ 6 ∧ bW.length = w.length ∧ (Int32.ofNat bW.length >>> ((0 : Int32) &&& 31)) = nI w.length ∧ ∀ i, i < w.length → sCh (bW.getD i 0) = nI (w.getD i 0) ∧ w.getD i 0 < 256
theorem wV_val : wOK [118, 97, 108, 117, 101] wVal := ⟨by decide, by decide, by decide, by decide⟩
theorem wV_var : wOK [118, 97, 114] wVar := ⟨by decide, by decide, by decide, by decide⟩
theorem wV_cnt : wOK [99, 111, 117, 110, 116, 115] wCnt := ⟨by decide, by decide, by decide, by decide⟩
theorem wV_win : wOK [119, 105, 110, 100, 111, 119] wWin := ⟨by decide, by decide, by decide, by decide⟩
theorem wV_les : wOK [108, 101, 115, 115] wLes := ⟨by decide, by decide, by decide, by decide⟩
theorem wV_dif : wOK [100, 105, 102, 102, 101, 114] wDif := ⟨by decide, by decide, by decide, by decide⟩
theorem q_cisW {S : PS} {tx : Nat → Nat} {n p : Nat} {bW : List Int32} {w : List Nat} {Q : Int32 → PS → Prop} (hc : CSh S) (hx : cLn S tx n) (hT : cTk S tx n p) (hp : p ≤ n) (hw : wOK bW w) (hQ : Q (bI (isW tx n w p)) S) : wpX8_isWord S 1 bW Q := by
  obtain ⟨w1, w2, w3, w4⟩ := hw
  have h600 := hx.2.1
  have hK := hc.2.2.2.2.2.2.2.2.2.2.2.2.2.1
  have hs := sT_le (tx := tx) hp
  have he := eT_le (tx := tx) hp
  have hk : kT tx n p < 5 := by
    unfold kT
    repeat' split
    all_goals omega
  have loop : ∀ r i, w.length - i = r → i ≤ w.length → eT tx n p - sT tx n p = w.length → (Q (bI (eqF tx (sT tx n p) w r i)) S) → wpX8_isWord_b28 bW Q (r + 1) S 1 (nI i) := by
    intro r
    induction r with
    | zero =>
      intro i hr hi hl q
      unfold wpX8_isWord_b28
      rw [w3, o_le (by omega) (by omega)]
      exact ⟨fun _ => q, fun z => absurd (show w.length ≤ i by omega) z⟩
    | succ r ih =>
      intro i hr hi hl q
      have hin : sT tx n p + i < n := by omega
      have hb := (hx.2.2 _ hin).2
      have h4 := w4 i (by omega)
      have hnx := ih (i + 1) (by omega) (by omega) hl
      generalize r + 1 = fu at hnx ⊢
      unfold wpX8_isWord_b28
      rw [w3, o_le (by omega) (by omega)]
      refine ⟨fun z => absurd z (by omega), fun _ => ⟨hK, ?_⟩⟩
      rw [hT.1, o_add, w_byteAt hc hx (by omega), o_cl (by omega), h4.1]
      unfold cat
      rw [if_pos hin, o_eq (by omega) (by omega), w2, o_inT (by omega) (by omega), c_1, o_add]
      refine ⟨trivial, fun z => hnx ?_, fun z => ?_⟩
      · have q' : Q (bI (if tx (sT tx n p + i) = w.getD i 0 then eqF tx (sT tx n p) w r (i + 1) else false)) S := q
        rw [if_pos z] at q'
        exact q'
      · have q' : Q (bI (if tx (sT tx n p + i) = w.getD i 0 then eqF tx (sT tx n p) w r (i + 1) else false)) S := q
        rw [if_neg z] at q'
        exact q'
  unfold wpX8_isWord
  unfold isW at hQ
  rw [w3, hT.1, hT.2.1, hT.2.2.1, o_sub (by omega), o_eq (by omega) (by omega), c_1, o_eq (by omega) (by decide)]
  refine ⟨hK, fun z => ?_, fun z => ⟨fun z2 => ?_, fun z2 => ?_⟩⟩
  · rw [decide_eq_false z, Bool.false_and] at hQ
    exact hQ
  · rw [decide_eq_true z, decide_eq_true z2, Bool.true_and, Bool.true_and] at hQ
    exact ⟨_, loop _ 0 rfl (by omega) z2 hQ⟩
  · rw [decide_eq_true z, decide_eq_false z2, Bool.true_and, Bool.false_and] at hQ
    exact hQ
theorem cT_name {S : PS} {tx : Nat → Nat} {n p : Nat} (hT : cTk S tx n p) (hk : kT tx n p = 1) (hl : eT tx n p - sT tx n p ≤ 6) : pI S 1 9 = nI (cdN tx (sT tx n p) (eT tx n p - sT tx n p)) ∧ cdN tx (sT tx n p) (eT tx n p - sT tx n p) < 1073741824 := by
  have h := hT.2.2.2.1 hk
  have hL := kT1_lt hk
  rw [if_pos hl, cdW_eq _ hl hL] at h
  refine ⟨h, ?_⟩
  have h1 := cdN_lt _ hL
  have h2 : 32 ^ (eT tx n p - sT tx n p) ≤ 32 ^ 6 := Nat.pow_le_pow_right (by decide) hl
  rw [show (32 : Nat) ^ 6 = 1073741824 from by decide] at h2
  exact Nat.lt_of_lt_of_le h1 h2
theorem q_cisN {S : PS} {tx : Nat → Nat} {n p : Nat} {Q : Int32 → PS → Prop} (hc : CSh S) (hx : cLn S tx n) (hT : cTk S tx n p) (hp : p ≤ n) (hQ : Q (bI (isNm tx n p)) S) : wpX8_isName S 1 Q := by
  have h600 := hx.2.1
  have hK := hc.2.2.2.2.2.2.2.2.2.2.2.2.2.1
  have hk : kT tx n p < 5 := by
    unfold kT
    repeat' split
    all_goals omega
  unfold wpX8_isName
  unfold isNm at hQ
  rw [ng_d, c_0, c_1, hT.2.2.1, o_eq (by omega) (by decide)]
  refine ⟨hK, fun z => ?_, fun z => ?_⟩
  · rw [decide_eq_false z, Bool.false_and] at hQ
    exact hQ
  · rw [decide_eq_true z, Bool.true_and] at hQ
    by_cases e : eT tx n p - sT tx n p ≤ 6
    · obtain ⟨h9, hlt⟩ := cT_name hT z e
      rw [decide_eq_true e, Bool.true_and] at hQ
      rw [h9, m_ne _ (by omega)]
      refine ⟨fun q => q.elim, fun _ => q_cisW hc hx hT hp wV_val ?_⟩
      rw [bI_0]
      constructor
      · intro q
        rw [Bool.not_eq_false] at q
        rw [q] at hQ
        exact hQ
      · intro q
        rw [q] at hQ
        exact hQ
    · have h9 := hT.2.2.2.1 z
      rw [if_neg e] at h9
      rw [decide_eq_false e, Bool.false_and] at hQ
      rw [h9]
      exact ⟨fun _ => hQ, fun q => absurd rfl q⟩
/-- the names that are known -/
def nmK (tx : Nat → Nat) (n : Nat) (N : Nat → Nat) (v : Nat) : Prop := ∀ i, i < v → kT tx n (N i) = 1 ∧ eT tx n (N i) - sT tx n (N i) ≤ 6
def cNm (S : PS) (tx : Nat → Nat) (n : Nat) (N : Nat → Nat) (v : Nat) : Prop := ∀ i, i < v → pI S 3 i = nI (cdN tx (sT tx n (N i)) (eT tx n (N i) - sT tx n (N i)))
theorem q_varOf {S : PS} {tx : Nat → Nat} {n p pb v : Nat} {N : Nat → Nat} {Q : Int32 → PS → Prop} (hc : CSh S) (hT : cTk S tx n p) (hnm : isNm tx n p = true) (h5 : pR S 1 5 = some pb) (hK5 : pK S pb = 5) (h1 : pI S pb 1 = nI v) (hv : v ≤ 7) (hN : nmK tx n N v) (hS : cNm S tx n N v)
    (hQ : Q (if lk tx n N v p < v then nI (lk tx n N v p) else ngI) S) : wpX8_variableOf S 1 (pI S 1 9) Q := by
  have hK := hc.2.2.2.2.2.2.2.2.2.2.2.2.2.1
  have hR1 := hc.2.2.2.2.2.2.2.2.2.2.2.2.2.2.2.1
  have hK3 := hc.2.2.2.2.2.2.2.2.2.2.2.2.2.2.2.2.2.2.1
  have hL3 := hc.2.2.2.2.2.2.2.2.2.2.2.2.2.2.2.2.2.2.2
  obtain ⟨k1, k2, _⟩ := isNm_i hnm
  obtain ⟨h9, hlt⟩ := cT_name hT k1 k2
  have hL := kT1_lt k1
  have loop : ∀ r i, v - i = r → i ≤ v → lk tx n N v p = rn (fun i => decide (i < v) && !decide (nmT tx n (N i) = nmT tx n p)) v i → wpX8_variableOf_b2 Q (r + 1) S 1 (pI S 1 9) (nI i) := by
    intro r
    induction r with
    | zero =>
      intro i hr hi he
      have e : lk tx n N v p = v := he.trans ((rn_f (lk_n _ (by omega))).trans (by omega))
      rw [e, if_neg (Nat.lt_irrefl v)] at hQ
      unfold wpX8_variableOf_b2
      refine ⟨hK, pb, h5, hK5, ?_⟩
      rw [h1, ng_d, o_le (by omega) (by omega)]
      exact ⟨fun _ => hQ, fun z => absurd (show v ≤ i by omega) z⟩
    | succ r ih =>
      intro i hr hi he
      have hin : i < v := by omega
      have hnx := ih (i + 1) (by omega) (by omega)
      generalize r + 1 = fu at hnx ⊢
      obtain ⟨g1, g2⟩ := hN i hin
      have hL2 := kT1_lt g1
      have h3 : cdN tx (sT tx n (N i)) (eT tx n (N i) - sT tx n (N i)) < 1073741824 := by
        have h1 := cdN_lt _ hL2
        have h2 : 32 ^ (eT tx n (N i) - sT tx n (N i)) ≤ 32 ^ 6 := Nat.pow_le_pow_right (by decide) g2
        rw [show (32 : Nat) ^ 6 = 1073741824 from by decide] at h2
        exact Nat.lt_of_lt_of_le h1 h2
      have hcd := cd_iff _ _ hL2 hL
      unfold wpX8_variableOf_b2
      refine ⟨hK, pb, h5, hK5, ?_⟩
      rw [h1, ng_d, o_le (by omega) (by omega)]
      refine ⟨fun z => absurd z (by omega), fun _ => ⟨3, hR1, hK3, ?_⟩⟩
      rw [hL3, o_le (by decide) (by omega), o_cl (by omega), o_inT (by omega) (by omega), hS i hin, h9, o_eq (by omega) (by omega), c_1, o_add]
      rw [h9] at hnx
      refine ⟨fun z => absurd z (by omega), fun _ => ⟨trivial, fun z => hnx ?_, fun z => ?_⟩⟩
      · rw [he]
        refine rn_t lk_n ?_
        show (decide (i < v) && !decide (nmT tx n (N i) = nmT tx n p)) = true
        rw [decide_eq_true hin, decide_eq_false (show ¬ nmT tx n (N i) = nmT tx n p from fun q => z (hcd.mpr q))]
        rfl
      · have e : lk tx n N v p = i := he.trans (rn_f (by
          show (decide (i < v) && !decide (nmT tx n (N i) = nmT tx n p)) = false
          rw [decide_eq_true hin, decide_eq_true (show nmT tx n (N i) = nmT tx n p from hcd.mp z)]
          rfl))
        rw [e, if_pos hin] at hQ
        exact hQ
  exact ⟨_, loop _ 0 rfl (by omega) rfl⟩

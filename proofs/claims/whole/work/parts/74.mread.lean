/-! THE REFERENCE READS: numbers, words, names -/
def mG (S S' : PS) : Prop := mf [89, 95] [15, 16, 17, 18, 19, 20, 21] S S'
theorem mG_t {S S1 S2 : PS} (h : mG S S1) (h2 : mG S1 S2) : mG S S2 := mf_t h h2
theorem mG_r (S : PS) : mG S S := mf_r _ _ _
/-- an error was found -/
def mW (S : PS) (c e : Nat) : Prop := MShape S ∧ pI S 87 19 = nI c ∧ 0 < c ∧ c < 5 ∧ pI S 87 20 = nI e
/-- the reference while it reads -/
def mRE (S : PS) (tx : Nat → Nat) (n : Nat) (N P : Nat → Nat) (p : Nat) : Prop := MShape S ∧ mLn S tx n ∧ mTk S tx n p ∧ p ≤ n ∧ (∀ k, k < 169 → pI S 89 k = nI (P k)) ∧ P 0 ≤ 7 ∧ nmK tx n N (P 0) ∧ (∀ i, i < P 0 → pJ S 95 i = lN (nmT tx n (N i))) ∧ pI S 87 19 = nI 0 ∧ pI S 87 20 = ngI
theorem mRE_19 {S : PS} {tx : Nat → Nat} {n : Nat} {N P : Nat → Nat} {p : Nat} (h : mRE S tx n N P p) : pI S 87 19 = nI 0 := h.2.2.2.2.2.2.2.2.1
theorem q_isWr0 {S : PS} {Q : Int32 → PS → Prop} (hM : MShape S) (h : pI S 87 19 = nI 0) (hQ : Q (nI 0) S) : wpX12_isWrong S 87 Q := by
  unfold wpX12_isWrong
  rw [h, c_0]
  exact ⟨msk hM, fun _ => hQ, fun z => absurd rfl z⟩
theorem q_isWr1 {S : PS} {c e : Nat} {Q : Int32 → PS → Prop} (h : mW S c e) (hQ : Q (nI 1) S) : wpX12_isWrong S 87 Q := by
  obtain ⟨hM, h1, h2, h3, h4⟩ := h
  unfold wpX12_isWrong
  rw [h1, c_0, c_1, o_eq (by omega) (by decide)]
  exact ⟨msk hM, fun z => absurd z (by omega), fun _ => hQ⟩
theorem n10 : ¬ nI 1 = nI 0 := by rw [o_eq (by decide) (by decide)]; decide
theorem q_mfails1 {S : PS} {c e : Nat} {x : Int32} {Q : PS → Prop} (h : mW S c e) (hQ : Q S) : wpX12_fails S 87 x Q := by
  unfold wpX12_fails
  rw [c_0]
  exact ⟨msk h.1, q_isWr1 h ⟨fun z => absurd z n10, fun _ => hQ⟩⟩
theorem q_mfails {S : PS} {tx : Nat → Nat} {n p c : Nat} {Q : PS → Prop} (hM : MShape S) (h19 : pI S 87 19 = nI 0) (hT : mTk S tx n p) (h0 : 0 < c) (h5 : c < 5) (hQ : ∀ S', mf [] [19, 20] S S' → mW S' c (sT tx n p) → Q S') : wpX12_fails S 87 (nI c) Q := by
  unfold wpX12_fails
  rw [c_0]
  refine ⟨msk hM, q_isWr0 hM h19 ⟨fun _ => ⟨msk hM, ?_⟩, fun z => absurd rfl z⟩⟩
  have f1 : mf [] [19, 20] S (sI (sI S 87 19 (nI c)) 87 20 (pI (sI S 87 19 (nI c)) 87 16)) := mf_t (mf_sI _ _ (by decide)) (mf_sI _ _ (by decide))
  refine hQ _ f1 ⟨f1.M hM, ?_, h0, h5, ?_⟩
  · rw [pI_sI, if_neg (fun q => absurd q.2 (by decide)), pI_sI, if_pos ⟨rfl, rfl⟩]
  · rw [pI_sI, if_pos ⟨rfl, rfl⟩, pI_sI, if_neg (fun q => absurd q.2 (by decide))]
    exact hT.1
theorem mG_f {S S' : PS} (h : mf [] [19, 20] S S') : mG S S' := mf_w h (by decide) (by decide)
theorem q_mTok {S : PS} {tx : Nat → Nat} {n p : Nat} {N P : Nat → Nat} {Q : PS → Prop} (hR : mRE S tx n N P p) (hQ : ∀ S', mf [] [15, 16, 17, 18, 21] S S' → mG S S' → mRE S' tx n N P (eT tx n p) → Q S') : wpX12_token S 87 Q := by
  obtain ⟨hM, hx, hT, hp, h89, h0, hN, h95, h19, h20⟩ := hR
  refine q_token hM hx hT.2.1 (eT_le hp).2 (fun S' hf hT' => hQ S' hf (mf_w hf (by decide) (by decide)) ⟨hf.M hM, mLn_mf hf (by decide) (by decide) hx, hT', (eT_le hp).2, fun k hk => by rw [hf.1.I (by decide)]; exact h89 k hk, h0, hN, fun i hi => by rw [hf.1.J (by decide)]; exact h95 i hi, by rw [hf.F (by decide)]; exact h19, by rw [hf.F (by decide)]; exact h20⟩)
theorem q_figW {S : PS} {c e : Nat} {x1 x2 : Int32} {Q : Int32 → PS → Prop} (h : mW S c e) (hQ : Q x1 S) : wpX12_figure S 87 x1 x2 Q := by
  unfold wpX12_figure
  rw [c_0]
  exact ⟨msk h.1, q_isWr1 h ⟨fun z => absurd z n10, fun _ => hQ⟩⟩
theorem kT_lt (tx : Nat → Nat) (n p : Nat) : kT tx n p < 5 := by
  unfold kT
  repeat' split
  all_goals omega
theorem q_fig {S : PS} {tx : Nat → Nat} {n p lo hi : Nat} {N P : Nat → Nat} {Q : Int32 → PS → Prop} (hR : mRE S tx n N P p) (hl : lo < 100000) (hh : hi < 100000)
    (hE : ∀ S' c e x, rNum tx n lo hi p = er c e → mf [] [15, 16, 17, 18, 19, 20, 21] S S' → mW S' c e → Q x S')
    (hQ : ∀ S' x p', rNum tx n lo hi p = ok x p' → lo ≤ x → x ≤ hi → mf [] [15, 16, 17, 18, 19, 20, 21] S S' → mRE S' tx n N P p' → Q (nI x) S') : wpX12_figure S 87 (nI lo) (nI hi) Q := by
  obtain ⟨hM, hx, hT, hp, h89, h0, hN, h95, h19, h20⟩ := id hR
  have hkt := kT_lt tx n p
  have wr : ∀ c, 0 < c → c < 5 → rNum tx n lo hi p = er c (sT tx n p) → wpX12_fails S 87 (nI c) (fun S15 => wpX12_figure_b42 Q S15 87 (nI lo) (nI hi)) := fun c q0 q5 hr => q_mfails hM h19 hT q0 q5 (fun S' hf hw => by
    unfold wpX12_figure_b42
    rw [c_0]
    exact ⟨msk hw.1, q_isWr1 hw ⟨fun _ => hE S' _ _ _ hr (mf_w hf (by decide) (by decide)) hw, fun z => absurd z n10⟩⟩)
  unfold wpX12_figure
  rw [c_0, c_1, c_2]
  refine ⟨msk hM, q_isWr0 hM h19 ⟨fun _ => ⟨msk hM, ?_⟩, fun z => absurd rfl z⟩⟩
  rw [hT.2.2.1, o_eq (by omega) (by decide)]
  constructor
  · intro z
    have hv := kT2_lt z
    have h18 := hT.2.2.2.2 z
    have e18 : pI S 87 18 = nI (nvT tx n p) := h18
    rw [e18, w_isIn (by omega) (by omega) (by omega), bI_0]
    constructor
    · intro q
      rw [Bool.not_eq_false, decide_eq_true_iff] at q
      have hr : rNum tx n lo hi p = ok (nvT tx n p) (eT tx n p) := by
        unfold rNum
        rw [if_pos z, if_pos q]
      unfold wpX12_figure_b42
      rw [c_0, e18]
      refine ⟨msk hM, q_isWr0 hM h19 ⟨fun w => absurd rfl w, fun _ => ⟨msk hM, q_mTok hR (fun S' hf _ hR' => ?_)⟩⟩⟩
      exact hQ S' _ _ hr q.1 q.2 (mf_w hf (by decide) (by decide)) hR'
    · intro q
      rw [decide_eq_false_iff_not] at q
      exact ⟨msk hM, wr 2 (by decide) (by decide) (by unfold rNum; rw [if_pos z, if_neg q])⟩
  · intro z
    exact wr 1 (by decide) (by decide) (by unfold rNum; rw [if_neg z])
theorem q_mendsW {S : PS} {c e : Nat} {Q : PS → Prop} (h : mW S c e) (hQ : Q S) : wpX12_ends S 87 Q := by
  have hb : wpX12_ends_b13 Q S 87 := by
    unfold wpX12_ends_b13
    rw [c_0]
    exact ⟨msk h.1, q_isWr1 h ⟨fun _ => hQ, fun z => absurd z n10⟩⟩
  unfold wpX12_ends
  exact ⟨msk h.1, fun _ => hb, fun _ => q_mfails1 h hb⟩
theorem q_mends {S : PS} {tx : Nat → Nat} {n p : Nat} {N P : Nat → Nat} {Q : PS → Prop} (hR : mRE S tx n N P p)
    (hE : ∀ S' c e, rSem tx n p = er c e → mG S S' → mW S' c e → Q S') (hQ : ∀ S' v p', rSem tx n p = ok v p' → mG S S' → mRE S' tx n N P p' → Q S') : wpX12_ends S 87 Q := by
  obtain ⟨hM, hx, hT, hp, h89, h0, hN, h95, h19, h20⟩ := id hR
  have hkt := kT_lt tx n p
  unfold wpX12_ends
  rw [c_1, c_3, hT.2.2.1, o_eq (by omega) (by decide)]
  refine ⟨msk hM, fun z => ?_, fun z => q_mfails hM h19 hT (by decide) (by decide) (fun S' hf hw => ?_)⟩
  · unfold wpX12_ends_b13
    rw [c_0]
    refine ⟨msk hM, q_isWr0 hM h19 ⟨fun w => absurd rfl w, fun _ => ⟨msk hM, q_mTok hR (fun S' hf hg hR' => hQ S' 0 _ ?_ hg hR')⟩⟩⟩
    unfold rSem
    rw [if_pos z]
  · unfold wpX12_ends_b13
    rw [c_0]
    refine ⟨msk hw.1, q_isWr1 hw ⟨fun _ => hE S' _ _ ?_ (mG_f hf) hw, fun w => absurd w n10⟩⟩
    unfold rSem
    rw [if_neg z]
theorem q_misWW {S : PS} {c e : Nat} {bW : List Int32} {Q : Int32 → PS → Prop} (h : mW S c e) (hQ : Q (nI 0) S) : wpX12_isWord S 87 bW Q := by
  unfold wpX12_isWord
  rw [c_0]
  exact ⟨msk h.1, q_isWr1 h ⟨fun _ => hQ, fun z => absurd z n10⟩⟩
theorem q_misW {S : PS} {tx : Nat → Nat} {n p : Nat} {N P : Nat → Nat} {bW : List Int32} {w : List Nat} {Q : Int32 → PS → Prop} (hR : mRE S tx n N P p) (hw : wOK bW w) (hQ : Q (bI (isW tx n w p)) S) : wpX12_isWord S 87 bW Q := by
  obtain ⟨hM, hx, hT, hp, h89, h0, hN, h95, h19, h20⟩ := hR
  obtain ⟨w1, w2, w3, w4⟩ := hw
  have h600 := hx.2.1
  have hs := sT_le (tx := tx) hp
  have he := eT_le (tx := tx) hp
  have hk := kT_lt tx n p
  have loop : ∀ r i, w.length - i = r → i ≤ w.length → eT tx n p - sT tx n p = w.length → (Q (bI (eqF tx (sT tx n p) w r i)) S) → wpX12_isWord_b35 bW Q (r + 1) S 87 (nI i) := by
    intro r
    induction r with
    | zero =>
      intro i hr hi hl q
      unfold wpX12_isWord_b35
      rw [w3, o_le (by omega) (by omega)]
      exact ⟨fun _ => q, fun z => absurd (show w.length ≤ i by omega) z⟩
    | succ r ih =>
      intro i hr hi hl q
      have hin : sT tx n p + i < n := by omega
      have hb := (hx.2.2 _ hin).2
      have h4 := w4 i (by omega)
      have hnx := ih (i + 1) (by omega) (by omega) hl
      generalize r + 1 = fu at hnx ⊢
      unfold wpX12_isWord_b35
      rw [w3, o_le (by omega) (by omega)]
      refine ⟨fun z => absurd z (by omega), fun _ => ⟨msk hM, ?_⟩⟩
      rw [hT.1, o_add, w_at hM hx (by omega), o_cl (by omega), h4.1]
      unfold cat
      rw [if_pos hin, o_eq (by omega) (by omega), w2, o_inT (by omega) (by omega), c_1, o_add]
      refine ⟨trivial, fun z => hnx ?_, fun z => ?_⟩
      · have q' : Q (bI (if tx (sT tx n p + i) = w.getD i 0 then eqF tx (sT tx n p) w r (i + 1) else false)) S := q
        rw [if_pos z] at q'
        exact q'
      · have q' : Q (bI (if tx (sT tx n p + i) = w.getD i 0 then eqF tx (sT tx n p) w r (i + 1) else false)) S := q
        rw [if_neg z] at q'
        exact q'
  unfold wpX12_isWord
  unfold isW at hQ
  rw [w3, c_0]
  refine ⟨msk hM, q_isWr0 hM h19 ⟨fun w => absurd rfl w, fun _ => ⟨msk hM, ?_⟩⟩⟩
  rw [hT.1, hT.2.1, hT.2.2.1, o_sub (by omega), o_eq (by omega) (by omega), c_1, o_eq (by omega) (by decide)]
  refine ⟨fun z => ?_, fun z => ⟨fun z2 => ?_, fun z2 => ?_⟩⟩
  · rw [decide_eq_false z, Bool.false_and] at hQ
    exact hQ
  · rw [decide_eq_true z, decide_eq_true z2, Bool.true_and, Bool.true_and] at hQ
    exact ⟨_, loop _ 0 rfl (by omega) z2 hQ⟩
  · rw [decide_eq_true z, decide_eq_false z2, Bool.true_and, Bool.false_and] at hQ
    exact hQ
/-- the first test of a name when an error was found -/
theorem q_nmW {S : PS} {c e : Nat} {Q : Int32 → PS → Prop} (h : mW S c e) (hQ : Q ngI S) : ∃ n9 : Nat, wpX12_named_b38 Q n9 S 87 0 := by
  refine ⟨1, ?_⟩
  unfold wpX12_named_b38
  rw [ng_d, c_0]
  refine ⟨msk h.1, 89, msr_told h.1, msk_told h.1, ?_⟩
  rw [msl_told h.1, o_inT (by decide) (by decide)]
  exact ⟨trivial, fun _ => hQ, fun _ => q_isWr1 h ⟨fun _ => hQ, fun z => absurd z n10⟩⟩
theorem q_namedW {S : PS} {c e : Nat} {Q : Int32 → PS → Prop} (h : mW S c e) (hQ : Q ngI S) : wpX12_named S 87 Q := by
  have hb : wpX12_named_b31 Q S 87 := by
    unfold wpX12_named_b31
    exact ⟨msk h.1, q_mfails1 h (q_nmW h hQ)⟩
  unfold wpX12_named
  refine ⟨msk h.1, fun _ => hb, fun _ => ⟨fun _ => hb, fun _ => q_misWW h ⟨fun _ => q_nmW h hQ, fun _ => hb⟩⟩⟩
theorem q_named {S : PS} {tx : Nat → Nat} {n p : Nat} {N P : Nat → Nat} {Q : Int32 → PS → Prop} (hR : mRE S tx n N P p)
    (hE : isNm tx n p = false → ∀ S', mf [] [19, 20] S S' → mW S' 1 (sT tx n p) → Q ngI S')
    (hQ : isNm tx n p = true → Q (if lk tx n N (P 0) p < P 0 then nI (lk tx n N (P 0) p) else ngI) S) : wpX12_named S 87 Q := by
  obtain ⟨hM, hx, hT, hp, h89, h0, hN, h95, h19, h20⟩ := id hR
  have h600 := hx.2.1
  have hkt := kT_lt tx n p
  have he := eT_le (tx := tx) hp
  have bad : isNm tx n p = false → wpX12_named_b31 Q S 87 := fun q => by
    unfold wpX12_named_b31
    rw [c_1]
    exact ⟨msk hM, q_mfails hM h19 hT (by decide) (by decide) (fun S' hf hw => q_nmW hw (hE q S' hf hw))⟩
  have good : isNm tx n p = true → ∃ n9 : Nat, wpX12_named_b38 Q n9 S 87 0 := fun q => by
    obtain ⟨k1, k2, k3⟩ := isNm_i q
    have hQ' := hQ q
    have h21 := hT.2.2.2.1 k1
    rw [if_pos k2] at h21
    have hb : ∀ i, kT tx n i = 1 → eT tx n i - sT tx n i ≤ 6 → nmT tx n i < 387420489 := fun i g1 g2 => by
      have q1 := nmN_lt _ (kT1_lt g1)
      have q2 : 27 ^ (eT tx n i - sT tx n i) ≤ 27 ^ 6 := Nat.pow_le_pow_right (by decide) g2
      rw [show (27 : Nat) ^ 6 = 387420489 from by decide] at q2
      exact Nat.lt_of_lt_of_le q1 q2
    have loop : ∀ r i, P 0 - i = r → i ≤ P 0 → lk tx n N (P 0) p = rn (fun i => decide (i < P 0) && !decide (nmT tx n (N i) = nmT tx n p)) (P 0) i → wpX12_named_b38 Q (r + 1) S 87 (nI i) := by
      intro r
      induction r with
      | zero =>
        intro i hr hi hl
        have e : lk tx n N (P 0) p = P 0 := hl.trans ((rn_f (lk_n _ (by omega))).trans (by omega))
        rw [e, if_neg (Nat.lt_irrefl _)] at hQ'
        unfold wpX12_named_b38
        rw [ng_d, c_0]
        refine ⟨msk hM, 89, msr_told hM, msk_told hM, ?_⟩
        rw [msl_told hM, o_inT (by decide) (by decide), o_cl (by decide), h89 0 (by decide), o_le (by omega) (by omega)]
        exact ⟨trivial, fun _ => hQ', fun z => absurd (show P 0 ≤ i by omega) z⟩
      | succ r ih =>
        intro i hr hi hl
        have hin : i < P 0 := by omega
        have hnx := ih (i + 1) (by omega) (by omega)
        generalize r + 1 = fu at hnx ⊢
        obtain ⟨g1, g2⟩ := hN i hin
        have b1 := hb _ g1 g2
        have b2 := hb _ k1 k2
        unfold wpX12_named_b38
        rw [ng_d, c_0]
        refine ⟨msk hM, 89, msr_told hM, msk_told hM, ?_⟩
        rw [msl_told hM, o_inT (by decide) (by decide), o_cl (by decide), h89 0 (by decide), o_le (by omega) (by omega)]
        refine ⟨trivial, fun z => absurd z (by omega), fun _ => q_isWr0 hM h19 ⟨fun z => absurd rfl z, fun _ => ⟨msk hM, 95, msr_names hM, msk_names hM, ?_⟩⟩⟩
        have e21 : pJ S 87 21 = lN (nmT tx n p) := h21
        rw [msl_names hM, o_inT (by omega) (by omega), o_cl (by omega), h95 i hin, e21, lg_0, lN_inj (by omega) (by omega), c_1, o_add]
        refine ⟨trivial, fun z => hnx ?_, fun z => ?_⟩
        · rw [hl]
          refine rn_t lk_n ?_
          show (decide (i < P 0) && !decide (nmT tx n (N i) = nmT tx n p)) = true
          rw [decide_eq_true hin, decide_eq_false z]
          rfl
        · have e : lk tx n N (P 0) p = i := hl.trans (rn_f (by
            show (decide (i < P 0) && !decide (nmT tx n (N i) = nmT tx n p)) = false
            rw [decide_eq_true hin, decide_eq_true z]
            rfl))
          rw [e, if_pos hin] at hQ'
          exact hQ'
    exact ⟨_, loop _ 0 rfl (by omega) rfl⟩
  unfold wpX12_named
  rw [c_0, c_1, c_6, hT.1, hT.2.1, hT.2.2.1, o_sub (by omega), o_lt (by decide) (by omega), o_eq (by omega) (by decide)]
  refine ⟨msk hM, fun z => bad ?_, fun z => ⟨fun z2 => bad ?_, fun z2 => q_misW hR wV_val ?_⟩⟩
  · unfold isNm
    rw [decide_eq_false z, Bool.false_and]
  · unfold isNm
    rw [decide_eq_false (show ¬ eT tx n p - sT tx n p ≤ 6 by omega), Bool.false_and, Bool.and_false]
  · rw [bI_0]
    refine ⟨fun q => good ?_, fun q => bad ?_⟩
    · unfold isNm
      rw [decide_eq_true z, decide_eq_true (show eT tx n p - sT tx n p ≤ 6 by omega), q]
      rfl
    · rw [Bool.not_eq_false] at q
      unfold isNm
      rw [q, Bool.not_true, Bool.and_false, Bool.and_false]

/-! THE TEXT: the reference's tokens -/
/-- the text that is read: the reference -/
def mLn (S : PS) (tx : Nat → Nat) (n : Nat) : Prop := pI S 87 14 = nI n ∧ n ≤ 600 ∧ ∀ i, i < n → pI S 94 i = nI (tx i) ∧ tx i < 256
theorem mLn_mf {A F : List Nat} {S S' : PS} {tx : Nat → Nat} {n : Nat} (h : mf A F S S') (h1 : 94 ∉ 87 :: A) (h2 : 14 ∉ F) (hx : mLn S tx n) : mLn S' tx n := ⟨by rw [h.F h2]; exact hx.1, hx.2.1, fun i hi => by rw [h.1.I h1]; exact hx.2.2 i hi⟩
theorem w_at {S : PS} {tx : Nat → Nat} {n i : Nat} {Q : Int32 → PS → Prop} (hM : MShape S) (hx : mLn S tx n) (hi : i < 100000) : wpX12_at S 87 (nI i) Q = Q (cat tx n i) S := by
  obtain ⟨h1, h2, h3⟩ := hx
  unfold wpX12_at cat
  rw [h1, o_cl (by omega), o_le (by omega) (by omega)]
  simp only [↓ng_d]
  apply propext
  by_cases hin : i < n
  · rw [if_pos hin]
    constructor
    · rintro ⟨_, _, q⟩
      obtain ⟨o, ho, _, _, q3⟩ := q (by omega)
      rw [msr_text hM] at ho
      cases ho
      rw [(h3 i hin).1] at q3
      exact q3
    · intro q
      refine ⟨msk hM, fun z => absurd hin (by omega), fun _ => ⟨94, msr_text hM, msk_text hM, ?_, ?_⟩⟩
      · rw [msl_text hM, o_inT (by omega) (by omega)]
        trivial
      · rw [(h3 i hin).1]
        exact q
  · rw [if_neg hin]
    constructor
    · rintro ⟨_, q, _⟩
      exact q (by omega)
    · intro q
      exact ⟨msk hM, fun _ => q, fun z => absurd z (by omega)⟩
theorem w_misLt {S : PS} {tx : Nat → Nat} {n i : Nat} {Q : Int32 → PS → Prop} (h : i < n → tx i < 256) : wpX12_isLetter S (cat tx n i) Q = Q (bI (ltB tx n i)) S := by
  unfold wpX12_isLetter cat ltB
  rw [c_0, c_1, c_97, c_122]
  by_cases hin : i < n
  · have h2 := h hin
    rw [if_pos hin, decide_eq_true hin, Bool.true_and, o_lt (by omega) (by omega), o_lt (by omega) (by omega)]
    by_cases e1 : tx i < 97
    · rw [decide_eq_false (show ¬ 97 ≤ tx i by omega), Bool.false_and]
      exact propext ⟨fun q => q.1 e1, fun q => ⟨fun _ => q, fun z => absurd e1 z⟩⟩
    · rw [decide_eq_true (show 97 ≤ tx i by omega), Bool.true_and]
      by_cases e2 : 122 < tx i
      · rw [decide_eq_false (show ¬ tx i ≤ 122 by omega)]
        exact propext ⟨fun q => (q.2 e1).1 e2, fun q => ⟨fun z => absurd z e1, fun _ => ⟨fun _ => q, fun z => absurd e2 z⟩⟩⟩
      · rw [decide_eq_true (show tx i ≤ 122 by omega)]
        exact propext ⟨fun q => (q.2 e1).2 e2, fun q => ⟨fun z => absurd z e1, fun _ => ⟨fun z => absurd z e2, fun _ => q⟩⟩⟩
  · rw [if_neg hin, decide_eq_false hin, Bool.false_and]
    have : ngI < nI 97 := by rw [m_lt 97 (by decide)]; trivial
    exact propext ⟨fun q => q.1 this, fun q => ⟨fun _ => q, fun z => absurd this z⟩⟩
theorem w_misDg {S : PS} {tx : Nat → Nat} {n i : Nat} {Q : Int32 → PS → Prop} (h : i < n → tx i < 256) : wpX12_isDigit S (cat tx n i) Q = Q (bI (dgB tx n i)) S := by
  unfold wpX12_isDigit cat dgB
  rw [c_0, c_1, c_48, c_57]
  by_cases hin : i < n
  · have h2 := h hin
    rw [if_pos hin, decide_eq_true hin, Bool.true_and, o_lt (by omega) (by omega), o_lt (by omega) (by omega)]
    by_cases e1 : tx i < 48
    · rw [decide_eq_false (show ¬ 48 ≤ tx i by omega), Bool.false_and]
      exact propext ⟨fun q => q.1 e1, fun q => ⟨fun _ => q, fun z => absurd e1 z⟩⟩
    · rw [decide_eq_true (show 48 ≤ tx i by omega), Bool.true_and]
      by_cases e2 : 57 < tx i
      · rw [decide_eq_false (show ¬ tx i ≤ 57 by omega)]
        exact propext ⟨fun q => (q.2 e1).1 e2, fun q => ⟨fun z => absurd z e1, fun _ => ⟨fun _ => q, fun z => absurd e2 z⟩⟩⟩
      · rw [decide_eq_true (show tx i ≤ 57 by omega)]
        exact propext ⟨fun q => (q.2 e1).2 e2, fun q => ⟨fun z => absurd z e1, fun _ => ⟨fun z => absurd z e2, fun _ => q⟩⟩⟩
  · rw [if_neg hin, decide_eq_false hin, Bool.false_and]
    have : ngI < nI 48 := by rw [m_lt 48 (by decide)]; trivial
    exact propext ⟨fun q => q.1 this, fun q => ⟨fun _ => q, fun z => absurd this z⟩⟩
theorem li_b : ∀ b, b < 256 → (nI b).toInt64 = lN b := by decide +kernel
theorem lN_sub2 {a b : Nat} (h : b ≤ a) : lN a - lN b = lN (a - b) := by
  have h1 : lN a = lN (a - b) + lN b := by
    have : a = (a - b) + b := by omega
    show Int64.ofNat a = Int64.ofNat (a - b) + Int64.ofNat b
    rw [← Int64.ofNat_add, ← this]
  rw [h1, Int64.add_sub_cancel]
theorem lN_add2 (a b : Nat) : lN a + lN b = lN (a + b) := (Int64.ofNat_add a b).symm
/-- the reference's token -/
def mTk (S : PS) (tx : Nat → Nat) (n p : Nat) : Prop := pI S 87 16 = nI (sT tx n p) ∧ pI S 87 15 = nI (eT tx n p) ∧ pI S 87 17 = nI (kT tx n p) ∧ (kT tx n p = 1 → pJ S 87 21 = lN (nmN tx (sT tx n p) (if eT tx n p - sT tx n p ≤ 6 then eT tx n p - sT tx n p else 6))) ∧ (kT tx n p = 2 → pI S 87 18 = nI (nvN tx (sT tx n p) (eT tx n p - sT tx n p)))
theorem mf_sJ {A F : List Nat} (S : PS) {k : Nat} (v : Int64) (hk : k ∈ F) : mf A F S (sJ S 87 k v) := ⟨fr_sJ _ _ _ List.mem_cons_self, fun j hj => ⟨rfl, by rw [pJ_sJ, if_neg (show ¬ (87 = 87 ∧ j = k) from fun q => hj (q.2 ▸ hk))]⟩⟩
theorem q_mWord {S : PS} {tx : Nat → Nat} {n s : Nat} {x1 : Int32} {Q : PS → Prop} (hM : MShape S) (hx : mLn S tx n) (h16 : pI S 87 16 = nI s) (h15 : pI S 87 15 = nI s) (h21 : pJ S 87 21 = lN 0) (hs : s ≤ n)
    (hQ : ∀ S', mf [] [15, 17, 21] S S' → pI S' 87 15 = nI (rn (ltB tx n) n s) → pI S' 87 17 = nI 1 → pJ S' 87 21 = lN (nmN tx s (if rn (ltB tx n) n s - s ≤ 6 then rn (ltB tx n) n s - s else 6)) → Q S') : ∃ n9 : Nat, wpX12_token_b81 Q n9 S 87 x1 := by
  have h600 := hx.2.1
  have loop : ∀ r j S', n - (s + j) = r → s + j ≤ n → mf [] [15, 17, 21] S S' → pI S' 87 15 = nI (s + j) → pJ S' 87 21 = lN (nmN tx s (if j ≤ 6 then j else 6)) → rn (ltB tx n) n s = rn (ltB tx n) n (s + j) → wpX12_token_b81 Q (r + 1) S' 87 x1 := by
    intro r
    induction r with
    | zero =>
      intro j S' hr hle hf g15 g21 he
      have hM' := hf.M hM
      have hx' := mLn_mf hf (by decide) (by decide) hx
      have e : rn (ltB tx n) n s = s + j := he.trans (rn_f (ltB_n _ (by omega)))
      have e2 : rn (ltB tx n) n s - s = j := by omega
      have hb : ltB tx n (s + j) = false := ltB_n _ (by omega)
      have h256 : s + j < n → tx (s + j) < 256 := fun q => absurd q (by omega)
      unfold wpX12_token_b81
      rw [g15, w_at hM' hx' (by omega), w_misLt h256, hb, c_0, c_1]
      refine ⟨msk hM', fun _ => ⟨msk hM', hQ _ (mf_t hf (mf_sI _ _ (by decide))) ?_ ?_ ?_⟩, fun z => absurd rfl z⟩
      · rw [pI_sI, if_neg (fun q => absurd q.2 (by decide)), e]
        exact g15
      · rw [pI_sI, if_pos ⟨rfl, rfl⟩]
      · rw [e2]
        exact g21
    | succ r ih =>
      intro j S' hr hle hf g15 g21 he
      have hM' := hf.M hM
      have hx' := mLn_mf hf (by decide) (by decide) hx
      have g16 : pI S' 87 16 = nI s := by rw [hf.F (by decide)]; exact h16
      have hlt : s + j < n := by omega
      have h256 := (hx.2.2 (s + j) hlt).2
      have hnx := ih (j + 1)
      generalize r + 1 = fu at hnx ⊢
      unfold wpX12_token_b81 wpX12_token_b135
      rw [g15, w_at hM' hx' (by omega), w_misLt (fun _ => h256), c_0, c_1, c_6, bI_0]
      refine ⟨msk hM', fun z => ⟨msk hM', ?_⟩, fun z => ⟨msk hM', ?_⟩⟩
      · have e : rn (ltB tx n) n s = s + j := he.trans (rn_f z)
        have e2 : rn (ltB tx n) n s - s = j := by omega
        refine hQ _ (mf_t hf (mf_sI _ _ (by decide))) ?_ ?_ ?_
        · rw [pI_sI, if_neg (fun q => absurd q.2 (by decide)), e]
          exact g15
        · rw [pI_sI, if_pos ⟨rfl, rfl⟩]
        · rw [e2]
          exact g21
      · rw [Bool.not_eq_false] at z
        obtain ⟨z1, z2, z3⟩ := ltB_i z
        rw [g15, g16, o_sub (by omega), show s + j - s = j by omega, o_le (by decide) (by omega)]
        refine ⟨fun z4 => ⟨msk hM', ?_⟩, fun z4 => ?_⟩
        · rw [o_add]
          refine hnx _ (by omega) (by omega) (mf_t hf (mf_sI _ _ (by decide))) (by rw [pI_sI, if_pos ⟨rfl, rfl⟩]; rfl) ?_ (he.trans (rn_t ltB_n z))
          rw [pJ_sI, if_neg (by omega), g21]
          by_cases e6 : j ≤ 6
          · rw [if_pos e6, show j = 6 by omega]
          · rw [if_neg e6]
        · rw [w_at hM' hx' (by omega)]
          unfold cat
          rw [if_pos hlt, g21, li_b _ h256, l_27, l_96, lN_mul2, lN_add2, if_pos (show j ≤ 6 by omega), lN_sub2 (by omega)]
          refine ⟨msk hM', msk hM', ?_⟩
          have e15 : pI (sJ S' 87 21 (lN (27 * nmN tx s j + tx (s + j) - 96))) 87 15 = nI (s + j) := g15
          rw [e15, o_add]
          refine hnx _ (by omega) (by omega) (mf_t hf (mf_t (mf_sJ _ _ (by decide)) (mf_sI _ _ (by decide)))) (by rw [pI_sI, if_pos ⟨rfl, rfl⟩]; rfl) ?_ (he.trans (rn_t ltB_n z))
          rw [pJ_sI, pJ_sJ, if_pos ⟨rfl, rfl⟩, if_pos (by omega)]
          show _ = lN (27 * nmN tx s j + (tx (s + j) - 96))
          rw [show 27 * nmN tx s j + tx (s + j) - 96 = 27 * nmN tx s j + (tx (s + j) - 96) by omega]
  exact ⟨_, loop _ 0 S rfl (by omega) ⟨fr_r _ _, fun _ _ => ⟨rfl, rfl⟩⟩ h15 h21 rfl⟩
theorem q_mNumber {S : PS} {tx : Nat → Nat} {n s : Nat} {x1 : Int32} {Q : PS → Prop} (hM : MShape S) (hx : mLn S tx n) (h16 : pI S 87 16 = nI s) (h15 : pI S 87 15 = nI s) (h18 : pI S 87 18 = nI 0) (hs : s ≤ n)
    (hQ : ∀ S', mf [] [15, 17, 18] S S' → pI S' 87 15 = nI (rn (dgB tx n) n s) → pI S' 87 17 = nI (if rn (dgB tx n) n s - s ≤ 2 then 2 else 4) → (rn (dgB tx n) n s - s ≤ 2 → pI S' 87 18 = nI (nvN tx s (rn (dgB tx n) n s - s))) → Q S') : ∃ n9 : Nat, wpX12_token_b168 Q n9 S 87 x1 := by
  have h600 := hx.2.1
  have fin : ∀ j S', mf [] [15, 17, 18] S S' → s + j ≤ n → pI S' 87 15 = nI (s + j) → (j ≤ 2 → pI S' 87 18 = nI (nvN tx s j)) → rn (dgB tx n) n s = s + j → pK S' 87 = 11 ∧ (pI S' 87 15 - pI S' 87 16 ≤ nI 2 → Q (sI S' 87 17 (nI 2))) ∧ (¬ pI S' 87 15 - pI S' 87 16 ≤ nI 2 → Q (sI S' 87 17 (nI 4))) := fun j S' hf hle g15 g18 he => by
    have hM' := hf.M hM
    have g16 : pI S' 87 16 = nI s := by rw [hf.F (by decide)]; exact h16
    have e2 : rn (dgB tx n) n s - s = j := by omega
    rw [g15, g16, o_sub (by omega), show s + j - s = j by omega, o_le (by omega) (by decide)]
    have hq : ∀ v : Nat, (v = if j ≤ 2 then 2 else 4) → Q (sI S' 87 17 (nI v)) := fun v hv => by
      refine hQ _ (mf_t hf (mf_sI _ _ (by decide))) ?_ ?_ ?_
      · rw [pI_sI, if_neg (fun q => absurd q.2 (by decide)), he]
        exact g15
      · rw [pI_sI, if_pos ⟨rfl, rfl⟩, e2, hv]
      · rw [e2, pI_sI, if_neg (fun q => absurd q.2 (by decide))]
        exact g18
    exact ⟨msk hM', fun z => hq _ (by rw [if_pos z]), fun z => hq _ (by rw [if_neg z])⟩
  have loop : ∀ r j S', n - (s + j) = r → s + j ≤ n → mf [] [15, 17, 18] S S' → pI S' 87 15 = nI (s + j) → (j ≤ 2 → pI S' 87 18 = nI (nvN tx s j)) → rn (dgB tx n) n s = rn (dgB tx n) n (s + j) → wpX12_token_b168 Q (r + 1) S' 87 x1 := by
    intro r
    induction r with
    | zero =>
      intro j S' hr hle hf g15 g18 he
      have hM' := hf.M hM
      have hx' := mLn_mf hf (by decide) (by decide) hx
      have hb : dgB tx n (s + j) = false := dgB_n _ (by omega)
      have h256 : s + j < n → tx (s + j) < 256 := fun q => absurd q (by omega)
      have h1 := fin j S' hf hle g15 g18 (he.trans (rn_f hb))
      unfold wpX12_token_b168
      rw [c_0, c_2, c_4]
      refine ⟨msk hM', ?_⟩
      rw [g15, w_at hM' hx' (by omega), w_misDg h256, hb]
      rw [g15] at h1
      rw [g15]
      exact ⟨fun _ => h1, fun z => absurd rfl z⟩
    | succ r ih =>
      intro j S' hr hle hf g15 g18 he
      have hM' := hf.M hM
      have hx' := mLn_mf hf (by decide) (by decide) hx
      have g16 : pI S' 87 16 = nI s := by rw [hf.F (by decide)]; exact h16
      have hlt : s + j < n := by omega
      have h256 := (hx.2.2 (s + j) hlt).2
      have hnx := ih (j + 1)
      generalize r + 1 = fu at hnx ⊢
      have fin2 := fin j S' hf hle g15 g18
      unfold wpX12_token_b168 wpX12_token_b218
      simp only [c_0, c_1, c_2, c_4, c_48, show (10 : Int32) = nI 10 from rfl]
      refine ⟨msk hM', ?_⟩
      rw [g15, w_at hM' hx' (by omega), w_misDg (fun _ => h256), bI_0]
      rw [g15] at fin2
      rw [g15]
      refine ⟨fun z => fin2 (he.trans (rn_f z)), fun z => ⟨msk hM', ?_⟩⟩
      rw [Bool.not_eq_false] at z
      obtain ⟨z1, z2, z3⟩ := dgB_i z
      rw [g16, o_sub (by omega), show s + j - s = j by omega, o_le (by decide) (by omega)]
      refine ⟨fun z4 => ⟨msk hM', ?_⟩, fun z4 => ?_⟩
      · rw [o_add]
        refine hnx _ (by omega) (by omega) (mf_t hf (mf_sI _ _ (by decide))) (by rw [pI_sI, if_pos ⟨rfl, rfl⟩]; rfl) (fun q => absurd q (by omega)) (he.trans (rn_t dgB_n z))
      · rw [w_at hM' hx' (by omega)]
        unfold cat
        rw [if_pos hlt, g18 (by omega), o_mul, o_add, o_sub (by omega)]
        refine ⟨msk hM', msk hM', ?_⟩
        have e15 : pI (sI S' 87 18 (nI (10 * nvN tx s j + tx (s + j) - 48))) 87 15 = nI (s + j) := by
          rw [pI_sI, if_neg (fun q => absurd q.2 (by decide))]
          exact g15
        rw [e15, o_add]
        refine hnx _ (by omega) (by omega) (mf_t hf (mf_t (mf_sI _ _ (by decide)) (mf_sI _ _ (by decide)))) (by rw [pI_sI, if_pos ⟨rfl, rfl⟩]; rfl) (fun _ => ?_) (he.trans (rn_t dgB_n z))
        rw [pI_sI, if_neg (fun q => absurd q.2 (by decide)), pI_sI, if_pos ⟨rfl, rfl⟩]
        rfl
  exact ⟨_, loop _ 0 S rfl (by omega) ⟨fr_r _ _, fun _ _ => ⟨rfl, rfl⟩⟩ h15 (fun _ => h18) rfl⟩
theorem q_token {S : PS} {tx : Nat → Nat} {n p : Nat} {Q : PS → Prop} (hM : MShape S) (hx : mLn S tx n) (h15 : pI S 87 15 = nI p) (hp : p ≤ n) (hQ : ∀ S', mf [] [15, 16, 17, 18, 21] S S' → mTk S' tx n p → Q S') : wpX12_token S 87 Q := by
  have h600 := hx.2.1
  have hsl := sT_le (tx := tx) hp
  have h256 : ∀ i, i < n → tx i < 256 := fun i q => (hx.2.2 i q).2
  have fin : ∀ S', mf [] [15] S S' → pI S' 87 15 = nI (sT tx n p) → pK S' 87 = 11 ∧ wpX12_at (sI S' 87 16 (pI S' 87 15)) 87 (pI (sI S' 87 16 (pI S' 87 15)) 87 15) (fun r31 S32 => ((¬ r31 = ngI → (wpX12_isLetter S32 r31 (fun r33 S34 => ((r33 = nI 0 → (wpX12_isDigit S34 r31 (fun r35 S36 => ((r35 = nI 0 → (pK S36 87 = 11 ∧ ((¬ r31 = nI 59 → (Q (sI (sI S36 87 15 ((pI S36 87 15) + nI 1)) 87 17 (nI 4)))) ∧ (r31 = nI 59 → (Q (sI (sI S36 87 15 ((pI S36 87 15) + nI 1)) 87 17 (nI 3))))))) ∧ (¬ r35 = nI 0 → (pK S36 87 = 11 ∧ (∃ n9 : Nat, wpX12_token_b168 Q n9 (sI S36 87 18 (nI 0)) 87 r31))))))) ∧ (¬ r33 = nI 0 → (pK S34 87 = 11 ∧ (∃ n9 : Nat, wpX12_token_b81 Q n9 (sJ S34 87 21 (lN 0)) 87 r31))))))) ∧ (r31 = ngI → (pK S32 87 = 11 ∧ (Q (sI S32 87 17 (nI 0))))))) := fun S' hf g15 => by
    have f2 : mf [] [15, 16] S (sI S' 87 16 (nI (sT tx n p))) := mf_t (mf_w hf (by decide) (by decide)) (mf_sI _ _ (by decide))
    have hM2 := f2.M hM
    have hx2 := mLn_mf f2 (by decide) (by decide) hx
    have e15 : pI (sI S' 87 16 (nI (sT tx n p))) 87 15 = nI (sT tx n p) := by rw [pI_sI, if_neg (fun q => absurd q.2 (by decide))]; exact g15
    have e16 : pI (sI S' 87 16 (nI (sT tx n p))) 87 16 = nI (sT tx n p) := by rw [pI_sI, if_pos ⟨rfl, rfl⟩]
    refine ⟨msk (hf.M hM), ?_⟩
    rw [g15, e15, w_at hM2 hx2 (by omega), w_misLt (h256 _), w_misDg (h256 _), bI_0, bI_0, e15]
    by_cases hin : sT tx n p < n
    · have hc : cat tx n (sT tx n p) = nI (tx (sT tx n p)) := by unfold cat; rw [if_pos hin]
      have hb := h256 _ hin
      rw [hc, o_eq (by omega) (by decide), m_ne _ (by omega)]
      refine ⟨fun _ => ⟨fun z => ⟨fun z2 => ⟨msk hM2, ?_⟩, fun z2 => ⟨msk hM2, ?_⟩⟩, fun z => ⟨msk hM2, ?_⟩⟩, fun z => z.elim⟩
      · have hE : eT tx n p = sT tx n p + 1 := by
          unfold eT
          rw [if_neg (by omega), if_neg (by rw [z]; decide), if_neg (by rw [z2]; decide)]
        have hK : kT tx n p = if tx (sT tx n p) = 59 then 3 else 4 := by
          unfold kT
          rw [if_neg (by omega), if_neg (by rw [z]; decide), if_neg (by rw [z2]; decide)]
        have one : ∀ v : Nat, kT tx n p = v → (v = 3 ∨ v = 4) → Q (sI (sI (sI S' 87 16 (nI (sT tx n p))) 87 15 (nI (sT tx n p) + nI 1)) 87 17 (nI v)) := fun v hv h34 => by
          rw [o_add]
          refine hQ _ (mf_t (mf_w f2 (by decide) (by decide)) (mf_t (mf_sI _ _ (by decide)) (mf_sI _ _ (by decide)))) ⟨?_, ?_, ?_, fun q => by omega, fun q => by omega⟩
          · rw [pI_sI, if_neg (fun q => absurd q.2 (by decide)), pI_sI, if_neg (fun q => absurd q.2 (by decide))]
            exact e16
          · rw [pI_sI, if_neg (fun q => absurd q.2 (by decide)), pI_sI, if_pos ⟨rfl, rfl⟩, hE]
          · rw [pI_sI, if_pos ⟨rfl, rfl⟩, hv]
        exact ⟨fun z4 => one 4 (by rw [hK, if_neg z4]) (Or.inr rfl), fun z4 => one 3 (by rw [hK, if_pos z4]) (Or.inl rfl)⟩
      · rw [Bool.not_eq_false] at z2
        have hE : eT tx n p = rn (dgB tx n) n (sT tx n p) := by
          unfold eT
          rw [if_neg (by omega), if_neg (by rw [z]; decide), if_pos z2]
        have hK : kT tx n p = if eT tx n p - sT tx n p ≤ 2 then 2 else 4 := by
          unfold kT
          rw [if_neg (by omega), if_neg (by rw [z]; decide), if_pos z2]
        have f3 : mf [] [15, 16, 18] S (sI (sI S' 87 16 (nI (sT tx n p))) 87 18 (nI 0)) := mf_t (mf_w f2 (by decide) (by decide)) (mf_sI _ _ (by decide))
        have e163 : pI (sI (sI S' 87 16 (nI (sT tx n p))) 87 18 (nI 0)) 87 16 = nI (sT tx n p) := by rw [pI_sI, if_neg (fun q => absurd q.2 (by decide))]; exact e16
        refine q_mNumber (f3.M hM) (mLn_mf f3 (by decide) (by decide) hx) e163 (by rw [pI_sI, if_neg (fun q => absurd q.2 (by decide))]; exact e15) (by rw [pI_sI, if_pos ⟨rfl, rfl⟩]) hsl.2 (fun S4 hf4 k15 k17 k18 => hQ S4 (mf_t (mf_w f3 (by decide) (by decide)) (mf_w hf4 (by decide) (by decide))) ⟨by rw [hf4.F (by decide)]; exact e163, by rw [hE]; exact k15, by rw [hK, hE]; exact k17, fun q => ?_, fun q => ?_⟩)
        · rw [hK] at q
          split at q <;> omega
        · rw [hK] at q
          rw [hE]
          refine k18 ?_
          rw [← hE]
          split at q
          · assumption
          · omega
      · rw [Bool.not_eq_false] at z
        have hE : eT tx n p = rn (ltB tx n) n (sT tx n p) := by
          unfold eT
          rw [if_neg (by omega), if_pos z]
        have hK : kT tx n p = 1 := by
          unfold kT
          rw [if_neg (by omega), if_pos z]
        have f3 : mf [] [15, 16, 21] S (sJ (sI S' 87 16 (nI (sT tx n p))) 87 21 (lN 0)) := mf_t (mf_w f2 (by decide) (by decide)) (mf_sJ _ _ (by decide))
        refine q_mWord (f3.M hM) (mLn_mf f3 (by decide) (by decide) hx) e16 e15 (by rw [pJ_sJ, if_pos ⟨rfl, rfl⟩]) hsl.2 (fun S4 hf4 k15 k17 k21 => hQ S4 (mf_t (mf_w f3 (by decide) (by decide)) (mf_w hf4 (by decide) (by decide))) ⟨by rw [hf4.F (by decide)]; exact e16, by rw [hE]; exact k15, by rw [hK]; exact k17, fun _ => by rw [hE]; exact k21, fun q => by omega⟩)
    · have hc : cat tx n (sT tx n p) = ngI := by unfold cat; rw [if_neg hin]
      have hE : eT tx n p = sT tx n p := by
        unfold eT
        rw [if_pos (by omega)]
      have hK : kT tx n p = 0 := by
        unfold kT
        rw [if_pos (by omega)]
      rw [hc]
      refine ⟨fun z => absurd rfl z, fun _ => ⟨msk hM2, hQ _ (mf_t (mf_w f2 (by decide) (by decide)) (mf_sI _ _ (by decide))) ⟨?_, ?_, ?_, fun q => by omega, fun q => by omega⟩⟩⟩
      · rw [pI_sI, if_neg (fun q => absurd q.2 (by decide))]
        exact e16
      · rw [pI_sI, if_neg (fun q => absurd q.2 (by decide)), hE]
        exact e15
      · rw [pI_sI, if_pos ⟨rfl, rfl⟩, hK]
  have loop : ∀ r i S', n - i = r → i ≤ n → mf [] [15] S S' → pI S' 87 15 = nI i → sT tx n p = rn (blB tx n) n i → wpX12_token_b0 Q (r + 1) S' 87 := by
    intro r
    induction r with
    | zero =>
      intro i S' hr hle hf g15 he
      have hM' := hf.M hM
      have hx' := mLn_mf hf (by decide) (by decide) hx
      have e : sT tx n p = i := he.trans (rn_f (blB_n _ (by omega)))
      have hc : cat tx n i = ngI := by unfold cat; rw [if_neg (by omega)]
      have h1 := fin S' hf (by rw [e]; exact g15)
      unfold wpX12_token_b0
      simp only [c_0, c_1, c_3, c_4, c_32, c_59, l_0, ↓ng_d, show (10 : Int32) = nI 10 from rfl]
      refine ⟨msk hM', ?_⟩
      rw [g15, w_at hM' hx' (by omega), hc]
      refine ⟨fun z => absurd z (by decide), fun _ => ⟨msk hM', ?_⟩⟩
      rw [g15, w_at hM' hx' (by omega), hc]
      exact ⟨fun _ => h1, fun z => absurd z (by decide)⟩
    | succ r ih =>
      intro i S' hr hle hf g15 he
      have hM' := hf.M hM
      have hx' := mLn_mf hf (by decide) (by decide) hx
      have hlt : i < n := by omega
      have hb := h256 i hlt
      have hc : cat tx n i = nI (tx i) := by unfold cat; rw [if_pos hlt]
      have hnx := ih (i + 1)
      generalize r + 1 = fu at hnx ⊢
      have next : blB tx n i = true → pK S' 87 = 11 ∧ wpX12_token_b0 Q fu (sI S' 87 15 (nI (i + 1))) 87 := fun q => ⟨msk hM', hnx _ (by omega) (by omega) (mf_t hf (mf_sI _ _ (by decide))) (by rw [pI_sI, if_pos ⟨rfl, rfl⟩]) (he.trans (rn_t blB_n q))⟩
      have fin2 := fin S' hf
      unfold wpX12_token_b0 wpX12_token_b26
      simp only [c_0, c_1, c_3, c_4, c_32, c_59, l_0, ↓ng_d, show (10 : Int32) = nI 10 from rfl]
      refine ⟨msk hM', ?_⟩
      rw [g15, w_at hM' hx' (by omega), hc, o_eq (by omega) (by decide)]
      refine ⟨fun z => ?_, fun z => ⟨msk hM', ?_⟩⟩
      · rw [g15, o_add]
        exact next (by unfold blB; rw [decide_eq_true hlt, decide_eq_true z, Bool.or_true]; rfl)
      · rw [g15, w_at hM' hx' (by omega), hc, o_eq (a := tx i) (b := 32) (by omega) (by decide)]
        refine ⟨fun z2 => fin2 ?_, fun z2 => ?_⟩
        · rw [he, rn_f (by unfold blB; rw [decide_eq_false z, decide_eq_false z2, Bool.or_false, Bool.and_false])]
          exact g15
        · rw [g15, o_add]
          exact next (by unfold blB; rw [decide_eq_true hlt, decide_eq_true z2]; rfl)
  unfold wpX12_token
  exact ⟨_, loop _ p S rfl hp ⟨fr_r _ _, fun _ _ => ⟨rfl, rfl⟩⟩ h15 rfl⟩

/-! LEARNING: learn and learnt, both sides -/
theorem m_learn {S : PS} {P : Nat → Nat} {ss : List Nat} {ds : List (Nat × Nat)} {σ : St} {n : Nat} {Q : Int32 → PS → Prop} (hJ : MJ S P ss ds σ n) (hV : VI P ss ds σ)
    (hQ : ∀ S', mf [90, 91, 93, 96, 104] [0, 7, 8, 9, 11] S S' → pI S' 87 0 = nI 0 → 0 < ds.length → fl (P 0) σ.1 = true → MJ S' P (lrnS P ss ds σ) (ds.take (ds.length - 1)) (lrnT P ss ds σ) n → Q (nI (cN (lrM P ss σ.2 ds ds.length) ds.length)) S')
    (hX : ∀ S', mf [] [0] S S' → pI S' 87 0 = nI 1 → (ds.length = 0 ∨ fl (P 0) σ.1 = false) → Q (nI 0) S') : wpX12_learn S 87 Q := by
  have hl7 := Dok_len hV.1 hV.2.2.2.2.2.1
  have hf : mf [] [0] S (sI S 87 0 (nI 0)) := mf_sI _ _ (by decide)
  have h0 : pI (sI S 87 0 (nI 0)) 87 0 = nI 0 := by rw [pI_sI, if_pos ⟨rfl, rfl⟩]
  have hJ1 := MJ_mf hf (by decide) (by decide) hJ
  obtain ⟨hM1, hp, hs0, hd, hT, hmD, h8, h10, h11⟩ := hJ1
  have herr := hX _ (mf_t hf (mf_sI (A := []) (F := [0]) (k := 0) (sI S 87 0 (nI 0)) (nI 1) (by decide))) (by rw [pI_sI, if_pos ⟨rfl, rfl⟩])
  unfold wpX12_learn wpX12_learn_b24 wpX12_learn_b25
  rw [c_0, c_1, h8, h11, o_le (by omega) (by omega), w_may0 hM1 (by decide) (by decide) h0, w_may1 hM1 h0, bI_0]
  refine ⟨msk hJ.1, fun z => ⟨msk hM1, fun _ => herr (Or.inr z), fun z2 => absurd rfl z2⟩, fun z => ⟨fun z2 => ⟨msk hM1, fun _ => herr (Or.inl (by omega)), fun z3 => absurd rfl z3⟩, fun z2 => ⟨msk hM1, fun z3 => absurd z3 (by decide), fun _ => ⟨msk hM1, ?_⟩⟩⟩⟩
  refine q_learns ⟨hM1, hp, hs0, hd, hT, hmD, h8, h10, h11⟩ hV (by omega) (fun S' hf2 hJ2 => ?_)
  exact hQ S' (mf_t (mf_w hf (by decide) (by decide)) (mf_w hf2 (by decide) (by decide))) (by rw [hf2.F (by decide)]; exact h0) (by omega) (by rw [← Bool.not_eq_false]; exact z) hJ2
theorem c_learn {S : PS} {pb : Nat} {P : Nat → Nat} {ss : List Nat} {ds : List (Nat × Nat)} {σ : St} {n : Nat} {Q : Int32 → PS → Prop} {X : String → PS → Prop} (hJ : CJ S pb P ss ds σ n) (hV : VI P ss ds σ)
    (hQ : ∀ S', frX RC S S' → 0 < ds.length → fl (P 0) σ.1 = true → CJ S' pb P (lrnS P ss ds σ) (ds.take (ds.length - 1)) (lrnT P ss ds σ) n → Q (nI (cN (lrM P ss σ.2 ds ds.length) ds.length)) S')
    (hX : (ds.length = 0 ∨ fl (P 0) σ.1 = false) → ∀ n, X "java/lang/IllegalStateException" (sSkip S n)) : wpX11_learn S 0 Q X := by
  have hJ0 := hJ
  have hl7 := Dok_len hV.1 hV.2.2.2.2.2.1
  obtain ⟨hc, hpb, hp, hss, hT, hF, hD, hn, hE⟩ := hJ
  have hT6 := hc.2.2.2.2.2.2.2.2.2.2.2.1
  unfold wpX11_learn wpX11_learn_b20
  rw [c_0]
  refine ⟨hc.1, 6, hc.2.2.1, hT6.1, ?_⟩
  rw [w_hasFailed hT6 hT, bI_0]
  refine ⟨fun z => hX (Or.inr z), fun z => ⟨hc.1, 6, hc.2.2.1, hT6.1, ?_⟩⟩
  rw [hT.2.2.1, o_eq (by omega) (by omega)]
  exact ⟨fun z2 => q_learnFF hJ0 hV (by omega) (fun S' hf hJ' => hQ S' hf (by omega) (by rw [← Bool.not_eq_false]; exact z) hJ'), fun z2 => hX (Or.inl z2)⟩
/-- what learnt answers -/
def lrA (s k : Nat) : Nat := 10 * kt (lp s) 7 k + (dg s (kt (lp s) 7 k) - 1)
theorem i_tot (y : Int32) : y < nI 0 ∨ nI 0 ≤ y := by
  rw [Int32.lt_iff_toInt_lt, Int32.le_iff_toInt_le]
  omega
theorem m_learnt {S : PS} {P : Nat → Nat} {ss : List Nat} {ds : List (Nat × Nat)} {σ : St} {n : Nat} {x y : Int32} {Q : Int32 → PS → Prop} (hJ : MJ S P ss ds σ n) (hV : VI P ss ds σ)
    (hQ : ∀ S' i k, mf [] [0] S S' → pI S' 87 0 = nI 0 → i < ss.length → x = nI i → k < cN (lp (ss.getD i 0)) 7 → y = nI k → Q (nI (lrA (ss.getD i 0) k)) S')
    (hX : ∀ S', mf [] [0] S S' → pI S' 87 0 = nI 1 → (x < nI 0 ∨ nI ss.length ≤ x) → Q (nI 0) S')
    (hX2 : ∀ S' i, mf [] [0] S S' → pI S' 87 0 = nI 1 → i < ss.length → x = nI i → (y < nI 0 ∨ nI (cN (lp (ss.getD i 0)) 7) ≤ y) → Q (nI 0) S') : wpX12_learnt S 87 x y Q := by
  have hw := hV.1
  have h12 := hV.2.2.1
  have hf : mf [] [0] S (sI S 87 0 (nI 0)) := mf_sI _ _ (by decide)
  have h0 : pI (sI S 87 0 (nI 0)) 87 0 = nI 0 := by rw [pI_sI, if_pos ⟨rfl, rfl⟩]
  have hJ1 := MJ_mf hf (by decide) (by decide) hJ
  obtain ⟨hM1, hp, hs0, hd, hT, hmD, h8, h10, h11⟩ := hJ1
  have f1 := mf_t hf (mf_sI (A := []) (F := [0]) (k := 0) (sI S 87 0 (nI 0)) (nI 1) (by decide))
  have g1 : pI (sI (sI S 87 0 (nI 0)) 87 0 (nI 1)) 87 0 = nI 1 := by rw [pI_sI, if_pos ⟨rfl, rfl⟩]
  unfold wpX12_learnt wpX12_learnt_b59 wpX12_learnt_b60
  rw [c_0, c_1, hs0.1, show (10 : Int32) = nI 10 from rfl]
  refine ⟨msk hJ.1, ?_⟩
  rcases i_split x (N := ss.length) (by omega) with ⟨i, hi, rfl⟩ | hx
  · have hsi := (hV.2.1 i hi).1
    have hro := hs0.2.2 i hi
    obtain ⟨s, es⟩ : ∃ s, s = ss.getD i 0 := ⟨_, rfl⟩
    rw [← es] at hsi hro
    have hs2 := hsi.1
    have iS : vp_in (nI i) (pL (sI S 87 0 (nI 0)) 93) := by
      rw [msl_sets hM1, o_inT (by omega) (by omega)]
      trivial
    rw [w_inL hi (by omega)]
    refine ⟨msk hM1, ?_⟩
    rw [w_may1 hM1 h0, o_cl (by omega)]
    refine ⟨fun z => absurd z (by decide), fun _ => ⟨msk hM1, 93, msr_sets hM1, msk_sets hM1, iS, ?_⟩⟩
    rw [hro, o_le (by omega) (by omega), w_may0 hM1 (by decide) (by decide) h0]
    refine ⟨fun z => ⟨msk hM1, fun z2 => absurd rfl z2, fun _ => ?_⟩, fun z => ⟨iS, ?_⟩⟩
    · refine hX2 _ i f1 g1 hi rfl ?_
      rw [← es, show s = 0 by omega, show cN (lp 0) 7 = 0 by decide]
      exact i_tot y
    · have hC : isC P (-nI s) (lK s) := Or.inr ⟨s, hsi, by omega, rfl, rfl⟩
      have hcl := cN_le (lp s) 7
      refine q_manyIn hM1 hp hw hC ?_
      show wpX12_isIn (sI S 87 0 (nI 0)) y (nI 0) (nI (cN (lp s) 7) - nI 1) _
      rcases i_split y (N := cN (lp s) 7) (by omega) with ⟨k, hk, rfl⟩ | hy
      · rw [w_inL hk (by omega)]
        refine ⟨fun z2 => absurd z2 (by decide), fun _ => ⟨msk hM1, ?_⟩⟩
        rw [w_may1 hM1 h0]
        refine ⟨fun _ => ⟨msk hM1, 93, msr_sets hM1, msk_sets hM1, iS, ?_⟩, fun z2 => absurd z2 (by decide)⟩
        rw [hro]
        refine q_memberOf hM1 hp hw hC hk ⟨msk hM1, 93, msr_sets hM1, msk_sets hM1, iS, ?_⟩
        have hkt := kt_in hk
        have hdg := lp_t.mp hkt.2.1
        rw [hro]
        show wpX12_valueIn _ (nI s) (nI (kt (lp s) 7 k)) _
        rw [w_valueIn (by omega) hkt.1, o_sub (by omega), o_mul, o_add]
        have h9 := hQ _ i k hf h0 hi rfl (by rw [← es]; exact hk) rfl
        rw [← es] at h9
        exact h9
      · rw [w_inL0 (by omega) hy]
        refine ⟨fun _ => ⟨msk hM1, ?_⟩, fun z2 => absurd rfl z2⟩
        rw [w_may0 hM1 (by decide) (by decide) h0]
        exact ⟨fun z2 => absurd rfl z2, fun _ => hX2 _ i f1 g1 hi rfl (by rw [← es]; exact hy)⟩
  · rw [w_inL0 (by omega) hx]
    refine ⟨msk hM1, ?_⟩
    rw [w_may0 hM1 (by decide) (by decide) h0]
    exact ⟨fun _ => hX _ f1 g1 hx, fun z => absurd rfl z⟩
theorem pw_1 : ∀ g, g < 6 → g ≠ 0 → pcn 5 (2 ^ (g - 1)) = 1 := by decide +kernel
theorem sset_sum {s : Nat} (hs : Swf s) : dsum (sset s) = cN (lp s) 7 := by
  have key : ∀ n, n ≤ 7 → sN (fun x => pcn 5 (sset s x)) n = cN (lp s) n := by
    intro n
    induction n with
    | zero => exact fun _ => rfl
    | succ n ih =>
      intro hn
      have hd := hs.2 n (by omega)
      rw [sN_s, cN_s, ih (by omega)]
      unfold sset
      by_cases e : dg s n = 0
      · rw [if_pos e, if_neg (fun q => lp_t.mp q e), pcn_0]
      · rw [if_neg e, if_pos (lp_t.mpr e), pw_1 _ (by omega) e]
  exact key 7 (Nat.le_refl _)
theorem cN_add (p : Nat → Bool) (a : Nat) : ∀ b, cN p (a + b) = cN p a + cN (fun i => p (a + i)) b := by
  intro b
  induction b with
  | zero => rfl
  | succ b ih =>
    rw [← Nat.add_assoc, cN_s, ih, cN_s, Nat.add_assoc]
theorem blk : ∀ g, g < 6 → cN (fun i => (if g = 0 then 0 else 2 ^ (g - 1)).testBit i) 5 = (if g = 0 then 0 else 1) ∧ (g ≠ 0 → cN (fun i => (if g = 0 then 0 else 2 ^ (g - 1)).testBit i) (g - 1) = 0) := by decide +kernel
theorem pbt_blk {s n : Nat} : ∀ b, b ≤ 5 → cN (fun i => pbt (sset s) (5 * n + i)) b = cN (fun i => (if dg s n = 0 then 0 else 2 ^ (dg s n - 1)).testBit i) b := fun b hb => cN_cong (fun i hi => by
  unfold pbt sset
  rw [show (5 * n + i) / 5 = n by omega, show (5 * n + i) % 5 = i by omega])
theorem pbt_lp {s : Nat} (hs : Swf s) : ∀ n, n ≤ 7 → cN (pbt (sset s)) (5 * n) = cN (lp s) n := by
  intro n
  induction n with
  | zero => exact fun _ => rfl
  | succ n ih =>
    intro hn
    have hd := hs.2 n (by omega)
    rw [show 5 * (n + 1) = 5 * n + 5 from rfl, cN_add, ih (by omega), pbt_blk 5 (Nat.le_refl _), (blk _ (by omega)).1, cN_s]
    by_cases e : dg s n = 0
    · rw [if_pos e, if_neg (fun q => lp_t.mp q e)]
    · rw [if_neg e, if_pos (lp_t.mpr e)]
theorem c_learnt {S : PS} {pb : Nat} {P : Nat → Nat} {ss : List Nat} {ds : List (Nat × Nat)} {σ : St} {n : Nat} {x y : Int32} {Q : Int32 → PS → Prop} {X : String → PS → Prop} (hJ : CJ S pb P ss ds σ n) (hV : VI P ss ds σ)
    (hQ : ∀ i k, i < ss.length → x = nI i → k < cN (lp (ss.getD i 0)) 7 → y = nI k → Q (nI (lrA (ss.getD i 0) k)) S)
    (hX : (x < nI 0 ∨ nI ss.length ≤ x) → ∀ n, X "java/lang/IndexOutOfBoundsException" (sSkip S n))
    (hX2 : ∀ i, i < ss.length → x = nI i → (y < nI 0 ∨ nI (cN (lp (ss.getD i 0)) 7) ≤ y) → ∀ n, X "java/lang/IndexOutOfBoundsException" (sSkip S n)) : wpX11_learnt S 0 x y Q X := by
  obtain ⟨hc, hpb, hp, hss, hT, hF, hD, hn, hE⟩ := hJ
  have h12 := hss.2.1
  unfold wpX11_learnt wpX11_learnt_b28
  rw [c_0, hss.1]
  refine ⟨fun z => hX (Or.inl z), fun z0 => ⟨hc.1, fun z => hX (Or.inr z), fun z1 => ?_⟩⟩
  rcases i_split x (N := ss.length) (by omega) with ⟨i, hi, rfl⟩ | hx
  · have hsi := (hV.2.1 i hi).1
    have hwf := sset_wf hsi
    have hcl := cN_le (lp (ss.getD i 0)) 7
    refine ⟨fun z => hX2 i hi rfl (Or.inl z), fun z2 => ?_⟩
    rw [w_setAt hc hss hi, w_bcl, bcl_pk hwf, sset_sum hsi]
    refine ⟨fun z => ⟨hc.1, ?_⟩, fun z => hX2 i hi rfl (Or.inr ?_)⟩
    · rw [w_setAt hc hss hi]
      rcases i_split y (N := cN (lp (ss.getD i 0)) 7) (by omega) with ⟨k, hk, rfl⟩ | hy
      · have hkt := kt_in hk
        have hdg := lp_t.mp hkt.2.1
        have hd5 := hsi.2 _ hkt.1
        have hss1 : sset (ss.getD i 0) (kt (lp (ss.getD i 0)) 7 k) = 2 ^ (dg (ss.getD i 0) (kt (lp (ss.getD i 0)) 7 k) - 1) := by
          unfold sset
          rw [if_neg hdg]
        refine q_toldPair (x := kt (lp (ss.getD i 0)) 7 k) (v := dg (ss.getD i 0) (kt (lp (ss.getD i 0)) 7 k) - 1) hwf hkt.1 (by omega) ?_ ?_ (hQ i k hi rfl hk rfl)
        · rw [hss1, dm_pow_tb _ (by omega) _ (by omega)]
          exact decide_eq_true rfl
        · rw [cN_add, pbt_lp hsi _ (by omega), pbt_blk _ (by omega), (blk _ (by omega)).2 hdg, hkt.2.2, Nat.add_zero]
      · rcases hy with q | q
        · exact absurd q z2
        · rw [Int32.lt_iff_toInt_lt] at z
          rw [Int32.le_iff_toInt_le] at q
          omega
    · rw [Int32.lt_iff_toInt_lt] at z
      rw [Int32.le_iff_toInt_le]
      omega
  · exact absurd (hx.resolve_left z0) z1

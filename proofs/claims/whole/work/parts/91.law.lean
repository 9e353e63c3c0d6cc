/-! THE LAW'S BODY AND ITS LOOP -/
theorem lb_184 {xs : Nat → Int32} {L : Nat} {K : PS → Nat → Nat → Nat → Nat → Int32 → Prop} {S : PS} {x5 : Int32} (v1 : vp_in (x5 + (1 : Int32)) L) (v2 : vp_in (x5 + (2 : Int32)) L) (v3 : vp_in (x5 + (3 : Int32)) L) (v4 : vp_in (x5 + (4 : Int32)) L) (v5 : vp_in (x5 + (5 : Int32)) L) (hL : jLI S) (hK : ∀ S', jLI S' → K S' 0 87 105 106 (x5 + 6)) : wpL_law_b184 xs L K S 0 87 105 106 x5 := by
  unfold wpL_law_b184
  exact ⟨v1, v2, v3, v4, v5, L_append (K := fun S' => K S' 0 87 105 106 (x5 + 6)) v1 v2 v3 v4 v5 hL hK⟩
theorem lb_288 {xs : Nat → Int32} {L : Nat} {K : PS → Nat → Nat → Nat → Nat → Int32 → Prop} {S : PS} {x5 : Int32} (v1 : vp_in (x5 + (1 : Int32)) L) (hL : jLI S) (hK : ∀ S', jLI S' → K S' 0 87 105 106 (x5 + 6)) : wpL_law_b288 xs L K S 0 87 105 106 x5 := by
  unfold wpL_law_b288
  exact ⟨v1, L_truncate (K := fun S' => K S' 0 87 105 106 (x5 + 6)) v1 hL hK⟩
theorem lb_344 {xs : Nat → Int32} {L : Nat} {K : PS → Nat → Nat → Nat → Nat → Int32 → Prop} {S : PS} {x5 : Int32}  (hL : jLI S) (hK : ∀ S', jLI S' → K S' 0 87 105 106 (x5 + 6)) : wpL_law_b344 xs L K S 0 87 105 106 x5 := by
  unfold wpL_law_b344
  exact L_load (K := fun S' => K S' 0 87 105 106 (x5 + 6)) hL hK
theorem lb_388 {xs : Nat → Int32} {L : Nat} {K : PS → Nat → Nat → Nat → Nat → Int32 → Prop} {S : PS} {x5 : Int32}  (hL : jLI S) (hK : ∀ S', jLI S' → K S' 0 87 105 106 (x5 + 6)) : wpL_law_b388 xs L K S 0 87 105 106 x5 := by
  unfold wpL_law_b388
  exact L_errorCode (K := fun S' => K S' 0 87 105 106 (x5 + 6)) hL hK
theorem lb_401 {xs : Nat → Int32} {L : Nat} {K : PS → Nat → Nat → Nat → Nat → Int32 → Prop} {S : PS} {x5 : Int32}  (hL : jLI S) (hK : ∀ S', jLI S' → K S' 0 87 105 106 (x5 + 6)) : wpL_law_b401 xs L K S 0 87 105 106 x5 := by
  unfold wpL_law_b401
  exact L_errorPosition (K := fun S' => K S' 0 87 105 106 (x5 + 6)) hL hK
theorem lb_414 {xs : Nat → Int32} {L : Nat} {K : PS → Nat → Nat → Nat → Nat → Int32 → Prop} {S : PS} {x5 : Int32} (v1 : vp_in (x5 + (1 : Int32)) L) (hL : jLI S) (hK : ∀ S', jLI S' → K S' 0 87 105 106 (x5 + 6)) : wpL_law_b414 xs L K S 0 87 105 106 x5 := by
  unfold wpL_law_b414
  exact ⟨v1, L_report (K := fun S' => K S' 0 87 105 106 (x5 + 6)) v1 hL hK⟩
theorem lb_470 {xs : Nat → Int32} {L : Nat} {K : PS → Nat → Nat → Nat → Nat → Int32 → Prop} {S : PS} {x5 : Int32} (v1 : vp_in (x5 + (1 : Int32)) L) (hL : jLI S) (hK : ∀ S', jLI S' → K S' 0 87 105 106 (x5 + 6)) : wpL_law_b470 xs L K S 0 87 105 106 x5 := by
  unfold wpL_law_b470
  exact ⟨v1, L_domain (K := fun S' => K S' 0 87 105 106 (x5 + 6)) v1 hL hK⟩
theorem lb_526 {xs : Nat → Int32} {L : Nat} {K : PS → Nat → Nat → Nat → Nat → Int32 → Prop} {S : PS} {x5 : Int32} (v1 : vp_in (x5 + (1 : Int32)) L) (v2 : vp_in (x5 + (2 : Int32)) L) (hL : jLI S) (hK : ∀ S', jLI S' → K S' 0 87 105 106 (x5 + 6)) : wpL_law_b526 xs L K S 0 87 105 106 x5 := by
  unfold wpL_law_b526
  exact ⟨v1, v2, L_constraint (K := fun S' => K S' 0 87 105 106 (x5 + 6)) v1 v2 hL hK⟩
theorem lb_594 {xs : Nat → Int32} {L : Nat} {K : PS → Nat → Nat → Nat → Nat → Int32 → Prop} {S : PS} {x5 : Int32} (v1 : vp_in (x5 + (1 : Int32)) L) (v2 : vp_in (x5 + (2 : Int32)) L) (hL : jLI S) (hK : ∀ S', jLI S' → K S' 0 87 105 106 (x5 + 6)) : wpL_law_b594 xs L K S 0 87 105 106 x5 := by
  unfold wpL_law_b594
  exact ⟨v1, v2, L_fact (K := fun S' => K S' 0 87 105 106 (x5 + 6)) v1 v2 hL hK⟩
theorem lb_662 {xs : Nat → Int32} {L : Nat} {K : PS → Nat → Nat → Nat → Nat → Int32 → Prop} {S : PS} {x5 : Int32} (v1 : vp_in (x5 + (1 : Int32)) L) (v2 : vp_in (x5 + (2 : Int32)) L) (hL : jLI S) (hK : ∀ S', jLI S' → K S' 0 87 105 106 (x5 + 6)) : wpL_law_b662 xs L K S 0 87 105 106 x5 := by
  unfold wpL_law_b662
  exact ⟨v1, v2, L_factOf (K := fun S' => K S' 0 87 105 106 (x5 + 6)) v1 v2 hL hK⟩
theorem lb_730 {xs : Nat → Int32} {L : Nat} {K : PS → Nat → Nat → Nat → Nat → Int32 → Prop} {S : PS} {x5 : Int32} (v1 : vp_in (x5 + (1 : Int32)) L) (hL : jLI S) (hK : ∀ S', jLI S' → K S' 0 87 105 106 (x5 + 6)) : wpL_law_b730 xs L K S 0 87 105 106 x5 := by
  unfold wpL_law_b730
  exact ⟨v1, L_explanationSize (K := fun S' => K S' 0 87 105 106 (x5 + 6)) v1 hL hK⟩
theorem lb_786 {xs : Nat → Int32} {L : Nat} {K : PS → Nat → Nat → Nat → Nat → Int32 → Prop} {S : PS} {x5 : Int32} (v1 : vp_in (x5 + (1 : Int32)) L) (v2 : vp_in (x5 + (2 : Int32)) L) (hL : jLI S) (hK : ∀ S', jLI S' → K S' 0 87 105 106 (x5 + 6)) : wpL_law_b786 xs L K S 0 87 105 106 x5 := by
  unfold wpL_law_b786
  exact ⟨v1, v2, L_explained (K := fun S' => K S' 0 87 105 106 (x5 + 6)) v1 v2 hL hK⟩
theorem lb_854 {xs : Nat → Int32} {L : Nat} {K : PS → Nat → Nat → Nat → Nat → Int32 → Prop} {S : PS} {x5 : Int32} (v1 : vp_in (x5 + (1 : Int32)) L) (hL : jLI S) (hK : ∀ S', jLI S' → K S' 0 87 105 106 (x5 + 6)) : wpL_law_b854 xs L K S 0 87 105 106 x5 := by
  unfold wpL_law_b854
  exact ⟨v1, L_depth (K := fun S' => K S' 0 87 105 106 (x5 + 6)) v1 hL hK⟩
theorem lb_910 {xs : Nat → Int32} {L : Nat} {K : PS → Nat → Nat → Nat → Nat → Int32 → Prop} {S : PS} {x5 : Int32} (v1 : vp_in (x5 + (1 : Int32)) L) (v2 : vp_in (x5 + (2 : Int32)) L) (v3 : vp_in (x5 + (3 : Int32)) L) (hL : jLI S) (hK : ∀ S', jLI S' → K S' 0 87 105 106 (x5 + 6)) : wpL_law_b910 xs L K S 0 87 105 106 x5 := by
  unfold wpL_law_b910
  exact ⟨v1, v2, v3, L_isSupported (K := fun S' => K S' 0 87 105 106 (x5 + 6)) v1 v2 v3 hL hK⟩
theorem lb_997 {xs : Nat → Int32} {L : Nat} {K : PS → Nat → Nat → Nat → Nat → Int32 → Prop} {S : PS} {x5 : Int32} (v1 : vp_in (x5 + (1 : Int32)) L) (v2 : vp_in (x5 + (2 : Int32)) L) (v3 : vp_in (x5 + (3 : Int32)) L) (v4 : vp_in (x5 + (4 : Int32)) L) (hL : jLI S) (hK : ∀ S', jLI S' → K S' 0 87 105 106 (x5 + 6)) : wpL_law_b997 xs L K S 0 87 105 106 x5 := by
  unfold wpL_law_b997
  exact ⟨v1, v2, v3, v4, L_support (K := fun S' => K S' 0 87 105 106 (x5 + 6)) v1 v2 v3 v4 hL hK⟩
theorem lb_1089 {xs : Nat → Int32} {L : Nat} {K : PS → Nat → Nat → Nat → Nat → Int32 → Prop} {S : PS} {x5 : Int32} (v1 : vp_in (x5 + (1 : Int32)) L) (v2 : vp_in (x5 + (2 : Int32)) L) (hL : jLI S) (hK : ∀ S', jLI S' → K S' 0 87 105 106 (x5 + 6)) : wpL_law_b1089 xs L K S 0 87 105 106 x5 := by
  unfold wpL_law_b1089
  exact ⟨v1, v2, L_watchers (K := fun S' => K S' 0 87 105 106 (x5 + 6)) v1 v2 hL hK⟩
theorem lb_1157 {xs : Nat → Int32} {L : Nat} {K : PS → Nat → Nat → Nat → Nat → Int32 → Prop} {S : PS} {x5 : Int32} (v1 : vp_in (x5 + (1 : Int32)) L) (hL : jLI S) (hK : ∀ S', jLI S' → K S' 0 87 105 106 (x5 + 6)) : wpL_law_b1157 xs L K S 0 87 105 106 x5 := by
  unfold wpL_law_b1157
  exact ⟨v1, L_tuples (K := fun S' => K S' 0 87 105 106 (x5 + 6)) v1 hL hK⟩
theorem lb_1213 {xs : Nat → Int32} {L : Nat} {K : PS → Nat → Nat → Nat → Nat → Int32 → Prop} {S : PS} {x5 : Int32} (v1 : vp_in (x5 + (1 : Int32)) L) (hL : jLI S) (hK : ∀ S', jLI S' → K S' 0 87 105 106 (x5 + 6)) : wpL_law_b1213 xs L K S 0 87 105 106 x5 := by
  unfold wpL_law_b1213
  exact ⟨v1, L_tightness (K := fun S' => K S' 0 87 105 106 (x5 + 6)) v1 hL hK⟩
theorem lb_1290 {xs : Nat → Int32} {L : Nat} {K : PS → Nat → Nat → Nat → Nat → Int32 → Prop} {S : PS} {x5 : Int32}  (hL : jLI S) (hK : ∀ S', jLI S' → K S' 0 87 105 106 (x5 + 6)) : wpL_law_b1290 xs L K S 0 87 105 106 x5 := by
  unfold wpL_law_b1290
  exact L_solutions (K := fun S' => K S' 0 87 105 106 (x5 + 6)) hL hK
theorem lb_1303 {xs : Nat → Int32} {L : Nat} {K : PS → Nat → Nat → Nat → Nat → Int32 → Prop} {S : PS} {x5 : Int32} (v1 : vp_in (x5 + (1 : Int32)) L) (hL : jLI S) (hK : ∀ S', jLI S' → K S' 0 87 105 106 (x5 + 6)) : wpL_law_b1303 xs L K S 0 87 105 106 x5 := by
  unfold wpL_law_b1303
  exact ⟨v1, L_first (K := fun S' => K S' 0 87 105 106 (x5 + 6)) v1 hL hK⟩
theorem lb_1359 {xs : Nat → Int32} {L : Nat} {K : PS → Nat → Nat → Nat → Nat → Int32 → Prop} {S : PS} {x5 : Int32} (v1 : vp_in (x5 + (1 : Int32)) L) (hL : jLI S) (hK : ∀ S', jLI S' → K S' 0 87 105 106 (x5 + 6)) : wpL_law_b1359 xs L K S 0 87 105 106 x5 := by
  unfold wpL_law_b1359
  exact ⟨v1, L_possible (K := fun S' => K S' 0 87 105 106 (x5 + 6)) v1 hL hK⟩
theorem lb_1415 {xs : Nat → Int32} {L : Nat} {K : PS → Nat → Nat → Nat → Nat → Int32 → Prop} {S : PS} {x5 : Int32}  (hL : jLI S) (hK : ∀ S', jLI S' → K S' 0 87 105 106 (x5 + 6)) : wpL_law_b1415 xs L K S 0 87 105 106 x5 := by
  unfold wpL_law_b1415
  exact L_overlooked (K := fun S' => K S' 0 87 105 106 (x5 + 6)) hL hK
theorem lb_1428 {xs : Nat → Int32} {L : Nat} {K : PS → Nat → Nat → Nat → Nat → Int32 → Prop} {S : PS} {x5 : Int32} (v1 : vp_in (x5 + (1 : Int32)) L) (v2 : vp_in (x5 + (2 : Int32)) L) (hL : jLI S) (hK : ∀ S', jLI S' → K S' 0 87 105 106 (x5 + 6)) : wpL_law_b1428 xs L K S 0 87 105 106 x5 := by
  unfold wpL_law_b1428
  exact ⟨v1, v2, L_forbid (K := fun S' => K S' 0 87 105 106 (x5 + 6)) v1 v2 hL hK⟩
theorem lb_1496 {xs : Nat → Int32} {L : Nat} {K : PS → Nat → Nat → Nat → Nat → Int32 → Prop} {S : PS} {x5 : Int32} (v1 : vp_in (x5 + (1 : Int32)) L) (v2 : vp_in (x5 + (2 : Int32)) L) (hL : jLI S) (hK : ∀ S', jLI S' → K S' 0 87 105 106 (x5 + 6)) : wpL_law_b1496 xs L K S 0 87 105 106 x5 := by
  unfold wpL_law_b1496
  exact ⟨v1, v2, L_decide (K := fun S' => K S' 0 87 105 106 (x5 + 6)) v1 v2 hL hK⟩
theorem lb_1564 {xs : Nat → Int32} {L : Nat} {K : PS → Nat → Nat → Nat → Nat → Int32 → Prop} {S : PS} {x5 : Int32}  (hL : jLI S) (hK : ∀ S', jLI S' → K S' 0 87 105 106 (x5 + 6)) : wpL_law_b1564 xs L K S 0 87 105 106 x5 := by
  unfold wpL_law_b1564
  exact L_back (K := fun S' => K S' 0 87 105 106 (x5 + 6)) hL hK
theorem lb_1608 {xs : Nat → Int32} {L : Nat} {K : PS → Nat → Nat → Nat → Nat → Int32 → Prop} {S : PS} {x5 : Int32} (v1 : vp_in (x5 + (1 : Int32)) L) (hL : jLI S) (hK : ∀ S', jLI S' → K S' 0 87 105 106 (x5 + 6)) : wpL_law_b1608 xs L K S 0 87 105 106 x5 := by
  unfold wpL_law_b1608
  exact ⟨v1, L_decision (K := fun S' => K S' 0 87 105 106 (x5 + 6)) v1 hL hK⟩
theorem lb_1664 {xs : Nat → Int32} {L : Nat} {K : PS → Nat → Nat → Nat → Nat → Int32 → Prop} {S : PS} {x5 : Int32} (v1 : vp_in (x5 + (1 : Int32)) L) (v2 : vp_in (x5 + (2 : Int32)) L) (hL : jLI S) (hK : ∀ S', jLI S' → K S' 0 87 105 106 (x5 + 6)) : wpL_law_b1664 xs L K S 0 87 105 106 x5 := by
  unfold wpL_law_b1664
  exact ⟨v1, v2, L_probe (K := fun S' => K S' 0 87 105 106 (x5 + 6)) v1 v2 hL hK⟩
theorem lb_1732 {xs : Nat → Int32} {L : Nat} {K : PS → Nat → Nat → Nat → Nat → Int32 → Prop} {S : PS} {x5 : Int32}  (hL : jLI S) (hK : ∀ S', jLI S' → K S' 0 87 105 106 (x5 + 6)) : wpL_law_b1732 xs L K S 0 87 105 106 x5 := by
  unfold wpL_law_b1732
  exact L_learn (K := fun S' => K S' 0 87 105 106 (x5 + 6)) hL hK
theorem lb_1776 {xs : Nat → Int32} {L : Nat} {K : PS → Nat → Nat → Nat → Nat → Int32 → Prop} {S : PS} {x5 : Int32} (v1 : vp_in (x5 + (1 : Int32)) L) (v2 : vp_in (x5 + (2 : Int32)) L) (hL : jLI S) (hK : ∀ S', jLI S' → K S' 0 87 105 106 (x5 + 6)) : wpL_law_b1776 xs L K S 0 87 105 106 x5 := by
  unfold wpL_law_b1776
  exact ⟨v1, v2, L_learnt (K := fun S' => K S' 0 87 105 106 (x5 + 6)) v1 v2 hL hK⟩
theorem lb_1844 {xs : Nat → Int32} {L : Nat} {K : PS → Nat → Nat → Nat → Nat → Int32 → Prop} {S : PS} {x5 : Int32} (v1 : vp_in (x5 + (1 : Int32)) L) (hL : jLI S) (hK : ∀ S', jLI S' → K S' 0 87 105 106 (x5 + 6)) : wpL_law_b1844 xs L K S 0 87 105 106 x5 := by
  unfold wpL_law_b1844
  exact ⟨v1, L_search (K := fun S' => K S' 0 87 105 106 (x5 + 6)) v1 hL hK⟩
theorem lb_1900 {xs : Nat → Int32} {L : Nat} {K : PS → Nat → Nat → Nat → Nat → Int32 → Prop} {S : PS} {x5 : Int32}  (hL : jLI S) (hK : ∀ S', jLI S' → K S' 0 87 105 106 (x5 + 6)) : wpL_law_b1900 xs L K S 0 87 105 106 x5 := by
  unfold wpL_law_b1900
  exact L_restart (K := fun S' => K S' 0 87 105 106 (x5 + 6)) hL hK
theorem l_end {L i : Nat} (hL : L ≤ 3072) (hi : i ≤ 3072) (h : ¬ (Int32.ofNat L) - (6 : Int32) < nI i) : i + 6 ≤ L := by
  have e : (Int32.ofNat L) - (6 : Int32) = nI L - nI 6 := rfl
  rw [e] at h
  by_cases h6 : 6 ≤ L
  · rw [o_sub h6, o_lt (by omega) (by omega)] at h
    omega
  · refine absurd ?_ h
    have small : ∀ a, a < 6 → (nI a - nI 6).toInt < 0 := by decide
    have h1 := small L (by omega)
    rw [Int32.lt_iff_toInt_lt, o_toInt (a := i) (by omega)]
    omega
theorem law_loop {xs : Nat → Int32} {L : Nat} (hL : L ≤ 3072) : ∀ n i S, jLI S → i ≤ L → L < i + 6 * n → wpL_law_h xs L n S 0 87 105 106 (nI i) := by
  intro n
  induction n with
  | zero => exact fun i S _ h1 h2 => absurd h2 (by omega)
  | succ n ih =>
    intro i S hS h1 h2
    refine ⟨fun _ => trivial, fun z => ?_⟩
    have hi6 := l_end hL (by omega) z
    have vj : ∀ j, j < 6 → vp_in (nI i + nI j) L := fun j hj => by
      rw [o_add, o_in (by omega)]
      omega
    have v0 : vp_in (nI i) L := by
      rw [o_in (by omega)]
      omega
    have v1 : vp_in (nI i + (1 : Int32)) L := vj 1 (by decide)
    have v2 : vp_in (nI i + (2 : Int32)) L := vj 2 (by decide)
    have v3 : vp_in (nI i + (3 : Int32)) L := vj 3 (by decide)
    have v4 : vp_in (nI i + (4 : Int32)) L := vj 4 (by decide)
    have v5 : vp_in (nI i + (5 : Int32)) L := vj 5 (by decide)
    have hn : ∀ S', jLI S' → wpL_law_h xs L n S' 0 87 105 106 (nI i + 6) := fun S' hS' => by
      have e : nI i + (6 : Int32) = nI (i + 6) := o_add i 6
      rw [e]
      exact ih (i + 6) S' hS' (by omega) (by omega)
    refine ⟨v0, fun _ => lb_184 v1 v2 v3 v4 v5 hS hn, fun _ => lb_288 v1 hS hn, fun _ => lb_344 hS hn, fun _ => lb_388 hS hn, fun _ => lb_401 hS hn, fun _ => lb_414 v1 hS hn, fun _ => lb_470 v1 hS hn, fun _ => lb_526 v1 v2 hS hn, fun _ => lb_594 v1 v2 hS hn, fun _ => lb_662 v1 v2 hS hn, fun _ => lb_730 v1 hS hn, fun _ => lb_786 v1 v2 hS hn, fun _ => lb_854 v1 hS hn, fun _ => lb_910 v1 v2 v3 hS hn, fun _ => lb_997 v1 v2 v3 v4 hS hn, fun _ => lb_1089 v1 v2 hS hn, fun _ => lb_1157 v1 hS hn, fun _ => lb_1213 v1 hS hn, fun _ => lb_1290 hS hn, fun _ => lb_1303 v1 hS hn, fun _ => lb_1359 v1 hS hn, fun _ => lb_1415 hS hn, fun _ => lb_1428 v1 v2 hS hn, fun _ => lb_1496 v1 v2 hS hn, fun _ => lb_1564 hS hn, fun _ => lb_1608 v1 hS hn, fun _ => lb_1664 v1 v2 hS hn, fun _ => lb_1732 hS hn, fun _ => lb_1776 v1 v2 hS hn, fun _ => lb_1844 v1 hS hn, fun _ => lb_1900 hS hn, fun _ => hn S hS⟩

/-! THE CLASS READS: all constraints -/
/-- the problem that is being made -/
def cPI (S : PS) (pb rw : Nat) (P : Nat → Nat) : Prop := 107 ≤ pb ∧ 107 ≤ rw ∧ pb ≠ rw ∧ pb < pN S ∧ rw < pN S ∧ pK S pb = 5 ∧ pI S pb 1 = nI (P 0) ∧ pI S pb 2 = nI (P 1) ∧ pJ S pb 3 = pk (fun x => P (2 + x)) ∧ pR S pb 0 = some rw ∧ pK S rw = 16 ∧ pL S rw = 8 ∧ ∀ c, c < P 1 → ∃ o, pR S rw c = some o ∧ 107 ≤ o ∧ o < pN S ∧ o ≠ pb ∧ o ≠ rw ∧ KRep S o P c
theorem KRep_oF {A B : List Nat} {N : Nat} {S S' : PS} {o : Nat} {P : Nat → Nat} {c : Nat} (h : oF A B N S S') (ho : o < N) (hA : o ∉ A) (hk : KRep S o P c) : KRep S' o P c := by
  have hi : ∀ k, pI S' o k = pI S o k := fun k => (h.2.2.2 o ho hA k).1
  have hj : ∀ k, pJ S' o k = pJ S o k := fun k => (h.2.2.2 o ho hA k).2
  have hK := (h.2.1 o ho).1
  unfold KRep
  rw [hi, hi, hj, hi, hi, hi, hi, hi, hK]
  exact hk
theorem KRep_cg {S : PS} {o : Nat} {P P' : Nat → Nat} {c : Nat} (h : ∀ j, j < 20 → P' (9 + 20 * c + j) = P (9 + 20 * c + j)) (h7 : P (9 + 20 * c + 1) ≤ 7) (hk : KRep S o P c) : KRep S o P' c := by
  have e0 : P' (9 + 20 * c) = P (9 + 20 * c) := h 0 (by decide)
  have e1 : P' (9 + 20 * c + 1) = P (9 + 20 * c + 1) := h 1 (by decide)
  obtain ⟨r0, r1, r2, r3, r4, r5, r6⟩ := hk
  have hin : ∀ x, inM (cK P' c) x = inM (cK P c) x := fun x => by
    rw [← hasM_in, ← hasM_in, Bool.eq_iff_iff, hasM_t, hasM_t, e1]
    constructor
    · rintro ⟨j, q1, q2⟩
      exact ⟨j, q1, by rw [← h (2 + j) (by omega)]; exact q2⟩
    · rintro ⟨j, q1, q2⟩
      exact ⟨j, q1, by rw [h (2 + j) (by omega)]; exact q2⟩
  refine ⟨by rw [e0]; exact r0, by rw [e1]; exact r1, ?_, ?_, fun q => ?_, fun q => ?_, fun q => r6 (by rw [← e0]; exact q)⟩
  · rw [r2]
    exact pq_cg (fun x _ => by unfold scp; rw [hin])
  · rw [r3]
    show nI (ds 3 (cK P c).2.1 (P (9 + 20 * c + 1))) = nI (ds 3 (cK P' c).2.1 (P' (9 + 20 * c + 1)))
    have ed : ds 3 (cK P c).2.1 (P (9 + 20 * c + 1)) = ds 3 (cK P' c).2.1 (P (9 + 20 * c + 1)) := ds_cong (fun j hj => (h (2 + j) (by omega)).symm)
    rw [e1, ed]
  · rw [e0] at q
    obtain ⟨s1, s2, s3, s4⟩ := r4 q
    have d1 : ds 3 (fun v => P (9 + 20 * c + (9 + v))) 5 = ds 3 (fun v => P' (9 + 20 * c + (9 + v))) 5 := ds_cong (fun v hv => (h (9 + v) (by omega)).symm)
    have d2 : ds 3 (fun v => P (9 + 20 * c + (14 + v))) 5 = ds 3 (fun v => P' (9 + 20 * c + (14 + v))) 5 := ds_cong (fun v hv => (h (14 + v) (by omega)).symm)
    exact ⟨s1, by rw [← d1]; exact s2, by rw [← d2]; exact s3, by rw [h 19 (by decide)]; exact s4⟩
  · rw [e0] at q
    obtain ⟨s1, s2, s3, s4, s5⟩ := r5 q
    exact ⟨s1, by rw [h 9 (by decide)]; exact s2, by rw [h 10 (by decide)]; exact s3, by rw [h 11 (by decide)]; exact s4, by rw [h 12 (by decide)]; exact s5⟩
theorem Cwf_cg {P P' : Nat → Nat} {c : Nat} (h0 : P' 0 = P 0) (h : ∀ j, j < 20 → P' (9 + 20 * c + j) = P (9 + 20 * c + j)) (hw : Cwf P c) : Cwf P' c := by
  obtain ⟨a1, a2, a3, a4, a5, a6, a7, a8, a9, a10, a11⟩ := hw
  have e0 : P' (9 + 20 * c) = P (9 + 20 * c) := h 0 (by decide)
  have e1 : P' (9 + 20 * c + 1) = P (9 + 20 * c + 1) := h 1 (by decide)
  refine ⟨by rw [e0]; exact a1, by rw [e1]; exact a2, by rw [e1]; exact a3, fun k hk => ?_, fun i j hi hj hij => ?_, fun q v hv => ?_, fun q => ?_, fun q => ?_, fun q => ?_, fun j hj => ?_, fun j hj => ?_⟩
  · rw [e1] at hk
    rw [h _ (by omega), h0]
    exact a4 k hk
  · rw [e1] at hi hj
    rw [h _ (by omega), h _ (by omega)] at hij
    exact a5 i j hi hj hij
  · rw [e0] at q
    rw [h _ (by omega), h _ (by omega)]
    exact a6 q v hv
  · rw [e0] at q
    rw [h _ (by omega), h _ (by omega), h _ (by omega), h _ (by omega)]
    exact a7 q
  · rw [e0] at q
    rw [e1]
    exact a8 q
  · rw [e0] at q
    rw [h _ (by omega)]
    refine ⟨(a9 q).1, fun v hv w => ?_⟩
    rw [h _ (by omega), h _ (by omega)]
    exact (a9 q).2 v hv w
  · rw [h j hj]
    exact a10 j hj
  · rw [h _ (by omega)]
    exact a11 j hj
theorem cPI_x {S S' : PS} {pb rw : Nat} {P : Nat → Nat} (h : oF [1] [] (pN S) S S') (hp : cPI S pb rw P) : cPI S' pb rw P := by
  obtain ⟨a1, a2, a3, a4, a5, a6, a7, a8, a9, a10, a11, a12, a13⟩ := hp
  have hA : ∀ a, 107 ≤ a → a ∉ [1] := fun a ha q => by have := List.mem_singleton.mp q; omega
  have hB : ∀ a : Nat, a ∉ ([] : List Nat) := fun a q => (nomatch q)
  have hN := h.1
  refine ⟨a1, a2, a3, by omega, by omega, by rw [(h.2.1 pb a4).1]; exact a6, by rw [(h.2.2.2 pb a4 (hA _ a1) 1).1]; exact a7, by rw [(h.2.2.2 pb a4 (hA _ a1) 2).1]; exact a8, by rw [(h.2.2.2 pb a4 (hA _ a1) 3).2]; exact a9, by rw [h.2.2.1 pb a4 (hB _)]; exact a10, by rw [(h.2.1 rw a5).1]; exact a11, by rw [(h.2.1 rw a5).2]; exact a12, fun c hc => ?_⟩
  obtain ⟨o, o1, o2, o3, o4, o5, o6⟩ := a13 c hc
  exact ⟨o, by rw [h.2.2.1 rw a5 (hB _)]; exact o1, o2, by omega, o4, o5, KRep_oF h o3 (hA _ o2) o6⟩
theorem cPI_cg {S : PS} {pb rw : Nat} {P P' : Nat → Nat} (h : ∀ k, k < 9 + 20 * P 1 → P' k = P k) (h7 : ∀ c, c < P 1 → P (9 + 20 * c + 1) ≤ 7) (hp : cPI S pb rw P) : cPI S pb rw P' := by
  obtain ⟨a1, a2, a3, a4, a5, a6, a7, a8, a9, a10, a11, a12, a13⟩ := hp
  have e1 : P' 1 = P 1 := h 1 (by omega)
  refine ⟨a1, a2, a3, a4, a5, a6, by rw [h 0 (by omega)]; exact a7, by rw [e1]; exact a8, ?_, a10, a11, a12, fun c hc => ?_⟩
  · rw [a9]
    exact pq_cg (fun x hx => (h (2 + x) (by omega)).symm)
  · rw [e1] at hc
    obtain ⟨o, o1, o2, o3, o4, o5, o6⟩ := a13 c hc
    exact ⟨o, o1, o2, o3, o4, o5, KRep_cg (fun j hj => h _ (by omega)) (h7 c hc) o6⟩
theorem q_addCon {S : PS} {pb rw o : Nat} {P : Nat → Nat} {Q : PS → Prop} (hp : cPI S pb rw P) (h8 : P 1 < 8) (ho : 107 ≤ o) (ho2 : o < pN S) (ho3 : o ≠ pb) (ho4 : o ≠ rw) (hk : KRep S o P (P 1)) (hg : Cwf P (P 1)) (h7 : ∀ c, c < P 1 → P (9 + 20 * c + 1) ≤ 7)
    (hQ : ∀ S', cPI S' pb rw (up P 1 (P 1 + 1)) → (∀ M, M ≤ pb → M ≤ rw → oF [] [] M S S') → Q S') : wpX6_addConstraint S pb o Q := by
  obtain ⟨a1, a2, a3, a4, a5, a6, a7, a8, a9, a10, a11, a12, a13⟩ := id hp
  have h4 := KRep_4 hk hg.1
  have n0 : ¬ nI (P 1) < nI 0 := by
    rw [o_lt (by omega) (by decide)]
    omega
  unfold wpX6_addConstraint
  rw [c_0, c_1, a8]
  refine ⟨a6, fun z => absurd z n0, fun _ => ⟨rw, a10, a11, ?_⟩⟩
  rw [a12, o_le (by decide) (by omega), o_inT (by omega) (by omega), o_cl (by omega)]
  refine ⟨fun z => absurd z (by omega), fun _ => ⟨trivial, h4, ?_⟩⟩
  have e2 : pI (sR S rw (P 1) (some o)) pb 2 = nI (P 1) := a8
  rw [e2, o_add]
  have up1 : up P 1 (P 1 + 1) 1 = P 1 + 1 := up_s _ _ _
  have upn : ∀ k, k ≠ 1 → up P 1 (P 1 + 1) k = P k := fun k hk => up_n _ _ hk
  refine hQ _ ⟨a1, a2, a3, a4, a5, a6, ?_, ?_, ?_, ?_, a11, a12, fun c hc => ?_⟩ (fun M hM1 hM2 => ⟨Nat.le_refl _, fun a _ => ⟨rfl, rfl⟩, fun a ha _ k => ?_, fun a ha _ k => ⟨?_, rfl⟩⟩)
  · rw [pI_sI, if_neg (fun q => absurd q.2 (by decide)), upn 0 (by decide)]
    exact a7
  · rw [pI_sI, if_pos ⟨rfl, rfl⟩, up1]
  · rw [pq_cg (fun x _ => upn (2 + x) (by omega))]
    exact a9
  · show pR (sR S rw (P 1) (some o)) pb 0 = some rw
    rw [pR_sR, if_neg (fun q => a3 q.1)]
    exact a10
  · rw [up1] at hc
    have hkc : ∀ c' o', o' ≠ pb → P (9 + 20 * c' + 1) ≤ 7 → KRep S o' P c' → KRep (sI (sR S rw (P 1) (some o)) pb 2 (nI (P 1 + 1))) o' (up P 1 (P 1 + 1)) c' := fun c' o' q1 q7 q2 => by
      refine KRep_cg (fun j _ => upn _ (by omega)) q7 ?_
      have hi : ∀ k, pI (sI (sR S rw (P 1) (some o)) pb 2 (nI (P 1 + 1))) o' k = pI S o' k := fun k => by
        rw [pI_sI, if_neg (fun q => q1 q.1)]
        rfl
      unfold KRep
      rw [hi, hi, hi, hi, hi, hi, hi]
      exact q2
    by_cases e : c = P 1
    · refine ⟨o, ?_, ho, ho2, ho3, ho4, by rw [e]; exact hkc _ _ ho3 hg.2.2.1 hk⟩
      show pR (sR S rw (P 1) (some o)) rw c = some o
      rw [pR_sR, if_pos ⟨rfl, e⟩]
    · obtain ⟨o', o1, o2, o3, o4, o5, o6⟩ := a13 c (by omega)
      refine ⟨o', ?_, o2, o3, o4, o5, hkc _ _ o4 (h7 c (by omega)) o6⟩
      show pR (sR S rw (P 1) (some o)) rw c = some o'
      rw [pR_sR, if_neg (fun q => e q.2)]
      exact o1
  · show pR (sR S rw (P 1) (some o)) a k = pR S a k
    rw [pR_sR, if_neg (by omega)]
  · rw [pI_sI, if_neg (by omega)]
    rfl
/-- the problem as far as it is told -/
def tld (P : Nat → Nat) : Prop := P 0 ≤ 7 ∧ P 1 ≤ 8 ∧ (∀ c, c < P 1 → Cwf P c) ∧ ∀ k, 9 + 20 * P 1 ≤ k → P k = 0

/-! READING: members of a constraint -/
/-- constraint c of P is being told -/
def Cpg (P : Nat → Nat) (c : Nat) : Prop := P (9 + 20 * c) ≤ 3 ∧ P (9 + 20 * c + 1) ≤ 7 ∧ (∀ k, k < P (9 + 20 * c + 1) → P (9 + 20 * c + (2 + k)) < P 0) ∧ (∀ i j, i < P (9 + 20 * c + 1) → j < P (9 + 20 * c + 1) → P (9 + 20 * c + (2 + i)) = P (9 + 20 * c + (2 + j)) → i = j)
  ∧ (P (9 + 20 * c) = 0 → ∀ v, v < 5 → P (9 + 20 * c + (9 + v)) ≤ P (9 + 20 * c + (14 + v)) ∧ P (9 + 20 * c + (14 + v)) ≤ 7)
  ∧ (P (9 + 20 * c) = 1 → 0 < P (9 + 20 * c + 9) ∧ P (9 + 20 * c + 9) ≤ 4 ∧ 0 < P (9 + 20 * c + 10) ∧ P (9 + 20 * c + 10) < 32 ∧ P (9 + 20 * c + 11) ≤ P (9 + 20 * c + 12) ∧ P (9 + 20 * c + 12) ≤ P (9 + 20 * c + 9))
  ∧ (P (9 + 20 * c) = 0 → P (9 + 20 * c + 19) < 32 ∧ ∀ v, v < 5 → (P (9 + 20 * c + 19)).testBit v = false → P (9 + 20 * c + (9 + v)) = 0 ∧ P (9 + 20 * c + (14 + v)) = 7)
  ∧ (∀ j, j < 20 → P (9 + 20 * c + j) < 64) ∧ (∀ j, j < 7 → P (9 + 20 * c + (2 + j)) < 7)
theorem Cpg_wf {P : Nat → Nat} {c : Nat} (h : Cpg P c) (h0 : 0 < P (9 + 20 * c + 1)) (h2 : 2 ≤ P (9 + 20 * c) → P (9 + 20 * c + 1) = 2) : Cwf P c := by
  obtain ⟨a1, a2, a3, a4, a5, a6, a7, a8, a9⟩ := h
  exact ⟨a1, h0, a2, a3, a4, a5, a6, h2, a7, a8, a9⟩
theorem hasM_in {P : Nat → Nat} {c x : Nat} : hasM P (9 + 20 * c) x = inM (cK P c) x := by
  rw [Bool.eq_iff_iff, hasM_t, inM_t]
  exact Iff.rfl
/-- the row after a member more -/
def mem1 (P : Nat → Nat) (b i : Nat) : Nat → Nat := up (up P (b + (2 + P (b + 1))) i) (b + 1) (P (b + 1) + 1)
theorem mem1_lo {P : Nat → Nat} {b i k : Nat} (hm : P (b + 1) < 7) (h : k < b + 1 ∨ b + 9 ≤ k) : mem1 P b i k = P k := by
  unfold mem1
  rw [up_n _ _ (by omega), up_n _ _ (by omega)]
theorem mem1_m {P : Nat → Nat} {b i : Nat} : mem1 P b i (b + 1) = P (b + 1) + 1 := up_s _ _ _
theorem mem1_o {P : Nat → Nat} {b i k : Nat} (h : k < P (b + 1)) : mem1 P b i (b + (2 + k)) = P (b + (2 + k)) := by
  unfold mem1
  rw [up_n _ _ (by omega), up_n _ _ (by omega)]
theorem mem1_n {P : Nat → Nat} {b i : Nat} : mem1 P b i (b + (2 + P (b + 1))) = i := by
  unfold mem1
  rw [up_n _ _ (by omega), up_s]
theorem many_lt {P : Nat → Nat} {c i : Nat} (h : Cpg P c) (h0 : P 0 ≤ 7) (hi : i < P 0) (hn : hasM P (9 + 20 * c) i = false) : P (9 + 20 * c + 1) < 7 := by
  obtain ⟨a1, a2, a3, a4, _⟩ := h
  have hκ : Kwf ((P (9 + 20 * c + 1), (fun k => P (9 + 20 * c + (2 + k))), fun _ => true) : Kon) := ⟨a2, fun k hk => Nat.lt_of_lt_of_le (a3 k hk) h0, a4, fun _ _ _ => rfl⟩
  have e : ∀ x, inM ((P (9 + 20 * c + 1), (fun k => P (9 + 20 * c + (2 + k))), fun _ => true) : Kon) x = hasM P (9 + 20 * c) x := fun x => by
    rw [Bool.eq_iff_iff, hasM_t, inM_t]
  have h1 := inM_cnt hκ
  have h2 : cN (fun x => inM ((P (9 + 20 * c + 1), (fun k => P (9 + 20 * c + (2 + k))), fun _ => true) : Kon) x) 7 + 1 = cN (fun x => hasM P (9 + 20 * c) x || decide (x = i)) 7 := cN_one (k := i) 7 (by omega) (fun j _ hj => by
    show inM _ j = (hasM P (9 + 20 * c) j || decide (j = i))
    rw [e, decide_eq_false hj, Bool.or_false]) (by rw [decide_eq_true rfl, Bool.or_true]) ((e i).trans hn)
  have h3 := cN_le (fun x => hasM P (9 + 20 * c) x || decide (x = i)) 7
  rw [h1] at h2
  have h4 : P (9 + 20 * c + 1) + 1 = cN (fun x => hasM P (9 + 20 * c) x || decide (x = i)) 7 := h2
  omega
theorem Cpg_mem {P : Nat → Nat} {c i : Nat} (h : Cpg P c) (h0 : P 0 ≤ 7) (hi : i < P 0) (hn : hasM P (9 + 20 * c) i = false) : Cpg (mem1 P (9 + 20 * c) i) c := by
  have hm := many_lt h h0 hi hn
  obtain ⟨a1, a2, a3, a4, a5, a6, a7, a8, a9⟩ := h
  have e0 : mem1 P (9 + 20 * c) i 0 = P 0 := mem1_lo hm (Or.inl (by omega))
  have ek : mem1 P (9 + 20 * c) i (9 + 20 * c) = P (9 + 20 * c) := mem1_lo hm (Or.inl (by omega))
  have eh : ∀ j, 9 ≤ j → mem1 P (9 + 20 * c) i (9 + 20 * c + j) = P (9 + 20 * c + j) := fun j hj => mem1_lo hm (Or.inr (by omega))
  have eg : ∀ j, mem1 P (9 + 20 * c) i (9 + 20 * c + (2 + j)) = if j = P (9 + 20 * c + 1) then i else P (9 + 20 * c + (2 + j)) := fun j => by
    by_cases q : j = P (9 + 20 * c + 1)
    · rw [if_pos q, q, mem1_n]
    · rw [if_neg q]
      unfold mem1
      rw [up_n _ _ (by omega), up_n _ _ (by omega)]
  have hno : ∀ j, j < P (9 + 20 * c + 1) → P (9 + 20 * c + (2 + j)) ≠ i := fun j hj q => by
    have := hasM_t.mpr ⟨j, hj, q⟩
    rw [hn] at this
    cases this
  refine ⟨by rw [ek]; exact a1, by rw [mem1_m]; omega, fun k hk => ?_, fun j k hj hk hjk => ?_, fun q v hv => ?_, fun q => ?_, fun q => ?_, fun j hj => ?_, fun j hj => ?_⟩
  · rw [mem1_m] at hk
    rw [eg, e0]
    by_cases q : k = P (9 + 20 * c + 1)
    · rw [if_pos q]
      exact hi
    · rw [if_neg q]
      exact a3 k (by omega)
  · rw [mem1_m] at hj hk
    rw [eg, eg] at hjk
    by_cases q : j = P (9 + 20 * c + 1)
    · by_cases q2 : k = P (9 + 20 * c + 1)
      · omega
      · rw [if_pos q, if_neg q2] at hjk
        exact absurd hjk.symm (hno k (by omega))
    · by_cases q2 : k = P (9 + 20 * c + 1)
      · rw [if_neg q, if_pos q2] at hjk
        exact absurd hjk (hno j (by omega))
      · rw [if_neg q, if_neg q2] at hjk
        exact a4 j k (by omega) (by omega) hjk
  · rw [ek] at q
    rw [eh _ (by omega), eh _ (by omega)]
    exact a5 q v hv
  · rw [ek] at q
    rw [eh _ (by omega), eh _ (by omega), eh _ (by omega), eh _ (by omega)]
    exact a6 q
  · rw [ek] at q
    rw [eh _ (by omega)]
    refine ⟨(a7 q).1, fun v hv w => ?_⟩
    rw [eh _ (by omega), eh _ (by omega)]
    exact (a7 q).2 v hv w
  · by_cases q : j < 1 ∨ 9 ≤ j
    · rw [mem1_lo hm (by omega)]
      exact a8 j hj
    · by_cases q2 : j = 1
      · rw [q2, mem1_m]
        omega
      · have := eg (j - 2)
        rw [show 2 + (j - 2) = j by omega] at this
        rw [this]
        split
        · omega
        · exact a8 j hj
  · rw [eg]
    split
    · omega
    · exact a9 j hj
/-! the class's constraint after a member more -/
theorem inM_mem1 {P : Nat → Nat} {c i x : Nat} : inM (cK (mem1 P (9 + 20 * c) i) c) x = (inM (cK P c) x || decide (x = i)) := by
  rw [← hasM_in, ← hasM_in, Bool.eq_iff_iff, hasM_t, Bool.or_eq_true, hasM_t, decide_eq_true_iff]
  constructor
  · rintro ⟨j, h1, h2⟩
    rw [mem1_m] at h1
    by_cases q : j = P (9 + 20 * c + 1)
    · rw [q, mem1_n] at h2
      exact Or.inr h2.symm
    · rw [mem1_o (by omega)] at h2
      exact Or.inl ⟨j, by omega, h2⟩
  · rintro (⟨j, h1, h2⟩ | h)
    · exact ⟨j, by rw [mem1_m]; omega, by rw [mem1_o h1]; exact h2⟩
    · exact ⟨P (9 + 20 * c + 1), by rw [mem1_m]; omega, by rw [mem1_n, h]⟩
theorem KRep_4 {S : PS} {o : Nat} {P : Nat → Nat} {c : Nat} (hk : KRep S o P c) (h : P (9 + 20 * c) ≤ 3) : pC4 S o := by
  obtain ⟨r0, r1, r2, r3, r4, r5, r6⟩ := hk
  by_cases e : P (9 + 20 * c) = 0
  · exact Or.inr (Or.inl (r4 e).1)
  · by_cases e1 : P (9 + 20 * c) = 1
    · exact Or.inr (Or.inr (Or.inr (r5 e1).1))
    · exact Or.inl (r6 (by omega))
theorem KRep_pC {S S' : PS} {o : Nat} (h : pC4 S o) (hk : pK S' o = pK S o) : pC4 S' o := by
  unfold pC4
  rw [hk]
  exact h
theorem q_addVar {S : PS} {o : Nat} {P : Nat → Nat} {c i : Nat} {Q : PS → Prop} (hk : KRep S o P c) (hg : Cpg P c) (h0 : P 0 ≤ 7) (hi : i < P 0) (hn : hasM P (9 + 20 * c) i = false) (hQ : ∀ S', fr [o] S S' → KRep S' o (mem1 P (9 + 20 * c) i) c → Q S') : wpX1_addVariable S o (nI i) Q := by
  have hm := many_lt hg h0 hi hn
  have h4 := KRep_4 hk hg.1
  obtain ⟨r0, r1, r2, r3, r4, r5, r6⟩ := hk
  have hm8 : ∀ j, j < P (9 + 20 * c + 1) → (cK P c).2.1 j < 8 := fun j hj => by
    have := hg.2.2.1 j hj
    show P (9 + 20 * c + (2 + j)) < 8
    omega
  have hpow : i * 2 ^ (3 * P (9 + 20 * c + 1)) < 2 ^ 32 := by
    have q1 : 2 ^ (3 * P (9 + 20 * c + 1)) ≤ 2 ^ 18 := Nat.pow_le_pow_right (by decide) (by omega)
    have q2 : i * 2 ^ (3 * P (9 + 20 * c + 1)) ≤ 7 * 2 ^ 18 := Nat.mul_le_mul (by omega) q1
    omega
  have h3' : ∀ A B : Int32, pI (sI (sJ (sI S o 3 A) o 2 (pk (scp (cK P c)) ||| pk (sg i 31))) o 1 B) o 3 = A := fun A B => by
    rw [pI_sI, if_neg (fun q => absurd q.2 (by decide)), pI_sJ, pI_sI, if_pos ⟨rfl, rfl⟩]
  have ek : mem1 P (9 + 20 * c) i (9 + 20 * c) = P (9 + 20 * c) := mem1_lo hm (Or.inl (by omega))
  have eh : ∀ j, 9 ≤ j → mem1 P (9 + 20 * c) i (9 + 20 * c + j) = P (9 + 20 * c + j) := fun j hj => mem1_lo hm (Or.inr (by omega))
  unfold wpX1_addVariable
  rw [c_1, c_3, c_7, c_31, r1, r3, o_le (by decide) (by omega), o_mul, o_and31 (by omega), o_shl (by omega) hpow, o_or, show (cK P c).1 = P (9 + 20 * c + 1) from rfl, ds3_or hm8, w_allOf (by omega)]
  have r2' : ∀ A : Int32, pJ (sI S o 3 A) o 2 = pk (scp (cK P c)) := fun A => by rw [pJ_sI]; exact r2
  have r1' : ∀ (A : Int32) (B : Int64), pI (sJ (sI S o 3 A) o 2 B) o 1 = nI (P (9 + 20 * c + 1)) := fun A B => by rw [pI_sJ, pI_sI, if_neg (fun q => absurd q.2 (by decide))]; exact r1
  rw [r2', r1', o_add]
  refine ⟨h4, fun z => absurd z (by omega), fun _ => ⟨KRep_pC h4 rfl, hQ _ (fr_t (fr_t (fr_sI _ _ _ (List.mem_singleton.mpr rfl)) (fr_sJ _ _ _ (List.mem_singleton.mpr rfl))) (fr_sI _ _ _ (List.mem_singleton.mpr rfl))) ?_⟩⟩
  have io : ∀ (A B : Int32) (L : Int64) (j : Nat), j ≠ 3 → j ≠ 1 → pI (sI (sJ (sI S o 3 A) o 2 L) o 1 B) o j = pI S o j := fun A B L j q1 q2 => by
    rw [pI_sI, if_neg (fun q => q2 q.2), pI_sJ, pI_sI, if_neg (fun q => q1 q.2)]
  refine ⟨?_, ?_, ?_, ?_, fun q => ?_, fun q => ?_, fun q => ?_⟩
  · rw [io _ _ _ _ (by decide) (by decide), ek]
    exact r0
  · rw [pI_sI, if_pos ⟨rfl, rfl⟩, mem1_m]
  · rw [pJ_sI, pJ_sJ, if_pos ⟨rfl, rfl⟩, pq_or (scp_wf _) (sg_wf (by decide))]
    apply pq_cg
    intro x _
    unfold scp
    rw [inM_mem1]
    by_cases q : x = i
    · rw [q, sg_s, decide_eq_true rfl, Bool.or_true, if_pos rfl]
      split <;> decide
    · rw [sg_n q, decide_eq_false q, Bool.or_false, Nat.or_zero]
  · rw [h3']
    show _ = nI (ds 3 (cK (mem1 P (9 + 20 * c) i) c).2.1 (mem1 P (9 + 20 * c) i (9 + 20 * c + 1)))
    rw [mem1_m, ds_s]
    have e1 : (cK (mem1 P (9 + 20 * c) i) c).2.1 (P (9 + 20 * c + 1)) = i := mem1_n
    have e2 : ds 3 (cK (mem1 P (9 + 20 * c) i) c).2.1 (P (9 + 20 * c + 1)) = ds 3 (cK P c).2.1 (P (9 + 20 * c + 1)) := ds_cong (fun j hj => mem1_o hj)
    rw [e1, e2]
  · rw [ek] at q
    obtain ⟨s1, s2, s3, s4⟩ := r4 q
    rw [io _ _ _ _ (by decide) (by decide), io _ _ _ _ (by decide) (by decide), io _ _ _ _ (by decide) (by decide), s2, s3, s4, eh 19 (by omega)]
    exact ⟨s1, by rw [ds_cong (fun v _ => (eh (9 + v) (by omega)).symm)], by rw [ds_cong (fun v _ => (eh (14 + v) (by omega)).symm)], rfl⟩
  · rw [ek] at q
    obtain ⟨s1, s2, s3, s4, s5⟩ := r5 q
    rw [io _ _ _ _ (by decide) (by decide), io _ _ _ _ (by decide) (by decide), io _ _ _ _ (by decide) (by decide), io _ _ _ _ (by decide) (by decide), eh 9 (by omega), eh 10 (by omega), eh 11 (by omega), eh 12 (by omega)]
    exact ⟨s1, s2, s3, s4, s5⟩
  · rw [ek] at q
    exact r6 q

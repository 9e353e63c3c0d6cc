/-! THE CLASS READS: a member, a comparison -/
/-- all below N as before, but numbers of A and references of B; objects may have been made -/
def oF (A B : List Nat) (N : Nat) (S S' : PS) : Prop := pN S ≤ pN S' ∧ (∀ a, a < N → pK S' a = pK S a ∧ pL S' a = pL S a) ∧ (∀ a, a < N → a ∉ B → ∀ k, pR S' a k = pR S a k) ∧ ∀ a, a < N → a ∉ A → ∀ k, pI S' a k = pI S a k ∧ pJ S' a k = pJ S a k
theorem oF_t {A B : List Nat} {N : Nat} {S S1 S2 : PS} (h : oF A B N S S1) (h2 : oF A B N S1 S2) : oF A B N S S2 := ⟨Nat.le_trans h.1 h2.1, fun a ha => ⟨((h2.2.1 a ha).1).trans (h.2.1 a ha).1, ((h2.2.1 a ha).2).trans (h.2.1 a ha).2⟩, fun a ha hb k => (h2.2.2.1 a ha hb k).trans (h.2.2.1 a ha hb k), fun a ha hb k => ⟨((h2.2.2.2 a ha hb k).1).trans (h.2.2.2 a ha hb k).1, ((h2.2.2.2 a ha hb k).2).trans (h.2.2.2 a ha hb k).2⟩⟩
theorem oF_fr {A B C : List Nat} {N : Nat} {S S' : PS} (h : fr C S S') (hC : ∀ a, a ∈ C → a ∈ A ∨ N ≤ a) : oF A B N S S' := ⟨Nat.le_of_eq h.N.symm, fun a _ => ⟨h.K a, h.L a⟩, fun a _ _ k => h.R a k, fun a ha hb k => by
  have : a ∉ C := fun q => by
    rcases hC a q with z | z
    · exact hb z
    · omega
  exact ⟨h.I this k, h.J this k⟩⟩
theorem oF_new {A B : List Nat} {N κ m : Nat} {S : PS} (h : N ≤ pN S) : oF A B N S (sNew S κ m) := ⟨by rw [pN_sNew]; omega, fun a ha => ⟨by rw [pK_sNew, if_neg (by omega)], by rw [pL_sNew, if_neg (by omega)]⟩, fun a ha _ k => by rw [pR_sNew, if_neg (by omega)], fun a ha _ k => ⟨by rw [pI_sNew, if_neg (by omega)], by rw [pJ_sNew, if_neg (by omega)]⟩⟩
theorem oF_m {A B A' B' : List Nat} {N : Nat} {S S' : PS} (hA : ∀ a, a ∈ A → a ∈ A') (hB : ∀ a, a ∈ B → a ∈ B') (h : oF A B N S S') : oF A' B' N S S' := ⟨h.1, h.2.1, fun a ha hb k => h.2.2.1 a ha (fun q => hb (hB a q)) k, fun a ha hb k => h.2.2.2 a ha (fun q => hb (hA a q)) k⟩
theorem oF_dn {A B : List Nat} {N M : Nat} {S S' : PS} (hM : M ≤ N) (h : oF A B N S S') : oF A B M S S' := ⟨h.1, fun a ha => h.2.1 a (by omega), fun a ha => h.2.2.1 a (by omega), fun a ha => h.2.2.2 a (by omega)⟩
theorem oF_TS {A B : List Nat} {N t : Nat} {S S' : PS} (h : oF A B N S S') (hN : 85 ≤ N) (hB : ∀ a, a ∈ B → 85 ≤ a) (ht : t = 6 ∨ t = 44) (hs : TSh S t) : TSh S' t := by
  have nb : ∀ a, a < 85 → a ∉ B := fun a ha q => by have := hB a q; omega
  obtain ⟨a1, a2, a3, a4, a5, a6, a7, a8⟩ := hs
  refine ⟨by rw [(h.2.1 t (by omega)).1]; exact a1, by rw [h.2.2.1 t (by omega) (nb t (by omega))]; exact a2, by rw [h.2.2.1 t (by omega) (nb t (by omega))]; exact a3, by rw [(h.2.1 _ (by omega)).1]; exact a4, by rw [(h.2.1 _ (by omega)).2]; exact a5, by rw [(h.2.1 _ (by omega)).1]; exact a6, by rw [(h.2.1 _ (by omega)).2]; exact a7, fun i hi => ?_⟩
  rw [h.2.2.1 _ (by omega) (nb _ (by omega)), (h.2.1 _ (by omega)).1]
  exact a8 i hi
theorem oF_CS {A B : List Nat} {N : Nat} {S S' : PS} (h : oF A B N S S') (hN : 85 ≤ N) (hB : ∀ a, a ∈ B → 85 ≤ a) (hs : CSh S) : CSh S' := by
  have nb : ∀ a, a < 85 → a ∉ B := fun a ha q => by have := hB a q; omega
  have eK : ∀ a, a < 85 → pK S' a = pK S a := fun a ha => (h.2.1 a (by omega)).1
  have eL : ∀ a, a < 85 → pL S' a = pL S a := fun a ha => (h.2.1 a (by omega)).2
  have eR : ∀ a k, a < 85 → pR S' a k = pR S a k := fun a k ha => h.2.2.1 a (by omega) (nb a ha) k
  obtain ⟨a1, a2, a3, a4, a5, a6, a7, a8, a9, a10, a11, a12, a13, a14, a15, a16, a17, a18, a19, a20⟩ := hs
  exact ⟨by rw [eK _ (by decide)]; exact a1, by rw [eR _ _ (by decide)]; exact a2, by rw [eR _ _ (by decide)]; exact a3, by rw [eR _ _ (by decide)]; exact a4, by rw [eR _ _ (by decide)]; exact a5, by rw [eR _ _ (by decide)]; exact a6, by rw [eR _ _ (by decide)]; exact a7, by rw [eK _ (by decide)]; exact a8, by rw [eK _ (by decide)]; exact a9, by rw [eK _ (by decide)]; exact a10, by rw [eL _ (by decide)]; exact a11, oF_TS h hN hB (Or.inl rfl) a12, oF_TS h hN hB (Or.inr rfl) a13, by rw [eK _ (by decide)]; exact a14, by rw [eR _ _ (by decide)]; exact a15, by rw [eR _ _ (by decide)]; exact a16, by rw [eK _ (by decide)]; exact a17, by rw [eL _ (by decide)]; exact a18, by rw [eK _ (by decide)]; exact a19, by rw [eL _ (by decide)]; exact a20⟩
/-- the reader read on: numbers of A may be others -/
def kF (A : List Nat) (S S' : PS) : Prop := fr (1 :: A) S S' ∧ ∀ k, k ≠ 6 → k ≠ 7 → k ≠ 8 → k ≠ 9 → pI S' 1 k = pI S 1 k
theorem kF_t {A : List Nat} {S S1 S2 : PS} (h : kF A S S1) (h2 : kF A S1 S2) : kF A S S2 := ⟨fr_t h.1 h2.1, fun k a b c d => (h2.2 k a b c d).trans (h.2 k a b c d)⟩
theorem kF_tk {A : List Nat} {S S' : PS} (h : tkF S S') : kF A S S' := ⟨fr_m (fun a ha => by rw [List.mem_singleton.mp ha]; exact List.mem_cons_self) h.1, h.2⟩
theorem kF_r (A : List Nat) (S : PS) : kF A S S := ⟨fr_r _ _, fun _ _ _ _ _ => rfl⟩
theorem kF_o {A : List Nat} {S S' : PS} (h : fr A S S') (h1 : 1 ∉ A) : kF A S S' := ⟨fr_m (fun a ha => List.mem_cons_of_mem _ ha) h, fun k _ _ _ _ => h.I h1 k⟩
/-- the reader found an error -/
def eF (A : List Nat) (S S' : PS) (c e : Nat) : Prop := fr (1 :: A) S S' ∧ (∀ k, k ≠ 3 → k ≠ 4 → k ≠ 6 → k ≠ 7 → k ≠ 8 → k ≠ 9 → pI S' 1 k = pI S 1 k) ∧ pI S' 1 3 = nI c ∧ pI S' 1 4 = nI e
theorem eF_t {A : List Nat} {S S1 S2 : PS} {c e : Nat} (h : kF A S S1) (h2 : eF A S1 S2 c e) : eF A S S2 c e := ⟨fr_t h.1 h2.1, fun k a b c d e f => (h2.2.1 k a b c d e f).trans (h.2 k c d e f), h2.2.2⟩
theorem eF_c {A : List Nat} {S S' : PS} {c e : Nat} (h : cEr S S' c e) : eF A S S' c e := ⟨fr_m (fun a ha => by rw [List.mem_singleton.mp ha]; exact List.mem_cons_self) h.1.1, h.1.2, h.2⟩
/-- the class while it reads: v variables are known, the cursor is p -/
def cRE (S : PS) (tx : Nat → Nat) (n : Nat) (N : Nat → Nat) (v pb p : Nat) : Prop := CSh S ∧ cLn S tx n ∧ cTk S tx n p ∧ p ≤ n ∧ pR S 1 5 = some pb ∧ pK S pb = 5 ∧ pI S pb 1 = nI v ∧ v ≤ 7 ∧ nmK tx n N v ∧ cNm S tx n N v ∧ 85 ≤ pb
theorem cRE_k {A : List Nat} {S S' : PS} {tx : Nat → Nat} {n : Nat} {N : Nat → Nat} {v pb p p' : Nat} (h : cRE S tx n N v pb p) (hf : kF A S S') (hA : ∀ a, a ∈ A → 85 ≤ a ∧ a ≠ pb) (hT : cTk S' tx n p') (hp : p' ≤ n) : cRE S' tx n N v pb p' := by
  obtain ⟨a1, a2, a3, a4, a5, a6, a7, a8, a9, a10, a11⟩ := h
  have nb : ∀ a, a ≠ 1 → (a < 85 ∨ a = pb) → a ∉ 1 :: A := fun a h1 h2 q => by
    rcases List.mem_cons.mp q with z | z
    · exact h1 z
    · have := hA a z
      omega
  refine ⟨hf.1.CS a1, ⟨by rw [hf.2 2 (by decide) (by decide) (by decide) (by decide)]; exact a2.1, a2.2.1, fun i hi => by rw [hf.1.I (nb 2 (by decide) (Or.inl (by decide)))]; exact a2.2.2 i hi⟩, hT, hp, by rw [hf.1.R]; exact a5, by rw [hf.1.K]; exact a6, by rw [hf.1.I (nb pb (by omega) (Or.inr rfl))]; exact a7, a8, a9, fun i hi => by rw [hf.1.I (nb 3 (by decide) (Or.inl (by decide)))]; exact a10 i hi, a11⟩
theorem cTk_o {S S' : PS} {tx : Nat → Nat} {n p : Nat} (h : ∀ k, pI S' 1 k = pI S 1 k) (hT : cTk S tx n p) : cTk S' tx n p := by
  unfold cTk
  rw [h, h, h, h]
  exact hT
theorem rMem_n {tx : Nat → Nat} {n : Nat} {N : Nat → Nat} {b : Nat} {P : Nat → Nat} {p : Nat} (h : isNm tx n p = false) : rMem tx n N b P p = er 1 (sT tx n p) := by
  unfold rMem
  rw [if_neg (by rw [h]; decide)]
theorem rMem_3 {tx : Nat → Nat} {n : Nat} {N : Nat → Nat} {b : Nat} {P : Nat → Nat} {p : Nat} (h : isNm tx n p = true) (h2 : ¬ (lk tx n N (P 0) p < P 0 ∧ hasM P b (lk tx n N (P 0) p) = false)) : rMem tx n N b P p = er 3 (sT tx n p) := by
  unfold rMem
  rw [if_pos h, if_neg h2]
theorem rMem_o {tx : Nat → Nat} {n : Nat} {N : Nat → Nat} {b : Nat} {P : Nat → Nat} {p : Nat} (h : isNm tx n p = true) (h2 : lk tx n N (P 0) p < P 0) (h3 : hasM P b (lk tx n N (P 0) p) = false) : rMem tx n N b P p = ok (mem1 P b (lk tx n N (P 0) p)) (eT tx n p) := by
  unfold rMem
  rw [if_pos h, if_pos ⟨h2, h3⟩]
  rfl
theorem q_readMem {S : PS} {tx : Nat → Nat} {n : Nat} {N : Nat → Nat} {pb p o c : Nat} {P : Nat → Nat} {Q : Int32 → PS → Prop} (hR : cRE S tx n N (P 0) pb p) (ho : 85 ≤ o) (hne : o ≠ pb) (hk : KRep S o P c) (hg : Cpg P c)
    (hE : ∀ S' c' e, rMem tx n N (9 + 20 * c) P p = er c' e → eF [o] S S' c' e → Q (nI 0) S')
    (hQ : ∀ S' P' p', rMem tx n N (9 + 20 * c) P p = ok P' p' → kF [o] S S' → cRE S' tx n N (P' 0) pb p' → KRep S' o P' c → Cpg P' c → (∀ k, k < 9 + 20 * c + 1 ∨ 9 + 20 * c + 9 ≤ k → P' k = P k) → P' (9 + 20 * c + 1) = P (9 + 20 * c + 1) + 1 → Q (nI 1) S') : wpX8_readMember S 1 o Q := by
  obtain ⟨hc, hx, hT, hp, h5, hK5, h1, hv, hN, hS, hpb⟩ := id hR
  have hK := hc.2.2.2.2.2.2.2.2.2.2.2.2.2.1
  have f3 : (isNm tx n p = true ∧ ¬ (lk tx n N (P 0) p < P 0 ∧ hasM P (9 + 20 * c) (lk tx n N (P 0) p) = false)) → ∀ r2 : Int32, wpX8_readMember_b35 Q S 1 o r2 := fun q r2 => by
    unfold wpX8_readMember_b35
    rw [c_3]
    exact ⟨hK, w_cfail hc hT (fun S' h => ⟨Or.inl rfl, hE S' _ _ (rMem_3 q.1 q.2) (eF_c h)⟩)⟩
  unfold wpX8_readMember
  rw [ng_d, c_0, c_1]
  refine ⟨hK, q_cisN hc hx hT hp ?_⟩
  rw [bI_0]
  constructor
  · intro q
    rw [Bool.not_eq_false] at q
    refine ⟨hK, q_varOf hc hT q h5 hK5 h1 hv hN hS ?_⟩
    by_cases e : lk tx n N (P 0) p < P 0
    · rw [if_pos e, m_ne _ (by omega)]
      refine ⟨fun z => z.elim, fun _ => ⟨KRep_4 hk hg.1, ?_⟩⟩
      rw [w_hasVariable (KRep_4 hk hg.1) hk.2.2.1 (by omega), bI_0, ← hasM_in]
      refine ⟨fun z => ⟨KRep_4 hk hg.1, q_addVar hk hg hv e z (fun S' hf hk' => ?_)⟩, fun z => f3 ⟨q, fun w => z w.2⟩ _⟩
      have h1o : 1 ∉ [o] := fun w => by
        have := List.mem_singleton.mp w
        omega
      have kf := kF_o hf h1o
      have hR' := cRE_k hR kf (fun a ha => by rw [List.mem_singleton.mp ha]; exact ⟨ho, hne⟩) (cTk_o (fun k => hf.I h1o k) hT) hp
      refine ⟨hR'.1.2.2.2.2.2.2.2.2.2.2.2.2.2.1, q_next hR'.1 hR'.2.1 hR'.2.2.1.2.1 (eT_le hp).2 (fun S2 hf2 hT2 => ?_)⟩
      have hm := many_lt hg hv e z
      have e0 : mem1 P (9 + 20 * c) (lk tx n N (P 0) p) 0 = P 0 := mem1_lo hm (Or.inl (by omega))
      refine hQ S2 _ _ (rMem_o q e z) (kF_t kf (kF_tk hf2)) ?_ (KRep_fr hf2.1 (fun w => by have := List.mem_singleton.mp w; omega) hk') (Cpg_mem hg hv e z) (fun k hk => mem1_lo hm hk) mem1_m
      rw [e0]
      exact cRE_k hR' (kF_tk (A := []) hf2) (fun a ha => (nomatch ha)) hT2 (eT_le hp).2
    · rw [if_neg e]
      exact ⟨fun _ => f3 ⟨q, fun w => e w.1⟩ _, fun z => absurd rfl z⟩
  · intro q
    exact ⟨hK, w_cfail hc hT (fun S' h => ⟨Or.inl rfl, hE S' _ _ (rMem_n q) (eF_c h)⟩)⟩
theorem KRep_0 {S : PS} {o : Nat} {P : Nat → Nat} {c : Nat} (h0 : pI S o 0 = nI (P (9 + 20 * c))) (h1 : pI S o 1 = nI 0) (h2 : pJ S o 2 = 0) (h3 : pI S o 3 = nI 0) (hm : P (9 + 20 * c + 1) = 0)
    (r4 : P (9 + 20 * c) = 0 → pK S o = 2 ∧ pI S o 4 = nI (ds 3 (fun v => P (9 + 20 * c + (9 + v))) 5) ∧ pI S o 5 = nI (ds 3 (fun v => P (9 + 20 * c + (14 + v))) 5) ∧ pI S o 6 = nI (P (9 + 20 * c + 19)))
    (r5 : P (9 + 20 * c) = 1 → pK S o = 9 ∧ pI S o 4 = nI (P (9 + 20 * c + 9)) ∧ pI S o 5 = nI (P (9 + 20 * c + 10)) ∧ pI S o 6 = nI (P (9 + 20 * c + 11)) ∧ pI S o 7 = nI (P (9 + 20 * c + 12)))
    (r6 : 2 ≤ P (9 + 20 * c) → pK S o = 1) : KRep S o P c := by
  refine ⟨h0, by rw [hm]; exact h1, ?_, ?_, r4, r5, r6⟩
  · rw [h2]
    have e : pk (scp (cK P c)) = pk (fun _ => 0) := pq_cg (fun x _ => scp_f (by
      rw [← hasM_in]
      unfold hasM
      rw [hm]
      rfl))
    rw [e]
    rfl
  · rw [h3]
    show nI 0 = nI (ds 3 (cK P c).2.1 (P (9 + 20 * c + 1)))
    rw [hm]
    rfl

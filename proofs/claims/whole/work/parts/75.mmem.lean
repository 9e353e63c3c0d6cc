/-! THE REFERENCE READS: members, a count -/
theorem mRE_row {S S' : PS} {tx : Nat → Nat} {n p : Nat} {N P P' : Nat → Nat} (h : mRE S tx n N P p) (hf : fr [89] S S') (hr : ∀ k, k < 169 → pI S' 89 k = nI (P' k)) (h0 : P' 0 = P 0) : mRE S' tx n N P' p := by
  obtain ⟨hM, hx, hT, hp, h89, hv, hN, h95, h19, h20⟩ := h
  have h87 : 87 ∉ [89] := by decide
  refine ⟨hf.M hM, ⟨by rw [hf.I h87]; exact hx.1, hx.2.1, fun i hi => by rw [hf.I (by decide)]; exact hx.2.2 i hi⟩, ?_, hp, hr, by rw [h0]; exact hv, by rw [h0]; exact hN, fun i hi => by rw [hf.J (by decide)]; exact h95 i (by rw [← h0]; exact hi), by rw [hf.I h87]; exact h19, by rw [hf.I h87]; exact h20⟩
  unfold mTk
  rw [hf.I h87, hf.I h87, hf.I h87, hf.J h87, hf.I h87]
  exact hT
theorem mG_row {S S' : PS} (h : fr [89] S S') : mG S S' := mf_fr (fr_m (fun a ha => by rw [List.mem_singleton.mp ha]; decide) h) (by decide)
theorem mG_0 {S S' : PS} (h : mf [] [15, 16, 17, 18, 19, 20, 21] S S') : mG S S' := mf_w h (by decide) (by decide)
theorem mW_row {S S' : PS} {c e : Nat} (h : mW S c e) (hf : fr [89] S S') : mW S' c e := by
  obtain ⟨h1, h2, h3, h4, h5⟩ := h
  have h87 : 87 ∉ [89] := by decide
  exact ⟨hf.M h1, by rw [hf.I h87]; exact h2, h3, h4, by rw [hf.I h87]; exact h5⟩
theorem f89 (S : PS) (k : Nat) (v : Int32) : fr [89] S (sI S 89 k v) := fr_sI _ _ _ (List.mem_singleton.mpr rfl)
theorem q_mloop1 {S : PS} {b m : Nat} {x2 : Int32} {Q : PS → Prop} (hM : MShape S) (hm : pI S 89 (b + 1) = nI m) (hm7 : m ≤ 7) (hb : b < 150) (hQ : wpX12_fails S 87 (nI 3) (fun S18 => wpX12_member_b72 Q S18 87 (nI b) x2 (nI 1) (nI m))) :
    ∀ r x4, m - x4 = r → x4 ≤ m → wpX12_member_b19 Q (r + 1) S 87 (nI b) x2 (nI 1) (nI x4) := by
  intro r
  induction r with
  | zero =>
    intro x4 hr hx
    have e : x4 = m := by omega
    unfold wpX12_member_b19
    rw [c_0, c_1, c_3, o_add]
    refine ⟨msk hM, 89, msr_told hM, msk_told hM, ?_⟩
    rw [msl_told hM, o_inT (by omega) (by omega), o_cl (by omega), hm, e, o_le (by omega) (by omega)]
    exact ⟨trivial, fun _ => ⟨fun z => absurd z n10, fun _ => hQ⟩, fun z => absurd (Nat.le_refl m) z⟩
  | succ r ih =>
    intro x4 hr hx
    have hnx := ih (x4 + 1) (by omega) (by omega)
    generalize r + 1 = fu at hnx ⊢
    unfold wpX12_member_b19 wpX12_member_b51
    rw [c_0, c_1, c_3, o_add]
    refine ⟨msk hM, 89, msr_told hM, msk_told hM, ?_⟩
    rw [msl_told hM, o_inT (by omega) (by omega), o_cl (by omega), hm, o_le (by omega) (by omega), o_add]
    exact ⟨trivial, fun z => absurd z (by omega), fun _ => ⟨fun _ => hnx, fun z => absurd z n10⟩⟩
theorem q_memW {S : PS} {b m c e : Nat} {Q : PS → Prop} (h : mW S c e) (hm : pI S 89 (b + 1) = nI m) (hm7 : m ≤ 7) (hb : b < 150) (hQ : Q S) : wpX12_member S 87 (nI b) Q := by
  unfold wpX12_member
  rw [ng_d, c_0, c_1]
  refine ⟨msk h.1, q_namedW h ⟨fun z => absurd rfl z, fun _ => ⟨_, q_mloop1 h.1 hm hm7 hb (q_mfails1 h ?_) _ 0 rfl (by omega)⟩⟩⟩
  unfold wpX12_member_b72
  rw [c_0]
  exact ⟨msk h.1, q_isWr1 h ⟨fun z => absurd z n10, fun _ => hQ⟩⟩
theorem q_mem {S : PS} {tx : Nat → Nat} {n p c : Nat} {N P : Nat → Nat} {Q : PS → Prop} (hR : mRE S tx n N P p) (hg : Cpg P c) (hc8 : c < 8)
    (hE : ∀ S' c' e, rMem tx n N (9 + 20 * c) P p = er c' e → mf [] [15, 16, 17, 18, 19, 20, 21] S S' → mW S' c' e → Q S')
    (hQ : ∀ S' P' p', rMem tx n N (9 + 20 * c) P p = ok P' p' → mG S S' → mRE S' tx n N P' p' → Cpg P' c → (∀ k, k < 9 + 20 * c + 1 ∨ 9 + 20 * c + 9 ≤ k → P' k = P k) → P' (9 + 20 * c + 1) = P (9 + 20 * c + 1) + 1 → Q S') : wpX12_member S 87 (nI (9 + 20 * c)) Q := by
  obtain ⟨hM, hx, hT, hp, h89, hv, hN, h95, h19, h20⟩ := id hR
  have hm7 := hg.2.1
  have hb : 9 + 20 * c < 150 := by omega
  have b72W : ∀ (S' : PS) (c' e : Nat) (y2 y3 y4 : Int32), mW S' c' e → Q S' → wpX12_member_b72 Q S' 87 (nI (9 + 20 * c)) y2 y3 y4 := fun S' c' e y2 y3 y4 hw q => by
    unfold wpX12_member_b72
    rw [c_0]
    exact ⟨msk hw.1, q_isWr1 hw ⟨fun z => absurd z n10, fun _ => q⟩⟩
  have fail3 : rMem tx n N (9 + 20 * c) P p = er 3 (sT tx n p) → ∀ (y2 y3 y4 : Int32), wpX12_fails S 87 (nI 3) (fun S18 => wpX12_member_b72 Q S18 87 (nI (9 + 20 * c)) y2 y3 y4) := fun hr y2 y3 y4 => q_mfails hM h19 hT (by decide) (by decide) (fun S' hf hw => b72W S' _ _ _ _ _ hw (hE S' _ _ hr (mf_w hf (by decide) (by decide)) hw))
  unfold wpX12_member
  rw [ng_d, c_0, c_1]
  refine ⟨msk hM, q_named hR (fun hn S' hf hw => ⟨fun z => absurd rfl z, fun _ => ⟨_, q_mloop1 hw.1 (by rw [hf.1.I (by decide)]; exact h89 _ (by omega)) hm7 hb (q_mfails1 hw (b72W S' _ _ _ _ _ hw (hE S' _ _ (rMem_n hn) (mf_w hf (by decide) (by decide)) hw))) _ 0 rfl (by omega)⟩⟩) (fun hn => ?_)⟩
  by_cases e : lk tx n N (P 0) p < P 0
  · rw [if_pos e]
    refine ⟨fun _ => ?_, fun z => absurd z (nI_nn (by omega))⟩
    generalize hi : lk tx n N (P 0) p = i at e
    have h3 : hasM P (9 + 20 * c) i = true → rMem tx n N (9 + 20 * c) P p = er 3 (sT tx n p) := fun q => rMem_3 hn (fun w => by
      rw [hi, q] at w
      exact absurd w.2 (by decide))
    have h4 : hasM P (9 + 20 * c) i = false → rMem tx n N (9 + 20 * c) P p = ok (mem1 P (9 + 20 * c) i) (eT tx n p) := fun q => by
      rw [← hi]
      rw [← hi] at q e
      exact rMem_o hn e q
    have loop0 : ∀ r x4, P (9 + 20 * c + 1) - x4 = r → x4 ≤ P (9 + 20 * c + 1) → (∀ j, j < x4 → P (9 + 20 * c + (2 + j)) ≠ i) → wpX12_member_b19 Q (r + 1) S 87 (nI (9 + 20 * c)) (nI i) (nI 0) (nI x4) := by
      intro r
      induction r with
      | zero =>
        intro x4 hr hx4 hno
        have ex : x4 = P (9 + 20 * c + 1) := by omega
        have hn0 : hasM P (9 + 20 * c) i = false := by
          cases q : hasM P (9 + 20 * c) i
          · rfl
          · obtain ⟨j, j1, j2⟩ := hasM_t.mp q
            exact absurd j2 (hno j (by omega))
        have hml := many_lt hg hv e hn0
        unfold wpX12_member_b19
        rw [c_0, c_1, c_3, o_add]
        refine ⟨msk hM, 89, msr_told hM, msk_told hM, ?_⟩
        rw [msl_told hM, o_inT (by omega) (by omega), o_cl (by omega), h89 _ (by omega), ex, o_le (by omega) (by omega)]
        refine ⟨trivial, fun _ => ⟨fun _ => ?_, fun z => absurd rfl z⟩, fun z => absurd (Nat.le_refl _) z⟩
        unfold wpX12_member_b72
        rw [c_0, c_1, c_2, o_add, o_add]
        refine ⟨msk hM, q_isWr0 hM h19 ⟨fun _ => ⟨msk hM, 89, msr_told hM, msk_told hM, ?_⟩, fun z => absurd rfl z⟩⟩
        rw [msl_told hM, o_inT (a := 9 + 20 * c + 1) (by omega) (by omega), o_cl (a := 9 + 20 * c + 1) (by omega), h89 _ (by omega), o_add, o_inT (by omega) (by omega), o_cl (by omega)]
        refine ⟨trivial, trivial, trivial, trivial, ?_⟩
        have e1 : pI (sI S 89 (9 + 20 * c + 2 + P (9 + 20 * c + 1)) (nI i)) 89 (9 + 20 * c + 1) = nI (P (9 + 20 * c + 1)) := by
          rw [pI_sI, if_neg (fun q => by omega)]
          exact h89 _ (by omega)
        rw [e1, o_add]
        have f1 : fr [89] S (sI (sI S 89 (9 + 20 * c + 2 + P (9 + 20 * c + 1)) (nI i)) 89 (9 + 20 * c + 1) (nI (P (9 + 20 * c + 1) + 1))) := fr_t (f89 _ _ _) (f89 _ _ _)
        have R1 : mRE (sI (sI S 89 (9 + 20 * c + 2 + P (9 + 20 * c + 1)) (nI i)) 89 (9 + 20 * c + 1) (nI (P (9 + 20 * c + 1) + 1))) tx n N (mem1 P (9 + 20 * c) i) p := by
          refine mRE_row hR f1 (fun k hk => ?_) (mem1_lo hml (Or.inl (by omega)))
          rw [pI_sI, pI_sI]
          unfold mem1 up
          by_cases q1 : k = 9 + 20 * c + 1
          · rw [if_pos ⟨rfl, q1⟩, if_pos q1]
          · rw [if_neg (fun q => q1 q.2), if_neg q1]
            by_cases q2 : k = 9 + 20 * c + (2 + P (9 + 20 * c + 1))
            · rw [if_pos ⟨rfl, by omega⟩, if_pos q2]
            · rw [if_neg (fun q => q2 (by omega)), if_neg q2]
              exact h89 k hk
        exact q_mTok R1 (fun S' _ hg' hR' => hQ S' _ _ (h4 hn0) (mG_t (mG_row f1) hg') hR' (Cpg_mem hg hv e hn0) (fun k hk => mem1_lo hml hk) mem1_m)
      | succ r ih =>
        intro x4 hr hx4 hno
        have hnx := ih (x4 + 1) (by omega) (by omega)
        have hP3 := hg.2.2.1 x4 (by omega)
        have hl1 := fun hf3 => q_mloop1 (S := S) (b := 9 + 20 * c) (x2 := nI i) (Q := Q) hM (h89 _ (by omega)) hm7 hb hf3 r (x4 + 1) (by omega) (by omega)
        generalize r + 1 = fu at hnx hl1 ⊢
        unfold wpX12_member_b19 wpX12_member_b51
        rw [c_0, c_1, c_2, c_3, o_add, o_add, o_add, o_add]
        refine ⟨msk hM, 89, msr_told hM, msk_told hM, ?_⟩
        rw [msl_told hM, o_inT (a := 9 + 20 * c + 1) (by omega) (by omega), o_cl (a := 9 + 20 * c + 1) (by omega), h89 (9 + 20 * c + 1) (by omega), o_le (by omega) (by omega), o_inT (by omega) (by omega), o_cl (by omega), h89 (9 + 20 * c + 2 + x4) (by omega), show 9 + 20 * c + 2 + x4 = 9 + 20 * c + (2 + x4) by omega, o_eq (a := P (9 + 20 * c + (2 + x4))) (by omega) (by omega)]
        refine ⟨trivial, fun z => absurd z (by omega), fun _ => ⟨fun z => absurd rfl z, fun _ => ⟨trivial, fun z => hnx (fun j hj => ?_), fun z => hl1 (fail3 (h3 (hasM_t.mpr ⟨x4, by omega, z⟩)) _ _ _)⟩⟩⟩
        by_cases q : j = x4
        · rw [q]
          exact z
        · exact hno j (by omega)
    exact ⟨_, loop0 _ 0 rfl (by omega) (fun j hj => absurd hj (Nat.not_lt_zero _))⟩
  · rw [if_neg e]
    exact ⟨fun z => absurd rfl z, fun _ => ⟨_, q_mloop1 hM (h89 _ (by omega)) hm7 hb (fail3 (rMem_3 hn (fun w => e w.1)) _ _ _) _ 0 rfl (by omega)⟩⟩

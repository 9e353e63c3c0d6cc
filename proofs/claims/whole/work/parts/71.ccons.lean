/-! THE CLASS READS: the loop over constraints -/
def cStep (Q : Int32 → PS → Prop) (fu : Nat) (i : Int32) : Option Nat → PS → Prop := fun r S24 => ((r = none → (Q (nI 0) S24)) ∧ (∀ o25, r = some o25 → (pK S24 1 = 7 ∧ (wpX8_readSemicolon S24 1 (fun r27 S28 => ((¬ r27 = nI 0 → (pK S28 1 = 7 ∧ (∃ o30, pR S28 1 5 = some o30 ∧ (pK S28 o30 = 5 ∧ (wpX6_addConstraint S28 o30 o25 (fun S33 => (wpX8_readConstraints_b2 Q fu S33 1 (i + nI 1)))))))) ∧ (r27 = nI 0 → (Q (nI 0) S28))))))))
theorem rKd_le {tx : Nat → Nat} {n p : Nat} : rKd tx n p ≤ 4 := by
  unfold rKd
  repeat' split
  all_goals omega
/-- the state before a constraint -/
def cLp (S0 S : PS) (M : Nat) (tx : Nat → Nat) (n : Nat) (N : Nat → Nat) (pb rw p : Nat) (P : Nat → Nat) : Prop := xK M S0 S ∧ cRE S tx n N (P 0) pb p ∧ cPI S pb rw P ∧ tld P
theorem cRE_pb {M : Nat} {S S' : PS} {tx : Nat → Nat} {n : Nat} {N : Nat → Nat} {v pb p p' : Nat} (h : cRE S tx n N v pb p) (hf : xK M S S') (hM : 85 ≤ M) (hK : pK S' pb = 5) (h1 : pI S' pb 1 = nI v) (hT : cTk S' tx n p') (hp : p' ≤ n) : cRE S' tx n N v pb p' := by
  obtain ⟨a1, a2, a3, a4, a5, a6, a7, a8, a9, a10, a11⟩ := h
  have nI' : ∀ a, a < M → a ≠ 1 → ∀ k, pI S' a k = pI S a k := fun a h1 h2 k => (hf.1.2.2.2 a h1 (fun q => h2 (List.mem_singleton.mp q)) k).1
  refine ⟨oF_CS hf.1 hM (fun a ha => (nomatch ha)) a1, ⟨by rw [hf.2 2 (by decide) (by decide) (by decide) (by decide)]; exact a2.1, a2.2.1, fun i hi => by rw [nI' 2 (by omega) (by decide)]; exact a2.2.2 i hi⟩, hT, hp, by rw [hf.1.2.2.1 1 (by omega) (fun q => (nomatch q))]; exact a5, hK, h1, a8, a9, fun i hi => by rw [nI' 3 (by omega) (by decide)]; exact a10 i hi, a11⟩
theorem xK_dn {M N : Nat} {S S' : PS} (hM : M ≤ N) (h : xK N S S') : xK M S S' := ⟨oF_dn hM h.1, h.2⟩
theorem xE_dn {M N : Nat} {S S' : PS} {c e : Nat} (hM : M ≤ N) (h : xE N S S' c e) : xE M S S' c e := ⟨oF_dn hM h.1, h.2⟩
theorem q_conBody {S0 S : PS} {M : Nat} {tx : Nat → Nat} {n : Nat} {N : Nat → Nat} {pb rw p fu : Nat} {P : Nat → Nat} {Q : Int32 → PS → Prop} {W : (Option Nat → PS → Prop) → Prop} (hM : 85 ≤ M) (hM1 : M ≤ pb) (hM2 : M ≤ rw) (hL : cLp S0 S M tx n N pb rw (eT tx n p) P) (hk4 : rKd tx n p < 4) (h8 : P 1 < 8)
    (hW : ∀ Qo : Option Nat → PS → Prop, (∀ S' c' e, rBody tx n N (rKd tx n p) (9 + 20 * P 1) (up P (9 + 20 * P 1) (rKd tx n p)) (eT tx n p) = er c' e → xE (pN S) S S' c' e → Qo none S') → (∀ S' P' p', rBody tx n N (rKd tx n p) (9 + 20 * P 1) (up P (9 + 20 * P 1) (rKd tx n p)) (eT tx n p) = ok P' p' → xL S S' → cRE S' tx n N (P' 0) pb p' → KRep S' (pN S) P' (P 1) → Cwf P' (P 1) → (∀ k, k < 9 + 20 * P 1 + 1 ∨ 9 + 20 * P 1 + 20 ≤ k → P' k = up P (9 + 20 * P 1) (rKd tx n p) k) → Qo (some (pN S)) S') → W Qo)
    (hE : ∀ S' c' e, rCon tx n N P p = er c' e → xE M S0 S' c' e → Q (nI 0) S')
    (hQ : ∀ S' P' p', rCon tx n N P p = ok P' p' → cLp S0 S' M tx n N pb rw p' P' → P' 1 = P 1 + 1 → (∀ k, k < 9 → k ≠ 1 → P' k = P k) → wpX8_readConstraints_b2 Q fu S' 1 (nI (P 1 + 1))) : W (cStep Q fu (nI (P 1))) := by
  obtain ⟨hx0, hR, hI, ht⟩ := hL
  obtain ⟨i1, i2, i3, i4, i5, i6, i7, i8, i9, i10, i11, i12, i13⟩ := id hI
  have hsp : rCon tx n N P p = Rbd (rBody tx n N (rKd tx n p) (9 + 20 * P 1) (up P (9 + 20 * P 1) (rKd tx n p)) (eT tx n p)) (fun P' p' => Rbd (rSem tx n p') (fun _ q => ok (up P' 1 (P 1 + 1)) q)) := by
    unfold rCon
    rw [if_neg (by omega), if_neg (by omega)]
  have hMN : M ≤ pN S := by omega
  refine hW _ (fun S' c' e h hx => ⟨fun _ => hE S' c' e ?_ (xE_t hx0 (xE_dn hMN hx)), fun o25 q => (nomatch q)⟩) (fun S' P' p' h hx hR' hk hw ho => ⟨fun q => (nomatch q), fun o25 q => ?_⟩)
  · rw [hsp, h]
    rfl
  · cases q
    rw [h] at hsp
    have hsp1 : rCon tx n N P p = Rbd (rSem tx n p') (fun _ q => ok (up P' 1 (P 1 + 1)) q) := hsp
    obtain ⟨hc1, hx1, hT1, hp1, g5, gK5, _⟩ := id hR'
    have elow : ∀ k, k < 9 + 20 * P 1 → P' k = P k := fun k hk => by rw [ho k (by omega), up_n _ _ (by omega)]
    have hc7 : ∀ c, c < P 1 → P (9 + 20 * c + 1) ≤ 7 := fun c hc => (ht.2.2.1 c hc).2.2.1
    have hI1 : cPI S' pb rw P' := cPI_cg elow hc7 (cPI_x hx.1.1 hI)
    have e1 : P' 1 = P 1 := elow 1 (by omega)
    refine ⟨hc1.2.2.2.2.2.2.2.2.2.2.2.2.2.1, q_readSem hc1 hx1 hT1 hp1 (fun S2 c' e h2 hx2 => ⟨fun z => absurd rfl z, fun _ => hE S2 c' e ?_ (xE_t (xK_t hx0 (xK_dn hMN hx.1)) (xE_e (A := []) (eF_c hx2) (fun a ha => (nomatch ha))))⟩) (fun S2 v p2 h2 hp2 hf2 hT2 => ⟨fun _ => ?_, fun z => absurd z (by rw [o_eq (by decide) (by decide)]; decide)⟩)⟩
    · rw [hsp1, h2]
      rfl
    · rw [h2] at hsp1
      have hsp2 : rCon tx n N P p = ok (up P' 1 (P 1 + 1)) p2 := hsp1
      have hkf : kF [] S' S2 := kF_tk hf2
      have R2 : cRE S2 tx n N (P' 0) pb p2 := cRE_k hR' hkf (fun a ha => (nomatch ha)) hT2 hp2
      have hof : oF [1] [] (pN S') S' S2 := (xK_k hkf (fun a ha => (nomatch ha))).1
      have hI2 : cPI S2 pb rw P' := cPI_x hof hI1
      have hN2 : pN S2 = pN S' := hf2.1.N
      have hNS := hx.2
      refine ⟨R2.1.2.2.2.2.2.2.2.2.2.2.2.2.2.1, pb, R2.2.2.2.2.1, R2.2.2.2.2.2.1, ?_⟩
      rw [o_add]
      refine q_addCon hI2 (by omega) (by omega) (by omega) (by omega) (by omega) ?_ ?_ (fun c hc => ?_) (fun S3 hI3 hf3 => ?_)
      · rw [e1]
        exact KRep_fr hf2.1 (fun q => by have := List.mem_singleton.mp q; omega) hk
      · rw [e1]
        exact hw
      · rw [elow _ (by omega)]
        exact hc7 c (by omega)
      · have x3 : xK M S2 S3 := ⟨oF_m (A := []) (B := []) (fun a ha => (nomatch ha)) (fun a ha => ha) (hf3 M hM1 hM2), fun k _ _ _ _ => ((hf3 M hM1 hM2).2.2.2 1 (by omega) (fun q => (nomatch q)) k).1⟩
        rw [e1] at hI3
        have u0 : up P' 1 (P 1 + 1) 0 = P' 0 := up_n _ _ (by decide)
        have u1 : up P' 1 (P 1 + 1) 1 = P 1 + 1 := up_s _ _ _
        have un : ∀ k, k ≠ 1 → up P' 1 (P 1 + 1) k = P' k := fun k hk => up_n _ _ hk
        refine hQ S3 _ p2 hsp2 ⟨xK_t (xK_t hx0 (xK_dn hMN hx.1)) (xK_t (xK_k hkf (fun a ha => (nomatch ha))) x3), ?_, hI3, ?_, ?_, ?_, fun k hk => ?_⟩ u1 (fun k hk9 hk1 => ?_)
        · rw [u0]
          refine cRE_pb R2 x3 hM hI3.2.2.2.2.2.1 ?_ (cTk_o (fun k => ((hf3 M hM1 hM2).2.2.2 1 (by omega) (fun q => (nomatch q)) k).1) R2.2.2.1) R2.2.2.2.1
          rw [← u0]
          exact hI3.2.2.2.2.2.2.1
        · rw [u0, elow 0 (by omega)]
          exact ht.1
        · rw [u1]
          omega
        · rw [u1]
          intro c hc
          by_cases e : c = P 1
          · rw [e]
            exact Cwf_cg u0 (fun j _ => un _ (by omega)) hw
          · exact Cwf_cg (by rw [u0]; exact elow 0 (by omega)) (fun j _ => by rw [un _ (by omega)]; exact elow _ (by omega)) (ht.2.2.1 c (by omega))
        · rw [u1] at hk
          rw [un _ (by omega), ho _ (by omega), up_n _ _ (by omega)]
          exact ht.2.2.2 k (by omega)
        · rw [un _ hk1]
          exact elow k (by omega)
theorem blk_up {P : Nat → Nat} {t : Nat} (h : ∀ k, 9 + 20 * P 1 ≤ k → P k = 0) : blkC (up P (9 + 20 * P 1) t) (P 1) t := ⟨up_s _ _ _, fun j h1 h2 => by rw [up_n _ _ (by omega)]; exact h _ (by omega)⟩
theorem q_readCons {S0 : PS} {M : Nat} {tx : Nat → Nat} {n : Nat} {N : Nat → Nat} {pb rw : Nat} {Q : Int32 → PS → Prop} (hM : 85 ≤ M) (hM1 : M ≤ pb) (hM2 : M ≤ rw) (R0 : Rd (Nat → Nat)) (P0 : Nat → Nat) (hE : ∀ S' c' e, R0 = er c' e → xE M S0 S' c' e → Q (nI 0) S') (hQ : ∀ S' P' p', R0 = ok P' p' → cLp S0 S' M tx n N pb rw p' P' → (∀ k, k < 9 → k ≠ 1 → P' k = P0 k) → Q (nI 1) S') :
    ∀ r S p P, 9 - P 1 = r → cLp S0 S M tx n N pb rw p P → (∀ k, k < 9 → k ≠ 1 → P k = P0 k) → R0 = rCons tx n N r P p → wpX8_readConstraints_b2 Q r S 1 (nI (P 1)) := by
  intro r
  induction r with
  | zero =>
    intro S p P hr hL
    have := hL.2.2.2.2.1
    omega
  | succ r ih =>
    intro S p P hr hL hP0 hsp
    have hp8 := hL.2.2.2.2.1
    obtain ⟨hx0, hR, hI, ht⟩ := id hL
    obtain ⟨hc, hx, hT, hp, g5, gK5, g1, gv, gN, gS, gpb⟩ := id hR
    have hK := hc.2.2.2.2.2.2.2.2.2.2.2.2.2.1
    have hkt : kT tx n p < 5 := by
      unfold kT
      repeat' split
      all_goals omega
    have hnx := ih
    have hsp' : R0 = if kT tx n p = 0 then ok P p else Rbd (rCon tx n N P p) (fun P' p' => rCons tx n N r P' p') := hsp
    unfold wpX8_readConstraints_b2
    rw [c_0, c_1, c_4, show (8 : Int32) = nI 8 from rfl, o_lt (by decide) (by omega), hT.2.2.1, o_eq (a := kT tx n p) (by omega) (by decide), o_eq (a := P 1) (b := 8) (by omega) (by decide)]
    refine ⟨fun z => absurd z (by omega), fun _ => ⟨hK, fun z => ?_, fun z => ?_⟩⟩
    · rw [if_pos z] at hsp'
      exact hQ S P p hsp' hL hP0
    · rw [if_neg z] at hsp'
      have hxE : ∀ S' c' e, xE M S S' c' e → xE M S0 S' c' e := fun S' c' e h => xE_t hx0 h
      have fE : ∀ S' c' e, rCon tx n N P p = er c' e → xE M S0 S' c' e → Q (nI 0) S' := fun S' c' e h h2 => hE S' c' e (by rw [hsp', h]; rfl) h2
      have fQ : ∀ S' P' p', rCon tx n N P p = ok P' p' → cLp S0 S' M tx n N pb rw p' P' → P' 1 = P 1 + 1 → (∀ k, k < 9 → k ≠ 1 → P' k = P k) → wpX8_readConstraints_b2 Q r S' 1 (nI (P 1 + 1)) := fun S' P' p' h h2 h3 h4 => by
        rw [← h3]
        refine hnx S' p' P' (by omega) h2 (fun k hk hk1 => (h4 k hk hk1).trans (hP0 k hk hk1)) ?_
        rw [hsp', h]
        rfl
      have frag : rKd tx n p < 4 → ((¬ P 1 = 8 → (pK S 1 = 7 ∧ (wpX8_nextToken S 1 (fun S21 => ((bI (isW tx n wCnt p) = nI 0 → ((bI (isW tx n wWin p) = nI 0 → (pK S21 1 = 7 ∧ (wpX8_readComparison S21 1 (bI (isW tx n wLes p)) (cStep Q r (nI (P 1)))))) ∧ (¬ bI (isW tx n wWin p) = nI 0 → (pK S21 1 = 7 ∧ (wpX8_readWindow S21 1 (cStep Q r (nI (P 1)))))))) ∧ (¬ bI (isW tx n wCnt p) = nI 0 → (pK S21 1 = 7 ∧ (wpX8_readCounts S21 1 (cStep Q r (nI (P 1))))))))))) ∧ (P 1 = 8 → (pK S 1 = 7 ∧ (wpX8_fail S 1 (nI 4) (fun r59 S60 => ((r59 = nI 0 ∨ r59 = nI 1) ∧ (Q r59 S60))))))) := fun hk4 => by
        refine ⟨fun z8 => ⟨hK, q_next hc hx hT.2.1 (eT_le hp).2 (fun S2 hf2 hT2 => ?_)⟩, fun z8 => ⟨hK, w_cfail hc hT (fun S' h => ⟨Or.inl rfl, fE S' _ _ ?_ (xE_t hx0 (xE_e (A := []) (eF_c h) (fun a ha => (nomatch ha))))⟩)⟩⟩
        · have hkf : kF [] S S2 := kF_tk hf2
          have R2 : cRE S2 tx n N (P 0) pb (eT tx n p) := cRE_k hR hkf (fun a ha => (nomatch ha)) hT2 (eT_le hp).2
          have hI2 : cPI S2 pb rw P := cPI_x (xK_k hkf (fun a ha => (nomatch ha))).1 hI
          have hL2 : cLp S0 S2 M tx n N pb rw (eT tx n p) P := ⟨xK_t hx0 (xK_k hkf (fun a ha => (nomatch ha))), R2, hI2, ht⟩
          have hK2 := R2.1.2.2.2.2.2.2.2.2.2.2.2.2.2.1
          have hb := blk_up (t := rKd tx n p) ht.2.2.2
          have hN2 : 85 ≤ pN S2 := by have := hI2.2.2.2.1; omega
          have hpb2 : pb < pN S2 := hI2.2.2.2.1
          have R3 : cRE S2 tx n N (up P (9 + 20 * P 1) (rKd tx n p) 0) pb (eT tx n p) := by rw [up_n _ _ (by omega)]; exact R2
          cases hC : isW tx n wCnt p
          · refine ⟨fun _ => ?_, fun q => absurd rfl q⟩
            cases hWn : isW tx n wWin p
            · refine ⟨fun _ => ⟨hK2, ?_⟩, fun q => absurd rfl q⟩
              have ek : rKd tx n p = if isW tx n wLes p = true then 2 else if isW tx n wDif p = true then 3 else 4 := by
                unfold rKd
                rw [hC, hWn]
                rfl
              have ek2 : rKd tx n p = 2 ∨ rKd tx n p = 3 := by
                rw [ek] at hk4 ⊢
                by_cases e : isW tx n wLes p = true
                · rw [if_pos e]; exact Or.inl rfl
                · rw [if_neg e] at hk4 ⊢
                  by_cases e2 : isW tx n wDif p = true
                  · rw [if_pos e2]; exact Or.inr rfl
                  · rw [if_neg e2] at hk4; omega
              have ex : bI (isW tx n wLes p) = bI (decide (rKd tx n p = 2)) := by
                cases hLs : isW tx n wLes p
                · rw [hLs] at ek
                  have : rKd tx n p ≠ 2 := by
                    rw [ek, if_neg (by decide)]
                    split <;> decide
                  rw [decide_eq_false this]
                · rw [hLs] at ek
                  rw [decide_eq_true (show rKd tx n p = 2 from ek)]
              have eb : rBody tx n N (rKd tx n p) (9 + 20 * P 1) (up P (9 + 20 * P 1) (rKd tx n p)) (eT tx n p) = rCmp tx n N (9 + 20 * P 1) (up P (9 + 20 * P 1) (rKd tx n p)) (eT tx n p) := by
                unfold rBody
                rw [if_neg (by omega), if_neg (by omega)]
              exact q_conBody (W := fun Qo => wpX8_readComparison S2 1 (bI (isW tx n wLes p)) Qo) hM hM1 hM2 hL2 hk4 (by omega) (fun Qo hE2 hQ2 => q_readCmp R3 hN2 hpb2 hb ek2 ex (fun S' c' e h => hE2 S' c' e (eb.trans h)) (fun S' P' p' h => hQ2 S' P' p' (eb.trans h))) fE fQ
            · refine ⟨fun q => absurd q (by rw [bI_0]; decide), fun _ => ⟨hK2, ?_⟩⟩
              have ek : rKd tx n p = 1 := by
                unfold rKd
                rw [hC, hWn]
                rfl
              rw [ek] at hb
              have eb : rBody tx n N (rKd tx n p) (9 + 20 * P 1) (up P (9 + 20 * P 1) (rKd tx n p)) (eT tx n p) = rWin tx n N (9 + 20 * P 1) (up P (9 + 20 * P 1) 1) (eT tx n p) := by
                rw [ek]
                rfl
              exact q_conBody (W := fun Qo => wpX8_readWindow S2 1 Qo) hM hM1 hM2 hL2 hk4 (by omega) (fun Qo hE2 hQ2 => q_readWin (by rw [ek] at R3; exact R3) hN2 hpb2 hb (fun S' c' e h => hE2 S' c' e (eb.trans h)) (fun S' P' p' h => by
                have := hQ2 S' P' p' (eb.trans h)
                rw [ek] at this
                exact this)) fE fQ
          · refine ⟨fun q => absurd q (by rw [bI_0]; decide), fun _ => ⟨hK2, ?_⟩⟩
            have ek : rKd tx n p = 0 := by
              unfold rKd
              rw [hC]
              rfl
            rw [ek] at hb
            have eb : rBody tx n N (rKd tx n p) (9 + 20 * P 1) (up P (9 + 20 * P 1) (rKd tx n p)) (eT tx n p) = rCnts tx n N (9 + 20 * P 1) (up P (9 + 20 * P 1) 0) (eT tx n p) := by
              rw [ek]
              rfl
            exact q_conBody (W := fun Qo => wpX8_readCounts S2 1 Qo) hM hM1 hM2 hL2 hk4 (by omega) (fun Qo hE2 hQ2 => q_readCnts (by rw [ek] at R3; exact R3) hN2 hpb2 hb (fun S' c' e h => hE2 S' c' e (eb.trans h)) (fun S' P' p' h => by
              have := hQ2 S' P' p' (eb.trans h)
              rw [ek] at this
              exact this)) fE fQ
        · unfold rCon
          rw [if_neg (by omega), if_pos z8]
      have k1 : isW tx n wCnt p = true → rKd tx n p < 4 := fun q => by
        unfold rKd
        rw [if_pos q]
        decide
      have k2 : isW tx n wWin p = true → rKd tx n p < 4 := fun q => by
        unfold rKd
        rw [if_pos q]
        split <;> decide
      have k3 : isW tx n wLes p = true → rKd tx n p < 4 := fun q => by
        unfold rKd
        rw [if_pos q]
        split
        · decide
        · split <;> decide
      have k4 : isW tx n wDif p = true → rKd tx n p < 4 := fun q => by
        unfold rKd
        rw [if_pos q]
        split
        · decide
        · split
          · decide
          · split <;> decide
      refine q_cisW hc hx hT hp wV_cnt ⟨hK, q_cisW hc hx hT hp wV_win ⟨hK, q_cisW hc hx hT hp wV_les ?_⟩⟩
      refine ⟨fun q => frag (k1 ?_), fun q1 => ⟨fun q => frag (k2 ?_), fun q2 => ⟨fun q => frag (k3 ?_), fun q3 => ⟨hK, q_cisW hc hx hT hp wV_dif ⟨fun q => frag (k4 ?_), fun q4 => ⟨hK, w_cfail hc hT (fun S' h => ⟨Or.inl rfl, fE S' _ _ ?_ (xE_t hx0 (xE_e (A := []) (eF_c h) (fun a ha => (nomatch ha))))⟩)⟩⟩⟩⟩⟩⟩
      · rw [bI_0, Bool.not_eq_false] at q
        exact q
      · rw [bI_0, Bool.not_eq_false] at q
        exact q
      · rw [bI_0, Bool.not_eq_false] at q
        exact q
      · rw [bI_0, Bool.not_eq_false] at q
        exact q
      · rw [bI_0] at q1 q2 q3 q4
        have ek : rKd tx n p = 4 := by
          unfold rKd
          rw [q1, q2, q3, q4]
          rfl
        unfold rCon
        rw [if_pos ek]

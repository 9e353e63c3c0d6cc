/-! SUPPORT: the reference's watchers -/
theorem pow_inj5 : ∀ a, a < 5 → ∀ b, b < 5 → 2 ^ a = 2 ^ b → a = b := by decide +kernel
theorem watG_1 {κ : Kon} {d : Nat → Nat} {x v i : Nat} (hne : κ.2.1 (i / 5) ≠ x) {a : Nat → Nat} (hs : sups κ d (κ.2.1 (i / 5)) (i % 5)) (ha : Lea κ (ud d (κ.2.1 (i / 5)) (2 ^ (i % 5))) a) (hx : inM κ x = true) : watG κ d x v i = if a x = v then 1 else 0 := by
  unfold watG
  rw [if_neg hne]
  by_cases e : a x = v
  · rw [if_pos e, if_pos (dB_t.mpr ⟨hs, a, ha, e⟩)]
  · rw [if_neg e, if_neg]
    rw [Bool.not_eq_true]
    refine dB_f.mpr (fun ⟨_, b, hb, eb⟩ => e ?_)
    obtain ⟨k, hk, ek⟩ := inM_t.mp hx
    have h1 := Lea_uq ha hb k hk
    rw [ek] at h1
    rw [h1, eb]
theorem watG_0 {κ : Kon} {d : Nat → Nat} {x v i : Nat} (hs : ¬ sups κ d (κ.2.1 (i / 5)) (i % 5)) : watG κ d x v i = 0 := by
  unfold watG
  split
  · rfl
  · rw [if_neg]
    rw [Bool.not_eq_true]
    exact dB_f.mpr (fun z => hs z.1)
theorem watG_s {κ : Kon} {d : Nat → Nat} {x v i : Nat} (h : κ.2.1 (i / 5) = x) : watG κ d x v i = 0 := by
  unfold watG
  rw [if_pos h]
theorem q_mwat {S : PS} {P d : Nat → Nat} {x v : Nat} {Q : Int32 → PS → Prop} (hM : MShape S) (hp : rP S P) (hw : Pwf P) (hd : rD S 90 d) (hx : x < P 0) (hv : v < 5) (hQ : ∀ S', fr [96, 100] S S' → Q (nI (sN (watC P d x v) (P 1))) S') : ∃ n9 : Nat, wpX12_watchers_b39 Q n9 S 87 (nI x) (nI v) (nI 0) (nI 0) := by
  have hP0 := hw.1
  have hP1 := hw.2.1
  have cloop : ∀ r c S', c + r = P 1 → fr [96, 100] S S' → wpX12_watchers_b39 Q (r + 1) S' 87 (nI x) (nI v) (nI (sN (watC P d x v) c)) (nI c) := by
    intro r
    induction r with
    | zero =>
      intro c S' hc hf
      have hM' := hf.M hM
      have hp' := hf.P (by decide) hp
      have hle : P 1 ≤ c := by omega
      have e : c = P 1 := by omega
      have h1 := hQ S' hf
      rw [← e] at h1
      simp (disch := omega) only [wpX12_watchers_b39, c_0, c_1, c_2, c_3, c_4, c_5, c_6, c_7, c_8, c_9, c_10, c_11, c_12, c_14, c_16, c_19, c_20, c_24, c_31, c_32, c_35, c_48, c_57, c_59, c_63, c_97, c_100, c_122, c_127, c_169, c_255, c_600, c_1000, c_32767, Nat.le_refl, Nat.zero_le, Nat.add_zero, Nat.lt_irrefl, eq_self, o_sub, Nat.sub_zero, Nat.not_lt_zero, ↓ng_d, o_le, o_lt, o_eq, o_add, o_mul, o_cl, o_inT, o_and, n_31, o_shr, o_shl1, o_or, m_lt, m_ge, m_le, m_gt, m_ne, m_ne2, Option.some.injEq, exists_eq_left', true_and, and_true, true_implies, false_implies, implies_true, not_true_eq_false, not_false_eq_true, bI_0, bI_1, bI_01, b01, true_or, or_true, Nat.reduceEqDiff, Bool.not_eq_false, Bool.not_eq_true, Bool.true_eq_false, Bool.false_eq_true, msk hM', msr_p hM', msk_p hM', msl_p hM', hp' 1 (by decide), hle]
      exact h1
    | succ r ih =>
      intro c S' hcr hf
      have hM' := hf.M hM
      have hp' := hf.P (by decide) hp
      have hle : ¬ P 1 ≤ c := by omega
      have hc : c < P 1 := by omega
      have hc8 : c < 8 := by omega
      have hκ := cK_wf (hw.2.2.2.2.2 c hc) hw.1
      have hn7 := hκ.1
      have hwl := watC_le hw d x v c (by omega)
      have hn := ih (c + 1)
      generalize r + 1 = fu at hn ⊢
      have nxt : ∀ S2, fr [96, 100] S S2 → watC P d x v c = 0 → wpX12_watchers_b39 Q fu S2 87 (nI x) (nI v) (nI (sN (watC P d x v) c)) (nI (c + 1)) := fun S2 hf2 h0 => by
        have h1 := hn S2 (by omega) hf2
        have e : sN (watC P d x v) (c + 1) = sN (watC P d x v) c := by
          show sN (watC P d x v) c + watC P d x v c = _
          rw [h0]; rfl
        rw [e] at h1
        exact h1
      have iloop : ∀ q i S2, i + q = 5 * (cK P c).1 → fr [96, 100] S S2 → (inM (cK P c) x = true ∨ i = 0) → wpX12_watchers_b53 (wpX12_watchers_b39 Q fu) Q (q + 1) S2 87 (nI x) (nI v) (nI (sN (watC P d x v) c + sN (watG (cK P c) d x v) i)) (nI c) (nI i) := by
        intro q
        induction q with
        | zero =>
          intro i S2 hi hf2 hin
          have hM2 := hf2.M hM
          have hp2 := hf2.P (by decide) hp
          have hn0 : 0 < (cK P c).1 := (hw.2.2.2.2.2 c hc).2.1
          have hin' : inM (cK P c) x = true := hin.resolve_right (by omega)
          have e : sN (watC P d x v) c + sN (watG (cK P c) d x v) i = sN (watC P d x v) (c + 1) := by
            show _ = sN (watC P d x v) c + watC P d x v c
            unfold watC
            rw [if_pos hin', show i = 5 * (cK P c).1 by omega]
          have h1 := hn S2 (by omega) hf2
          rw [← e] at h1
          have h2 : ∀ Q2 : Int32 → PS → Prop, Q2 (nI (cK P c).1) S2 → wpX12_of S2 87 (nI c) (nI 1) Q2 := fun Q2 hq => by rw [w_of hM2 hp2 (by omega)]; exact hq
          unfold wpX12_watchers_b53
          refine ⟨msk hM2, ?_⟩
          apply h2
          rw [show (5 : Int32) = nI 5 from rfl, show (1 : Int32) = nI 1 from rfl, o_mul, o_add, o_le (by omega) (by omega)]
          exact ⟨fun _ => h1, fun z => absurd (by omega) z⟩
        | succ q ihq =>
          intro i S2 hi hf2 hin
          have hM2 := hf2.M hM
          have hp2 := hf2.P (by decide) hp
          have hd2 := hf2.D (by decide) hd
          have hik : i / 5 < (cK P c).1 := by omega
          have hmk := hκ.2.1 (i / 5) hik
          have hwg := watG_le (cK P c) d x v i
          have hstep : sN (watG (cK P c) d x v) (i + 1) = sN (watG (cK P c) d x v) i + watG (cK P c) d x v i := rfl
          have hn2 := ihq (i + 1)
          generalize q + 1 = fq at hn2 ⊢
          have h2 : ∀ Q2 : Int32 → PS → Prop, Q2 (nI (cK P c).1) S2 → wpX12_of S2 87 (nI c) (nI 1) Q2 := fun Q2 hq => by rw [w_of hM2 hp2 (by omega)]; exact hq
          have h3 : ∀ Q2 : Int32 → PS → Prop, Q2 (nI ((cK P c).2.1 (i / 5))) S2 → wpX12_of S2 87 (nI c) (nI (2 + i / 5)) Q2 := fun Q2 hq => by rw [w_of hM2 hp2 (by omega)]; exact hq
          unfold wpX12_watchers_b53
          refine ⟨msk hM2, ?_⟩
          apply h2
          rw [show (5 : Int32) = nI 5 from rfl, show (1 : Int32) = nI 1 from rfl, show (2 : Int32) = nI 2 from rfl, show (0 : Int32) = nI 0 from rfl, o_mul, o_le (by omega) (by omega), dv5 i (by omega), o_mul, o_add, o_add, o_add, o_sub (by omega), show i - i / 5 * 5 = i % 5 by omega]
          refine ⟨fun z => absurd z (by omega), fun _ => ⟨msk hM2, ?_⟩⟩
          refine q_isAmong hM2 hp2 hw hc (fun y hy ey hin2 => ?_) (fun hno => ?_)
          · have exy : x = y := Eq.mp (o_eq (by omega) (by omega)) ey
            subst exy
            refine ⟨fun z => absurd z (by decide), fun _ => ⟨msk hM2, ?_⟩⟩
            apply h3
            rw [o_eq (by omega) (by omega)]
            refine ⟨fun z => ?_, fun z => ⟨msk hM2, ?_⟩⟩
            · have h5 := hn2 S2 (by omega) hf2 (Or.inl hin2)
              rw [hstep, watG_s z] at h5
              exact h5
            · refine q_supNow hM2 hp2 hw hd2 hc hmk (by omega) (fun S3 hf3 => ?_)
              have hf4 : fr [96, 100] S S3 := fr_t hf2 (fr_m (by decide) hf3)
              have hM4 := hf4.M hM
              cases hb : dB (sups (cK P c) d ((cK P c).2.1 (i / 5)) (i % 5))
              · have h5 := hn2 S3 (by omega) hf4 (Or.inl hin2)
                rw [hstep, watG_0 (dB_f.mp hb)] at h5
                exact ⟨fun z => absurd rfl z, fun _ => h5⟩
              · have hs := dB_t.mp hb
                refine ⟨fun _ => ⟨msk hM4, ?_⟩, fun z => absurd z (by decide)⟩
                refine q_laysLeast hM4 (hf4.P (by decide) hp) hw (hf4.D (by decide) hd) hc hmk (by omega) hs (fun S5 e a hf5 he hla hfix => ?_)
                have hf6 := fr_t hf4 hf5
                have hM6 := hf6.M hM
                obtain ⟨k, hk, ek⟩ := inM_t.mp hin2
                have h6 := hfix k hk
                rw [ek] at h6
                have hlt := dm_pow_lt _ h6.1
                have hlt2 := dm_pow_lt _ hv
                have hex : pI S5 100 x = nI (2 ^ a x) := by rw [he.2.2.1 x (by omega), h6.2]
                have h7 := hn2 S5 (by omega) hf6 (Or.inl hin2)
                rw [hstep, watG_1 z hs hla hin2] at h7
                refine ⟨msk hM6, 100, msr_least hM6, msk_least hM6, ?_, ?_⟩
                · rw [msl_least hM6, o_inT (by omega) (by omega)]; trivial
                · rw [show (31 : Int32) = nI 31 from rfl, o_and31 (by omega), o_shl1 (by omega), o_cl (by omega), hex, o_eq (by omega) (by omega)]
                  refine ⟨fun z2 => ?_, fun z2 => ?_⟩
                  · rw [if_neg (fun q2 => z2 (by rw [q2]))] at h7
                    rw [o_add, Nat.add_assoc]
                    exact h7
                  · rw [if_pos (pow_inj5 _ h6.1 _ hv z2)] at h7
                    rw [o_add, Nat.add_assoc]
                    exact h7
          · have hin0 : inM (cK P c) x = false := hno x (by omega) rfl
            have hi0 : i = 0 := by
              rcases hin with h | h
              · rw [hin0] at h; cases h
              · exact h
            refine ⟨fun _ => ?_, fun z => absurd rfl z⟩
            have h5 := nxt S2 hf2 (by unfold watC; rw [hin0]; rfl)
            rw [hi0]
            exact h5
      have h1 := iloop (5 * (cK P c).1) 0 S' (by omega) hf (Or.inr rfl)
      have h2 : ∃ n9 : Nat, wpX12_watchers_b53 (wpX12_watchers_b39 Q fu) Q n9 S' 87 (nI x) (nI v) (nI (sN (watC P d x v) c)) (nI c) (nI 0) := ⟨_, h1⟩
      simp (disch := omega) only [wpX12_watchers_b39, c_0, c_1, c_2, c_3, c_4, c_5, c_6, c_7, c_8, c_9, c_10, c_11, c_12, c_14, c_16, c_19, c_20, c_24, c_31, c_32, c_35, c_48, c_57, c_59, c_63, c_97, c_100, c_122, c_127, c_169, c_255, c_600, c_1000, c_32767, Nat.le_refl, Nat.zero_le, Nat.add_zero, Nat.lt_irrefl, eq_self, o_sub, Nat.sub_zero, Nat.not_lt_zero, ↓ng_d, o_le, o_lt, o_eq, o_add, o_mul, o_cl, o_inT, o_and, n_31, o_shr, o_shl1, o_or, m_lt, m_ge, m_le, m_gt, m_ne, m_ne2, Option.some.injEq, exists_eq_left', true_and, and_true, true_implies, false_implies, implies_true, not_true_eq_false, not_false_eq_true, bI_0, bI_1, bI_01, b01, true_or, or_true, Nat.reduceEqDiff, Bool.not_eq_false, Bool.not_eq_true, Bool.true_eq_false, Bool.false_eq_true, msk hM', msr_p hM', msk_p hM', msl_p hM', hp' 1 (by decide), hle]
      exact h2
  exact ⟨_, cloop (P 1) 0 S (Nat.zero_add _) (fr_r _ _)⟩
theorem m_watchers {S : PS} {P d : Nat → Nat} {x v : Int32} {Q : Int32 → PS → Prop} (hM : MShape S) (hp : rP S P) (hw : Pwf P) (hd : rD S 90 d)
    (hQ : ∀ S' y w, mf [96, 100] [0] S S' → pI S' 87 0 = nI 0 → y < P 0 → x = nI y → w < 5 → v = nI w → Q (nI (sN (watC P d y w) (P 1))) S')
    (hX : (x < nI 0 ∨ nI (P 0) ≤ x) → ∀ S', mf [96, 100] [0] S S' → pI S' 87 0 = nI 1 → Q (nI 0) S')
    (hX2 : ∀ S' y, mf [96, 100] [0] S S' → pI S' 87 0 = nI 2 → y < P 0 → x = nI y → (v < nI 0 ∨ nI 5 ≤ v) → Q (nI 0) S') : wpX12_watchers S 87 x v Q := by
  have hP0 := hw.1
  have hf : mf [96, 100] [0] S (sI S 87 0 (nI 0)) := mf_sI _ _ (by decide)
  have h0 : pI (sI S 87 0 (nI 0)) 87 0 = nI 0 := by rw [pI_sI, if_pos ⟨rfl, rfl⟩]
  have hM1 := hf.M hM
  have hp1 := hf.P (by decide) hp
  have hd1 := hf.D (by decide) hd
  unfold wpX12_watchers
  rw [show ((0 : Int32)) = nI 0 from rfl]
  refine ⟨msk hM, ?_⟩
  rcases i_split x (N := P 0) (by omega) with ⟨y, hy, rfl⟩ | hx
  · rw [w_mvar hM1 hp1 hw hy]
    refine ⟨msk hM1, ?_⟩
    rw [w_may1 hM1 h0]
    refine ⟨fun z => absurd z (by decide), fun _ => ?_⟩
    rcases i_split v (N := 5) (by decide) with ⟨w, hw5, rfl⟩ | hv
    · rw [w_in4n hw5]
      refine ⟨msk hM1, ?_⟩
      rw [w_may1 hM1 h0]
      refine ⟨fun _ => ?_, fun z => absurd z (by decide)⟩
      exact q_mwat hM1 hp1 hw hd1 hy hw5 (fun S' hf2 => hQ S' y w (mf_frs hf hf2 (by decide)) (by rw [hf2.I (by decide)]; exact h0) hy rfl hw5 rfl)
    · rw [w_in40n hv]
      refine ⟨msk hM1, ?_⟩
      rw [show ((2 : Int32)) = nI 2 from rfl, w_may0 hM1 (by decide) (by decide) h0]
      have h1 := hX2 (sI (sI S 87 0 (nI 0)) 87 0 (nI 2)) y (mf_t hf (mf_sI _ _ (by decide))) (by rw [pI_sI, if_pos ⟨rfl, rfl⟩]) hy rfl hv
      exact ⟨fun z => absurd rfl z, fun _ => h1⟩
  · rw [w_mvar0 hM1 hp1 hw hx]
    refine ⟨msk hM1, ?_⟩
    rw [show ((1 : Int32)) = nI 1 from rfl, w_may0 hM1 (by decide) (by decide) h0]
    have h1 := hX hx (sI (sI S 87 0 (nI 0)) 87 0 (nI 1)) (mf_t hf (mf_sI _ _ (by decide))) (by rw [pI_sI, if_pos ⟨rfl, rfl⟩])
    exact ⟨fun _ => h1, fun z => absurd rfl z⟩

/-! THE CLASS IS MADE: a trail -/
theorem q_tInit {S : PS} {T : Nat} {Q : PS → Prop} (hT : pN S = T + 1) (hK : pK S T = 8)
    (hQ : ∀ S', pN S' = T + 38 → oF [T] [T] (T + 1) S S' → TSh S' T → pI S' T 2 = nI 0 → pI S' T 3 = nI 0 → pI S' T 4 = nI 0 → pJ S' T 5 = 0 → Q S') : wpX9_init S T Q := by
  have loop : ∀ r i S', 35 - i = r → i ≤ 35 → pN S' = T + 3 + i → oF [T] [T] (T + 1) S S' → pR S' T 0 = some (T + 1) → pR S' T 1 = some (T + 2) → pK S' (T + 1) = 17 → pL S' (T + 1) = 35 → pK S' (T + 2) = 14 → pL S' (T + 2) = 7 → (∀ j, j < i → pR S' (T + 1) j = some (T + 3 + j) ∧ pK S' (T + 3 + j) = 3) → pI S' T 2 = nI 0 → pI S' T 3 = nI 0 → pI S' T 4 = nI 0 → pJ S' T 5 = 0 → wpX9_init_b43 Q (r + 1) S' T (nI i) := by
    intro r
    induction r with
    | zero =>
      intro i S' hr hi hN ho r0 r1 k1 l1 k2 l2 hj i2 i3 i4 j5
      have hKT : pK S' T = 8 := by rw [(ho.2.1 T (by omega)).1]; exact hK
      unfold wpX9_init_b43
      refine ⟨hKT, T + 1, r0, k1, ?_⟩
      rw [l1, o_le (by decide) (by omega)]
      exact ⟨fun _ => hQ S' (by omega) ho ⟨hKT, r0, r1, k1, l1, k2, l2, fun j hj35 => hj j (by omega)⟩ i2 i3 i4 j5, fun z => absurd (show 35 ≤ i by omega) z⟩
    | succ r ih =>
      intro i S' hr hi hN ho r0 r1 k1 l1 k2 l2 hj i2 i3 i4 j5
      have hKT : pK S' T = 8 := by rw [(ho.2.1 T (by omega)).1]; exact hK
      have hnx := ih (i + 1)
      generalize r + 1 = fu at hnx ⊢
      unfold wpX9_init_b43 wpX3_init
      refine ⟨hKT, T + 1, r0, k1, ?_⟩
      rw [l1, o_le (by decide) (by omega), c_1, o_add]
      refine ⟨fun z => absurd z (by omega), fun _ => ?_⟩
      intro a S5 ea e5
      rw [hN] at ea
      rw [ea]
      have hK5 : pK S5 (T + 3 + i) = 3 := by rw [e5, pK_sNew, hN, if_pos rfl]
      refine ⟨hK5, ?_⟩
      generalize hS6 : sI (sJ (sJ (sI (sI (sI (sI S5 (T + 3 + i) 0 0) (T + 3 + i) 1 0) (T + 3 + i) 2 0) (T + 3 + i) 3 0) (T + 3 + i) 4 0) (T + 3 + i) 5 (-1)) (T + 3 + i) 6 0 = S6
      have m : T + 3 + i ∈ [T + 3 + i] := List.mem_singleton.mpr rfl
      have f6 : fr [T + 3 + i] S5 S6 := by
        rw [← hS6]
        exact fr_t (fr_t (fr_t (fr_t (fr_t (fr_t (fr_sI _ _ _ m) (fr_sI _ _ _ m)) (fr_sI _ _ _ m)) (fr_sI _ _ _ m)) (fr_sJ _ _ _ m)) (fr_sJ _ _ _ m)) (fr_sI _ _ _ m)
      have eK : ∀ b, pK S6 b = if b = T + 3 + i then 3 else pK S' b := fun b => by rw [f6.K, e5, pK_sNew, hN]
      have eL : ∀ b, b ≠ T + 3 + i → pL S6 b = pL S' b := fun b hb => by rw [f6.L, e5, pL_sNew, hN, if_neg hb]
      have eR : ∀ b k, b ≠ T + 3 + i → pR S6 b k = pR S' b k := fun b k hb => by rw [f6.R, e5, pR_sNew, hN, if_neg hb]
      have nb : ∀ b, b ≠ T + 3 + i → b ∉ [T + 3 + i] := fun b hb q => hb (List.mem_singleton.mp q)
      have eI : ∀ b k, b ≠ T + 3 + i → pI S6 b k = pI S' b k := fun b k hb => by rw [f6.I (nb b hb), e5, pI_sNew, hN, if_neg hb]
      have eJ : ∀ b k, b ≠ T + 3 + i → pJ S6 b k = pJ S' b k := fun b k hb => by rw [f6.J (nb b hb), e5, pJ_sNew, hN, if_neg hb]
      rw [eL (T + 1) (by omega), l1, o_inT (by omega) (by omega), o_cl (by omega)]
      refine ⟨by rw [eK, if_neg (by omega)]; exact k1, trivial, by rw [eK, if_pos rfl], ?_⟩
      have oN : oF [T] [T] (T + 1) S' (sR S6 (T + 1) i (some (T + 3 + i))) := ⟨by rw [pN_sR, f6.N, e5, pN_sNew]; omega, fun b hb => ⟨by rw [pK_sR, eK, if_neg (by omega)], by rw [pL_sR, eL b (by omega)]⟩, fun b hb _ k => by rw [pR_sR, if_neg (by omega), eR b k (by omega)], fun b hb _ k => ⟨by rw [pI_sR, eI b k (by omega)], by rw [pJ_sR, eJ b k (by omega)]⟩⟩
      refine hnx _ (by omega) (by omega) ?_ (oF_t ho oN) ?_ ?_ ?_ ?_ ?_ ?_ (fun j hj1 => ⟨?_, ?_⟩) ?_ ?_ ?_ ?_
      · rw [pN_sR, f6.N, e5, pN_sNew, hN]
        omega
      · rw [pR_sR, if_neg (by omega), eR _ _ (by omega)]
        exact r0
      · rw [pR_sR, if_neg (by omega), eR _ _ (by omega)]
        exact r1
      · rw [pK_sR, eK, if_neg (by omega)]
        exact k1
      · rw [pL_sR, eL _ (by omega)]
        exact l1
      · rw [pK_sR, eK, if_neg (by omega)]
        exact k2
      · rw [pL_sR, eL _ (by omega)]
        exact l2
      · rw [pR_sR]
        by_cases e : j = i
        · rw [if_pos ⟨rfl, e⟩, e]
        · rw [if_neg (fun q => e q.2), eR _ _ (by omega)]
          exact (hj j (by omega)).1
      · rw [pK_sR, eK]
        by_cases e : j = i
        · rw [if_pos (by omega)]
        · rw [if_neg (by omega)]
          exact (hj j (by omega)).2
      · rw [pI_sR, eI _ _ (by omega)]
        exact i2
      · rw [pI_sR, eI _ _ (by omega)]
        exact i3
      · rw [pI_sR, eI _ _ (by omega)]
        exact i4
      · rw [pJ_sR, eJ _ _ (by omega)]
        exact j5
  unfold wpX9_init
  intro a1 S2 ea e2
  rw [hT] at ea
  rw [ea]
  have hK2 : pK S2 T = 8 := by rw [e2, pK_sNew, hT, if_neg (by omega)]; exact hK
  refine ⟨hK2, ?_⟩
  intro a3 S3 ea3 e3
  have n2 : pN S2 = T + 2 := by rw [e2, pN_sNew, hT]
  rw [pN_sR, n2] at ea3
  rw [ea3]
  have k3 : ∀ b, pK S3 b = if b = T + 2 then 14 else pK S2 b := fun b => by rw [e3, pK_sNew, pN_sR, n2, pK_sR]
  have l3 : ∀ b, pL S3 b = if b = T + 2 then 7 else pL S2 b := fun b => by rw [e3, pL_sNew, pN_sR, n2, pL_sR]
  have r3 : ∀ b k, pR S3 b k = if b = T + 2 then none else if b = T ∧ k = 0 then some (T + 1) else pR S2 b k := fun b k => by rw [e3, pR_sNew, pN_sR, n2, pR_sR]
  have hK3 : pK S3 T = 8 := by rw [k3, if_neg (by omega)]; exact hK2
  have n3 : pN S3 = T + 3 := by rw [e3, pN_sNew, pN_sR, n2]
  refine ⟨hK3, ?_⟩
  rw [c_0]
  generalize hS4 : sJ (sI (sI (sI (sR S3 T 1 (some (T + 2))) T 2 (nI 0)) T 3 (nI 0)) T 4 (nI 0)) T 5 0 = S4
  have m : T ∈ [T] := List.mem_singleton.mpr rfl
  have f4 : fr [T] (sR S3 T 1 (some (T + 2))) S4 := by
    rw [← hS4]
    exact fr_t (fr_t (fr_t (fr_sI _ _ _ m) (fr_sI _ _ _ m)) (fr_sI _ _ _ m)) (fr_sJ _ _ _ m)
  have nb : ∀ b, b ≠ T → b ∉ [T] := fun b hb q => hb (List.mem_singleton.mp q)
  refine loop 35 0 S4 rfl (by decide) ?_ ⟨?_, fun b hb => ⟨?_, ?_⟩, fun b hb hb2 k => ?_, fun b hb hb2 k => ⟨?_, ?_⟩⟩ ?_ ?_ ?_ ?_ ?_ ?_ (fun j hj => absurd hj (Nat.not_lt_zero _)) ?_ ?_ ?_ ?_
  · rw [f4.N, pN_sR]
    exact n3
  · rw [f4.N, pN_sR]
    omega
  · rw [f4.K, pK_sR, k3, if_neg (by omega), e2, pK_sNew, hT, if_neg (by omega)]
  · rw [f4.L, pL_sR, l3, if_neg (by omega), e2, pL_sNew, hT, if_neg (by omega)]
  · have hbT : b ≠ T := fun q => hb2 (by rw [q]; exact m)
    rw [f4.R, pR_sR, if_neg (fun q => hbT q.1), r3, if_neg (by omega), if_neg (fun q => hbT q.1), e2, pR_sNew, hT, if_neg (by omega)]
  · have hbT : b ≠ T := fun q => hb2 (by rw [q]; exact m)
    rw [f4.I (nb b hbT), pI_sR, e3, pI_sNew, pN_sR, n2, if_neg (by omega), pI_sR, e2, pI_sNew, hT, if_neg (by omega)]
  · have hbT : b ≠ T := fun q => hb2 (by rw [q]; exact m)
    rw [f4.J (nb b hbT), pJ_sR, e3, pJ_sNew, pN_sR, n2, if_neg (by omega), pJ_sR, e2, pJ_sNew, hT, if_neg (by omega)]
  · rw [f4.R, pR_sR, if_neg (by omega), r3, if_neg (by omega), if_pos ⟨rfl, rfl⟩]
  · rw [f4.R, pR_sR, if_pos ⟨rfl, rfl⟩]
  · rw [f4.K, pK_sR, k3, if_neg (by omega), e2, pK_sNew, hT, if_pos rfl]
  · rw [f4.L, pL_sR, l3, if_neg (by omega), e2, pL_sNew, hT, if_pos rfl]
  · rw [f4.K, pK_sR, k3, if_pos rfl]
  · rw [f4.L, pL_sR, l3, if_pos rfl]
  · rw [← hS4, pI_sJ, pI_sI, if_neg (fun q => absurd q.2 (by decide)), pI_sI, if_neg (fun q => absurd q.2 (by decide)), pI_sI, if_pos ⟨rfl, rfl⟩]
  · rw [← hS4, pI_sJ, pI_sI, if_neg (fun q => absurd q.2 (by decide)), pI_sI, if_pos ⟨rfl, rfl⟩]
  · rw [← hS4, pI_sJ, pI_sI, if_pos ⟨rfl, rfl⟩]
  · rw [← hS4, pJ_sJ, if_pos ⟨rfl, rfl⟩]

/-! THE CLASS: assume, takeBack, groundDomains, decisionAt -/
theorem asS_sum {x v l : Nat} {σ : St} (hx : x < 7) (hd : Dwf σ.1) (hb : dsum σ.1 + σ.2.length ≤ 35) : ∀ k, k ≤ 5 → Dwf (asS x v l k σ).1 ∧ dsum (asS x v l k σ).1 + (asS x v l k σ).2.length ≤ 35 := fun k hk =>
  asS_ap (x := x) (v := v) (l := l) (σ := σ) k hk (fun τ => Dwf τ.1 ∧ dsum τ.1 + τ.2.length ≤ 35) (fun τ f h hf hbt => by
    obtain ⟨u, hu, e⟩ := hf
    subst e
    have h2 := dsum_clr h.1 hx hu hbt
    refine ⟨ud_wf h.1 (dm_clr_lt _ (h.1 x hx) _ hu), ?_⟩
    show dsum (ud τ.1 x (clr (τ.1 x) u)) + (τ.2 ++ [(x, u, ngI, l, 0)]).length ≤ 35
    rw [List.length_append, List.length_singleton]
    have := h.2
    omega) ⟨hd, hb⟩
theorem dsum_pos {d : Nat → Nat} (hd : Dwf d) {x v : Nat} (hx : x < 7) (hv : v < 5) (h : (d x).testBit v = true) : 0 < dsum d := by
  have := dsum_clr hd hx hv h
  omega
theorem q_assume {S : PS} {t N l x v : Nat} {σ : St} {Q : PS → Prop} (hs : TSh S t) (hc : cT S t N l σ) (hl : l < 7) (hx : x < N) (hv : v < 5) (hb : dsum σ.1 + σ.2.length ≤ 35)
    (hQ : ∀ S', fr ((t + 2) :: LT t) S S' → cT S' t N (l + 1) (asS x v (l + 1) 5 σ) → cX S S' t σ.2.length (asS x v (l + 1) 5 σ).2.length → pJ S' (t + 2) l = pk (sg x (2 ^ v)) → (∀ k, k ≠ l → pJ S' (t + 2) k = pJ S (t + 2) k) → Q S') : wpX9_assume S t (nI x) (nI v) Q := by
  obtain ⟨t1, t2, t3, t4, t5, t6, t7, t8, t9, t10⟩ := hc
  have hx7 : x < 7 := by omega
  have n1 : ¬ t = t + 2 := by omega
  have hS1 : ∃ S1, S1 = sI (sJ S (t + 2) l (pk (sg x (2 ^ v)))) t 4 (nI (l + 1)) := ⟨_, rfl⟩
  obtain ⟨S1, eS1⟩ := hS1
  have f01 : fr ((t + 2) :: LT t) S S1 := by
    rw [eS1]
    exact fr_t (fr_sJ _ _ _ List.mem_cons_self) (fr_sI _ _ _ (List.mem_cons_of_mem _ (LT_mem.mpr (Or.inl rfl))))
  have c1 : cT S1 t N (l + 1) σ := by
    rw [eS1]
    refine ⟨?_, ?_, ?_, ?_, t5, t6, t7, t8, by omega, fun i hi => ?_⟩
    · rw [pI_sI, if_neg (fun q => absurd q.2 (by decide))]
      exact t1
    · rw [pI_sI, if_neg (fun q => absurd q.2 (by decide))]
      exact t2
    · rw [pI_sI, if_pos ⟨rfl, rfl⟩]
    · rw [pJ_sI, pJ_sJ, if_neg (fun q => n1 q.1)]
      exact t4
    · obtain ⟨⟨g1, g2, g3, g4, g5⟩, g6⟩ := t10 i hi
      have e1 : ¬ t + 3 + i = t := by omega
      have e2 : ¬ t + 3 + i = t + 2 := by omega
      refine ⟨⟨?_, ?_, ?_, ?_, ?_⟩, g6⟩
      · rw [pI_sI, if_neg (fun q => e1 q.1)]
        exact g1
      · rw [pI_sI, if_neg (fun q => e1 q.1)]
        exact g2
      · rw [pI_sI, if_neg (fun q => e1 q.1)]
        exact g3
      · rw [pI_sI, if_neg (fun q => e1 q.1)]
        exact g4
      · rw [pJ_sI, pJ_sJ, if_neg (fun q => e2 q.1)]
        exact g5
  have hJ1 : pJ S1 (t + 2) l = pk (sg x (2 ^ v)) := by
    rw [eS1, pJ_sI, pJ_sJ, if_pos ⟨rfl, rfl⟩]
  have hJ2 : ∀ k, k ≠ l → pJ S1 (t + 2) k = pJ S (t + 2) k := fun k hk => by
    rw [eS1, pJ_sI, pJ_sJ, if_neg (fun q => hk q.2)]
  have hX1 : cX S S1 t σ.2.length σ.2.length := by
    refine ⟨fun i hi => ?_, fun i q1 q2 => absurd q2 (by omega)⟩
    rw [eS1, pJ_sI, pJ_sJ, if_neg (fun q => absurd q.1 (by omega))]
  have hs1 := f01.TS hs
  have h2n : t + 2 ∉ LT t := fun q => by
    rw [LT_mem] at q
    omega
  have loop : ∀ r u S', u + r = 5 → fr (LT t) S1 S' → cT S' t N (l + 1) (asS x v (l + 1) u σ) → cX S1 S' t σ.2.length (asS x v (l + 1) u σ).2.length → σ.2.length ≤ (asS x v (l + 1) u σ).2.length → wpX9_assume_b46 Q (r + 1) S' t (nI x) (nI v) (nI u) := by
    intro r
    induction r with
    | zero =>
      intro u S' hu hf hcu hXu hle
      have e : u = 5 := by omega
      subst e
      have h1 := hQ S' (fr_t f01 (fr_m (fun a ha => List.mem_cons_of_mem _ ha) hf)) hcu (cX_t (Nat.le_refl _) hX1 hXu) (by rw [hf.J h2n]; exact hJ1) (fun k hk => by rw [hf.J h2n]; exact hJ2 k hk)
      unfold wpX9_assume_b46
      exact ⟨fun _ => h1, fun z => absurd (by decide) z⟩
    | succ r ih =>
      intro u S' hu hf hcu hXu hle
      have hu5 : u < 5 := by omega
      have hs' := hf.TS hs1
      have hsu := asS_sum (v := v) (l := l + 1) hx7 t5 hb u (by omega)
      have hstep : asS x v (l + 1) (u + 1) σ = if (decide (u ≠ v) && ((asS x v (l + 1) u σ).1 x).testBit u) = true then (ud (asS x v (l + 1) u σ).1 x (clr ((asS x v (l + 1) u σ).1 x) u), (asS x v (l + 1) u σ).2 ++ [(x, u, ngI, l + 1, 0)]) else asS x v (l + 1) u σ := rfl
      have hn := ih (u + 1)
      generalize r + 1 = fu at hn ⊢
      rw [hstep] at hn
      unfold wpX9_assume_b46
      simp only [c_0, c_1, c_5, ↓ng_d, l_0, o_add]
      refine ⟨fun z => ?_, fun _ => ⟨fun z => ?_, fun z => ⟨hs'.1, ?_⟩⟩⟩
      · rw [o_le (by omega) (by omega)] at z
        omega
      · rw [o_eq (by omega) (by omega)] at z
        rw [if_neg (by rw [decide_eq_false (fun q => q z)]; simp)] at hn
        exact hn S' (by omega) hf hcu hXu hle
      · rw [o_eq (by omega) (by omega)] at z
        rw [hcu.2.2.2.1, w_has5 hcu.2.2.2.2.1 hx7 hu5]
        refine ⟨fun z2 => ?_, fun z2 => ⟨hs'.1, ?_⟩⟩
        · rw [bI_0] at z2
          rw [if_neg (by rw [z2]; simp)] at hn
          exact hn S' (by omega) hf hcu hXu hle
        · rw [bI_0, Bool.not_eq_false] at z2
          rw [if_pos (by rw [z2, decide_eq_true (show u ≠ v from z)]; rfl)] at hn
          have hpos := dsum_pos hsu.1 hx7 hu5 z2
          refine q_remove hs' hcu (by omega) hx hu5 pz0.symm (fun S2 hf2 hc2 hX2 => ?_)
          have e2 : ((asS x v (l + 1) u σ).2 ++ [(x, u, ngI, l + 1, 0)]).length = (asS x v (l + 1) u σ).2.length + 1 := by rw [List.length_append, List.length_singleton]
          refine hn S2 (by omega) (fr_t hf hf2) hc2 ?_ ?_
          · show cX S1 S2 t σ.2.length ((asS x v (l + 1) u σ).2 ++ [(x, u, ngI, l + 1, 0)]).length
            rw [e2]
            exact cX_t hle hXu hX2
          · show σ.2.length ≤ ((asS x v (l + 1) u σ).2 ++ [(x, u, ngI, l + 1, 0)]).length
            omega
  have h5 : ∃ n9 : Nat, wpX9_assume_b46 Q n9 S1 t (nI x) (nI v) (nI 0) := ⟨_, loop 5 0 S1 rfl (fr_r _ _) c1 ⟨fun _ _ => rfl, fun i q1 q2 => absurd q2 (by show ¬ i < σ.2.length; omega)⟩ (Nat.le_refl _)⟩
  rw [eS1] at h5
  unfold wpX9_assume
  rw [c_0, c_1, t3]
  refine ⟨hs.1, fun z => ?_, fun _ => ⟨t + 2, hs.2.2.1, hs.2.2.2.2.2.1, fun _ => ?_, fun z => ?_⟩⟩
  · rw [o_lt (by omega) (by omega)] at z
    omega
  · rw [w_pair hx7 hv, hs.2.2.2.2.2.2.1, o_cl (by omega)]
    refine ⟨hs.2.2.2.2.2.1, ?_, hs.1, ?_⟩
    · rw [o_inT (by omega) (by omega)]
      trivial
    · rw [show pI (sJ S (t + 2) l (pk (sg x (2 ^ v)))) t 4 = nI l from t3, o_add]
      exact h5
  · rw [hs.2.2.2.2.2.2.1, o_lt (by omega) (by omega)] at z
    omega
theorem clr_or : ∀ d, d < 32 → ∀ v, v < 5 → d.testBit v = true → clr d v ||| 2 ^ v = d := by decide +kernel
theorem take_snoc {T : List FT} {m : Nat} (h : m < T.length) : T.take (m + 1) = T.take m ++ [fG T m] := by
  rw [List.take_add_one]
  unfold fG
  rw [List.getD_eq_getElem?_getD, List.getElem?_eq_getElem h]
  rfl
theorem dI_take {P : Nat → Nat} {T : List FT} {m : Nat} (h : m < T.length) : dI P (T.take (m + 1)) = ud (dI P (T.take m)) (fG T m).1 (clr (dI P (T.take m) (fG T m).1) (fG T m).2.1) := by
  rw [take_snoc h, dI_app]
theorem dI_here {P : Nat → Nat} {T : List FT} {m : Nat} (hw : Pwf P) (hT : Tok P T) (h : m < T.length) : (dI P (T.take m) (fG T m).1).testBit (fG T m).2.1 = true := by
  have hs := Tok_sm hw hT m h
  rw [dI_tb hw (Tok_sm hw (Tok_take hT)) hs.1 hs.2]
  refine ⟨(hT m h).2.2.1, fun ⟨j, hj, q⟩ => ?_⟩
  rw [List.length_take] at hj
  rw [fG_take (show j < m by omega)] at q
  exact (hT m h).2.2.2.1 j (by omega) q
theorem dI_backp {P : Nat → Nat} {T : List FT} {m : Nat} (hw : Pwf P) (hT : Tok P T) (h : m < T.length) : ∀ x, x < 7 → ud (dI P (T.take (m + 1))) (fG T m).1 (dI P (T.take (m + 1)) (fG T m).1 ||| 2 ^ (fG T m).2.1) x = dI P (T.take m) x := fun x hx => by
  have hs := Tok_sm hw hT m h
  have hd := dI_wf hw (Tok_sm hw (Tok_take (m := m) hT))
  rw [dI_take h]
  by_cases e : x = (fG T m).1
  · rw [e, ud_s, ud_s, clr_or _ (hd _ hs.1) _ hs.2 (dI_here hw hT h)]
  · rw [ud_n _ _ e, ud_n _ _ e]
theorem dI_back {P : Nat → Nat} {T : List FT} {m : Nat} (hw : Pwf P) (hT : Tok P T) (h : m < T.length) : pk (dI P (T.take (m + 1))) ||| pk (sg (fG T m).1 (2 ^ (fG T m).2.1)) = pk (dI P (T.take m)) := by
  have hs := Tok_sm hw hT m h
  have hd2 := dI_wf hw (Tok_sm hw (Tok_take (m := m + 1) hT))
  rw [pq_osg hd2 (dm_pow_lt _ hs.2)]
  exact pq_cg (dI_backp hw hT h)
theorem dI_0 {P : Nat → Nat} {T : List FT} (hw : Pwf P) (hT : Tok P T) {x : Nat} (hx : P 0 ≤ x) (hx7 : x < 7) : dI P T x = 0 := by
  have hs := Tok_sm hw hT
  refine (dm_0 _ (dI_wf hw hs x hx7)).mpr (fun v hv => ?_)
  rw [← Bool.not_eq_true, dI_tb hw hs hx7 hv, hw.2.2.2.2.1 x hx hx7, Nat.zero_testBit]
  exact fun q => absurd q.1 (by decide)
theorem q_takeBack {S : PS} {t L : Nat} {P : Nat → Nat} {σ : St} {Q : Int32 → PS → Prop} (hs : TSh S t) (hw : Pwf P) (hc : cT S t (P 0) L σ) (hL : 0 < L) (hT : TI P σ)
    (hQ : ∀ S', fr [t] S S' → cT S' t (P 0) (L - 1) (dI P (tkB σ.2 L), tkB σ.2 L) → Q (nI (σ.2.length - bkN σ.2 L σ.2.length)) S') : wpX9_takeBack S t Q := by
  have hc0 := hc
  obtain ⟨t1, t2, t3, t4, t5, t6, t7, t8, t9, t10⟩ := hc
  have loop : ∀ m S', m ≤ σ.2.length → fr [t] S S' → cT S' t (P 0) L (dI P (σ.2.take m), σ.2.take m) → bkN σ.2 L m = bkN σ.2 L σ.2.length → wpX9_takeBack_b9 Q (m + 1) S' t (nI σ.2.length) (pd m) := by
    intro m
    have fin : ∀ m S', m ≤ σ.2.length → fr [t] S S' → cT S' t (P 0) L (dI P (σ.2.take m), σ.2.take m) → m = bkN σ.2 L σ.2.length → ∀ y, wpX9_takeBack_b66 Q S' t (nI σ.2.length) y := fun m S' hm hf hcm he y => by
      obtain ⟨u1, u2, u3, u4, u5, u6, u7, u8, u9, u10⟩ := hcm
      have hlen : (σ.2.take m).length = m := by rw [List.length_take]; exact Nat.min_eq_left hm
      have u2' : pI S' t 3 = nI m := by rw [u2, hlen]
      have hcm2 : cT (sI S' t 4 (nI (L - 1))) t (P 0) (L - 1) (dI P (tkB σ.2 L), tkB σ.2 L) := by
        have e3 : tkB σ.2 L = σ.2.take m := by unfold tkB; rw [← he]
        rw [e3]
        refine ⟨?_, ?_, ?_, u4, u5, u6, u7, u8, by omega, fun i hi => ?_⟩
        · rw [pI_sI, if_neg (fun q => absurd q.2 (by decide))]
          exact u1
        · rw [pI_sI, if_neg (fun q => absurd q.2 (by decide))]
          exact u2
        · rw [pI_sI, if_pos ⟨rfl, rfl⟩]
        · obtain ⟨⟨g1, g2, g3, g4, g5⟩, g6⟩ := u10 i hi
          have e1 : ¬ t + 3 + i = t := by omega
          refine ⟨⟨?_, ?_, ?_, ?_, g5⟩, g6⟩
          · rw [pI_sI, if_neg (fun q => e1 q.1)]
            exact g1
          · rw [pI_sI, if_neg (fun q => e1 q.1)]
            exact g2
          · rw [pI_sI, if_neg (fun q => e1 q.1)]
            exact g3
          · rw [pI_sI, if_neg (fun q => e1 q.1)]
            exact g4
      have h1 := hQ _ (fr_t hf (fr_sI _ _ _ (List.mem_singleton.mpr rfl))) hcm2
      unfold wpX9_takeBack_b66
      rw [c_1, u3, o_sub hL, pI_sI, if_neg (fun q => absurd q.2 (by decide)), u2', o_sub hm, he]
      exact ⟨by show pK S' t = 8; rw [hf.K]; exact hs.1, h1⟩
    induction m with
    | zero =>
      intro S' hm hf hcm he
      unfold wpX9_takeBack_b9
      exact ⟨fun _ => fin 0 S' hm hf hcm he _, fun z => absurd (show pd 0 < (0 : Int32) by decide) z⟩
    | succ m ih =>
      intro S' hm hf hcm he
      have hml : m < σ.2.length := by omega
      have hs' := hf.TS hs
      have hlen : (σ.2.take (m + 1)).length = m + 1 := by rw [List.length_take]; exact Nat.min_eq_left (by omega)
      have hlen2 : (σ.2.take m).length = m := by rw [List.length_take]; exact Nat.min_eq_left (by omega)
      have hKm := (hs'.2.2.2.2.2.2.2 m (by omega)).2
      have hcm0 := hcm
      obtain ⟨u1, u2, u3, u4, u5, u6, u7, u8, u9, u10⟩ := hcm
      have hfm := u10 m (by show m < (σ.2.take (m + 1)).length; omega)
      have eG : fG (dI P (σ.2.take (m + 1)), σ.2.take (m + 1)).2 m = fG σ.2 m := fG_take (Nat.lt_succ_self m)
      rw [eG] at hfm
      have hlv := hfm.1.2.2.2.1
      have hLm := hfm.2.2.2
      have hbk : bkN σ.2 L (m + 1) = if L ≤ (fG σ.2 m).2.2.2.1 then bkN σ.2 L m else m + 1 := rfl
      rw [hbk] at he
      have u2' : pI S' t 3 = nI (m + 1) := by rw [u2]; show nI (σ.2.take (m + 1)).length = _; rw [hlen]
      have fin2 := fin (m + 1) S' (by omega) hf hcm0
      have hn := ih
      show wpX9_takeBack_b9 Q (m + 1 + 1) S' t (nI σ.2.length) (nI m)
      have hlt0 : ¬ nI m < nI 0 := by
        rw [o_lt (by omega) (by omega)]
        omega
      generalize hfu : m + 1 = fu at hn ⊢
      unfold wpX9_takeBack_b9
      simp only [c_0, c_1, ↓ng_d, pd_s]
      refine ⟨fun z => absurd z hlt0, fun _ => ⟨hs'.1, ?_⟩⟩
      rw [w_factAt hs' hcm0 (show m < (σ.2.take (m + 1)).length by omega)]
      refine ⟨fun z => (by cases z), fun o5 e5 => ?_⟩
      cases e5
      refine ⟨hKm, hs'.1, ?_⟩
      rw [u3, hlv, o_le (by omega) (by omega)]
      refine ⟨fun z => ?_, fun z => ?_⟩
      · rw [if_pos z] at he
        rw [w_fpair hs' hcm0 (show m < (σ.2.take (m + 1)).length by omega), eG, u4]
        show pK S' t = 8 ∧ _
        refine ⟨hs'.1, ?_⟩
        rw [show (dI P (σ.2.take (m + 1)), σ.2.take (m + 1)).1 = dI P (σ.2.take (m + 1)) from rfl, dI_back hw hT.1 hml, pI_sJ, u2', o_sub (show 1 ≤ m + 1 by omega), show m + 1 - 1 = m by omega]
        refine hn _ (by omega) (fr_t hf (fr_t (fr_sJ _ _ _ (List.mem_singleton.mpr rfl)) (fr_sI _ _ _ (List.mem_singleton.mpr rfl)))) ?_ he
        refine ⟨?_, ?_, ?_, ?_, dI_wf hw (Tok_sm hw (Tok_take hT.1)), fun y q1 q2 => dI_0 hw (Tok_take hT.1) q1 q2, by show (σ.2.take m).length ≤ 35; omega, t8, t9, fun i hi => ?_⟩
        · rw [pI_sI, if_neg (fun q => absurd q.2 (by decide)), pI_sJ]
          exact u1
        · rw [pI_sI, if_pos ⟨rfl, rfl⟩]
          show nI m = nI (σ.2.take m).length
          rw [hlen2]
        · rw [pI_sI, if_neg (fun q => absurd q.2 (by decide)), pI_sJ]
          exact u3
        · rw [pJ_sI, pJ_sJ, if_pos ⟨rfl, rfl⟩]
        · have him : i < m := by rw [← hlen2]; exact hi
          have g := u10 i (by show i < (σ.2.take (m + 1)).length; omega)
          have eG2 : fG (dI P (σ.2.take (m + 1)), σ.2.take (m + 1)).2 i = fG σ.2 i := fG_take (by omega)
          have eG3 : fG (dI P (σ.2.take m), σ.2.take m).2 i = fG σ.2 i := fG_take him
          rw [eG2] at g
          rw [eG3]
          obtain ⟨⟨g1, g2, g3, g4, g5⟩, g6⟩ := g
          have e1 : ¬ t + 3 + i = t := by omega
          refine ⟨⟨?_, ?_, ?_, ?_, ?_⟩, g6⟩
          · rw [pI_sI, if_neg (fun q => e1 q.1), pI_sJ]
            exact g1
          · rw [pI_sI, if_neg (fun q => e1 q.1), pI_sJ]
            exact g2
          · rw [pI_sI, if_neg (fun q => e1 q.1), pI_sJ]
            exact g3
          · rw [pI_sI, if_neg (fun q => e1 q.1), pI_sJ]
            exact g4
          · rw [pJ_sI, pJ_sJ, if_neg (fun q => e1 q.1)]
            exact g5
      · rw [if_neg z] at he
        exact fin2 he _
  have ht : σ.2.take σ.2.length = σ.2 := List.take_length
  have hstart : cT S t (P 0) L (dI P (σ.2.take σ.2.length), σ.2.take σ.2.length) := by
    rw [ht]
    exact ⟨t1, t2, t3, by rw [t4]; exact pq_cg hT.2.2, dI_wf hw (Tok_sm hw hT.1), fun y q1 q2 => dI_0 hw hT.1 q1 q2, t7, t8, t9, t10⟩
  unfold wpX9_takeBack
  rw [c_1, t2, pd_1]
  exact ⟨hs.1, _, loop σ.2.length S (Nat.le_refl _) (fr_r _ _) hstart rfl⟩
/-- the domains that the facts of level 0 leave -/
def gD (P : Nat → Nat) (T : List FT) : Nat → Nat := wEf P T (fun i => decide ((fG T i).2.2.2.1 = 0)) T.length
theorem q_ground {S : PS} {t L : Nat} {P : Nat → Nat} {σ : St} {Q : Int64 → PS → Prop} (hs : TSh S t) (hw : Pwf P) (hc : cT S t (P 0) L σ) (hT : Tok P σ.2) (hQ : Q (pk (gD P σ.2)) S) : wpX9_groundDomains S t (pk (fun x => P (2 + x))) Q := by
  have hc0 := hc
  obtain ⟨t1, t2, t3, t4, t5, t6, t7, t8, t9, t10⟩ := hc
  have hsm := Tok_sm hw hT
  have loop : ∀ r k y, k + r = σ.2.length → wpX9_groundDomains_b5 Q (r + 1) S t y (pk (wEf P σ.2 (fun i => decide ((fG σ.2 i).2.2.2.1 = 0)) k)) (nI k) := by
    intro r
    induction r with
    | zero =>
      intro k y hk
      have e : k = σ.2.length := by omega
      rw [e]
      unfold wpX9_groundDomains_b5
      rw [t2]
      exact ⟨hs.1, fun _ => hQ, fun z => absurd (Eq.mpr (o_le (by omega) (by omega)) (Nat.le_refl _)) z⟩
    | succ r ih =>
      intro k y hk
      have hkl : k < σ.2.length := by omega
      have hn := ih (k + 1) y (by omega)
      generalize r + 1 = fu at hn ⊢
      have hsk := hsm k hkl
      have hKk := (hs.2.2.2.2.2.2.2 k (by omega)).2
      have hlv := (t10 k hkl).1.2.2.2.1
      have hL := (t10 k hkl).2.2.2
      have hwf := wEf_wf (L := fun i => decide ((fG σ.2 i).2.2.2.1 = 0)) hw hsm k (by omega)
      have hstep : wEf P σ.2 (fun i => decide ((fG σ.2 i).2.2.2.1 = 0)) (k + 1) = if decide ((fG σ.2 k).2.2.2.1 = 0) = true then ud (wEf P σ.2 (fun i => decide ((fG σ.2 i).2.2.2.1 = 0)) k) (fG σ.2 k).1 (clr (wEf P σ.2 (fun i => decide ((fG σ.2 i).2.2.2.1 = 0)) k (fG σ.2 k).1) (fG σ.2 k).2.1) else wEf P σ.2 (fun i => decide ((fG σ.2 i).2.2.2.1 = 0)) k := rfl
      rw [hstep] at hn
      unfold wpX9_groundDomains_b5
      simp only [c_0, c_1, ngL_d, o_add, t2]
      refine ⟨hs.1, fun z => ?_, fun _ => ?_⟩
      · rw [o_le (by omega) (by omega)] at z
        omega
      · rw [w_factAt hs hc0 hkl]
        refine ⟨fun z => (by cases z), fun o4 e4 => ?_⟩
        cases e4
        refine ⟨hKk, ?_⟩
        rw [hlv, o_eq (by omega) (by omega)]
        refine ⟨fun z => ?_, fun z => ?_⟩
        · rw [if_neg (fun q => z (of_decide_eq_true q))] at hn
          exact hn
        · rw [if_pos (decide_eq_true z)] at hn
          rw [w_fpair hs hc0 hkl, pq_clr hwf hsk.1 hsk.2]
          exact hn
  unfold wpX9_groundDomains
  exact ⟨_, loop _ 0 _ (Nat.zero_add _)⟩
/-- the kept decisions -/
def cD (S : PS) (t : Nat) (ds : List (Nat × Nat)) : Prop := ∀ k, k < ds.length → pJ S (t + 2) k = pk (sg (dG ds k).1 (2 ^ (dG ds k).2))
theorem w_decisionAt {S : PS} {t N k : Nat} {ds : List (Nat × Nat)} {σ : St} {Q : Int64 → PS → Prop} (hs : TSh S t) (hc : cT S t N ds.length σ) (hD : cD S t ds) (hl : ds.length ≤ 7) (hk : k < ds.length) : wpX9_decisionAt S t (nI k) Q = Q (pk (sg (dG ds k).1 (2 ^ (dG ds k).2))) S := by
  have t3 := hc.2.2.1
  have h0 : ¬ nI k < nI 0 := by
    rw [o_lt (by omega) (by omega)]
    omega
  have h1 : ¬ nI ds.length ≤ nI k := by
    rw [o_le (by omega) (by omega)]
    omega
  have h2 : ¬ nI 7 ≤ nI k := by
    rw [o_le (by omega) (by omega)]
    omega
  have h3 : vp_in (nI k) 7 := by
    rw [o_inT (by omega) (by omega)]
    trivial
  apply propext
  unfold wpX9_decisionAt
  rw [c_0, t3, o_cl (by omega)]
  constructor
  · rintro ⟨_, q⟩
    obtain ⟨_, _, q2⟩ := q h0
    obtain ⟨o, ho, _, _, q3⟩ := q2 h1
    rw [hs.2.2.1] at ho
    cases ho
    rw [hs.2.2.2.2.2.2.1, hD k hk] at q3
    exact (q3 h2).2
  · intro q
    refine ⟨fun z => absurd z h0, fun _ => ⟨hs.1, fun z => absurd z h1, fun _ => ⟨t + 2, hs.2.2.1, hs.2.2.2.2.2.1, ?_⟩⟩⟩
    rw [hs.2.2.2.2.2.2.1, hD k hk]
    exact ⟨fun z => absurd z h2, fun _ => ⟨h3, q⟩⟩

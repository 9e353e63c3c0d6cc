/-! EXPLANATIONS: the class -/
/-- what an explanation may change: the view, a fact's explanation and depth -/
def xf (S S' : PS) : Prop := fr (82 :: LT 6) S S' ∧ (∀ k, pI S' 6 k = pI S 6 k ∧ pJ S' 6 k = pJ S 6 k) ∧ ∀ i, i < 35 → (∀ k, k ≠ 6 → pI S' (6 + 3 + i) k = pI S (6 + 3 + i) k) ∧ ∀ k, k ≠ 5 → pJ S' (6 + 3 + i) k = pJ S (6 + 3 + i) k
/-- and without the depth -/
def xe (S S' : PS) : Prop := xf S S' ∧ ∀ i, i < 35 → pI S' (6 + 3 + i) 6 = pI S (6 + 3 + i) 6
theorem xf_r (S : PS) : xf S S := ⟨fr_r _ _, fun _ => ⟨rfl, rfl⟩, fun _ _ => ⟨fun _ _ => rfl, fun _ _ => rfl⟩⟩
theorem xf_t {S S' S2 : PS} (h : xf S S') (h2 : xf S' S2) : xf S S2 := ⟨fr_t h.1 h2.1, fun k => ⟨(h2.2.1 k).1.trans (h.2.1 k).1, (h2.2.1 k).2.trans (h.2.1 k).2⟩, fun i hi => ⟨fun k hk => ((h2.2.2 i hi).1 k hk).trans ((h.2.2 i hi).1 k hk), fun k hk => ((h2.2.2 i hi).2 k hk).trans ((h.2.2 i hi).2 k hk)⟩⟩
theorem xe_r (S : PS) : xe S S := ⟨xf_r S, fun _ _ => rfl⟩
theorem xe_t {S S' S2 : PS} (h : xe S S') (h2 : xe S' S2) : xe S S2 := ⟨xf_t h.1 h2.1, fun i hi => (h2.2 i hi).trans (h.2 i hi)⟩
theorem xe_82 {S S' : PS} (h : fr [82] S S') : xe S S' := ⟨⟨fr_m (fun a ha => by
  rw [List.mem_singleton] at ha
  rw [ha]
  exact List.mem_cons_self) h, fun k => ⟨h.I (by decide) k, h.J (by decide) k⟩, fun i hi => ⟨fun k _ => h.I (by rw [List.mem_singleton]; omega) k, fun k _ => h.J (by rw [List.mem_singleton]; omega) k⟩⟩, fun i hi => h.I (by rw [List.mem_singleton]; omega) 6⟩
theorem LT_f {i : Nat} (hi : i < 35) : 6 + 3 + i ∈ 82 :: LT 6 := List.mem_cons_of_mem _ (LT_mem.mpr (Or.inr (by omega)))
theorem xe_ex (S : PS) {i : Nat} (hi : i < 35) (v : Int64) : xe S (sJ S (6 + 3 + i) 5 v) := ⟨⟨fr_sJ _ _ _ (LT_f hi), fun k => ⟨rfl, by rw [pJ_sJ, if_neg (fun q => absurd q.1 (by omega))]⟩, fun j _ => ⟨fun k _ => rfl, fun k hk => by rw [pJ_sJ, if_neg (fun q => hk q.2)]⟩⟩, fun _ _ => rfl⟩
theorem xf_dp (S : PS) {i : Nat} (hi : i < 35) (v : Int32) : xf S (sI S (6 + 3 + i) 6 v) := ⟨fr_sI _ _ _ (LT_f hi), fun k => ⟨by rw [pI_sI, if_neg (fun q => absurd q.1 (by omega))], rfl⟩, fun j _ => ⟨fun k hk => by rw [pI_sI, if_neg (fun q => hk q.2)], fun k _ => rfl⟩⟩
theorem xf.T {S S' : PS} {N l : Nat} {σ : St} (h : xf S S') (hT : cT S 6 N l σ) : cT S' 6 N l σ := by
  obtain ⟨t1, t2, t3, t4, t5, t6, t7, t8, t9, t10⟩ := hT
  refine ⟨by rw [(h.2.1 2).1]; exact t1, by rw [(h.2.1 3).1]; exact t2, by rw [(h.2.1 4).1]; exact t3, by rw [(h.2.1 5).2]; exact t4, t5, t6, t7, t8, t9, fun i hi => ?_⟩
  obtain ⟨⟨g1, g2, g3, g4, g5⟩, g6⟩ := t10 i hi
  have h1 := h.2.2 i (by omega)
  exact ⟨⟨by rw [h1.1 0 (by decide)]; exact g1, by rw [h1.1 1 (by decide)]; exact g2, by rw [h1.1 2 (by decide)]; exact g3, by rw [h1.1 3 (by decide)]; exact g4, by rw [h1.2 4 (by decide)]; exact g5⟩, g6⟩
theorem xf.CS {S S' : PS} (h : xf S S') (hc : CSh S) : CSh S' := h.1.CS hc
theorem xf.P {S S' : PS} {pb : Nat} {P : Nat → Nat} (h : xf S S') (hp : PRep S pb P) : PRep S' pb P := PRep_fr h.1 (LT_85 (by decide)) hp
theorem xf.pb {S S' : PS} {pb : Nat} (h : xf S S') (hp : pR S 0 6 = some pb) : pR S' 0 6 = some pb := by rw [h.1.R]; exact hp
/-- the kept explanations are right -/
def cE (S : PS) (P : Nat → Nat) (T : List FT) : Prop := ∀ i, i < T.length → pJ S (6 + 3 + i) 5 = ngL ∨ pJ S (6 + 3 + i) 5 = pk (exE P T i)
theorem cE_fr {A : List Nat} {S S' : PS} {P : Nat → Nat} {T : List FT} (h : fr A S S') (hl : T.length ≤ 35) (hA : ∀ i, i < 35 → 6 + 3 + i ∉ A) (hE : cE S P T) : cE S' P T := fun i hi => by
  rw [h.J (hA i (by omega))]
  exact hE i hi
theorem cE_ex {S : PS} {P : Nat → Nat} {T : List FT} {i : Nat} {v : Int64} (hE : cE S P T) (hv : v = pk (exE P T i)) : cE (sJ S (6 + 3 + i) 5 v) P T := fun j hj => by
  rw [pJ_sJ]
  by_cases e : j = i
  · rw [if_pos ⟨by rw [e], rfl⟩, e]
    exact Or.inr hv
  · rw [if_neg (fun q => e (by omega))]
    exact hE j hj
theorem cE_dp {S : PS} {P : Nat → Nat} {T : List FT} {a : Nat} {k : Nat} {v : Int32} (hE : cE S P T) : cE (sI S a k v) P T := fun j hj => hE j hj
theorem clr_eq : ∀ d, d < 32 → ∀ v, v < 5 → (clr d v = d ↔ d.testBit v = false) := by decide +kernel
theorem clE_eq {T : List FT} {e : Nat → Nat} {k : Nat} (he : Dwf e) (h : (fG T k).1 < 7 ∧ (fG T k).2.1 < 5) : (pk (clE T e k) = pk e) = (tbF T e k = false) := by
  apply propext
  rw [pq_inj (clE_wf he h) he]
  constructor
  · intro q
    have h1 := q _ h.1
    unfold clE at h1
    rw [ud_s] at h1
    exact (clr_eq _ (he _ h.1) _ h.2).mp h1
  · intro q x hx
    unfold clE
    by_cases e2 : x = (fG T k).1
    · rw [e2, ud_s]
      exact (clr_eq _ (he _ h.1) _ h.2).mpr q
    · rw [ud_n _ _ e2]
theorem pq_osg {e : Nat → Nat} (he : Dwf e) {x w : Nat} (hw : w < 32) : pk e ||| pk (sg x w) = pk (ud e x (e x ||| w)) := by
  rw [pq_or he (sg_wf hw)]
  apply pq_cg
  intro y hy
  by_cases q : y = x
  · rw [q, sg_s, ud_s]
  · rw [sg_n q, ud_n _ _ q, Nat.or_zero]
theorem pw_31 : ∀ v, v < 5 → 2 ^ v &&& 31 = 2 ^ v := by decide +kernel
theorem sg_scp {κ : Kon} {x v : Nat} (hv : v < 5) : pk (sg x (2 ^ v)) &&& pk (scp κ) = pk (sg x (if inM κ x = true then 2 ^ v else 0)) := by
  rw [pq_and (sg_wf (dm_pow_lt v hv)) (scp_wf κ)]
  apply pq_cg
  intro y hy
  by_cases q : y = x
  · rw [q, sg_s, sg_s]
    cases hb : inM κ x
    · rw [scp_f hb, Nat.and_zero]
      rfl
    · rw [scp_t hb, pw_31 v hv]
      rfl
  · rw [sg_n q, sg_n q, Nat.zero_and]
theorem e0F_s {κ : Kon} {T : List FT} {k : Nat} (he : Dwf (e0F κ T k)) (hs : (fG T k).1 < 7 ∧ (fG T k).2.1 < 5) : pk (e0F κ T k) ||| (pk (sg (fG T k).1 (2 ^ (fG T k).2.1)) &&& pk (scp κ)) = pk (e0F κ T (k + 1)) := by
  rw [sg_scp hs.2]
  show _ = pk (if inM κ (fG T k).1 = true then ud (e0F κ T k) (fG T k).1 (e0F κ T k (fG T k).1 ||| 2 ^ (fG T k).2.1) else e0F κ T k)
  by_cases hb : inM κ (fG T k).1 = true
  · rw [if_pos hb, if_pos hb, pq_osg he (dm_pow_lt _ hs.2)]
  · rw [if_neg hb, if_neg hb, pq_osg he (by decide)]
    apply pq_cg
    intro y hy
    by_cases q : y = (fG T k).1
    · rw [q, ud_s, Nat.or_zero]
    · rw [ud_n _ _ q]
theorem pq_tst {e : Nat → Nat} (he : Dwf e) {x v : Nat} (hx : x < 7) (hv : v < 5) : (pk (sg x (2 ^ v)) &&& pk e = lN 0) = ((e x).testBit v = false) := by
  rw [Int64.and_comm, pq_asg he hx (dm_pow_lt v hv), pq_sg0 (d := e) hx (dm_and_lt _ (he x hx) _ (dm_pow_lt v hv))]
  exact propext (dm_bit0 _ (he x hx) _ hv)
theorem q_cexp {S : PS} {P : Nat → Nat} {pb l i o : Nat} {σ : St} {κ : Kon} {Q : Int64 → PS → Prop} (hc : CSh S) (hpb : pR S 0 6 = some pb) (hp : PRep S pb P) (hw : Pwf P) (hT : cT S 6 (P 0) l σ) (hk : Tok P σ.2) (hi : i < σ.2.length) (hC : CC S o κ) (hκ : Kwf κ) (h0 : 0 < κ.1) (hQ : Q (pk (exR κ P σ.2 (fG σ.2 i).1 (fG σ.2 i).2.1 i (e0F κ σ.2 i))) S) : wpX11_leastExplanation S 0 (6 + 3 + i) (nI i) o Q := by
  have hT6 := hc.2.2.2.2.2.2.2.2.2.2.2.1
  have t7 := hT.2.2.2.2.2.2.1
  have hs := Tok_sm hw hk
  have hn7 := hκ.1
  have hsi := hs i hi
  have hKi := (hT6.2.2.2.2.2.2.2 i (by omega)).2
  obtain ⟨f0, f1, _⟩ := (hT.2.2.2.2.2.2.2.2.2 i hi).1
  have g6 := hp.2.2.2.2.2.1
  have down : ∀ m e, m ≤ i → eSb σ.2 i e → exR κ P σ.2 (fG σ.2 i).1 (fG σ.2 i).2.1 m e = exR κ P σ.2 (fG σ.2 i).1 (fG σ.2 i).2.1 i (e0F κ σ.2 i) → wpX11_leastExplanation_b42 Q (m + 1) S 0 (6 + 3 + i) (nI i) o (pk e) (pd m) := by
    intro m
    induction m with
    | zero =>
      intro e hm he hE
      have e2 : e = exR κ P σ.2 (fG σ.2 i).1 (fG σ.2 i).2.1 i (e0F κ σ.2 i) := hE
      have h1 := hQ
      rw [← e2] at h1
      unfold wpX11_leastExplanation_b42
      exact ⟨fun _ => h1, fun z => absurd (show pd 0 < (0 : Int32) by decide) z⟩
    | succ m ih =>
      intro e hm he hE
      have hml : m < σ.2.length := by omega
      have hsm := hs m hml
      have hE3 : exR κ P σ.2 (fG σ.2 i).1 (fG σ.2 i).2.1 m (exS κ P σ.2 (fG σ.2 i).1 (fG σ.2 i).2.1 m e) = exR κ P σ.2 (fG σ.2 i).1 (fG σ.2 i).2.1 i (e0F κ σ.2 i) := hE
      have hn := fun e => ih e (by omega)
      show wpX11_leastExplanation_b42 Q (m + 1 + 1) S 0 (6 + 3 + i) (nI i) o (pk e) (nI m)
      generalize m + 1 = fu at hn ⊢
      have hlt0 : ¬ nI m < nI 0 := by
        rw [o_lt (by omega) (by omega)]
        omega
      have he' := clE_S (k := m) he hsm
      have hcl : pk e &&& (pk (sg (fG σ.2 m).1 (2 ^ (fG σ.2 m).2.1)) ^^^ ngL) = pk (clE σ.2 e m) := pq_clr he.1 hsm.1 hsm.2
      have hdw : pk (fun x => P (2 + x)) &&& (pk (clE σ.2 e m) ^^^ ngL) = pk (dW P (clE σ.2 e m)) := pq_andn hw.2.2.1 he'.1
      have hown := dW_own hw hk hi he'
      unfold wpX11_leastExplanation_b42
      simp only [c_0, ↓ng_d, l_0, ngL_d, pd_s]
      refine ⟨fun z => absurd z hlt0, fun _ => ⟨hc.1, 6, hc.2.2.1, hT6.1, ?_⟩⟩
      rw [w_pairAt hT6 hT hml]
      refine ⟨hc.1, pb, hpb, hp.2.2.1, hKi, ?_⟩
      rw [hcl, g6, hdw, f0, f1, w_narrowed (dW_wf hw he'.1) hsi.1 hsi.2, and_pow _ (dW_wf hw he'.1 _ hsi.1) _ hsi.2 hown]
      refine ⟨fun z => ?_, fun z => ?_⟩
      · rw [lg_0, clE_eq he.1 hsm] at z
        have hx : exS κ P σ.2 (fG σ.2 i).1 (fG σ.2 i).2.1 m e = e := by
          unfold exS
          rw [z]
          rfl
        rw [hx] at hE3
        exact hn e he hE3
      · rw [lg_0, clE_eq he.1 hsm, Bool.not_eq_false] at z
        refine q_least hC hκ 9 κ.1 0 _ _ (Nat.zero_add _) (by omega) (ud_wf (dW_wf hw he'.1) (dm_pow_lt _ hsi.2)) (fun j hj => absurd hj (Nat.not_lt_zero _)) h0 (fun res hr => ?_)
        have hres := Lres_0 hκ h0 hr
        refine ⟨fun z2 => ?_, fun z2 => ?_⟩
        · rw [lg_0, hres] at z2
          have hx : exS κ P σ.2 (fG σ.2 i).1 (fG σ.2 i).2.1 m e = e := by
            unfold exS
            rw [z, dB_t.mpr (Classical.byContradiction z2)]
            rfl
          rw [hx] at hE3
          exact hn e he hE3
        · rw [lg_0, hres] at z2
          have hx : exS κ P σ.2 (fG σ.2 i).1 (fG σ.2 i).2.1 m e = clE σ.2 e m := by
            unfold exS
            rw [z, dB_f.mpr z2]
            rfl
          rw [hx] at hE3
          exact hn _ he' hE3
  have up : ∀ r k, k + r = i → wpX11_leastExplanation_b6 Q (r + 1) S 0 (6 + 3 + i) (nI i) o (pk (e0F κ σ.2 k)) (nI k) := by
    intro r
    induction r with
    | zero =>
      intro k hkr
      have e : k = i := by omega
      subst e
      have h1 : ∃ n9 : Nat, wpX11_leastExplanation_b42 Q n9 S 0 (6 + 3 + k) (nI k) o (pk (e0F κ σ.2 k)) (nI k - nI 1) := by
        rw [pd_1]
        exact ⟨_, down k _ (Nat.le_refl _) (e0F_S hs k (by omega)) rfl⟩
      unfold wpX11_leastExplanation_b6
      rw [c_1]
      exact ⟨fun _ => h1, fun z => absurd (Eq.mpr (o_le (by omega) (by omega)) (Nat.le_refl k)) z⟩
    | succ r ih =>
      intro k hkr
      have hki : k < i := by omega
      have hn := ih (k + 1) (by omega)
      generalize r + 1 = fu at hn ⊢
      have hsk := hs k (by omega)
      unfold wpX11_leastExplanation_b6
      simp only [c_1, o_add]
      refine ⟨fun z => ?_, fun _ => ⟨hc.1, 6, hc.2.2.1, hT6.1, ?_⟩⟩
      · rw [o_le (by omega) (by omega)] at z
        omega
      · rw [w_pairAt hT6 hT (by omega)]
        refine ⟨hC.1, ?_⟩
        rw [hC.2.2.1, e0F_s (e0F_S hs k (by omega)).1 hsk]
        exact hn
  have h1 := up i 0 (Nat.zero_add _)
  unfold wpX11_leastExplanation
  rw [l_0, c_0, ← pz00]
  exact ⟨_, h1⟩
theorem q_source {S : PS} {P : Nat → Nat} {pb l i : Nat} {σ : St} {Q : Option Nat → PS → Prop} (hc : CSh S) (hpb : pR S 0 6 = some pb) (hp : PRep S pb P) (hw : Pwf P) (hT : cT S 6 (P 0) l σ) (hk : Tok P σ.2) (hi : i < σ.2.length)
    (hQ0 : (fG σ.2 i).2.2.1 < nI 0 → Q none S) (hQ1 : ∀ S' o, ¬ (fG σ.2 i).2.2.1 < nI 0 → fr [82] S S' → CC S' o (exK P (fG σ.2 i)) → Kwf (exK P (fG σ.2 i)) → 0 < (exK P (fG σ.2 i)).1 → Q (some o) S') : wpX11_sourceOf S 0 (6 + 3 + i) Q := by
  have hP1 := hw.2.1
  have hT6 := hc.2.2.2.2.2.2.2.2.2.2.2.1
  have t7 := hT.2.2.2.2.2.2.1
  have hKi := (hT6.2.2.2.2.2.2.2 i (by omega)).2
  obtain ⟨f0, f1, f2, f3, f4⟩ := (hT.2.2.2.2.2.2.2.2.2 i hi).1
  have hki := (hk i hi).2.2.2.2
  unfold wpX11_sourceOf
  rw [c_100, f2, f4]
  refine ⟨hKi, fun z => ⟨hc.1, pb, hpb, hp.2.2.1, ?_⟩, fun z => ⟨hc.1, 82, hc.2.2.2.2.1, hc.2.2.2.2.2.2.2.1, ?_⟩⟩
  · rcases hki with ⟨k, k1, k2, k3⟩ | ⟨k1, _⟩ | k1
    · have hK : exK P (fG σ.2 i) = cK P k := by
        unfold exK
        rw [if_neg z, k2, o_cl (by omega)]
      have hno : ¬ (fG σ.2 i).2.2.1 < nI 0 := by
        rw [k2, o_lt (by omega) (by omega)]
        omega
      rw [hK] at hQ1
      rw [k2]
      refine q_constraintAt hp hw k1 (fun o ho hK2 => ?_)
      obtain ⟨j, hj, _⟩ := inM_t.mp k3
      exact hQ1 S o hno (fr_r _ _) (CC_of hK2 (hw.2.2.2.2.2 k k1) hw.1) (cK_wf (hw.2.2.2.2.2 k k1) hw.1) (by omega)
    · exact absurd k1 z
    · exact q_constraintAt0 hp (Or.inl k1) (hQ0 k1)
  · have hno : ¬ (fG σ.2 i).2.2.1 < nI 0 := by
      rw [z, o_lt (by omega) (by omega)]
      omega
    rcases hki with ⟨k, k1, k2, k3⟩ | ⟨k1, k2, k3, k4⟩ | k1
    · rw [k2, o_eq (by omega) (by omega)] at z
      omega
    · have hK : exK P (fG σ.2 i) = lK (fG σ.2 i).2.2.2.2 := by
        unfold exK
        rw [if_pos z]
      rw [hK] at hQ1
      refine q_show hc.2.2.2.2.2.2.2.1 k2 (fun S' hf hv => ?_)
      have hc' := hf.CS hc
      obtain ⟨j, hj, _⟩ := inM_t.mp k4
      exact ⟨hc'.1, 82, hc'.2.2.2.2.1, hQ1 S' 82 hno hf (CC_lK hv k2) (lK_wf _) (by omega)⟩
    · exact absurd k1 hno
theorem q_explOf {S : PS} {P : Nat → Nat} {pb l i : Nat} {σ : St} {Q : Int64 → PS → Prop} (hc : CSh S) (hpb : pR S 0 6 = some pb) (hp : PRep S pb P) (hw : Pwf P) (hT : cT S 6 (P 0) l σ) (hk : Tok P σ.2) (hE : cE S P σ.2) (hi : i < σ.2.length) (hQ : ∀ S', xe S S' → cE S' P σ.2 → Q (pk (exE P σ.2 i)) S') : wpX11_explanationOf S 0 (6 + 3 + i) (nI i) Q := by
  have hT6 := hc.2.2.2.2.2.2.2.2.2.2.2.1
  have t7 := hT.2.2.2.2.2.2.1
  have hs := Tok_sm hw hk
  have hKi := (hT6.2.2.2.2.2.2.2 i (by omega)).2
  have hewf := (exE_S (P := P) hs (show i ≤ σ.2.length by omega)).1
  unfold wpX11_explanationOf
  rw [ngL_d, l_0, c_0]
  refine ⟨hKi, fun z => ?_, fun z => ⟨hc.1, ?_⟩⟩
  · rw [lg_0] at z
    rw [(hE i hi).resolve_left z]
    exact hQ S (xe_r S) hE
  · refine q_source hc hpb hp hw hT hk hi (fun h0 => ?_) (fun S' o h0 hf hC hκ hpos => ?_)
    · have e1 : lN 0 = pk (exE P σ.2 i) := by
        unfold exE
        rw [if_pos h0]
        exact pz00.symm
      refine ⟨fun _ => ⟨hKi, ?_⟩, fun o6 e6 => (nomatch e6)⟩
      rw [pJ_sJ, if_pos ⟨rfl, rfl⟩]
      have h1 := hQ (sJ S (6 + 3 + i) 5 (lN 0)) (xe_ex S (by omega) _) (cE_ex hE e1)
      rw [← e1] at h1
      exact h1
    · have e1 : pk (exR (exK P (fG σ.2 i)) P σ.2 (fG σ.2 i).1 (fG σ.2 i).2.1 i (e0F (exK P (fG σ.2 i)) σ.2 i)) = pk (exE P σ.2 i) := by
        unfold exE
        rw [if_neg h0]
      have hx := xe_82 hf
      have hE' : cE S' P σ.2 := cE_fr hf t7 (fun j hj => by rw [List.mem_singleton]; omega) hE
      refine ⟨fun e6 => (nomatch e6), fun o6 e6 => ?_⟩
      cases e6
      refine ⟨(hx.1.CS hc).1, q_cexp (hx.1.CS hc) (hx.1.pb hpb) (hx.1.P hp) hw (hx.1.T hT) hk hi hC hκ hpos ?_⟩
      rw [e1]
      refine ⟨by rw [hf.K]; exact hKi, ?_⟩
      rw [pJ_sJ, if_pos ⟨rfl, rfl⟩]
      exact hQ _ (xe_t hx (xe_ex S' (by omega) _)) (cE_ex hE' rfl)
theorem c_explanationSize {S : PS} {P : Nat → Nat} {pb l : Nat} {σ : St} {x : Int32} {Q : Int32 → PS → Prop} {X : String → PS → Prop} (hc : CSh S) (hpb : pR S 0 6 = some pb) (hp : PRep S pb P) (hw : Pwf P) (hT : cT S 6 (P 0) l σ) (hk : Tok P σ.2) (hE : cE S P σ.2)
    (hQ : ∀ S' i, xf S S' → cE S' P σ.2 → i < σ.2.length → x = nI i → Q (nI (cN (tbF σ.2 (exE P σ.2 i)) i)) S')
    (hX : (x < nI 0 ∨ nI σ.2.length ≤ x) → ∀ n, X "java/lang/IndexOutOfBoundsException" (sSkip S n)) : wpX11_explanationSize S 0 x Q X := by
  have hT6 := hc.2.2.2.2.2.2.2.2.2.2.2.1
  have t7 := hT.2.2.2.2.2.2.1
  unfold wpX11_explanationSize
  refine ⟨hc.1, 6, hc.2.2.1, hT6.1, ?_⟩
  rcases i_split x (N := σ.2.length) (by omega) with ⟨i, hi, rfl⟩ | hx
  · rw [w_factAt hT6 hT hi]
    refine ⟨fun z => (nomatch z), fun o6 e6 => ?_⟩
    cases e6
    refine ⟨hc.1, q_explOf hc hpb hp hw hT hk hE hi (fun S' hx hE' => ?_)⟩
    rw [w_bcl, bcl_pk (exE_S (P := P) (Tok_sm hw hk) (show i ≤ σ.2.length by omega)).1, exE_cnt hw hk hi]
    exact hQ S' i hx.1 hE' hi rfl
  · rw [w_factAt0 hT6 hT hx]
    exact ⟨fun _ => hX hx, fun o6 z => (nomatch z)⟩
theorem c_explained {S : PS} {P : Nat → Nat} {pb l : Nat} {σ : St} {x y : Int32} {Q : Int32 → PS → Prop} {X : String → PS → Prop} (hc : CSh S) (hpb : pR S 0 6 = some pb) (hp : PRep S pb P) (hw : Pwf P) (hT : cT S 6 (P 0) l σ) (hk : Tok P σ.2) (hE : cE S P σ.2)
    (hQ : ∀ S' i k j, xf S S' → cE S' P σ.2 → i < σ.2.length → x = nI i → y = nI k → j < i → tbF σ.2 (exE P σ.2 i) j = true → cN (tbF σ.2 (exE P σ.2 i)) j = k → Q (nI j) S')
    (hX : (x < nI 0 ∨ nI σ.2.length ≤ x) → ∀ n, X "java/lang/IndexOutOfBoundsException" (sSkip S n))
    (hX2 : ∀ S' i, xf S S' → cE S' P σ.2 → i < σ.2.length → x = nI i → (y < nI 0 ∨ nI (cN (tbF σ.2 (exE P σ.2 i)) i) ≤ y) → ∀ n, X "java/lang/IndexOutOfBoundsException" (sSkip S' n)) : wpX11_explained S 0 x y Q X := by
  have hT6 := hc.2.2.2.2.2.2.2.2.2.2.2.1
  have t7 := hT.2.2.2.2.2.2.1
  unfold wpX11_explained
  refine ⟨hc.1, 6, hc.2.2.1, hT6.1, ?_⟩
  rcases i_split x (N := σ.2.length) (by omega) with ⟨i, hi, rfl⟩ | hx
  · rw [w_factAt hT6 hT hi]
    refine ⟨fun z => (nomatch z), fun o6 e6 => ?_⟩
    cases e6
    refine ⟨hc.1, q_explOf hc hpb hp hw hT hk hE hi (fun S' hx hE' => ?_)⟩
    have hc' := hx.1.CS hc
    have hT' := hx.1.T hT
    have hT6' := hc'.2.2.2.2.2.2.2.2.2.2.2.1
    have hewf := (exE_S (P := P) (Tok_sm hw hk) (show i ≤ σ.2.length by omega)).1
    have hcl := cN_le (tbF σ.2 (exE P σ.2 i))
    have loop : ∀ r j, j + r = i → (∀ k, k < 2147483648 → y = nI k → cN (tbF σ.2 (exE P σ.2 i)) j ≤ k) → wpX11_explained_b37 Q X (r + 1) S' 0 (nI i) y (some (6 + 3 + i)) (pk (exE P σ.2 i)) (nI (cN (tbF σ.2 (exE P σ.2 i)) j)) (nI j) := by
      intro r
      induction r with
      | zero =>
        intro j hj hno
        have e : j = i := by omega
        rw [e] at hno
        have hout : y < nI 0 ∨ nI (cN (tbF σ.2 (exE P σ.2 i)) i) ≤ y := by
          have := hcl i
          rcases i_split y (N := cN (tbF σ.2 (exE P σ.2 i)) i) (by omega) with ⟨k, hk2, ek⟩ | h
          · have := hno k (by omega) ek
            omega
          · exact h
        have h1 := hX2 S' i hx.1 hE' hi rfl hout
        rw [e]
        unfold wpX11_explained_b37
        exact ⟨fun z => (nomatch z), fun o1 _ => ⟨fun _ => h1, fun z => absurd (Eq.mpr (o_le (by omega) (by omega)) (Nat.le_refl i)) z⟩⟩
      | succ r ih =>
        intro j hj hno
        have hji : j < i := by omega
        have hn := ih (j + 1) (by omega)
        generalize r + 1 = fu at hn ⊢
        have hsj := Tok_sm hw hk j (by omega)
        have hclj := hcl j
        rw [cN_s] at hn
        unfold wpX11_explained_b37
        simp only [c_0, c_1, l_0, o_add]
        refine ⟨fun z => (by cases z), fun o1 e1 => ⟨fun z => ?_, fun _ => ⟨hc'.1, 6, hc'.2.2.1, hT6'.1, ?_⟩⟩⟩
        · rw [o_le (by omega) (by omega)] at z
          omega
        · cases e1
          rw [w_pairAt hT6' hT' (by omega), lg_0, pq_tst hewf hsj.1 hsj.2]
          refine ⟨fun z => ?_, fun z => ⟨fun z2 => ?_, fun z2 => ?_⟩⟩
          · have zt : tbF σ.2 (exE P σ.2 i) j = false := z
            rw [if_neg (by rw [zt]; decide), Nat.add_zero] at hn
            exact hn hno
          · rw [Bool.not_eq_false] at z
            have zt : tbF σ.2 (exE P σ.2 i) j = true := z
            rw [if_pos zt] at hn
            refine hn (fun k hk1 hk2 => ?_)
            have h1 := hno k hk1 hk2
            have : cN (tbF σ.2 (exE P σ.2 i)) j ≠ k := fun q => z2 (by rw [q, hk2])
            omega
          · rw [Bool.not_eq_false] at z
            exact hQ S' i _ j hx.1 hE' hi rfl z2.symm hji z rfl
    exact ⟨_, loop i 0 (Nat.zero_add _) (fun k _ _ => Nat.zero_le _)⟩
  · rw [w_factAt0 hT6 hT hx]
    exact ⟨fun _ => hX hx, fun o6 z => (nomatch z)⟩
theorem q_depthAbove {S : PS} {N l f : Nat} {σ : St} {e g : Nat → Nat} {Q : Int32 → PS → Prop} (hc : CSh S) (hT : cT S 6 N l σ) (he : Dwf e) (hf : f ≤ σ.2.length) (hg : ∀ j, j < f → pI S (6 + 3 + j) 6 = nI (g j) ∧ g j ≤ 1000) (hQ : Q (nI (dpF g (tbF σ.2 e) f)) S) : wpX11_depthAbove S 0 (pk e) (nI f) Q := by
  have hT6 := hc.2.2.2.2.2.2.2.2.2.2.2.1
  have t7 := hT.2.2.2.2.2.2.1
  have loop : ∀ r k, k + r = f → wpX11_depthAbove_b6 Q (r + 1) S 0 (pk e) (nI f) (nI (dpF g (tbF σ.2 e) k)) (nI k) := by
    intro r
    induction r with
    | zero =>
      intro k hkr
      have e2 : k = f := by omega
      rw [e2]
      unfold wpX11_depthAbove_b6
      exact ⟨fun _ => hQ, fun z => absurd (Eq.mpr (o_le (by omega) (by omega)) (Nat.le_refl f)) z⟩
    | succ r ih =>
      intro k hkr
      have hkf : k < f := by omega
      have hkl : k < σ.2.length := by omega
      have hn := ih (k + 1) (by omega)
      generalize r + 1 = fu at hn ⊢
      obtain ⟨_, s1, s2, _⟩ := hT.2.2.2.2.2.2.2.2.2 k hkl
      have hKk := (hT6.2.2.2.2.2.2.2 k (by omega)).2
      obtain ⟨g1, g2⟩ := hg k hkf
      have b2 := dpF_le (g := g) (b := tbF σ.2 e) k (fun j hj => (hg j (by omega)).2)
      have e1 : nI k + (1 : Int32) = nI (k + 1) := o_add k 1
      have hif : (if nI (dpF g (tbF σ.2 e) k) < nI (g k) + (1 : Int32) then nI (g k) + (1 : Int32) else nI (dpF g (tbF σ.2 e) k)) = nI (if dpF g (tbF σ.2 e) k < g k + 1 then g k + 1 else dpF g (tbF σ.2 e) k) := by
        have q1 : nI (g k) + (1 : Int32) = nI (g k + 1) := o_add (g k) 1
        rw [q1]
        exact if_nI (a := dpF g (tbF σ.2 e) k) (b := g k + 1) (by omega) (by omega) (g k + 1) (dpF g (tbF σ.2 e) k)
      unfold wpX11_depthAbove_b6
      rw [c_0, l_0, e1]
      refine ⟨fun z => ?_, fun _ => ⟨hc.1, 6, hc.2.2.1, hT6.1, ?_⟩⟩
      · rw [o_le (by omega) (by omega)] at z
        omega
      · rw [w_factAt hT6 hT hkl]
        refine ⟨fun z => (by cases z), fun o6 e6 => ?_⟩
        cases e6
        refine ⟨hKk, ?_⟩
        rw [w_fpair hT6 hT hkl, lg_0, pq_tst he s1 s2]
        refine ⟨fun z => ?_, fun z => ⟨hKk, ?_⟩⟩
        · have zt : tbF σ.2 e k = false := z
          unfold dpF at hn
          rw [if_neg (by rw [zt]; decide)] at hn
          exact hn
        · rw [Bool.not_eq_false] at z
          have zt : tbF σ.2 e k = true := z
          unfold dpF at hn
          rw [if_pos zt] at hn
          rw [g1, hif]
          exact hn
  exact ⟨_, loop f 0 (Nat.zero_add _)⟩
theorem c_depth {S : PS} {P : Nat → Nat} {pb l : Nat} {σ : St} {x : Int32} {Q : Int32 → PS → Prop} {X : String → PS → Prop} (hc : CSh S) (hpb : pR S 0 6 = some pb) (hp : PRep S pb P) (hw : Pwf P) (hT : cT S 6 (P 0) l σ) (hk : Tok P σ.2) (hE : cE S P σ.2)
    (hQ : ∀ S' i, xf S S' → cE S' P σ.2 → i < σ.2.length → x = nI i → Q (nI (dpA P σ.2 (i + 1) i)) S')
    (hX : (x < nI 0 ∨ nI σ.2.length ≤ x) → ∀ n, X "java/lang/IndexOutOfBoundsException" (sSkip S n)) : wpX11_depth S 0 x Q X := by
  have hT6 := hc.2.2.2.2.2.2.2.2.2.2.2.1
  have t7 := hT.2.2.2.2.2.2.1
  unfold wpX11_depth
  refine ⟨hc.1, 6, hc.2.2.1, hT6.1, ?_⟩
  rcases i_split x (N := σ.2.length) (by omega) with ⟨i, hi, rfl⟩ | hx
  · rw [w_factAt hT6 hT hi]
    refine ⟨fun z => (nomatch z), fun o6 e6 => ?_⟩
    cases e6
    have loop : ∀ r f S2, f + r = i + 1 → xf S S2 → cE S2 P σ.2 → (∀ j, j < f → pI S2 (6 + 3 + j) 6 = nI (dpA P σ.2 f j)) → wpX11_depth_b25 Q X (r + 1) S2 0 (nI i) (some (6 + 3 + i)) (nI f) := by
      intro r
      induction r with
      | zero =>
        intro f S2 hfr hx hE2 hd
        have hif : i < f := by omega
        have e : f = i + 1 := by omega
        have h1 := hQ S2 i hx hE2 hi rfl
        have h2 := hd i hif
        rw [e] at h2
        have hKi := ((hx.CS hc).2.2.2.2.2.2.2.2.2.2.2.1.2.2.2.2.2.2.2 i (by omega)).2
        unfold wpX11_depth_b25
        refine ⟨fun z => (nomatch z), fun o1 e1 => ⟨fun _ => ?_, fun z => absurd (Eq.mpr (o_lt (by omega) (by omega)) hif) z⟩⟩
        cases e1
        rw [h2]
        exact ⟨hKi, h1⟩
      | succ r ih =>
        intro f S2 hfr hx hE2 hd
        have hif : ¬ i < f := by omega
        have hfl : f < σ.2.length := by omega
        have hn := ih (f + 1)
        generalize r + 1 = fu at hn ⊢
        have hc2 := hx.CS hc
        have hT2 := hx.T hT
        have hT62 := hc2.2.2.2.2.2.2.2.2.2.2.2.1
        have hKf := (hT62.2.2.2.2.2.2.2 f (by omega)).2
        unfold wpX11_depth_b25
        simp only [c_1, o_add]
        refine ⟨fun z => (by cases z), fun o1 e1 => ⟨fun z => ?_, fun _ => ⟨hc2.1, 6, hc2.2.2.1, hT62.1, ?_⟩⟩⟩
        · rw [o_lt (by omega) (by omega)] at z
          exact absurd z hif
        · cases e1
          rw [w_factAt hT62 hT2 hfl]
          refine ⟨fun z => (by cases z), fun o21 e21 => ?_⟩
          cases e21
          refine ⟨hc2.1, q_explOf hc2 (hx.pb hpb) (hx.P hp) hw hT2 hk hE2 hfl (fun S3 hx3 hE3 => ?_)⟩
          have hc3 := hx3.1.CS hc2
          have hT3 := hx3.1.T hT2
          have hewf := (exE_S (P := P) (Tok_sm hw hk) (show f ≤ σ.2.length by omega)).1
          have hd3 : ∀ j, j < f → pI S3 (6 + 3 + j) 6 = nI (dpA P σ.2 f j) := fun j hj => by
            rw [hx3.2 j (by omega)]
            exact hd j hj
          refine ⟨hc3.1, q_depthAbove hc3 hT3 hewf (by omega) (fun j hj => ⟨hd3 j hj, by have := dpA_le (P := P) (T := σ.2) f j; omega⟩) ⟨by rw [hx3.1.1.K]; exact hKf, ?_⟩⟩
          refine hn _ (by omega) (xf_t (xf_t hx hx3.1) (xf_dp S3 (by omega) _)) (cE_dp hE3) (fun j hj => ?_)
          have hdp : dpA P σ.2 (f + 1) = ud (dpA P σ.2 f) f (dpF (dpA P σ.2 f) (tbF σ.2 (exE P σ.2 f)) f) := rfl
          rw [pI_sI, hdp]
          by_cases e : j = f
          · rw [if_pos ⟨by rw [e], rfl⟩, e, ud_s]
          · rw [if_neg (fun q => e (by omega)), ud_n _ _ e]
            exact hd3 j (by omega)
    exact ⟨_, loop (i + 1) 0 S (Nat.zero_add _) (xf_r S) hE (fun j hj => absurd hj (Nat.not_lt_zero _))⟩
  · rw [w_factAt0 hT6 hT hx]
    exact ⟨fun _ => hX hx, fun o6 z => (nomatch z)⟩

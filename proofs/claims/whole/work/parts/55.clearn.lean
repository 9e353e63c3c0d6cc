/-! LEARNING: the class -/
/-- only the class's own objects have changed, and objects may have been made that nobody looks at -/
def frX (A : List Nat) (S S' : PS) : Prop := ∃ d, fr A (sSkip S d) S'
theorem frX_0 {A : List Nat} {S S' : PS} (h : fr A S S') : frX A S S' := ⟨0, h⟩
theorem frX_m {A B : List Nat} {S S' : PS} (hs : ∀ a ∈ A, a ∈ B) (h : frX A S S') : frX B S S' := by
  obtain ⟨d, h⟩ := h
  exact ⟨d, fr_m hs h⟩
theorem frX_t {A : List Nat} {S S' S2 : PS} (h : frX A S S') (h2 : frX A S' S2) : frX A S S2 := by
  obtain ⟨d, h⟩ := h
  obtain ⟨e, h2⟩ := h2
  have hN : pN S2 = pN S' + e := h2.1
  have hN1 : pN S' = pN S + d := h.1
  refine ⟨d + e, by show pN S2 = pN S + (d + e); omega, h2.2.1.trans h.2.1, h2.2.2.1.trans h.2.2.1, h2.2.2.2.1.trans h.2.2.2.1, fun a ha => ⟨(h2.2.2.2.2 a ha).1.trans (h.2.2.2.2 a ha).1, (h2.2.2.2.2 a ha).2.trans (h.2.2.2.2 a ha).2⟩⟩
theorem frX_C {S S' : PS} (h : frC S S') : frX RC S S' := frX_0 h
theorem ds_mul (c : Nat) (f : Nat → Nat) : ∀ n, ds 5 (fun x => f x * c) n = ds 5 f n * c := by
  intro n
  induction n with
  | zero => exact (Nat.zero_mul c).symm
  | succ n ih =>
    rw [ds_s, ds_s, ih, Nat.add_mul, Nat.mul_assoc]
theorem lN_mul2 (a b : Nat) : lN a * lN b = lN (a * b) := (Int64.ofNat_mul a b).symm
theorem w_assigned {S : PS} {g e : Nat → Nat} {Q : Int64 → PS → Prop} (hg : Dwf g) (he : Dwf e) : wpX5_assigned S (pk g) (pk e) Q = Q (pk (fun x => if e x = 0 then g x else g x &&& e x)) S := by
  unfold wpX5_assigned
  rw [w_marks he]
  have h1 : pk (fun x => m1 (e x)) * (31 : Int64) = pk (fun x => m1 (e x) * 31) := by
    rw [l_31]
    unfold pk
    rw [lN_mul2, ds_mul]
  have hm : Dwf (fun x => m1 (e x) * 31) := fun x _ => by
    show m1 (e x) * 31 < 32
    unfold m1
    split <;> omega
  rw [h1, ngL_d, pq_nar hg hm he]
  have h2 : pk (fun x => andn (g x) (m1 (e x) * 31) ||| (g x &&& e x)) = pk (fun x => if e x = 0 then g x else g x &&& e x) := by
    apply pq_cg
    intro x hx
    show andn (g x) (m1 (e x) * 31) ||| (g x &&& e x) = if e x = 0 then g x else g x &&& e x
    unfold m1
    by_cases q : e x = 0
    · rw [if_pos q, if_pos q, q]
      exact dm_nar0 _ (hg x hx)
    · rw [if_neg q, if_neg q]
      exact dm_nar _ (hg x hx) _ (he x hx)
  rw [h2]
theorem clr_0 : ∀ v, v < 5 → clr 0 v = 0 := by decide +kernel
theorem clr_pow : ∀ v, v < 5 → clr (2 ^ v) v = 0 := by decide +kernel
theorem eD_clr {m : Nat → Bool} {ds : List (Nat × Nat)} (h : Dds ds) {k : Nat} (hk : k < ds.length) : pk (eD m ds ds.length) &&& (pk (sg (dG ds k).1 (2 ^ (dG ds k).2)) ^^^ ngL) = pk (eD (ud m k false) ds ds.length) := by
  have hdk := h k hk
  rw [pq_clr (eD_wf h (Nat.le_refl _)) hdk.1 hdk.2.1]
  apply pq_cg
  intro x hx
  obtain ⟨a1, a2⟩ := eD_at (m := m) h _ (Nat.le_refl _)
  obtain ⟨b1, b2⟩ := eD_at (m := ud m k false) h _ (Nat.le_refl _)
  by_cases e : x = (dG ds k).1
  · have h0 : eD (ud m k false) ds ds.length x = 0 := b2 x (fun j hj hmj q => by
      by_cases ej : j = k
      · rw [ej, ud_s] at hmj
        cases hmj
      · exact Dds_ne h hj hk ej (q.trans e))
    rw [h0, e, ud_s]
    rcases eD_cs (m := m) h _ (Nat.le_refl _) (dG ds k).1 with ⟨j, k1, k2, k3, q⟩ | ⟨q, _⟩
    · have ej : j = k := Classical.byContradiction (fun z => Dds_ne h k1 hk z k3)
      rw [q, ej]
      exact clr_pow _ hdk.2.1
    · rw [q]
      exact clr_0 _ hdk.2.1
  · rw [ud_n _ _ e]
    rcases eD_cs (m := m) h _ (Nat.le_refl _) x with ⟨j, k1, k2, k3, q⟩ | ⟨q, q2⟩
    · have ej : j ≠ k := fun z => e (by rw [← k3, z])
      rw [q, ← k3, b1 j k1 (by rw [ud_n _ _ ej]; exact k2)]
    · rw [q]
      refine (b2 x (fun j hj hmj => q2 j hj ?_)).symm
      by_cases ej : j = k
      · rw [ej, ud_s] at hmj
        cases hmj
      · rw [ud_n _ _ ej] at hmj
        exact hmj
theorem eD_or {m : Nat → Bool} {ds : List (Nat × Nat)} (h : Dds ds) {k : Nat} (hk : k < ds.length) (hm : m k = true) : pk (eD m ds k) ||| pk (sg (dG ds k).1 (2 ^ (dG ds k).2)) = pk (eD m ds (k + 1)) := by
  have hdk := h k hk
  have hs : eD m ds (k + 1) = if m k = true then ud (eD m ds k) (dG ds k).1 (2 ^ (dG ds k).2) else eD m ds k := rfl
  rw [pq_osg (eD_wf h (by omega)) (dm_pow_lt _ hdk.2.1), hs, if_pos hm]
  have h0 : eD m ds k (dG ds k).1 = 0 := (eD_at (m := m) h k (by omega)).2 _ (fun j hj _ => hdk.2.2 j hj)
  rw [h0, Nat.zero_or]
theorem eD_st {P : Nat → Nat} {T : List FT} {m : Nat → Bool} {ds : List (Nat × Nat)} (hw : Pwf P) (hs : Tsm T) (h : Dok P T ds) : pk (fun x => if eD m ds ds.length x = 0 then gD P T x else gD P T x &&& eD m ds ds.length x) = pk (stD P T ds m ds.length) := by
  have hd := Dds_of hw h
  apply pq_cg
  intro x hx
  show (if eD m ds ds.length x = 0 then gD P T x else gD P T x &&& eD m ds ds.length x) = _
  rw [stD_at hd _ (Nat.le_refl _) x]
  rcases eD_cs (m := m) hd _ (Nat.le_refl _) x with ⟨k, k1, k2, k3, e⟩ | ⟨e, _⟩
  · have hg := gD_dec hw hs h k1
    rw [k3] at hg
    rw [e, and_pow _ (gD_wf hw hs x hx) _ (hd k k1).2.1 hg]
  · rw [if_pos e, if_pos e]
theorem eD_sum {m : Nat → Bool} {ds : List (Nat × Nat)} (h : Dds ds) : ∀ n, n ≤ ds.length → dsum (eD m ds n) = cN m n := by
  intro n
  induction n with
  | zero => exact fun _ => dsum_z (fun _ _ => rfl)
  | succ n ih =>
    intro hn
    have h1 := ih (by omega)
    have hdn := h n (by omega)
    have hs : eD m ds (n + 1) = if m n = true then ud (eD m ds n) (dG ds n).1 (2 ^ (dG ds n).2) else eD m ds n := rfl
    rw [cN_s, hs]
    by_cases hm : m n = true
    · rw [if_pos hm, if_pos hm]
      have h0 : eD m ds n (dG ds n).1 = 0 := (eD_at (m := m) h n (by omega)).2 _ (fun j hj _ => hdn.2.2 j hj)
      have hwf := ud_wf (eD_wf (m := m) h (show n ≤ ds.length by omega)) (x := (dG ds n).1) (dm_pow_lt _ hdn.2.1)
      have h2 := dsum_clr hwf hdn.1 hdn.2.1 (by rw [ud_s, dm_pow_tb _ hdn.2.1 _ hdn.2.1]; exact decide_eq_true rfl)
      rw [ud_s, clr_pow _ hdn.2.1] at h2
      have h3 : dsum (ud (ud (eD m ds n) (dG ds n).1 (2 ^ (dG ds n).2)) (dG ds n).1 0) = dsum (eD m ds n) := dsum_cg (fun x hx => by
        by_cases e : x = (dG ds n).1
        · rw [e, ud_s, h0]
        · rw [ud_n _ _ e, ud_n _ _ e])
      omega
    · rw [if_neg hm, if_neg hm, h1, Nat.add_zero]
theorem q_keepSet {S : PS} {ss : List Nat} {s : Nat} {L : Int64} {Q : PS → Prop} (hc : CSh S) (hss : cSS S ss) (hL : L = pk (sset s)) (hQ : ∀ S', frX [0, 84] S S' → cSS S' (kpS ss s) → (∀ k, k ≠ 7 → pI S' 0 k = pI S 0 k) → Q S') : wpX11_keepSet S 0 L Q := by
  subst hL
  have h12 := hss.2.1
  have hkl := kpS_len (ss := ss) (s := s) h12
  have tail : ∀ S1 ss1, CSh S1 → frX [0, 84] S S1 → cSS S1 ss1 → (∀ k, k ≠ 7 → pI S1 0 k = pI S 0 k) → ss1.length < 12 → kpS ss s = ss1 ++ [s] → wpX11_keepSet_b30 Q S1 0 (pk (sset s)) := fun S1 ss1 hc1 hf hs1 h8 hl hk => by
    unfold wpX11_keepSet_b30
    rw [c_0, c_1, hs1.1, o_cl (by omega)]
    refine ⟨hc1.1, fun z => ?_, fun _ => ⟨84, hc1.2.2.2.2.2.2.1, hc1.2.2.2.2.2.2.2.2.2.1, fun z => ?_, fun _ => ⟨?_, ?_⟩⟩⟩
    · rw [o_lt (by omega) (by omega)] at z
      omega
    · rw [hc1.2.2.2.2.2.2.2.2.2.2.1, o_le (by omega) (by omega)] at z
      omega
    · rw [hc1.2.2.2.2.2.2.2.2.2.2.1, o_inT (by omega) (by omega)]
      trivial
    · rw [show pI (sJ S1 84 ss1.length (pk (sset s))) 0 7 = nI ss1.length from hs1.1, o_add]
      refine hQ _ (frX_t hf (frX_0 (fr_t (fr_sJ _ _ _ (by decide)) (fr_sI _ _ _ (by decide))))) ?_ (fun k hk2 => ?_)
      · rw [hk]
        refine ⟨by rw [pI_sI, if_pos ⟨rfl, rfl⟩, List.length_append, List.length_singleton], by rw [List.length_append, List.length_singleton]; omega, fun i hi => ?_⟩
        rw [List.length_append, List.length_singleton] at hi
        rw [pJ_sI, pJ_sJ]
        by_cases e : i = ss1.length
        · rw [if_pos ⟨rfl, e⟩, e, getD_app2]
        · rw [if_neg (fun q => e q.2), getD_app1 (by omega)]
          exact hs1.2.2 i (by omega)
      · rw [pI_sI, if_neg (fun q => hk2 q.2)]
        exact h8 k hk2
  unfold wpX11_keepSet
  rw [hss.1, c_0, c_1, c_11, c_12]
  refine ⟨hc.1, fun z => ?_, fun z => ⟨84, hc.2.2.2.2.2.2.1, hc.2.2.2.2.2.2.2.2.2.1, ?_, ?_, fun d9 => ?_⟩⟩
  · rw [o_lt (by omega) (by omega)] at z
    refine tail S ss hc (frX_0 (fr_r _ _)) hss (fun _ _ => rfl) (by omega) ?_
    unfold kpS
    rw [if_neg (by omega)]
  · rw [hc.2.2.2.2.2.2.2.2.2.2.1]
    decide
  · rw [hc.2.2.2.2.2.2.2.2.2.2.1]
    decide
  · rw [o_lt (by omega) (by omega)] at z
    have hl12 : ss.length = 12 := by omega
    have hdl : (ss.drop 1).length = 11 := by rw [List.length_drop]; omega
    refine tail _ (ss.drop 1) hc ⟨d9, ?_⟩ ⟨?_, by omega, fun i hi => ?_⟩ (fun k hk => ?_) (by omega) ?_
    · refine ⟨rfl, rfl, rfl, rfl, fun a ha => ⟨funext fun j => ?_, funext fun j => ?_⟩⟩
      · rw [pI_sI, if_neg (fun q => ha (by rw [q.1]; decide))]
        rfl
      · show pJ (sJs S 84 _) a j = pJ S a j
        rw [pJ_sJs, if_neg (fun q => ha (by rw [q]; decide))]
    · rw [pI_sI, if_pos ⟨rfl, rfl⟩, hdl]
    · rw [hdl] at hi
      show pJ (sJs S 84 _) 84 i = _
      rw [pJ_sJs, if_pos rfl, show (nI 1).toNatClampNeg = 1 from rfl, show (nI 0).toNatClampNeg = 0 from rfl, show (nI 11).toNatClampNeg = 11 from rfl, pk_cpy_in (Nat.zero_le _) (by omega), getD_drop1, Nat.sub_zero, Nat.add_comm]
      exact hss.2.2 (i + 1) (by omega)
    · rw [pI_sI, if_neg (fun q => hk q.2)]
      rfl
    · unfold kpS
      rw [if_pos hl12]
theorem q_learnFF {S : PS} {pb : Nat} {P : Nat → Nat} {ss : List Nat} {ds : List (Nat × Nat)} {σ : St} {n : Nat} {Q : Int32 → PS → Prop} (hJ : CJ S pb P ss ds σ n) (hV : VI P ss ds σ) (h0 : 0 < ds.length)
    (hQ : ∀ S', frX RC S S' → CJ S' pb P (lrnS P ss ds σ) (ds.take (ds.length - 1)) (lrnT P ss ds σ) n → Q (nI (cN (lrM P ss σ.2 ds ds.length) ds.length)) S') : wpX11_learnFromFailure S 0 Q := by
  have hw := hV.1
  have hP0 := hw.1
  have hl7 := Dok_len hw hV.2.2.2.2.2.1
  have hds := Dds_of hw hV.2.2.2.2.2.1
  have hs := Tok_sm hw hV.2.2.2.1.1
  have hgwf := gD_wf hw hs
  have hlen' : (ds.take (ds.length - 1)).length = ds.length - 1 := by
    rw [List.length_take]
    exact Nat.min_eq_left (by omega)
  have try1 : ∀ r k S', k + r = ds.length → frC S S' → CJ S' pb P ss ds σ n → wpX11_learnFromFailure_b50 Q (r + 1) S' 0 (pk (eD (lrM P ss σ.2 ds k) ds ds.length)) (pk (gD P σ.2)) (nI k) := by
    intro r
    induction r with
    | zero =>
      intro k S' hk hf hJ'
      have e : k = ds.length := by omega
      subst e
      obtain ⟨hc, hpb, hp, hss, hT, hF, hD, hn, hE⟩ := hJ'
      have hT6 := hc.2.2.2.2.2.2.2.2.2.2.2.1
      have t7 := hT.2.2.2.2.2.2.1
      have hset : pk (eD (lrM P ss σ.2 ds ds.length) ds ds.length) = pk (sset (lrS (lrM P ss σ.2 ds ds.length) ds ds.length)) := pq_cg (fun x hx => (lrS_set hds (Nat.le_refl _) x hx).symm)
      unfold wpX11_learnFromFailure_b50
      refine ⟨hc.1, 6, hc.2.2.1, hT6.1, ?_⟩
      rw [hT.2.2.1]
      refine ⟨fun _ => ?_, fun z => absurd (Eq.mpr (o_le (by omega) (by omega)) (Nat.le_refl _)) z⟩
      refine q_keepSet (s := lrS (lrM P ss σ.2 ds ds.length) ds ds.length) hc hss hset (fun S2 hf2 hss2 h82 => ?_)
      obtain ⟨d2, hf2'⟩ := hf2
      have hc2 : CSh S2 := hf2'.CS hc
      have hpb2 : pR S2 0 6 = some pb := by rw [hf2'.R]; exact hpb
      have hp2 : PRep S2 pb P := PRep_fr hf2' (by decide) hp
      have hT2 : cT S2 6 (P 0) ds.length σ := cT_fr hf2' (fun a ha q => by
        rw [LT_mem] at ha
        simp only [List.mem_cons, List.not_mem_nil, or_false] at q
        omega) hT
      have hT62 := hc2.2.2.2.2.2.2.2.2.2.2.2.1
      refine ⟨hc2.1, 6, hc2.2.2.1, hT62.1, q_takeBack hT62 hw hT2 h0 hV.2.2.2.1 (fun S3 hf3 hT3 => ?_)⟩
      have hc3 := hf3.CS hc2
      have hV0 := VI_lrn0 hV h0
      have hpb3 : pR S3 0 6 = some pb := by rw [hf3.R]; exact hpb2
      have hp3 : PRep S3 pb P := PRep_fr hf3 (by decide) hp2
      have hss3 : cSS S3 (lrnS P ss ds σ) := cSS_fr hf3 (by decide) (by decide) hss2
      refine ⟨hc3.1, 6, hc3.2.2.1, q_propagate (Or.inl rfl) hc3 hpb3 hp3 hw hss3 hV0.2.1 hT3 (VI_sum hV0) (fun S4 hJ4 => ?_)⟩
      obtain ⟨hf4, hT4, hX4, _⟩ := hJ4
      have m0 : 0 ∉ 82 :: LT 6 := fun q => by rw [List.mem_cons, LT_mem] at q; omega
      have m84 : 84 ∉ 82 :: LT 6 := fun q => by rw [List.mem_cons, LT_mem] at q; omega
      have m83 : 83 ∉ 82 :: LT 6 := fun q => by rw [List.mem_cons, LT_mem] at q; omega
      have m8 : 6 + 2 ∉ 82 :: LT 6 := fun q => by rw [List.mem_cons, LT_mem] at q; omega
      rw [w_bcl, bcl_pk (eD_wf hds (Nat.le_refl _)), eD_sum hds _ (Nat.le_refl _)]
      have hXX : ∀ i, i < σ.2.length → pJ S3 (6 + 3 + i) 5 = pJ S' (6 + 3 + i) 5 := fun i hi => by
        rw [hf3.J (by rw [List.mem_singleton]; omega), hf2'.J (by simp only [List.mem_cons, List.not_mem_nil, or_false]; omega)]
        rfl
      refine hQ S4 (frX_t (frX_C hf) (frX_t (frX_m (fun a ha => RC_mem.mpr (by simp only [List.mem_cons, List.not_mem_nil, or_false] at ha; omega)) (⟨d2, hf2'⟩ : frX [0, 84] S' S2)) (frX_t (frX_0 (frC_of hf3 (by decide))) (frX_0 (frC_of hf4 (fun a ha => by rw [List.mem_cons, LT_mem] at ha; omega)))))) ⟨hf4.CS hc3, by rw [hf4.R]; exact hpb3, PRep_fr hf4 (LT_85 (by decide)) hp3, cSS_fr hf4 m0 m84 hss3, by rw [hlen']; exact hT4, FndI_fr hf4 m83 (FndI_fr hf3 (by decide) (FndI_fr hf2' (by decide) hF)), fun k hk2 => ?_, ?_, ?_⟩
      · rw [hlen'] at hk2
        rw [dG_take hk2, hf4.J m8, hf3.J (by decide), hf2'.J (by decide)]
        exact hD k (by omega)
      · rw [hf4.I m0, hf3.I (by decide), h82 8 (by decide)]
        exact hn
      · have hle := bkN_le (T := σ.2) (l := ds.length) σ.2.length
        have hE0 : cE S3 P (tkB σ.2 ds.length) := fun i hi => by
          have hi2 : i < bkN σ.2 ds.length σ.2.length := by rw [← tkB_len]; exact hi
          rw [hXX i (by omega), exE_c (P := P) (T := tkB σ.2 ds.length) (T' := σ.2) (fun j hj => tkB_G (by omega))]
          exact hE i (by omega)
        have hpre : (lrnT P ss ds σ).2.take (tkB σ.2 ds.length).length = tkB σ.2 ds.length := prE_ap (P := P) (ss := lrnS P ss ds σ) (l := ds.length - 1) (dI P (tkB σ.2 ds.length), tkB σ.2 ds.length) (fun τ => τ.2.take (tkB σ.2 ds.length).length = tkB σ.2 ds.length) (fun τ f h _ _ => by
          show (τ.2 ++ [f]).take (tkB σ.2 ds.length).length = tkB σ.2 ds.length
          have hle2 : (tkB σ.2 ds.length).length ≤ τ.2.length := by
            have h5 : (τ.2.take (tkB σ.2 ds.length).length).length = (tkB σ.2 ds.length).length := by rw [h]
            rw [List.length_take] at h5
            omega
          rw [List.take_append_of_le_length hle2]
          exact h) List.take_length
        exact cE_cX hE0 hX4 (pre_G hpre)
    | succ r ih =>
      intro k S' hk hf hJ'
      have hJ0 := hJ'
      obtain ⟨hc, hpb, hp, hss, hT, hF, hD, hn, hE⟩ := hJ'
      have hT6 := hc.2.2.2.2.2.2.2.2.2.2.2.1
      have hT44 := hc.2.2.2.2.2.2.2.2.2.2.2.2.1
      have hkl : k < ds.length := by omega
      have hstep : lrM P ss σ.2 ds (k + 1) = if mkF P ss σ.2 ds (ud (lrM P ss σ.2 ds k) k false) = true then ud (lrM P ss σ.2 ds k) k false else lrM P ss σ.2 ds k := rfl
      have hnx := ih (k + 1)
      generalize r + 1 = fu at hnx ⊢
      rw [hstep] at hnx
      unfold wpX11_learnFromFailure_b50
      simp only [c_0, c_1, ngL_d, o_add]
      refine ⟨hc.1, 6, hc.2.2.1, hT6.1, ?_⟩
      rw [hT.2.2.1]
      refine ⟨fun z => ?_, fun _ => ?_⟩
      · rw [o_le (by omega) (by omega)] at z
        omega
      · rw [w_decisionAt hT6 hT hD hl7 hkl, eD_clr hds hkl]
        refine ⟨hc.1, 44, hc.2.2.2.1, pb, hpb, hp.2.2.1, ?_⟩
        rw [w_assigned hgwf (eD_wf hds (Nat.le_refl _)), eD_st hw hs hV.2.2.2.2.2.1, hp.2.2.2.1]
        refine ⟨hT44.1, ?_⟩
        unfold wpX9_begin
        rw [c_0]
        refine ⟨hT44.1, ?_⟩
        have hswf := stD_wf (m := ud (lrM P ss σ.2 ds k) k false) hw hs hds (Nat.le_refl _)
        have f1 := fr_begin (S := S') (t := 44) (a := nI (P 0)) (b := nI 0) (c := nI 0) (L := pk (stD P σ.2 ds (ud (lrM P ss σ.2 ds k) k false) ds.length))
        have cT1 := cT_begin (S := S') (t := 44) (N := P 0) (d := stD P σ.2 ds (ud (lrM P ss σ.2 ds k) k false) ds.length) hP0 hswf (fun x h1 h2 => stD_0 hw hs hV.2.2.2.2.2.1 h1 h2)
        generalize hS1 : sJ (sI (sI (sI S' 44 2 (nI (P 0))) 44 3 (nI 0)) 44 4 (nI 0)) 44 5 (pk (stD P σ.2 ds (ud (lrM P ss σ.2 ds k) k false) ds.length)) = S1 at f1 cT1
        have hJ1 : CJ S1 pb P ss ds σ n := CJ_fr f1 (fun a ha => by rw [List.mem_singleton] at ha; omega) hJ0
        have hc1 := hJ1.1
        refine ⟨hc1.1, 44, hc1.2.2.2.1, q_propagate (Or.inr rfl) hc1 hJ1.2.1 hJ1.2.2.1 hw hJ1.2.2.2.1 hV.2.1 cT1 (dsum_le _) (fun S3 hJ3 => ?_)⟩
        obtain ⟨hf3, hT3, _, _⟩ := hJ3
        have nl3 : ∀ a, a ∈ 82 :: LT 44 → 44 ≤ a ∧ a < 83 := fun a ha => by
          rw [List.mem_cons, LT_mem] at ha
          omega
        have hJ4 : CJ S3 pb P ss ds σ n := CJ_fr hf3 nl3 hJ1
        have hc3 := hJ4.1
        have hT443 := hc3.2.2.2.2.2.2.2.2.2.2.2.2.1
        have hfr : frC S S3 := fr_t hf (fr_t (frC_of f1 (by decide)) (frC_of hf3 (fun a ha => by have := nl3 a ha; omega)))
        refine ⟨hc3.1, 44, hc3.2.2.2.1, hT443.1, ?_⟩
        rw [w_hasFailed hT443 hT3, mkF_l 0, bI_0]
        refine ⟨fun z => ?_, fun z => ?_⟩
        · rw [if_neg (by rw [z]; decide)] at hnx
          exact hnx S3 (by omega) hfr hJ4
        · rw [Bool.not_eq_false] at z
          rw [if_pos z] at hnx
          exact hnx S3 (by omega) hfr hJ4
  obtain ⟨hc, hpb, hp, hss, hT, hF, hD, hn, hE⟩ := hJ
  have hT6 := hc.2.2.2.2.2.2.2.2.2.2.2.1
  have hall : ∀ k, k < ds.length → (fun k => decide (k < ds.length)) k = true := fun k hk => decide_eq_true hk
  have tell : ∀ r k, k + r = ds.length → wpX11_learnFromFailure_b4 Q (r + 1) S 0 (pk (eD (fun k => decide (k < ds.length)) ds k)) (nI k) := by
    intro r
    induction r with
    | zero =>
      intro k hk
      have e : k = ds.length := by omega
      subst e
      unfold wpX11_learnFromFailure_b4
      rw [c_0]
      refine ⟨hc.1, 6, hc.2.2.1, hT6.1, ?_⟩
      rw [hT.2.2.1]
      refine ⟨fun _ => ⟨pb, hpb, hp.2.2.1, ?_⟩, fun z => absurd (Eq.mpr (o_le (by omega) (by omega)) (Nat.le_refl _)) z⟩
      rw [hp.2.2.2.2.2.1]
      exact q_ground hT6 hw hT hV.2.2.2.1.1 ⟨_, try1 ds.length 0 S (Nat.zero_add _) (fr_r _ _) ⟨hc, hpb, hp, hss, hT, hF, hD, hn, hE⟩⟩
    | succ r ih =>
      intro k hk
      have hkl : k < ds.length := by omega
      have hnx := ih (k + 1) (by omega)
      generalize r + 1 = fu at hnx ⊢
      unfold wpX11_learnFromFailure_b4
      simp only [c_1, o_add]
      refine ⟨hc.1, 6, hc.2.2.1, hT6.1, ?_⟩
      rw [hT.2.2.1]
      refine ⟨fun z => ?_, fun _ => ?_⟩
      · rw [o_le (by omega) (by omega)] at z
        omega
      · rw [w_decisionAt hT6 hT hD hl7 hkl, eD_or hds hkl (hall k hkl)]
        exact hnx
  have h1 := tell ds.length 0 (Nat.zero_add _)
  unfold wpX11_learnFromFailure
  rw [l_0, c_0, ← pz00]
  exact ⟨_, h1⟩

/-! THE CLASS: decide, back, decision, probe, forbid -/
/-- the addresses of the class's own objects, but for its reader, its text and its names' row -/
def RC : List Nat := 0 :: (List.range 81).map (fun k => k + 4)
theorem RC_mem {a : Nat} : a ∈ RC ↔ a = 0 ∨ 4 ≤ a ∧ a < 85 := by
  unfold RC
  rw [List.mem_cons, List.mem_map]
  exact ⟨fun h => h.elim Or.inl (fun ⟨k, h1, h2⟩ => Or.inr (by have := List.mem_range.mp h1; omega)), fun h => h.elim Or.inl (fun h => Or.inr ⟨a - 4, List.mem_range.mpr (by omega), by omega⟩)⟩
def frC (S S' : PS) : Prop := fr RC S S'
theorem frC_of {A : List Nat} {S S' : PS} (h : fr A S S') (hA : ∀ a, a ∈ A → a = 0 ∨ 4 ≤ a ∧ a < 85) : frC S S' := fr_m (fun a ha => RC_mem.mpr (hA a ha)) h
theorem LT_lt {t : Nat} (ht : t + 38 ≤ 83) : ∀ a, a ∈ 82 :: (t + 2) :: LT t → a < 85 := fun a ha => by
  rw [List.mem_cons, List.mem_cons, LT_mem] at ha
  omega
/-- the class's objects hold a problem, sets, decisions, a trail, a number of decisions made -/
def CJ (S : PS) (pb : Nat) (P : Nat → Nat) (ss : List Nat) (ds : List (Nat × Nat)) (σ : St) (n : Nat) : Prop := CSh S ∧ pR S 0 6 = some pb ∧ PRep S pb P ∧ cSS S ss ∧ cT S 6 (P 0) ds.length σ ∧ FndI S P ∧ cD S 6 ds ∧ pI S 0 8 = nI n ∧ cE S P σ.2
theorem cD_fr {A : List Nat} {S S' : PS} {t : Nat} {ds : List (Nat × Nat)} (h : fr A S S') (hA : t + 2 ∉ A) (hD : cD S t ds) : cD S' t ds := fun k hk => by
  rw [h.J hA]
  exact hD k hk
theorem LT6_no {A : List Nat} (hA : ∀ a, a ∈ A → 44 ≤ a) : ∀ a, a ∈ LT 6 → a ∉ A := fun a ha q => by
  rw [LT_mem] at ha
  have := hA a q
  omega
theorem CJ_fr {A : List Nat} {S S' : PS} {pb : Nat} {P : Nat → Nat} {ss : List Nat} {ds : List (Nat × Nat)} {σ : St} {n : Nat} (h : fr A S S') (hA : ∀ a, a ∈ A → 44 ≤ a ∧ a < 83) (hJ : CJ S pb P ss ds σ n) : CJ S' pb P ss ds σ n := by
  obtain ⟨a1, a2, a3, a4, a5, a6, a7, a8, a9⟩ := hJ
  have n0 : 0 ∉ A := fun q => by have := hA 0 q; omega
  have n8 : 6 + 2 ∉ A := fun q => by have := hA _ q; omega
  have n83 : 83 ∉ A := fun q => by have := hA _ q; omega
  have n84 : 84 ∉ A := fun q => by have := hA _ q; omega
  exact ⟨h.CS a1, by rw [h.R]; exact a2, PRep_fr h (fun a ha => by have := hA a ha; omega) a3, cSS_fr h n0 n84 a4, cT_fr h (LT6_no (fun a ha => (hA a ha).1)) a5, FndI_fr h n83 a6, cD_fr h n8 a7, by rw [h.I n0]; exact a8, cE_fr h a5.2.2.2.2.2.2.1 (fun i hi q => by have := hA _ q; omega) a9⟩
theorem cE_cX {S S' : PS} {P : Nat → Nat} {T T' : List FT} (hE : cE S P T) (hX : cX S S' 6 T.length T'.length) (hpre : ∀ i, i < T.length → fG T' i = fG T i) : cE S' P T' := fun i hi => by
  rcases Nat.lt_or_ge i T.length with q | q
  · rw [hX.1 i q, exE_c (P := P) (T := T') (T' := T) (fun j hj => hpre j (by omega))]
    exact hE i q
  · exact Or.inl (hX.2 i q hi)
theorem pre_G {T T' : List FT} (h : T'.take T.length = T) : ∀ i, i < T.length → fG T' i = fG T i := fun i hi => by
  have h1 := fG_take (T := T') hi
  rw [h] at h1
  exact h1.symm
theorem q_chas {S : PS} {d : Nat → Nat} {y : Nat} {v : Int32} {Q : Int32 → PS → Prop} (hd : Dwf d) (hy : y < 7) (hQ1 : ∀ w, w < 5 → v = nI w → (d y).testBit w = true → Q (nI 1) S) (hQ0 : (∀ w, w < 5 → v = nI w → (d y).testBit w = false) → Q (nI 0) S) : wpX5_has S (pk d) (nI y) v Q := by
  rcases i_split v (N := 5) (by decide) with ⟨w, hw5, rfl⟩ | hv
  · rw [w_has5 hd hy hw5]
    cases hb : (d y).testBit w
    · refine hQ0 (fun u hu e => ?_)
      have e2 : w = u := Eq.mp (o_eq (by omega) (by omega)) e
      rw [← e2]
      exact hb
    · exact hQ1 w hw5 rfl hb
  · rw [w_has5n hv]
    exact hQ0 (fun w hw e => (out_no (by decide) hv hw e).elim)
theorem q_makeDecision {S : PS} {pb : Nat} {P : Nat → Nat} {ss : List Nat} {ds : List (Nat × Nat)} {σ : St} {n y w : Nat} {Q : PS → Prop} (hJ : CJ S pb P ss ds σ n) (hV : VI P ss ds σ) (hy : y < P 0) (hw5 : w < 5) (hb : (σ.1 y).testBit w = true) (h2 : 1 < pcn 5 (σ.1 y)) (hnf : fl (P 0) σ.1 = false)
    (hQ : ∀ S', frC S S' → CJ S' pb P ss (ds ++ [(y, w)]) (prE P ss (ds.length + 1) (asS y w (ds.length + 1) 5 σ)) (n + 1) → Q S') : wpX11_makeDecision S 0 (nI y) (nI w) Q := by
  obtain ⟨hc, hpb, hp, hss, hT, hF, hD, hn, hE⟩ := hJ
  have hw := hV.1
  have hP0 := hw.1
  have hV2 := VI_dec hV hy hw5 hb h2 hnf
  have hl7 := Dok_len hw hV2.2.2.2.2.2.1
  have hlen1 : (ds ++ [(y, w)]).length = ds.length + 1 := by rw [List.length_append, List.length_singleton]
  rw [hlen1] at hl7
  unfold wpX11_makeDecision
  rw [c_1, hn, o_add]
  have f1 : fr [0] S (sI S 0 8 (nI (n + 1))) := fr_sI _ _ _ (by decide)
  have hc1 := f1.CS hc
  have hT61 := hc1.2.2.2.2.2.2.2.2.2.2.2.1
  have hT1 : cT (sI S 0 8 (nI (n + 1))) 6 (P 0) ds.length σ := cT_fr f1 (fun a ha q => by rw [LT_mem] at ha; rw [List.mem_singleton] at q; omega) hT
  refine ⟨hc.1, 6, hc.2.2.1, hc.2.2.2.2.2.2.2.2.2.2.2.1.1, q_assume hT61 hT1 (by omega) hy hw5 (VI_sum hV) (fun S2 hf2 hT2 hX2 hJl hJo => ?_)⟩
  have hc2 := hf2.CS hc1
  have e1 : pR S2 0 6 = some pb := by rw [hf2.R]; exact hpb
  have nl : ∀ a, a ∈ (6 + 2) :: LT 6 → a < 85 := fun a ha => LT_lt (t := 6) (by decide) a (List.mem_cons_of_mem _ ha)
  have hp2 : PRep S2 pb P := PRep_fr hf2 (fun a ha => Or.inl (nl a ha)) (PRep_fr f1 (by decide) hp)
  have n0 : 0 ∉ (6 + 2) :: LT 6 := fun q => by rw [List.mem_cons, LT_mem] at q; omega
  have n84 : 84 ∉ (6 + 2) :: LT 6 := fun q => by rw [List.mem_cons, LT_mem] at q; omega
  have n83 : 83 ∉ (6 + 2) :: LT 6 := fun q => by rw [List.mem_cons, LT_mem] at q; omega
  have hss1 : cSS (sI S 0 8 (nI (n + 1))) ss := ⟨by rw [pI_sI, if_neg (fun q => absurd q.2 (by decide))]; exact hss.1, hss.2.1, hss.2.2⟩
  have hss2 : cSS S2 ss := cSS_fr hf2 n0 n84 hss1
  refine ⟨hc2.1, 6, hc2.2.2.1, q_propagate (Or.inl rfl) hc2 e1 hp2 hw hss2 hV.2.1 hT2 (VI_sum hV2) (fun S3 hJ3 => ?_)⟩
  obtain ⟨hf3, hT3, hX3, hle3⟩ := hJ3
  have m0 : 0 ∉ 82 :: LT 6 := fun q => by rw [List.mem_cons, LT_mem] at q; omega
  have m84 : 84 ∉ 82 :: LT 6 := fun q => by rw [List.mem_cons, LT_mem] at q; omega
  have m83 : 83 ∉ 82 :: LT 6 := fun q => by rw [List.mem_cons, LT_mem] at q; omega
  have m8 : 6 + 2 ∉ 82 :: LT 6 := fun q => by rw [List.mem_cons, LT_mem] at q; omega
  obtain ⟨p1, p2, p3⟩ := dec_pre (σ := σ) (x := y) (v := w) (l := ds.length) hw hV.2.1
  have hge : σ.2.length ≤ (asS y w (ds.length + 1) 5 σ).2.length := asS_ap (x := y) (v := w) (l := ds.length + 1) (σ := σ) 5 (Nat.le_refl _) (fun τ => σ.2.length ≤ τ.2.length) (fun τ f h _ _ => by
    show σ.2.length ≤ (τ.2 ++ [f]).length
    rw [List.length_append]
    omega) (Nat.le_refl _)
  refine hQ S3 (fr_t (frC_of f1 (by decide)) (fr_t (frC_of hf2 (fun a ha => by rw [List.mem_cons, LT_mem] at ha; omega)) (frC_of hf3 (fun a ha => by rw [List.mem_cons, LT_mem] at ha; omega)))) ⟨hf3.CS hc2, by rw [hf3.R]; exact e1, PRep_fr hf3 (LT_85 (by decide)) hp2, cSS_fr hf3 m0 m84 hss2, by rw [hlen1]; exact hT3, FndI_fr hf3 m83 (FndI_fr hf2 n83 (FndI_fr f1 (by decide) hF)), fun k hk => ?_, ?_, ?_⟩
  · rw [hlen1] at hk
    rw [hf3.J m8]
    by_cases e : k = ds.length
    · subst e
      rw [dG_new]
      exact hJl
    · rw [dG_old (show k < ds.length by omega), hJo k e]
      exact hD k (by omega)
  · rw [hf3.I m0, hf2.I n0, pI_sI, if_pos ⟨rfl, rfl⟩]
  · have hX : cX (sI S 0 8 (nI (n + 1))) S3 6 σ.2.length (prE P ss (ds.length + 1) (asS y w (ds.length + 1) 5 σ)).2.length := cX_t hge hX2 hX3
    exact cE_cX (S := S) hE ⟨fun i hi => hX.1 i hi, hX.2⟩ (pre_G p2)
theorem c_decide {S : PS} {pb : Nat} {P : Nat → Nat} {ss : List Nat} {ds : List (Nat × Nat)} {σ : St} {n : Nat} {x v : Int32} {Q : Int32 → PS → Prop} {X : String → PS → Prop} (hJ : CJ S pb P ss ds σ n) (hV : VI P ss ds σ)
    (hQ : ∀ S' y w, frC S S' → dOK P σ x v y w → 1 < pcn 5 (σ.1 y) → fl (P 0) σ.1 = false → CJ S' pb P ss (ds ++ [(y, w)]) (prE P ss (ds.length + 1) (asS y w (ds.length + 1) 5 σ)) (n + 1) → Q (nI ((prE P ss (ds.length + 1) (asS y w (ds.length + 1) 5 σ)).2.length - σ.2.length)) S')
    (hX1 : (x < nI 0 ∨ nI (P 0) ≤ x) → ∀ n, X "java/lang/IndexOutOfBoundsException" (sSkip S n))
    (hX2 : ∀ y, y < P 0 → x = nI y → noD σ v y → ∀ n, X "java/lang/IllegalArgumentException" (sSkip S n))
    (hX3 : ∀ y w, dOK P σ x v y w → (pcn 5 (σ.1 y) ≤ 1 ∨ fl (P 0) σ.1 = true) → ∀ n, X "java/lang/IllegalStateException" (sSkip S n)) : wpX11_decide S 0 x v Q X := by
  have hJ0 := hJ
  obtain ⟨hc, hpb, hp, hss, hT, hF, hD, hn, hE⟩ := hJ
  have hw := hV.1
  have hP0 := hw.1
  have hT6 := hc.2.2.2.2.2.2.2.2.2.2.2.1
  have t2 := hT.2.1
  have t4 := hT.2.2.2.1
  have t5 := hT.2.2.2.2.1
  unfold wpX11_decide wpX11_decide_b62
  rw [c_0]
  refine ⟨hc.1, ?_⟩
  rcases i_split x (N := P 0) (by omega) with ⟨y, hy, rfl⟩ | hx
  · have hy7 : y < 7 := by omega
    rw [w_cvar hc hpb hp hw hy]
    refine ⟨fun _ => ⟨hc.1, 6, hc.2.2.1, hT6.1, ?_⟩, fun z => absurd z (by decide)⟩
    rw [t4]
    refine q_chas t5 hy7 (fun w hw5 ev hb => ⟨fun _ => ⟨hc.1, ?_⟩, fun z => absurd z (by decide)⟩) (fun hno => ⟨fun z => absurd rfl z, fun _ => hX2 y hy rfl hno⟩)
    subst ev
    have hok : dOK P σ (nI y) (nI w) y w := ⟨hy, rfl, hw5, rfl, hb⟩
    have hpc : 0 < pcn 5 (σ.1 y) := by
      have := pcn_clr _ (t5 y hy7) _ hw5 hb
      omega
    rw [w_isFixed hc hT hy7, bI_0, decide_eq_false_iff_not]
    refine ⟨fun z => hX3 y w hok (Or.inl (by omega)), fun z => ⟨hc.1, 6, hc.2.2.1, hT6.1, ?_⟩⟩
    rw [w_hasFailed hT6 hT, bI_0]
    refine ⟨fun hnf => ⟨hc.1, 6, hc.2.2.1, hT6.1, ?_⟩, fun z2 => hX3 y w hok (Or.inr (by rw [← Bool.not_eq_false]; exact z2))⟩
    refine q_makeDecision hJ0 hV hy hw5 hb (by omega) hnf (fun S' hfr hJ' => ?_)
    have hJ1 := hJ'
    obtain ⟨hc', _, _, _, hT', _⟩ := hJ'
    have hT6' := hc'.2.2.2.2.2.2.2.2.2.2.2.1
    refine ⟨hc'.1, 6, hc'.2.2.1, hT6'.1, ?_⟩
    obtain ⟨p1, p2, p3⟩ := dec_pre (σ := σ) (x := y) (v := w) (l := ds.length) hw hV.2.1
    rw [hT'.2.1, t2, o_sub p1]
    exact hQ S' y w hfr hok (by omega) hnf hJ1
  · rw [w_cvar0 hc hpb hp hx]
    exact ⟨fun z => absurd rfl z, fun _ => hX1 hx⟩
theorem c_back {S : PS} {pb : Nat} {P : Nat → Nat} {ss : List Nat} {ds : List (Nat × Nat)} {σ : St} {n : Nat} {Q : Int32 → PS → Prop} {X : String → PS → Prop} (hJ : CJ S pb P ss ds σ n) (hV : VI P ss ds σ)
    (hQ : ∀ S', frC S S' → 0 < ds.length → CJ S' pb P ss (ds.take (ds.length - 1)) (dI P (tkB σ.2 ds.length), tkB σ.2 ds.length) n → Q (nI (σ.2.length - bkN σ.2 ds.length σ.2.length)) S')
    (hX : ds.length = 0 → ∀ n, X "java/lang/IllegalStateException" (sSkip S n)) : wpX11_back S 0 Q X := by
  obtain ⟨hc, hpb, hp, hss, hT, hF, hD, hn, hE⟩ := hJ
  have hw := hV.1
  have hl7 := Dok_len hw hV.2.2.2.2.2.1
  have hT6 := hc.2.2.2.2.2.2.2.2.2.2.2.1
  have t7 := hT.2.2.2.2.2.2.1
  unfold wpX11_back
  rw [c_0]
  refine ⟨hc.1, 6, hc.2.2.1, hT6.1, ?_⟩
  rw [hT.2.2.1, o_eq (by omega) (by omega)]
  refine ⟨fun z => ?_, fun z => hX z⟩
  refine q_takeBack hT6 hw hT (by omega) hV.2.2.2.1 (fun S' hf hT' => ?_)
  have hlen : (ds.take (ds.length - 1)).length = ds.length - 1 := by
    rw [List.length_take]
    exact Nat.min_eq_left (by omega)
  refine hQ S' (frC_of hf (by decide)) (by omega) ⟨hf.CS hc, by rw [hf.R]; exact hpb, PRep_fr hf (by decide) hp, cSS_fr hf (by decide) (by decide) hss, by rw [hlen]; exact hT', FndI_fr hf (by decide) hF, fun k hk => ?_, by rw [hf.I (by decide)]; exact hn, fun i hi => ?_⟩
  · rw [hlen] at hk
    rw [dG_take hk, hf.J (by decide)]
    exact hD k (by omega)
  · have hi2 : i < bkN σ.2 ds.length σ.2.length := by rw [← tkB_len]; exact hi
    have hle := bkN_le (T := σ.2) (l := ds.length) σ.2.length
    rw [hf.J (by rw [List.mem_singleton]; omega), exE_c (P := P) (T := (dI P (tkB σ.2 ds.length), tkB σ.2 ds.length).2) (T' := σ.2) (fun j hj => tkB_G (by omega))]
    exact hE i (by omega)
/-- the pairs of a set by their bits -/
def pbt (e : Nat → Nat) (b : Nat) : Bool := (e (b / 5)).testBit (b % 5)
theorem q_toldPair {S : PS} {e : Nat → Nat} {x v k : Nat} {Q : Int32 → PS → Prop} (he : Dwf e) (hx : x < 7) (hv : v < 5) (hb : (e x).testBit v = true) (hk : cN (pbt e) (5 * x + v) = k) (hQ : Q (nI (10 * x + v)) S) : wpX5_toldPair S (pk e) (nI k) Q := by
  have hlt := pq_lt he
  have hbx : pbt e (5 * x + v) = true := by
    unfold pbt
    rw [show (5 * x + v) / 5 = x by omega, show (5 * x + v) % 5 = v by omega]
    exact hb
  have hkl := cN_le (pbt e) (5 * x + v)
  have htest : ∀ b, b < 35 → (lg_cmp ((((pk e).toUInt64 >>> ((nI b).toInt64.toUInt64 &&& Int64.toUInt64 (lN 63))).toInt64) &&& lN 1) (lN 0) = nI 0) = (pbt e b = false) := fun b hb35 => by
    unfold pk
    rw [l_ushr (by omega) (by omega), lN_and, lg_0, lf_bit, pq_tb he, decide_eq_true hb35, Bool.true_and]
    show (lN (if pbt e b = true then 1 else 0) = lN 0) = _
    cases pbt e b
    · exact eq_true rfl |>.trans (eq_true rfl).symm
    · rw [if_pos rfl, lN_inj (by decide) (by decide)]
      simp
  have loop : ∀ r b, b + r = 5 * x + v → wpX5_toldPair_b5 Q (r + 1) S (pk e) (nI k) (nI (cN (pbt e) b)) (nI b) := by
    intro r
    induction r with
    | zero =>
      intro b hbr
      have e1 : b = 5 * x + v := by omega
      have hle : ¬ 35 ≤ b := by omega
      have d1 : nI b / nI 5 = nI (b / 5) := dv5 b (by omega)
      unfold wpX5_toldPair_b5
      simp only [c_0, c_1, c_5, c_35, l_0, l_1, l_63, show (10 : Int32) = nI 10 from rfl, htest b (by omega), d1, o_mul]
      refine ⟨fun z => ?_, fun _ => ⟨fun z => ?_, fun z => ⟨fun z2 => ?_, fun z2 => ?_⟩⟩⟩
      · rw [o_le (by omega) (by omega)] at z
        omega
      · rw [e1, hbx] at z
        cases z
      · rw [e1, hk] at z2
        exact absurd rfl z2
      · rw [o_sub (by omega), o_add, show 10 * (b / 5) + (b - b / 5 * 5) = 10 * x + v by omega]
        exact hQ
    | succ r ih =>
      intro b hbr
      have hn := ih (b + 1) (by omega)
      have hcb := cN_le (pbt e) b
      have hmono := cN_mono (pbt e) (show b + 1 ≤ 5 * x + v by omega)
      generalize r + 1 = fu at hn ⊢
      rw [cN_s] at hn hmono
      unfold wpX5_toldPair_b5
      simp only [c_0, c_1, c_5, c_35, l_0, l_1, l_63, show (10 : Int32) = nI 10 from rfl, htest b (by omega), o_add]
      refine ⟨fun z => ?_, fun _ => ⟨fun z => ?_, fun z => ⟨fun z2 => ?_, fun z2 => ?_⟩⟩⟩
      · rw [o_le (by omega) (by omega)] at z
        omega
      · rw [if_neg (by rw [z]; decide), Nat.add_zero] at hn
        exact hn
      · rw [Bool.not_eq_false] at z
        rw [if_pos z] at hn
        exact hn
      · rw [Bool.not_eq_false] at z
        rw [if_pos z] at hmono
        rw [o_eq (by omega) (by omega)] at z2
        omega
  exact ⟨_, loop (5 * x + v) 0 (Nat.zero_add _)⟩
theorem pbt_sg {y w : Nat} (hw : w < 5) : cN (pbt (sg y (2 ^ w))) (5 * y + w) = 0 := by
  rw [cN_cong (g := fun _ => false) (fun b hb => ?_)]
  · induction (5 * y + w) with
    | zero => rfl
    | succ n ih => exact ih
  · unfold pbt
    by_cases e : b / 5 = y
    · rw [e, sg_s, dm_pow_tb w hw _ (by omega)]
      exact decide_eq_false (by omega)
    · rw [sg_n e]
      exact Nat.zero_testBit _
theorem c_decision {S : PS} {pb : Nat} {P : Nat → Nat} {ss : List Nat} {ds : List (Nat × Nat)} {σ : St} {n : Nat} {x : Int32} {Q : Int32 → PS → Prop} {X : String → PS → Prop} (hJ : CJ S pb P ss ds σ n) (hV : VI P ss ds σ)
    (hQ : ∀ k, k < ds.length → x = nI k → Q (nI (10 * (dG ds k).1 + (dG ds k).2)) S)
    (hX : (x < nI 0 ∨ nI ds.length ≤ x) → ∀ n, X "java/lang/IndexOutOfBoundsException" (sSkip S n)) : wpX11_decision S 0 x Q X := by
  obtain ⟨hc, hpb, hp, hss, hT, hF, hD, hn, hE⟩ := hJ
  have hw := hV.1
  have hP0 := hw.1
  have hl7 := Dok_len hw hV.2.2.2.2.2.1
  have hT6 := hc.2.2.2.2.2.2.2.2.2.2.2.1
  unfold wpX11_decision wpX11_decision_b15
  rw [c_0]
  refine ⟨fun z => hX (Or.inl z), fun z0 => ⟨hc.1, 6, hc.2.2.1, hT6.1, ?_⟩⟩
  rw [hT.2.2.1]
  refine ⟨fun z => ?_, fun z => hX (Or.inr ?_)⟩
  · rcases i_split x (N := ds.length) (by omega) with ⟨k, hk, rfl⟩ | hx
    · rw [w_decisionAt hT6 hT hD hl7 hk]
      have hd := hV.2.2.2.2.2.1 k hk
      exact q_toldPair (sg_wf (dm_pow_lt _ hd.2.1)) (by omega) hd.2.1 (by rw [sg_s, dm_pow_tb _ hd.2.1 _ hd.2.1]; exact decide_eq_true rfl) (pbt_sg hd.2.1) (hQ k hk rfl)
    · rcases hx with q | q
      · exact absurd q z0
      · rw [Int32.le_iff_toInt_le] at q
        rw [Int32.lt_iff_toInt_lt] at z
        omega
  · rw [Int32.lt_iff_toInt_lt] at z
    rw [Int32.le_iff_toInt_le]
    omega
theorem probe_eq {P : Nat → Nat} {ss : List Nat} {σ : St} {y w l : Nat} : (prE P ss 1 (asS y w 1 5 (σ.1, []))).1 = (prE P ss (l + 1) (asS y w (l + 1) 5 σ)).1 ∧ (prE P ss 1 (asS y w 1 5 (σ.1, []))).2.length + σ.2.length = (prE P ss (l + 1) (asS y w (l + 1) 5 σ)).2.length := by
  obtain ⟨h1, h2⟩ := asS_lv (x := y) (v := w) (l := 1) (m := l + 1) (σ := (σ.1, [])) (τ := σ) rfl 5
  have e1 := prE_T (P := P) (ss := ss) (l := 1) (asS y w 1 5 (σ.1, [])).1 (asS y w 1 5 (σ.1, [])).2
  have e2 := prE_T (P := P) (ss := ss) (l := l + 1) (asS y w (l + 1) 5 σ).1 (asS y w (l + 1) 5 σ).2
  have h3 := prE_lv (P := P) (ss := ss) (l := 1) (m := l + 1) (σ := ((asS y w 1 5 (σ.1, [])).1, [])) (τ := ((asS y w (l + 1) 5 σ).1, [])) ⟨h1, rfl⟩
  have e3 : prE P ss 1 (asS y w 1 5 (σ.1, [])) = _ := e1
  have e4 : prE P ss (l + 1) (asS y w (l + 1) 5 σ) = _ := e2
  rw [e3, e4]
  refine ⟨h3.1, ?_⟩
  show ((asS y w 1 5 (σ.1, [])).2 ++ (prE P ss 1 ((asS y w 1 5 (σ.1, [])).1, [])).2).length + σ.2.length = ((asS y w (l + 1) 5 σ).2 ++ (prE P ss (l + 1) ((asS y w (l + 1) 5 σ).1, [])).2).length
  rw [List.length_append, List.length_append, h3.2]
  replace h2 : (asS y w 1 5 (σ.1, [])).2.length + σ.2.length = (asS y w (l + 1) 5 σ).2.length + 0 := h2
  omega
theorem cT_begin {S : PS} {t N : Nat} {d : Nat → Nat} (hN : N ≤ 7) (hd : Dwf d) (hz : ∀ x, N ≤ x → x < 7 → d x = 0) : cT (sJ (sI (sI (sI S t 2 (nI N)) t 3 (nI 0)) t 4 (nI 0)) t 5 (pk d)) t N 0 (d, []) := by
  refine ⟨?_, ?_, ?_, ?_, hd, hz, Nat.zero_le _, hN, Nat.zero_le _, fun i hi => absurd hi (Nat.not_lt_zero _)⟩
  · simp only [pI_sJ, pI_sI, Nat.reduceEqDiff, and_false, and_self, if_false, if_true, reduceCtorEq]
  · simp only [pI_sJ, pI_sI, Nat.reduceEqDiff, and_false, and_self, if_false, if_true, reduceCtorEq]
    rfl
  · simp only [pI_sJ, pI_sI, Nat.reduceEqDiff, and_false, and_self, if_false, if_true, reduceCtorEq]
  · simp only [pJ_sJ, and_self, if_true]
theorem fr_begin {S : PS} {t : Nat} {a b c : Int32} {L : Int64} : fr [t] S (sJ (sI (sI (sI S t 2 a) t 3 b) t 4 c) t 5 L) := fr_t (fr_t (fr_t (fr_sI _ _ _ (List.mem_singleton.mpr rfl)) (fr_sI _ _ _ (List.mem_singleton.mpr rfl))) (fr_sI _ _ _ (List.mem_singleton.mpr rfl))) (fr_sJ _ _ _ (List.mem_singleton.mpr rfl))
theorem c_probe {S : PS} {pb : Nat} {P : Nat → Nat} {ss : List Nat} {ds : List (Nat × Nat)} {σ : St} {n : Nat} {x v : Int32} {Q : Int32 → PS → Prop} {X : String → PS → Prop} (hJ : CJ S pb P ss ds σ n) (hV : VI P ss ds σ)
    (hQ : ∀ S' y w, frC S S' → dOK P σ x v y w → 1 < pcn 5 (σ.1 y) → fl (P 0) σ.1 = false → CJ S' pb P ss ds σ n → Q (if fl (P 0) (prE P ss (ds.length + 1) (asS y w (ds.length + 1) 5 σ)).1 = true then ngI else nI ((prE P ss (ds.length + 1) (asS y w (ds.length + 1) 5 σ)).2.length - σ.2.length)) S')
    (hX1 : (x < nI 0 ∨ nI (P 0) ≤ x) → ∀ n, X "java/lang/IndexOutOfBoundsException" (sSkip S n))
    (hX2 : ∀ y, y < P 0 → x = nI y → noD σ v y → ∀ n, X "java/lang/IllegalArgumentException" (sSkip S n))
    (hX3 : ∀ y w, dOK P σ x v y w → (pcn 5 (σ.1 y) ≤ 1 ∨ fl (P 0) σ.1 = true) → ∀ n, X "java/lang/IllegalStateException" (sSkip S n)) : wpX11_probe S 0 x v Q X := by
  have hJ0 := hJ
  obtain ⟨hc, hpb, hp, hss, hT, hF, hD, hn, hE⟩ := hJ
  have hw := hV.1
  have hP0 := hw.1
  have hT6 := hc.2.2.2.2.2.2.2.2.2.2.2.1
  have hT44 := hc.2.2.2.2.2.2.2.2.2.2.2.2.1
  have t4 := hT.2.2.2.1
  have t5 := hT.2.2.2.2.1
  have t6 := hT.2.2.2.2.2.1
  unfold wpX11_probe wpX11_probe_b62
  simp only [c_0, ↓ng_d]
  refine ⟨hc.1, ?_⟩
  rcases i_split x (N := P 0) (by omega) with ⟨y, hy, rfl⟩ | hx
  · have hy7 : y < 7 := by omega
    rw [w_cvar hc hpb hp hw hy]
    refine ⟨fun _ => ⟨hc.1, 6, hc.2.2.1, hT6.1, ?_⟩, fun z => absurd z (by decide)⟩
    rw [t4]
    refine q_chas t5 hy7 (fun w hw5 ev hb => ⟨fun _ => ⟨hc.1, ?_⟩, fun z => absurd z (by decide)⟩) (fun hno => ⟨fun z => absurd rfl z, fun _ => hX2 y hy rfl hno⟩)
    subst ev
    have hok : dOK P σ (nI y) (nI w) y w := ⟨hy, rfl, hw5, rfl, hb⟩
    have hpc : 0 < pcn 5 (σ.1 y) := by
      have := pcn_clr _ (t5 y hy7) _ hw5 hb
      omega
    rw [w_isFixed hc hT hy7, bI_0, decide_eq_false_iff_not]
    refine ⟨fun z => hX3 y w hok (Or.inl (by omega)), fun z => ⟨hc.1, 6, hc.2.2.1, hT6.1, ?_⟩⟩
    rw [w_hasFailed hT6 hT, bI_0]
    refine ⟨fun hnf => ⟨hc.1, 44, hc.2.2.2.1, pb, hpb, hp.2.2.1, 6, hc.2.2.1, hT6.1, hT44.1, ?_⟩, fun z2 => hX3 y w hok (Or.inr (by rw [← Bool.not_eq_false]; exact z2))⟩
    unfold wpX9_begin
    rw [hp.2.2.2.1, t4, c_0]
    refine ⟨hT44.1, ?_⟩
    have f1 := fr_begin (S := S) (t := 44) (a := nI (P 0)) (b := nI 0) (c := nI 0) (L := pk σ.1)
    have cT1 := cT_begin (S := S) (t := 44) (N := P 0) (d := σ.1) hP0 t5 t6
    generalize hS1 : sJ (sI (sI (sI S 44 2 (nI (P 0))) 44 3 (nI 0)) 44 4 (nI 0)) 44 5 (pk σ.1) = S1 at f1 cT1
    have hc1 := f1.CS hc
    have hT441 := hc1.2.2.2.2.2.2.2.2.2.2.2.2.1
    have hsum : dsum (σ.1, ([] : List FT)).1 + (σ.1, ([] : List FT)).2.length ≤ 35 := by
      have := VI_sum hV
      show dsum σ.1 + 0 ≤ 35
      omega
    refine ⟨hc1.1, 44, hc1.2.2.2.1, hT441.1, q_assume hT441 cT1 (by decide) hy hw5 hsum (fun S2 hf2 hT2 hX2 hJl hJo => ?_)⟩
    have nl : ∀ a, a ∈ (44 + 2) :: LT 44 → 44 ≤ a ∧ a < 83 := fun a ha => by
      rw [List.mem_cons, LT_mem] at ha
      omega
    have hJ1 : CJ S1 pb P ss ds σ n := CJ_fr f1 (fun a ha => by rw [List.mem_singleton] at ha; omega) hJ0
    have hJ2 : CJ S2 pb P ss ds σ n := CJ_fr hf2 nl hJ1
    have hc2 := hJ2.1
    have hs2 := asS_sum (x := y) (v := w) (l := 1) (σ := (σ.1, [])) hy7 t5 hsum 5 (Nat.le_refl _)
    refine ⟨hc2.1, 44, hc2.2.2.2.1, q_propagate (Or.inr rfl) hc2 hJ2.2.1 hJ2.2.2.1 hw hJ2.2.2.2.1 hV.2.1 hT2 hs2.2 (fun S3 hJ3 => ?_)⟩
    obtain ⟨hf3, hT3, _, _⟩ := hJ3
    have nl3 : ∀ a, a ∈ 82 :: LT 44 → 44 ≤ a ∧ a < 83 := fun a ha => by
      rw [List.mem_cons, LT_mem] at ha
      omega
    have hJ4 : CJ S3 pb P ss ds σ n := CJ_fr hf3 nl3 hJ2
    have hc3 := hJ4.1
    have hT443 := hc3.2.2.2.2.2.2.2.2.2.2.2.2.1
    refine ⟨hc3.1, 44, hc3.2.2.2.1, hT443.1, ?_⟩
    obtain ⟨q1, q2⟩ := probe_eq (P := P) (ss := ss) (σ := σ) (y := y) (w := w) (l := ds.length)
    have hfr : frC S S3 := fr_t (frC_of f1 (by decide)) (fr_t (frC_of hf2 (fun a ha => by have := nl a ha; omega)) (frC_of hf3 (fun a ha => by have := nl3 a ha; omega)))
    have h1 := hQ S3 y w hfr hok (by omega) hnf hJ4
    rw [w_hasFailed hT443 hT3, bI_0, q1]
    refine ⟨fun z2 => ⟨hc3.1, 44, hc3.2.2.2.1, hT443.1, ?_⟩, fun z2 => ?_⟩
    · rw [if_neg (by rw [z2]; decide)] at h1
      rw [hT3.2.1]
      rw [show (prE P ss (ds.length + 1) (asS y w (ds.length + 1) 5 σ)).2.length - σ.2.length = (prE P ss 1 (asS y w 1 5 (σ.1, []))).2.length by omega] at h1
      exact h1
    · rw [if_pos (by rw [← Bool.not_eq_false]; exact z2)] at h1
      exact h1
  · rw [w_cvar0 hc hpb hp hx]
    exact ⟨fun z => absurd rfl z, fun _ => hX1 hx⟩
theorem c_forbid {S : PS} {pb : Nat} {P : Nat → Nat} {ss : List Nat} {ds : List (Nat × Nat)} {σ : St} {n : Nat} {x v : Int32} {Q : Int32 → PS → Prop} {X : String → PS → Prop} (hJ : CJ S pb P ss ds σ n) (hV : VI P ss ds σ)
    (hQ : ∀ S' y w, frC S S' → dOK P σ x v y w → ds.length = 0 → fl (P 0) σ.1 = false → CJ S' pb P ss ds (prE P ss 0 (fbS y w σ)) n → Q (nI ((prE P ss 0 (fbS y w σ)).2.length - σ.2.length)) S')
    (hX1 : (x < nI 0 ∨ nI (P 0) ≤ x) → ∀ n, X "java/lang/IndexOutOfBoundsException" (sSkip S n))
    (hX2 : ∀ y, y < P 0 → x = nI y → noD σ v y → ∀ n, X "java/lang/IllegalArgumentException" (sSkip S n))
    (hX3 : ∀ y w, dOK P σ x v y w → (0 < ds.length ∨ fl (P 0) σ.1 = true) → ∀ n, X "java/lang/IllegalStateException" (sSkip S n)) : wpX11_forbid S 0 x v Q X := by
  obtain ⟨hc, hpb, hp, hss, hT, hF, hD, hn, hE⟩ := hJ
  have hw := hV.1
  have hP0 := hw.1
  have hl7 := Dok_len hw hV.2.2.2.2.2.1
  have hT6 := hc.2.2.2.2.2.2.2.2.2.2.2.1
  have t2 := hT.2.1
  have t4 := hT.2.2.2.1
  have t5 := hT.2.2.2.2.1
  unfold wpX11_forbid wpX11_forbid_b64
  simp only [c_0, l_0, ng_2]
  refine ⟨hc.1, ?_⟩
  rcases i_split x (N := P 0) (by omega) with ⟨y, hy, rfl⟩ | hx
  · have hy7 : y < 7 := by omega
    rw [w_cvar hc hpb hp hw hy]
    refine ⟨fun _ => ⟨hc.1, 6, hc.2.2.1, hT6.1, ?_⟩, fun z => absurd z (by decide)⟩
    rw [t4]
    refine q_chas t5 hy7 (fun w hw5 ev hb => ⟨fun _ => ⟨hc.1, 6, hc.2.2.1, hT6.1, ?_⟩, fun z => absurd z (by decide)⟩) (fun hno => ⟨fun z => absurd rfl z, fun _ => hX2 y hy rfl hno⟩)
    subst ev
    have hok : dOK P σ (nI y) (nI w) y w := ⟨hy, rfl, hw5, rfl, hb⟩
    rw [hT.2.2.1, o_lt (by omega) (by omega)]
    refine ⟨fun z => hX3 y w hok (Or.inl z), fun z0 => ?_⟩
    have z : ds.length = 0 := by omega
    rw [w_hasFailed hT6 hT, bI_0]
    refine ⟨fun hnf => ⟨hc.1, 6, hc.2.2.1, hT6.1, ?_⟩, fun z2 => hX3 y w hok (Or.inr (by rw [← Bool.not_eq_false]; exact z2))⟩
    have hpos := dsum_pos t5 hy7 hw5 hb
    have hsum := VI_sum hV
    have hV2 := VI_fb hV z hy hw5 hb
    have hT0 : cT S 6 (P 0) 0 σ := by rw [z] at hT; exact hT
    refine q_remove hT6 hT0 (by omega) hy hw5 pz0.symm (fun S2 hf2 hT2 hX2' => ?_)
    have hc2 := hf2.CS hc
    have n0 : 0 ∉ LT 6 := fun q => by rw [LT_mem] at q; omega
    have n84 : 84 ∉ LT 6 := fun q => by rw [LT_mem] at q; omega
    have n83 : 83 ∉ LT 6 := fun q => by rw [LT_mem] at q; omega
    have n8 : 6 + 2 ∉ LT 6 := fun q => by rw [LT_mem] at q; omega
    have e1 : pR S2 0 6 = some pb := by rw [hf2.R]; exact hpb
    have hp2 : PRep S2 pb P := PRep_fr hf2 (fun a ha => Or.inl (by rw [LT_mem] at ha; omega)) hp
    have hss2 : cSS S2 ss := cSS_fr hf2 n0 n84 hss
    have hT2' : cT S2 6 (P 0) 0 (fbS y w σ) := hT2
    refine ⟨hc2.1, 6, hc2.2.2.1, q_propagate (Or.inl rfl) hc2 e1 hp2 hw hss2 hV.2.1 hT2' (VI_sum hV2) (fun S3 hJ3 => ?_)⟩
    obtain ⟨hf3, hT3, hX3', hle3⟩ := hJ3
    have m0 : 0 ∉ 82 :: LT 6 := fun q => by rw [List.mem_cons, LT_mem] at q; omega
    have m84 : 84 ∉ 82 :: LT 6 := fun q => by rw [List.mem_cons, LT_mem] at q; omega
    have m83 : 83 ∉ 82 :: LT 6 := fun q => by rw [List.mem_cons, LT_mem] at q; omega
    have m8 : 6 + 2 ∉ 82 :: LT 6 := fun q => by rw [List.mem_cons, LT_mem] at q; omega
    have hc3 := hf3.CS hc2
    have hT63 := hc3.2.2.2.2.2.2.2.2.2.2.2.1
    have hl2 : (fbS y w σ).2.length = σ.2.length + 1 := by
      show (σ.2 ++ [_]).length = _
      rw [List.length_append, List.length_singleton]
    have hge : σ.2.length ≤ (prE P ss 0 (fbS y w σ)).2.length := by
      have h1 := prE_ge (P := P) (ss := ss) (l := 0) (fbS y w σ)
      omega
    have hpre : (prE P ss 0 (fbS y w σ)).2.take σ.2.length = σ.2 := by
      have h1 : (prE P ss 0 (fbS y w σ)).2.take (fbS y w σ).2.length = (fbS y w σ).2 := prE_ap (P := P) (ss := ss) (l := 0) (fbS y w σ) (fun τ => τ.2.take (fbS y w σ).2.length = (fbS y w σ).2) (fun τ f h _ _ => by
        show (τ.2 ++ [f]).take (fbS y w σ).2.length = (fbS y w σ).2
        have hle : (fbS y w σ).2.length ≤ τ.2.length := by
          have h5 : (τ.2.take (fbS y w σ).2.length).length = (fbS y w σ).2.length := by rw [h]
          rw [List.length_take] at h5
          omega
        rw [List.take_append_of_le_length hle]
        exact h) List.take_length
      have h2 : ((prE P ss 0 (fbS y w σ)).2.take (fbS y w σ).2.length).take σ.2.length = (fbS y w σ).2.take σ.2.length := by rw [h1]
      rw [List.take_take, Nat.min_eq_left (by omega)] at h2
      rw [h2]
      show (σ.2 ++ [_]).take σ.2.length = σ.2
      exact List.take_left
    refine ⟨hc3.1, 6, hc3.2.2.1, hT63.1, ?_⟩
    rw [hT3.2.1, t2, o_sub hge]
    refine hQ S3 y w (fr_t (frC_of hf2 (fun a ha => by rw [LT_mem] at ha; omega)) (frC_of hf3 (fun a ha => by rw [List.mem_cons, LT_mem] at ha; omega))) hok z hnf ⟨hc3, by rw [hf3.R]; exact e1, PRep_fr hf3 (LT_85 (by decide)) hp2, cSS_fr hf3 m0 m84 hss2, by rw [z]; exact hT3, FndI_fr hf3 m83 (FndI_fr hf2 n83 hF), cD_fr hf3 m8 (cD_fr hf2 n8 hD), by rw [hf3.I m0, hf2.I n0]; exact hn, ?_⟩
    refine cE_cX hE (cX_t (n1 := σ.2.length + 1) (by omega) hX2' ?_) (pre_G hpre)
    rw [hl2] at hX3'
    exact hX3'
  · rw [w_cvar0 hc hpb hp hx]
    exact ⟨fun z => absurd rfl z, fun _ => hX1 hx⟩

/-! THE TRAIL: how it grows and shrinks -/
/-- σ' comes from σ by removals of values that are there, with facts that keep R -/
def Ap (R : FT → Prop) (σ σ' : St) : Prop := ∀ J : St → Prop, (∀ τ f, J τ → R f → (τ.1 f.1).testBit f.2.1 = true → J (ud τ.1 f.1 (clr (τ.1 f.1) f.2.1), τ.2 ++ [f])) → J σ → J σ'
theorem Ap_r (R : FT → Prop) (σ : St) : Ap R σ σ := fun _ _ h => h
theorem Ap_t {R : FT → Prop} {σ σ1 σ2 : St} (h : Ap R σ σ1) (h2 : Ap R σ1 σ2) : Ap R σ σ2 := fun J hJ h0 => h2 J hJ (h J hJ h0)
theorem Ap_m {R R' : FT → Prop} (hR : ∀ f, R f → R' f) {σ σ1 : St} (h : Ap R σ σ1) : Ap R' σ σ1 := fun J hJ h0 => h J (fun τ f h1 h2 h3 => hJ τ f h1 (hR f h2) h3) h0
theorem Ap_1 {R : FT → Prop} {σ : St} {f : FT} (hR : R f) (hb : (σ.1 f.1).testBit f.2.1 = true) : Ap R σ (ud σ.1 f.1 (clr (σ.1 f.1) f.2.1), σ.2 ++ [f]) := fun J hJ h0 => hJ σ f h0 hR hb
theorem stp_ap {κ : Kon} {N : Nat} {r : Int32} {l s x v : Nat} {σ : St} : Ap (fun f => f = (x, v, r, l, s)) σ (stp κ N r l s x v σ) := by
  unfold stp
  by_cases e : dB (gone κ N x v σ.1) = true
  · rw [if_pos e]
    exact Ap_1 (f := (x, v, r, l, s)) rfl (dB_t.mp e).2.1
  · rw [if_neg e]
    exact Ap_r _ _
theorem vls_ap {κ : Kon} {N : Nat} {r : Int32} {l s k : Nat} {σ : St} (hk : k < κ.1) : ∀ j, j ≤ 5 → Ap (FR κ r l s) σ (vls κ N r l s (κ.2.1 k) j σ) := by
  intro j
  induction j with
  | zero => exact fun _ => Ap_r _ _
  | succ j ih =>
    intro hj
    simp only [vls]
    exact Ap_t (ih (by omega)) (Ap_m (fun f hf => by subst hf; exact ⟨⟨k, hk, rfl⟩, (by omega : j < 5), rfl⟩) stp_ap)
theorem sw1_ap {κ : Kon} {N : Nat} {r : Int32} {l s : Nat} {σ : St} : ∀ k, k ≤ κ.1 → Ap (FR κ r l s) σ (sw1 κ N r l s k σ) := by
  intro k
  induction k with
  | zero => exact fun _ => Ap_r _ _
  | succ k ih =>
    intro hk
    simp only [sw1]
    exact Ap_t (ih (by omega)) (vls_ap (by omega) 5 (Nat.le_refl _))
theorem rnd_ap {P : Nat → Nat} {ss : List Nat} {l : Nat} {σ : St} : ∀ k, k ≤ P 1 + ss.length → Ap (FP1 P ss l) σ (rnd P ss l k σ) := by
  intro k
  induction k with
  | zero => exact fun _ => Ap_r _ _
  | succ k ih =>
    intro hk
    simp only [rnd]
    exact Ap_t (ih (by omega)) (Ap_m (fun f hf => ⟨k, by omega, hf⟩) (sw1_ap _ (Nat.le_refl _)))
theorem prp_ap {P : Nat → Nat} {ss : List Nat} {l : Nat} : ∀ (n : Nat) (σ : St), Ap (FP1 P ss l) σ (prp P ss l n σ) := by
  intro n
  induction n with
  | zero => exact fun σ => Ap_r _ _
  | succ n ih =>
    intro σ
    simp only [prp]
    by_cases e : (rnd P ss l (P 1 + ss.length) σ).2.length = σ.2.length
    · rw [if_pos e]
      exact rnd_ap _ (Nat.le_refl _)
    · rw [if_neg e]
      exact Ap_t (rnd_ap _ (Nat.le_refl _)) (ih _)
theorem prE_ap {P : Nat → Nat} {ss : List Nat} {l : Nat} (σ : St) : Ap (FP1 P ss l) σ (prE P ss l σ) := prp_ap 36 σ
/-- the domains that the facts leave -/
def dI (P : Nat → Nat) (T : List FT) : Nat → Nat := wEf P T (fun _ => true) T.length
theorem wEf_c {P : Nat → Nat} {T T' : List FT} {L : Nat → Bool} : ∀ k, (∀ j, j < k → fG T j = fG T' j) → wEf P T L k = wEf P T' L k := by
  intro k
  induction k with
  | zero => exact fun _ => rfl
  | succ k ih =>
    intro h
    unfold wEf
    rw [ih (fun j hj => h j (by omega)), h k (by omega)]
theorem dI_app {P : Nat → Nat} {T : List FT} {f : FT} : dI P (T ++ [f]) = ud (dI P T) f.1 (clr (dI P T f.1) f.2.1) := by
  unfold dI
  rw [List.length_append, List.length_singleton]
  show ud (wEf P (T ++ [f]) (fun _ => true) T.length) (fG (T ++ [f]) T.length).1 (clr (wEf P (T ++ [f]) (fun _ => true) T.length (fG (T ++ [f]) T.length).1) (fG (T ++ [f]) T.length).2.1) = _
  rw [fG_new, wEf_c (T := T ++ [f]) (T' := T) _ (fun j hj => fG_old hj)]
theorem dI_wf {P : Nat → Nat} {T : List FT} (hw : Pwf P) (hs : Tsm T) : Dwf (dI P T) := wEf_wf hw hs _ (Nat.le_refl _)
theorem dI_tb {P : Nat → Nat} {T : List FT} (hw : Pwf P) (hs : Tsm T) {x v : Nat} (hx : x < 7) (hv : v < 5) : ((dI P T x).testBit v = true ↔ (P (2 + x)).testBit v = true ∧ ¬ ∃ j, j < T.length ∧ (fG T j).1 = x ∧ (fG T j).2.1 = v) := by
  unfold dI
  rw [wEf_tb hw hs hx hv _ (Nat.le_refl _)]
  exact ⟨fun ⟨h1, h2⟩ => ⟨h1, fun ⟨j, hj, q⟩ => h2 ⟨j, hj, rfl, q⟩⟩, fun ⟨h1, h2⟩ => ⟨h1, fun ⟨j, hj, _, q⟩ => h2 ⟨j, hj, q⟩⟩⟩
/-- the reason of a fact is one -/
def rsn (P : Nat → Nat) (f : FT) : Prop := (∃ k, k < P 1 ∧ f.2.2.1 = nI k ∧ inM (cK P k) f.1 = true) ∨ (f.2.2.1 = nI 100 ∧ Swf f.2.2.2.2 ∧ 0 < f.2.2.2.2 ∧ inM (lK f.2.2.2.2) f.1 = true) ∨ f.2.2.1 < nI 0
/-- what holds of a trail and its domains -/
def TI (P : Nat → Nat) (σ : St) : Prop := Tok P σ.2 ∧ Dwf σ.1 ∧ ∀ x, x < 7 → σ.1 x = dI P σ.2 x
theorem TI_step {P : Nat → Nat} {τ : St} {f : FT} (hw : Pwf P) (h : TI P τ) (h1 : f.1 < P 0) (h2 : f.2.1 < 5) (h3 : rsn P f) (hb : (τ.1 f.1).testBit f.2.1 = true) : TI P (ud τ.1 f.1 (clr (τ.1 f.1) f.2.1), τ.2 ++ [f]) := by
  have hx7 : f.1 < 7 := by have := hw.1; omega
  have hs := Tok_sm hw h.1
  refine ⟨fun i hi => ?_, ud_wf h.2.1 (dm_clr_lt _ (h.2.1 _ hx7) _ h2), fun x hx => ?_⟩
  · rw [List.length_append, List.length_singleton] at hi
    by_cases e : i = τ.2.length
    · subst e
      rw [h.2.2 _ hx7, dI_tb hw hs hx7 h2] at hb
      refine ⟨by rw [fG_new]; exact h1, by rw [fG_new]; exact h2, by rw [fG_new]; exact hb.1, fun j hj q => ?_, by rw [fG_new]; exact h3⟩
      rw [fG_new, fG_old hj] at q
      exact hb.2 ⟨j, hj, q⟩
    · have hil : i < τ.2.length := by omega
      have h4 := h.1 i hil
      show (fG (τ.2 ++ [f]) i).1 < P 0 ∧ (fG (τ.2 ++ [f]) i).2.1 < 5 ∧ (P (2 + (fG (τ.2 ++ [f]) i).1)).testBit (fG (τ.2 ++ [f]) i).2.1 = true ∧ (∀ j, j < i → ¬ ((fG (τ.2 ++ [f]) j).1 = (fG (τ.2 ++ [f]) i).1 ∧ (fG (τ.2 ++ [f]) j).2.1 = (fG (τ.2 ++ [f]) i).2.1)) ∧ rsn P (fG (τ.2 ++ [f]) i)
      rw [fG_old hil]
      refine ⟨h4.1, h4.2.1, h4.2.2.1, fun j hj => ?_, h4.2.2.2.2⟩
      rw [fG_old (show j < τ.2.length by omega)]
      exact h4.2.2.2.1 j hj
  · show ud τ.1 f.1 (clr (τ.1 f.1) f.2.1) x = dI P (τ.2 ++ [f]) x
    rw [dI_app]
    by_cases e : x = f.1
    · rw [e, ud_s, ud_s, h.2.2 _ hx7]
    · rw [ud_n _ _ e, ud_n _ _ e]
      exact h.2.2 x hx
theorem dsum_cg {d e : Nat → Nat} (h : ∀ x, x < 7 → d x = e x) : dsum d = dsum e := sN_cong (fun i hi => by rw [h i hi])
theorem wEf_sum {P : Nat → Nat} {T : List FT} (hw : Pwf P) (hT : Tok P T) : ∀ k, k ≤ T.length → dsum (wEf P T (fun _ => true) k) + k = dsum (fun x => P (2 + x)) := by
  intro k
  induction k with
  | zero => exact fun _ => rfl
  | succ k ih =>
    intro hk
    have h1 := ih (by omega)
    have hs := Tok_sm hw hT
    have hsk := hs k (by omega)
    have hb : (wEf P T (fun _ => true) k (fG T k).1).testBit (fG T k).2.1 = true := by
      rw [wEf_tb hw hs hsk.1 hsk.2 k (by omega)]
      exact ⟨(hT k (by omega)).2.2.1, fun ⟨j, hj, _, q⟩ => (hT k (by omega)).2.2.2.1 j hj q⟩
    have h2 := dsum_clr (wEf_wf (L := fun _ => true) hw hs k (by omega)) hsk.1 hsk.2 hb
    show dsum (ud (wEf P T (fun _ => true) k) (fG T k).1 (clr (wEf P T (fun _ => true) k (fG T k).1) (fG T k).2.1)) + (k + 1) = _
    omega
theorem TI_sum {P : Nat → Nat} {σ : St} (hw : Pwf P) (h : TI P σ) : dsum σ.1 + σ.2.length ≤ 35 := by
  have h1 := wEf_sum hw h.1 _ (Nat.le_refl _)
  have h2 : dsum σ.1 = dsum (wEf P σ.2 (fun _ => true) σ.2.length) := dsum_cg h.2.2
  have h3 := dsum_le (fun x => P (2 + x))
  omega
/-- levels do not fall, and none is above the present one -/
def Lv (T : List FT) (l : Nat) : Prop := ∀ i, i < T.length → (fG T i).2.2.2.1 ≤ l ∧ ∀ j, j < i → (fG T j).2.2.2.1 ≤ (fG T i).2.2.2.1
theorem Lv_up {T : List FT} {l m : Nat} (h : Lv T l) (hm : l ≤ m) : Lv T m := fun i hi => ⟨Nat.le_trans (h i hi).1 hm, (h i hi).2⟩
theorem Lv_app {T : List FT} {l : Nat} {f : FT} (h : Lv T l) (hf : f.2.2.2.1 = l) : Lv (T ++ [f]) l := fun i hi => by
  rw [List.length_append, List.length_singleton] at hi
  by_cases e : i = T.length
  · subst e
    rw [fG_new]
    refine ⟨by omega, fun j hj => ?_⟩
    rw [fG_old hj, hf]
    exact (h j hj).1
  · have hil : i < T.length := by omega
    rw [fG_old hil]
    refine ⟨(h i hil).1, fun j hj => ?_⟩
    rw [fG_old (show j < T.length by omega)]
    exact (h i hil).2 j hj
/-- how many facts stay when those of a level go -/
def bkN (T : List FT) (l : Nat) : Nat → Nat
  | 0 => 0
  | m + 1 => if l ≤ (fG T m).2.2.2.1 then bkN T l m else m + 1
theorem bkN_le {T : List FT} {l : Nat} : ∀ m, bkN T l m ≤ m := by
  intro m
  induction m with
  | zero => exact Nat.le_refl _
  | succ m ih =>
    unfold bkN
    split <;> omega
theorem bkN_hi {T : List FT} {l : Nat} : ∀ m i, bkN T l m ≤ i → i < m → l ≤ (fG T i).2.2.2.1 := by
  intro m
  induction m with
  | zero => exact fun i _ h => absurd h (Nat.not_lt_zero _)
  | succ m ih =>
    intro i h1 h2
    unfold bkN at h1
    by_cases e : l ≤ (fG T m).2.2.2.1
    · rw [if_pos e] at h1
      by_cases ei : i = m
      · rw [ei]
        exact e
      · exact ih i h1 (by omega)
    · rw [if_neg e] at h1
      omega
theorem bkN_lo {T : List FT} {l L : Nat} (hL : Lv T L) : ∀ m, m ≤ T.length → ∀ i, i < bkN T l m → (fG T i).2.2.2.1 < l := by
  intro m
  induction m with
  | zero => exact fun _ i h => absurd h (Nat.not_lt_zero _)
  | succ m ih =>
    intro hm i hi
    unfold bkN at hi
    by_cases e : l ≤ (fG T m).2.2.2.1
    · rw [if_pos e] at hi
      exact ih (by omega) i hi
    · rw [if_neg e] at hi
      by_cases ei : i = m
      · rw [ei]
        omega
      · have := (hL m (by omega)).2 i (by omega)
        omega
theorem fG_take {T : List FT} {m i : Nat} (h : i < m) : fG (T.take m) i = fG T i := by
  unfold fG
  rw [List.getD_eq_getElem?_getD, List.getD_eq_getElem?_getD, List.getElem?_take, if_pos h]
/-- the facts that stay -/
def tkB (T : List FT) (l : Nat) : List FT := T.take (bkN T l T.length)
theorem tkB_len (T : List FT) (l : Nat) : (tkB T l).length = bkN T l T.length := by
  unfold tkB
  rw [List.length_take]
  exact Nat.min_eq_left (bkN_le _)
theorem tkB_G {T : List FT} {l i : Nat} (h : i < bkN T l T.length) : fG (tkB T l) i = fG T i := fG_take h
theorem Tok_take {P : Nat → Nat} {T : List FT} {m : Nat} (h : Tok P T) : Tok P (T.take m) := fun i hi => by
  rw [List.length_take] at hi
  have him : i < m := by omega
  have h4 := h i (by omega)
  show (fG (T.take m) i).1 < P 0 ∧ (fG (T.take m) i).2.1 < 5 ∧ (P (2 + (fG (T.take m) i).1)).testBit (fG (T.take m) i).2.1 = true ∧ (∀ j, j < i → ¬ ((fG (T.take m) j).1 = (fG (T.take m) i).1 ∧ (fG (T.take m) j).2.1 = (fG (T.take m) i).2.1)) ∧ rsn P (fG (T.take m) i)
  rw [fG_take him]
  refine ⟨h4.1, h4.2.1, h4.2.2.1, fun j hj => ?_, h4.2.2.2.2⟩
  rw [fG_take (show j < m by omega)]
  exact h4.2.2.2.1 j hj
/-- a decision -/
def dG (ds : List (Nat × Nat)) (k : Nat) : Nat × Nat := ds.getD k (0, 0)
theorem dG_old {ds : List (Nat × Nat)} {f : Nat × Nat} {i : Nat} (h : i < ds.length) : dG (ds ++ [f]) i = dG ds i := by
  unfold dG
  rw [List.getD_eq_getElem?_getD, List.getD_eq_getElem?_getD, List.getElem?_append_left h]
theorem dG_new {ds : List (Nat × Nat)} {f : Nat × Nat} : dG (ds ++ [f]) ds.length = f := by
  unfold dG
  rw [List.getD_eq_getElem?_getD, List.getElem?_append_right (Nat.le_refl _), Nat.sub_self]
  rfl
theorem dG_take {ds : List (Nat × Nat)} {m i : Nat} (h : i < m) : dG (ds.take m) i = dG ds i := by
  unfold dG
  rw [List.getD_eq_getElem?_getD, List.getD_eq_getElem?_getD, List.getElem?_take, if_pos h]
/-- what is known of the decisions -/
def Dok (P : Nat → Nat) (T : List FT) (ds : List (Nat × Nat)) : Prop := ∀ k, k < ds.length → (dG ds k).1 < P 0 ∧ (dG ds k).2 < 5 ∧ (P (2 + (dG ds k).1)).testBit (dG ds k).2 = true ∧ (∀ u, u < 5 → u ≠ (dG ds k).2 → (P (2 + (dG ds k).1)).testBit u = true → ∃ i, i < T.length ∧ (fG T i).1 = (dG ds k).1 ∧ (fG T i).2.1 = u ∧ (fG T i).2.2.2.1 ≤ k + 1) ∧ (∀ i, i < T.length → (fG T i).1 = (dG ds k).1 → (fG T i).2.1 = (dG ds k).2 → k + 1 ≤ (fG T i).2.2.2.1) ∧ ∀ j, j < k → (dG ds j).1 ≠ (dG ds k).1
theorem Dok_app {P : Nat → Nat} {T : List FT} {ds : List (Nat × Nat)} {f : FT} (h : Dok P T ds) (hf : ds.length ≤ f.2.2.2.1) : Dok P (T ++ [f]) ds := fun k hk => by
  obtain ⟨h1, h2, h3, h4, h5, h6⟩ := h k hk
  refine ⟨h1, h2, h3, fun u hu hne hb => ?_, fun i hi e1 e2 => ?_, h6⟩
  · obtain ⟨i, hi, q⟩ := h4 u hu hne hb
    refine ⟨i, by rw [List.length_append]; omega, ?_⟩
    rw [fG_old hi]
    exact q
  · rw [List.length_append, List.length_singleton] at hi
    by_cases e : i = T.length
    · subst e
      rw [fG_new]
      omega
    · have hil : i < T.length := by omega
      rw [fG_old hil] at e1 e2 ⊢
      exact h5 i hil e1 e2
theorem Dok_len {P : Nat → Nat} {T : List FT} {ds : List (Nat × Nat)} (hw : Pwf P) (h : Dok P T ds) : ds.length ≤ 7 := by
  have hP0 := hw.1
  have h1 : ∀ k, k ≤ ds.length → cN (fun x => dB (∃ j, j < k ∧ (dG ds j).1 = x)) 7 = k := by
    intro k
    induction k with
    | zero =>
      intro _
      rw [cN_cong (g := fun _ => false) (fun i _ => dB_f.mpr (fun ⟨j, hj, _⟩ => absurd hj (Nat.not_lt_zero _)))]
      rfl
    | succ k ih =>
      intro hk
      have h2 := ih (by omega)
      have h3 := h k (by omega)
      have h4 := cN_one (p := fun x => dB (∃ j, j < k + 1 ∧ (dG ds j).1 = x)) (q := fun x => dB (∃ j, j < k ∧ (dG ds j).1 = x)) (k := (dG ds k).1) 7 (by omega) (fun x _ hne => dB_c ⟨fun ⟨j, hj, e⟩ => ⟨j, by omega, e⟩, fun ⟨j, hj, e⟩ => ⟨j, by
        by_cases q : j = k
        · rw [q] at e
          exact absurd e.symm hne
        · omega, e⟩⟩) (dB_t.mpr ⟨k, by omega, rfl⟩) (dB_f.mpr (fun ⟨j, hj, e⟩ => h3.2.2.2.2.2 j hj e))
      omega
  have h2 := h1 ds.length (Nat.le_refl _)
  have h3 := cN_le (fun x => dB (∃ j, j < ds.length ∧ (dG ds j).1 = x)) 7
  omega
/-- no decision was made after a failure -/
def NF (P : Nat → Nat) (T : List FT) (l : Nat) : Prop := ∀ m, m ≤ T.length → (∀ i, i < m → (fG T i).2.2.2.1 < l) → fl (P 0) (wEf P T (fun _ => true) m) = false
theorem NF_app {P : Nat → Nat} {T : List FT} {l : Nat} {f : FT} (h : NF P T l) (hf : f.2.2.2.1 = l) : NF P (T ++ [f]) l := fun m hm hlt => by
  rw [List.length_append, List.length_singleton] at hm
  have hml : m ≤ T.length := by
    by_cases e : m = T.length + 1
    · have := hlt T.length (by omega)
      rw [fG_new, hf] at this
      omega
    · omega
  rw [wEf_c (T := T ++ [f]) (T' := T) m (fun j hj => fG_old (by omega))]
  exact h m hml (fun i hi => by
    have := hlt i hi
    rw [fG_old (by omega)] at this
    exact this)
/-- all that holds of problem, sets, decisions and trail -/
def VI (P : Nat → Nat) (ss : List Nat) (ds : List (Nat × Nat)) (σ : St) : Prop := Pwf P ∧ SSw P ss ∧ ss.length ≤ 12 ∧ TI P σ ∧ Lv σ.2 ds.length ∧ Dok P σ.2 ds ∧ NF P σ.2 ds.length
theorem VI_ap {P : Nat → Nat} {ss : List Nat} {ds : List (Nat × Nat)} {σ σ' : St} {R : FT → Prop} (hR : ∀ f, R f → f.1 < P 0 ∧ f.2.1 < 5 ∧ rsn P f ∧ f.2.2.2.1 = ds.length) (ha : Ap R σ σ') (h : VI P ss ds σ) : VI P ss ds σ' := by
  refine ha (fun τ => VI P ss ds τ) (fun τ f h1 hf hb => ?_) h
  obtain ⟨a1, a2, a3, a4, a5, a6, a7⟩ := h1
  obtain ⟨r1, r2, r3, r4⟩ := hR f hf
  exact ⟨a1, a2, a3, TI_step a1 a4 r1 r2 r3 hb, Lv_app a5 r4, Dok_app a6 (by omega), NF_app a7 r4⟩
theorem FP1_R {P : Nat → Nat} {ss : List Nat} {l : Nat} {f : FT} (hw : Pwf P) (hs : SSw P ss) (h : FP1 P ss l f) : f.1 < P 0 ∧ f.2.1 < 5 ∧ rsn P f ∧ f.2.2.2.1 = l := by
  obtain ⟨c, hc, ⟨k, hk, ek⟩, hv, e⟩ := h
  by_cases q : c < P 1
  · have hkl : kl P ss c = (cK P c, nI c, 0) := by unfold kl; rw [if_pos q]
    rw [hkl] at hk ek e
    refine ⟨by rw [ek]; exact mK_lt hw q k hk, hv, Or.inl ⟨c, q, by rw [e], ?_⟩, by rw [e]⟩
    rw [ek]
    exact inM_t.mpr ⟨k, hk, rfl⟩
  · rw [kl_ge q] at hk ek e
    have hss := hs (c - P 1) (by omega)
    have hlt := mL_lt hss.2 k hk
    have hin : inM (lK (ss.getD (c - P 1) 0)) f.1 = true := by
      rw [ek]
      exact inM_t.mpr ⟨k, hk, rfl⟩
    have hx : f.1 < P 0 := by
      rw [ek]
      exact hlt
    have hpos : 0 < ss.getD (c - P 1) 0 := by
      rw [inM_lK (by have := hw.1; omega), decide_eq_true_iff] at hin
      refine Nat.pos_of_ne_zero (fun z => hin ?_)
      rw [z]
      unfold dg
      rw [Nat.zero_shiftRight, Nat.zero_and]
    refine ⟨hx, hv, Or.inr (Or.inl ⟨by rw [e], ?_, ?_, ?_⟩), by rw [e]⟩
    · rw [e]
      exact hss.1
    · rw [e]
      exact hpos
    · rw [e]
      exact hin
theorem VI_prE {P : Nat → Nat} {ss : List Nat} {ds : List (Nat × Nat)} {σ : St} (h : VI P ss ds σ) : VI P ss ds (prE P ss ds.length σ) := VI_ap (fun f hf => FP1_R h.1 h.2.1 hf) (prE_ap σ) h
theorem VI_sum {P : Nat → Nat} {ss : List Nat} {ds : List (Nat × Nat)} {σ : St} (h : VI P ss ds σ) : dsum σ.1 + σ.2.length ≤ 35 := TI_sum h.1 h.2.2.2.1
/-! a decision -/
/-- the values besides one go -/
def asS (x v l : Nat) : Nat → St → St
  | 0, σ => σ
  | u + 1, σ => if (decide (u ≠ v) && ((asS x v l u σ).1 x).testBit u) = true then (ud (asS x v l u σ).1 x (clr ((asS x v l u σ).1 x) u), (asS x v l u σ).2 ++ [(x, u, ngI, l, 0)]) else asS x v l u σ
theorem asS_ap {x v l : Nat} {σ : St} : ∀ k, k ≤ 5 → Ap (fun f => ∃ u, u < 5 ∧ f = (x, u, ngI, l, 0)) σ (asS x v l k σ) := by
  intro k
  induction k with
  | zero => exact fun _ => Ap_r _ _
  | succ k ih =>
    intro hk
    have h1 := ih (by omega)
    unfold asS
    by_cases e : (decide (k ≠ v) && ((asS x v l k σ).1 x).testBit k) = true
    · rw [if_pos e]
      rw [Bool.and_eq_true] at e
      exact Ap_t h1 (Ap_1 (f := (x, k, ngI, l, 0)) ⟨k, by omega, rfl⟩ e.2)
    · rw [if_neg e]
      exact h1
theorem asS_wf {x v l : Nat} {σ : St} (hx : x < 7) (hd : Dwf σ.1) : ∀ k, k ≤ 5 → Dwf (asS x v l k σ).1 := by
  intro k
  induction k with
  | zero => exact fun _ => hd
  | succ k ih =>
    intro hk
    have h1 := ih (by omega)
    unfold asS
    split
    · exact ud_wf h1 (dm_clr_lt _ (h1 x hx) _ (by omega))
    · exact h1
theorem asS_tb {x v l : Nat} {σ : St} (hx : x < 7) (hd : Dwf σ.1) : ∀ k, k ≤ 5 → ∀ u, u < 5 → ((asS x v l k σ).1 x).testBit u = ((σ.1 x).testBit u && !(decide (u < k) && decide (u ≠ v))) := by
  intro k
  induction k with
  | zero =>
    intro _ u _
    show (σ.1 x).testBit u = _
    simp
  | succ k ih =>
    intro hk u hu
    have h1 := ih (by omega)
    have h2 := asS_wf (v := v) (l := l) hx hd k (by omega)
    unfold asS
    by_cases e : (decide (k ≠ v) && ((asS x v l k σ).1 x).testBit k) = true
    · rw [if_pos e]
      rw [Bool.and_eq_true, decide_eq_true_iff] at e
      show (ud (asS x v l k σ).1 x (clr ((asS x v l k σ).1 x) k) x).testBit u = _
      rw [ud_s, dm_clr_tb _ (h2 x hx) _ (by omega) _ hu, h1 u hu]
      by_cases q : u = k
      · subst q
        simp [e.1]
      · have q2 : (u < k + 1) = (u < k) := propext (by omega)
        simp [q, q2]
    · rw [if_neg e, h1 u hu]
      by_cases q : u = k
      · subst q
        rw [h1 u hu] at e
        simp at e
        by_cases qv : u = v
        · simp [qv]
        · simp [qv, e qv]
      · have q2 : (u < k + 1) = (u < k) := propext (by omega)
        simp [q2]
theorem asS_o {x v l : Nat} {σ : St} {y : Nat} (hy : y ≠ x) : ∀ k, (asS x v l k σ).1 y = σ.1 y := by
  intro k
  induction k with
  | zero => rfl
  | succ k ih =>
    unfold asS
    split
    · show ud (asS x v l k σ).1 x (clr ((asS x v l k σ).1 x) k) y = _
      rw [ud_n _ _ hy]
      exact ih
    · exact ih
/-- what a decision leaves -/
theorem asS_d {x v l : Nat} {σ : St} (hx : x < 7) (hv : v < 5) (hd : Dwf σ.1) (hb : (σ.1 x).testBit v = true) : ∀ y, y < 7 → (asS x v l 5 σ).1 y = ud σ.1 x (2 ^ v) y := fun y hy => by
  by_cases e : y = x
  · subst e
    rw [ud_s]
    refine dm_ext _ (asS_wf hx hd 5 (Nat.le_refl _) y hy) _ (dm_pow_lt v hv) (fun u hu => ?_)
    rw [asS_tb hx hd 5 (Nat.le_refl _) u hu, dm_pow_tb v hv u hu]
    by_cases q : u = v
    · subst q
      simp [hb]
    · simp [q, hu]
  · rw [ud_n _ _ e, asS_o e]

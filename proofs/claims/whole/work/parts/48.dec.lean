/-! DECISIONS: what holds after one is made, after one is taken back -/
theorem pcn_sg : ∀ d, d < 32 → ∀ w, w < 5 → (∀ u, u < 5 → u ≠ w → d.testBit u = false) → pcn 5 d ≤ 1 := by decide +kernel
theorem wEf_le {P : Nat → Nat} {T : List FT} (hw : Pwf P) (hs : Tsm T) {m n : Nat} (hmn : m ≤ n) (hn : n ≤ T.length) {x : Nat} (hx : x < 7) (h0 : wEf P T (fun _ => true) m x = 0) : wEf P T (fun _ => true) n x = 0 := by
  refine (dm_0 _ (wEf_wf (L := fun _ => true) hw hs n hn x hx)).mpr (fun v hv => ?_)
  rw [← Bool.not_eq_true, wEf_tb hw hs hx hv n hn]
  rintro ⟨q1, q2⟩
  have h1 := (wEf_tb (L := fun _ => true) hw hs hx hv m (by omega)).mpr ⟨q1, fun ⟨j, hj, z⟩ => q2 ⟨j, by omega, z⟩⟩
  rw [h0, Nat.zero_testBit] at h1
  cases h1
theorem fl_cg {N : Nat} {d e : Nat → Nat} (h : ∀ x, x < N → d x = e x) : fl N d = fl N e := dB_c ⟨fun ⟨x, hx, h0⟩ => ⟨x, hx, by rw [← h x hx]; exact h0⟩, fun ⟨x, hx, h0⟩ => ⟨x, hx, by rw [h x hx]; exact h0⟩⟩
theorem NF_now {P : Nat → Nat} {σ : St} {l : Nat} (hw : Pwf P) (h : TI P σ) (hnf : fl (P 0) σ.1 = false) : NF P σ.2 l := fun m hm _ => by
  have hP0 := hw.1
  refine fl_f.mpr (fun x hx h0 => ?_)
  refine fl_f.mp hnf x hx ?_
  rw [h.2.2 x (by omega)]
  exact wEf_le hw (Tok_sm hw h.1) hm (Nat.le_refl _) (by omega) h0
theorem VI_dec {P : Nat → Nat} {ss : List Nat} {ds : List (Nat × Nat)} {σ : St} {x v : Nat} (h : VI P ss ds σ) (hx : x < P 0) (hv : v < 5) (hb : (σ.1 x).testBit v = true) (h2 : 1 < pcn 5 (σ.1 x)) (hnf : fl (P 0) σ.1 = false) : VI P ss (ds ++ [(x, v)]) (asS x v (ds.length + 1) 5 σ) := by
  obtain ⟨a1, a2, a3, a4, a5, a6, a7⟩ := h
  have hx7 : x < 7 := by have := a1.1; omega
  have hs := Tok_sm a1 a4.1
  have key : TI P (asS x v (ds.length + 1) 5 σ) ∧ Lv (asS x v (ds.length + 1) 5 σ).2 (ds.length + 1) ∧ Dok P (asS x v (ds.length + 1) 5 σ).2 ds ∧ NF P (asS x v (ds.length + 1) 5 σ).2 (ds.length + 1) := by
    refine asS_ap (x := x) (v := v) (l := ds.length + 1) (σ := σ) 5 (Nat.le_refl _) (fun τ => TI P τ ∧ Lv τ.2 (ds.length + 1) ∧ Dok P τ.2 ds ∧ NF P τ.2 (ds.length + 1)) (fun τ f h1 hf hb1 => ?_) ⟨a4, Lv_up a5 (by omega), a6, NF_now a1 a4 hnf⟩
    obtain ⟨u, hu, e⟩ := hf
    obtain ⟨b1, b2, b3, b4⟩ := h1
    subst e
    exact ⟨TI_step (f := (x, u, ngI, ds.length + 1, 0)) a1 b1 hx hu (Or.inr (Or.inr (by show ngI < nI 0; decide))) hb1, Lv_app b2 rfl, Dok_app b3 (Nat.le_succ _), NF_app b4 rfl⟩
  obtain ⟨b1, b2, b3, b4⟩ := key
  have hs' := Tok_sm a1 b1.1
  have hlen : (ds ++ [(x, v)]).length = ds.length + 1 := by rw [List.length_append, List.length_singleton]
  have hin : (P (2 + x)).testBit v = true := by
    rw [a4.2.2 x hx7] at hb
    exact ((dI_tb a1 hs hx7 hv).mp hb).1
  have hbv : ∀ u, u < 5 → ((dI P (asS x v (ds.length + 1) 5 σ).2) x).testBit u = ((σ.1 x).testBit u && !(decide (u < 5) && decide (u ≠ v))) := fun u hu => by
    rw [← b1.2.2 x hx7]
    exact asS_tb hx7 a4.2.1 5 (Nat.le_refl _) u hu
  unfold VI
  rw [hlen]
  refine ⟨a1, a2, a3, b1, b2, fun k hk => ?_, b4⟩
  rw [hlen] at hk
  by_cases e : k = ds.length
  · subst e
    rw [dG_new]
    refine ⟨hx, hv, hin, fun u hu hne hbu => ?_, fun i hi e1 e2 => ?_, fun j hj q => ?_⟩
    · have h3 : ¬ ((dI P (asS x v (ds.length + 1) 5 σ).2) x).testBit u = true := by
        have hne2 : u ≠ v := hne
        rw [hbv u hu, decide_eq_true hu, decide_eq_true hne2]
        simp
      rw [dI_tb a1 hs' hx7 hu] at h3
      have h4 := Classical.byContradiction (fun z => h3 ⟨hbu, z⟩)
      obtain ⟨i, hi, q1, q2⟩ := h4
      exact ⟨i, hi, q1, q2, (b2 i hi).1⟩
    · have h3 : ((dI P (asS x v (ds.length + 1) 5 σ).2) x).testBit v = true := by
        rw [hbv v hv, hb]
        simp
      exact absurd ⟨i, hi, e1, e2⟩ ((dI_tb a1 hs' hx7 hv).mp h3).2
    · rw [dG_old hj] at q
      have h3 := a6 j hj
      rw [q] at h3
      have h4 : pcn 5 (σ.1 x) ≤ 1 := by
        refine pcn_sg _ (a4.2.1 x hx7) (dG ds j).2 h3.2.1 (fun u hu hne => ?_)
        rw [← Bool.not_eq_true, a4.2.2 x hx7, dI_tb a1 hs hx7 hu]
        rintro ⟨q1, q2⟩
        obtain ⟨i, hi, z1, z2, _⟩ := h3.2.2.2.1 u hu hne q1
        exact q2 ⟨i, hi, z1, z2⟩
      omega
  · have hkl : k < ds.length := by omega
    rw [dG_old hkl]
    have h3 := b3 k hkl
    refine ⟨h3.1, h3.2.1, h3.2.2.1, h3.2.2.2.1, h3.2.2.2.2.1, fun j hj => ?_⟩
    rw [dG_old (show j < ds.length by omega)]
    exact h3.2.2.2.2.2 j hj
theorem VI_back {P : Nat → Nat} {ss : List Nat} {ds : List (Nat × Nat)} {σ : St} (h : VI P ss ds σ) (h0 : 0 < ds.length) : VI P ss (ds.take (ds.length - 1)) (dI P (tkB σ.2 ds.length), tkB σ.2 ds.length) ∧ fl (P 0) (dI P (tkB σ.2 ds.length)) = false := by
  obtain ⟨a1, a2, a3, a4, a5, a6, a7⟩ := h
  have hlen : (ds.take (ds.length - 1)).length = ds.length - 1 := by
    rw [List.length_take]
    exact Nat.min_eq_left (by omega)
  have hm := bkN_le (T := σ.2) (l := ds.length) σ.2.length
  have hlo := bkN_lo a5 (l := ds.length) σ.2.length (Nat.le_refl _)
  have hhi := bkN_hi (T := σ.2) (l := ds.length) σ.2.length
  have hTl := tkB_len σ.2 ds.length
  have hTok : Tok P (tkB σ.2 ds.length) := Tok_take a4.1
  have hw3 : ∀ n, n ≤ bkN σ.2 ds.length σ.2.length → wEf P (tkB σ.2 ds.length) (fun _ => true) n = wEf P σ.2 (fun _ => true) n := fun n hn => wEf_c n (fun j hj => tkB_G (by omega))
  refine ⟨⟨a1, a2, a3, ⟨hTok, dI_wf a1 (Tok_sm a1 hTok), fun _ _ => rfl⟩, fun i hi => ?_, fun k hk => ?_, fun m hm2 hlt => ?_⟩, ?_⟩
  · have hi2 : i < bkN σ.2 ds.length σ.2.length := by rw [← hTl]; exact hi
    show (fG (tkB σ.2 ds.length) i).2.2.2.1 ≤ (ds.take (ds.length - 1)).length ∧ ∀ j, j < i → (fG (tkB σ.2 ds.length) j).2.2.2.1 ≤ (fG (tkB σ.2 ds.length) i).2.2.2.1
    rw [tkB_G hi2, hlen]
    refine ⟨by have := hlo i hi2; omega, fun j hj => ?_⟩
    rw [tkB_G (by omega)]
    exact (a5 i (by omega)).2 j hj
  · rw [hlen] at hk
    rw [dG_take hk]
    obtain ⟨g1, g2, g3, g4, g5, g6⟩ := a6 k (by omega)
    refine ⟨g1, g2, g3, fun u hu hne hbu => ?_, fun i hi => ?_, fun j hj => ?_⟩
    · obtain ⟨i, hi, q1, q2, q3⟩ := g4 u hu hne hbu
      have hi2 : i < bkN σ.2 ds.length σ.2.length := by
        rcases Nat.lt_or_ge i (bkN σ.2 ds.length σ.2.length) with q | q
        · exact q
        · have := hhi i q hi
          omega
      refine ⟨i, by rw [hTl]; exact hi2, ?_⟩
      rw [tkB_G hi2]
      exact ⟨q1, q2, q3⟩
    · have hi2 : i < bkN σ.2 ds.length σ.2.length := by rw [← hTl]; exact hi
      show (fG (tkB σ.2 ds.length) i).1 = _ → (fG (tkB σ.2 ds.length) i).2.1 = _ → _ ≤ (fG (tkB σ.2 ds.length) i).2.2.2.1
      rw [tkB_G hi2]
      exact g5 i (by omega)
    · rw [dG_take (show j < ds.length - 1 by omega)]
      exact g6 j hj
  · have hm3 : m ≤ bkN σ.2 ds.length σ.2.length := by rw [← hTl]; exact hm2
    show fl (P 0) (wEf P (tkB σ.2 ds.length) (fun _ => true) m) = false
    rw [hw3 m hm3]
    exact a7 m (by omega) (fun i hi => hlo i (by omega))
  · unfold dI
    rw [hTl, hw3 _ (Nat.le_refl _)]
    exact a7 _ (by omega) hlo
/-! the level changes nothing but the facts' levels -/
def SmD (σ τ : St) : Prop := σ.1 = τ.1 ∧ σ.2.length = τ.2.length
theorem stp_lv {κ : Kon} {N : Nat} {r : Int32} {l m s x v : Nat} {σ τ : St} (h : SmD σ τ) : SmD (stp κ N r l s x v σ) (stp κ N r m s x v τ) := by
  unfold stp
  rw [h.1]
  split
  · refine ⟨rfl, ?_⟩
    show (σ.2 ++ [(x, v, r, l, s)]).length = (τ.2 ++ [(x, v, r, m, s)]).length
    rw [List.length_append, List.length_append, h.2]
    rfl
  · exact h
theorem vls_lv {κ : Kon} {N : Nat} {r : Int32} {l m s x : Nat} {σ τ : St} (h : SmD σ τ) : ∀ j, SmD (vls κ N r l s x j σ) (vls κ N r m s x j τ) := by
  intro j
  induction j with
  | zero => exact h
  | succ j ih =>
    simp only [vls]
    exact stp_lv ih
theorem sw1_lv {κ : Kon} {N : Nat} {r : Int32} {l m s : Nat} {σ τ : St} (h : SmD σ τ) : ∀ k, SmD (sw1 κ N r l s k σ) (sw1 κ N r m s k τ) := by
  intro k
  induction k with
  | zero => exact h
  | succ k ih =>
    simp only [sw1]
    exact vls_lv ih 5
theorem rnd_lv {P : Nat → Nat} {ss : List Nat} {l m : Nat} {σ τ : St} (h : SmD σ τ) : ∀ k, SmD (rnd P ss l k σ) (rnd P ss m k τ) := by
  intro k
  induction k with
  | zero => exact h
  | succ k ih =>
    simp only [rnd]
    exact sw1_lv ih _
theorem prp_lv {P : Nat → Nat} {ss : List Nat} {l m : Nat} : ∀ (n : Nat) (σ τ : St), SmD σ τ → SmD (prp P ss l n σ) (prp P ss m n τ) := by
  intro n
  induction n with
  | zero => exact fun σ τ h => h
  | succ n ih =>
    intro σ τ h
    have h1 := rnd_lv (P := P) (ss := ss) (l := l) (m := m) h (P 1 + ss.length)
    simp only [prp]
    rw [h1.2, h.2]
    split
    · exact h1
    · exact ih _ _ h1
theorem prE_lv {P : Nat → Nat} {ss : List Nat} {l m : Nat} {σ τ : St} (h : SmD σ τ) : SmD (prE P ss l σ) (prE P ss m τ) := prp_lv 36 σ τ h
theorem asS_lv {x v l m : Nat} {σ τ : St} (h : σ.1 = τ.1) (k : Nat) : (asS x v l k σ).1 = (asS x v m k τ).1 ∧ (asS x v l k σ).2.length + τ.2.length = (asS x v m k τ).2.length + σ.2.length := by
  induction k with
  | zero => exact ⟨h, Nat.add_comm _ _⟩
  | succ k ih =>
    unfold asS
    rw [ih.1]
    split
    · refine ⟨rfl, ?_⟩
      show ((asS x v l k σ).2 ++ [(x, k, ngI, l, 0)]).length + _ = ((asS x v m k τ).2 ++ [(x, k, ngI, m, 0)]).length + _
      rw [List.length_append, List.length_append, List.length_singleton, List.length_singleton]
      have := ih.2
      omega
    · exact ih
/-- propagation depends on the domains of the seven variables alone -/
theorem Ful_cg2 {κ : Kon} (hκ : Kwf κ) {d e : Nat → Nat} (h : ∀ x, x < 7 → d x = e x) : Can κ d ↔ Can κ e := by
  refine ⟨fun ⟨a, ha, hok⟩ => ⟨a, fun k hk => ?_, hok⟩, fun ⟨a, ha, hok⟩ => ⟨a, fun k hk => ?_, hok⟩⟩
  · rw [← h _ (hκ.2.1 k hk)]
    exact ha k hk
  · rw [h _ (hκ.2.1 k hk)]
    exact ha k hk
def Sm7 (σ τ : St) : Prop := (∀ x, x < 7 → σ.1 x = τ.1 x) ∧ σ.2 = τ.2
theorem stp_7 {κ : Kon} {N : Nat} {r : Int32} {l s x v : Nat} {σ τ : St} (hκ : Kwf κ) (hN : N ≤ 7) (hx : x < 7) (h : Sm7 σ τ) : Sm7 (stp κ N r l s x v σ) (stp κ N r l s x v τ) := by
  have hg : gone κ N x v σ.1 ↔ gone κ N x v τ.1 := by
    unfold gone
    rw [fl_cg (N := N) (fun y hy => h.1 y (by omega)), h.1 x hx, Ful_cg2 hκ (d := ud σ.1 x (2 ^ v)) (e := ud τ.1 x (2 ^ v)) (fun y hy => by
      by_cases e : y = x
      · rw [e, ud_s, ud_s]
      · rw [ud_n _ _ e, ud_n _ _ e]
        exact h.1 y hy)]
  unfold stp
  rw [dB_c hg]
  split
  · refine ⟨fun y hy => ?_, by rw [h.2]⟩
    show ud σ.1 x (clr (σ.1 x) v) y = ud τ.1 x (clr (τ.1 x) v) y
    by_cases e : y = x
    · rw [e, ud_s, ud_s, h.1 x hx]
    · rw [ud_n _ _ e, ud_n _ _ e]
      exact h.1 y hy
  · exact h
theorem vls_7 {κ : Kon} {N : Nat} {r : Int32} {l s x : Nat} {σ τ : St} (hκ : Kwf κ) (hN : N ≤ 7) (hx : x < 7) (h : Sm7 σ τ) : ∀ j, Sm7 (vls κ N r l s x j σ) (vls κ N r l s x j τ) := by
  intro j
  induction j with
  | zero => exact h
  | succ j ih =>
    simp only [vls]
    exact stp_7 hκ hN hx ih
theorem sw1_7 {κ : Kon} {N : Nat} {r : Int32} {l s : Nat} {σ τ : St} (hκ : Kwf κ) (hN : N ≤ 7) (h : Sm7 σ τ) : ∀ k, k ≤ κ.1 → Sm7 (sw1 κ N r l s k σ) (sw1 κ N r l s k τ) := by
  intro k
  induction k with
  | zero => exact fun _ => h
  | succ k ih =>
    intro hk
    simp only [sw1]
    exact vls_7 hκ hN (hκ.2.1 k (by omega)) (ih (by omega)) 5
theorem rnd_7 {P : Nat → Nat} {ss : List Nat} {l : Nat} {σ τ : St} (hw : Pwf P) (h : Sm7 σ τ) : ∀ k, Sm7 (rnd P ss l k σ) (rnd P ss l k τ) := by
  intro k
  induction k with
  | zero => exact h
  | succ k ih =>
    simp only [rnd]
    exact sw1_7 (kl_wf hw k) hw.1 ih _ (Nat.le_refl _)
theorem prp_7 {P : Nat → Nat} {ss : List Nat} {l : Nat} (hw : Pwf P) : ∀ (n : Nat) (σ τ : St), Sm7 σ τ → Sm7 (prp P ss l n σ) (prp P ss l n τ) := by
  intro n
  induction n with
  | zero => exact fun σ τ h => h
  | succ n ih =>
    intro σ τ h
    have h1 := rnd_7 (ss := ss) (l := l) hw h (P 1 + ss.length)
    simp only [prp]
    rw [h1.2, h.2]
    split
    · exact h1
    · exact ih _ _ h1
theorem prE_7 {P : Nat → Nat} {ss : List Nat} {l : Nat} {σ τ : St} (hw : Pwf P) (h : Sm7 σ τ) : Sm7 (prE P ss l σ) (prE P ss l τ) := prp_7 hw 36 σ τ h
theorem fl_7 {N : Nat} {σ τ : St} (hN : N ≤ 7) (h : Sm7 σ τ) : fl N σ.1 = fl N τ.1 := fl_cg (fun x hx => h.1 x (by omega))

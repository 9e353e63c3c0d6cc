/-! THE CLASS: load -/
theorem CSh_R {S : PS} {v : Option Nat} {a k : Nat} (ha : (a = 1 ∧ k = 5) ∨ (a = 0 ∧ k = 6)) (hc : CSh S) : CSh (sR S a k v) := by
  have eR : ∀ b j, ¬ (b = a ∧ j = k) → pR (sR S a k v) b j = pR S b j := fun b j q => by rw [pR_sR, if_neg q]
  have eT : ∀ t, (t = 6 ∨ t = 44) → TSh S t → TSh (sR S a k v) t := fun t ht hs => by
    obtain ⟨a1, a2, a3, a4, a5, a6, a7, a8⟩ := hs
    exact ⟨a1, by rw [eR _ _ (by omega)]; exact a2, by rw [eR _ _ (by omega)]; exact a3, a4, a5, a6, a7, fun i hi => by rw [eR _ _ (by omega)]; exact a8 i hi⟩
  obtain ⟨a1, a2, a3, a4, a5, a6, a7, a8, a9, a10, a11, a12, a13, a14, a15, a16, a17, a18, a19, a20⟩ := hc
  exact ⟨a1, by rw [eR _ _ (by omega)]; exact a2, by rw [eR _ _ (by omega)]; exact a3, by rw [eR _ _ (by omega)]; exact a4, by rw [eR _ _ (by omega)]; exact a5, by rw [eR _ _ (by omega)]; exact a6, by rw [eR _ _ (by omega)]; exact a7, a8, a9, a10, a11, eT _ (Or.inl rfl) a12, eT _ (Or.inr rfl) a13, a14, by rw [eR _ _ (by omega)]; exact a15, by rw [eR _ _ (by omega)]; exact a16, a17, a18, a19, a20⟩
def zP : Nat → Nat := fun _ => 0
theorem vld_0 : vld zP := ⟨by decide, rfl, fun _ _ => (by decide : 0 < 32), fun x hx => absurd hx (Nat.not_lt_zero _), fun _ _ _ => rfl, fun _ _ => rfl⟩
theorem pk_0 : pk (fun _ => 0) = 0 := rfl
/-- the reader begins -/
theorem q_begin {S : PS} {tx : Nat → Nat} {n : Nat} {Q : PS → Prop} (hc : CSh S) (hx : cLn S tx n) (hN : 107 ≤ pN S)
    (hQ : ∀ S', oF [1, 3] [1] (pN S) S S' → cRE S' tx n zP 0 (pN S) 0 → cPI S' (pN S) (pN S + 1) zP → pI S' 1 3 = nI 0 → pI S' 1 4 = ngI → (∀ k, pR S' 3 k = pR S 3 k) → Q S') : wpX8_begin S 1 Q := by
  unfold wpX8_begin wpX6_init
  rw [ng_d, c_0]
  intro a1 S2 ea e2 a3 S3 ea3 e3
  rw [e2, pN_sNew] at ea3
  rw [ea, ea3]
  have hK3 : pK S3 (pN S) = 5 := by rw [e3, e2, pK_sNew, pN_sNew, if_neg (by omega), pK_sNew, if_pos rfl]
  have o3 : oF [1, 3] [] (pN S) S S3 := by
    rw [e3, e2]
    exact oF_t (oF_new (Nat.le_refl _)) (oF_new (by rw [pN_sNew]; omega))
  have n3 : pN S3 = pN S + 2 := by rw [e3, e2, pN_sNew, pN_sNew]
  have hKr : pK S3 (pN S + 1) = 16 := by rw [e3, e2, pK_sNew, pN_sNew, if_pos rfl]
  have hLr : pL S3 (pN S + 1) = 8 := by rw [e3, e2, pL_sNew, pN_sNew, if_pos rfl]
  generalize hS4 : sJ (sI (sI (sR S3 (pN S) 0 (some (pN S + 1))) (pN S) 1 (nI 0)) (pN S) 2 (nI 0)) (pN S) 3 0 = S4
  have f4 : fr [pN S] (sR S3 (pN S) 0 (some (pN S + 1))) S4 := by
    rw [← hS4]
    exact fr_t (fr_t (fr_sI _ _ _ (List.mem_singleton.mpr rfl)) (fr_sI _ _ _ (List.mem_singleton.mpr rfl))) (fr_sJ _ _ _ (List.mem_singleton.mpr rfl))
  have oR : oF [1, 3] [] (pN S) S3 (sR S3 (pN S) 0 (some (pN S + 1))) := ⟨Nat.le_refl _, fun _ _ => ⟨rfl, rfl⟩, fun a ha _ k => by rw [pR_sR, if_neg (by omega)], fun _ _ _ _ => ⟨rfl, rfl⟩⟩
  have o4 : oF [1, 3] [] (pN S) S S4 := oF_t o3 (oF_t oR (oF_fr f4 (fun a ha => by rw [List.mem_singleton.mp ha]; exact Or.inr (Nat.le_refl _))))
  have hc4 : CSh S4 := oF_CS o4 (by omega) (fun a ha => (nomatch ha)) hc
  have np : ∀ a, a < 107 → a ∉ [pN S] := fun a ha q => by have := List.mem_singleton.mp q; omega
  refine ⟨hK3, hc4.2.2.2.2.2.2.2.2.2.2.2.2.2.1, ?_⟩
  generalize hS5 : sI (sI (sI (sR S4 1 5 (some (pN S))) 1 3 (nI 0)) 1 4 ngI) 1 8 (nI 0) = S5
  have f5 : fr [1] (sR S4 1 5 (some (pN S))) S5 := by
    rw [← hS5]
    exact fr_t (fr_t (fr_sI _ _ _ (by decide)) (fr_sI _ _ _ (by decide))) (fr_sI _ _ _ (by decide))
  have hc5 : CSh S5 := f5.CS (CSh_R (Or.inl ⟨rfl, rfl⟩) hc4)
  have i4 : ∀ a k, a < 107 → pI S4 a k = pI S a k := fun a k ha => by
    rw [f4.I (np a ha), pI_sR, e3, e2, pI_sNew, if_neg (by rw [pN_sNew]; omega), pI_sNew, if_neg (by omega)]
  have i51 : ∀ k, k ≠ 3 → k ≠ 4 → k ≠ 8 → pI S5 1 k = pI S 1 k := fun k h1 h2 h3 => by
    rw [← hS5, pI_sI, if_neg (fun q => h3 q.2), pI_sI, if_neg (fun q => h2 q.2), pI_sI, if_neg (fun q => h1 q.2), pI_sR, i4 1 k (by omega)]
  have i5 : ∀ a k, a ≠ 1 → pI S5 a k = pI S4 a k := fun a k ha => by
    rw [f5.I (fun q => ha (List.mem_singleton.mp q)), pI_sR]
  have hx5 : cLn S5 tx n := ⟨by rw [i51 2 (by decide) (by decide) (by decide)]; exact hx.1, hx.2.1, fun i hi => by rw [i5 2 i (by decide), i4 2 i (by omega)]; exact hx.2.2 i hi⟩
  have o5 : oF [1, 3] [1] (pN S) S S5 := by
    refine oF_t (oF_m (B := []) (fun _ q => q) (fun _ q => (nomatch q)) o4) ⟨Nat.le_of_eq f5.N.symm, fun a _ => ⟨f5.K a, f5.L a⟩, fun a _ hb k => ?_, fun a _ ha k => ?_⟩
    · rw [f5.R, pR_sR, if_neg (fun q => hb (by rw [q.1]; decide))]
    · have h1 : a ∉ [1] := fun q => ha (by rw [List.mem_singleton.mp q]; decide)
      exact ⟨by rw [f5.I h1, pI_sR], by rw [f5.J h1, pJ_sR]⟩
  refine q_next hc5 hx5 (by rw [← hS5, pI_sI, if_pos ⟨rfl, rfl⟩]) (Nat.zero_le _) (fun S6 hf6 hT6 => ?_)
  have np1 : ∀ a, 107 ≤ a → a ∉ [1] := fun a ha q => by have := List.mem_singleton.mp q; omega
  have ip : ∀ k, pI S6 (pN S) k = pI S4 (pN S) k := fun k => by rw [hf6.1.I (np1 _ hN), i5 _ _ (by omega)]
  have p1 : pI S6 (pN S) 1 = nI 0 := by rw [ip, ← hS4, pI_sJ, pI_sI, if_neg (fun q => absurd q.2 (by decide)), pI_sI, if_pos ⟨rfl, rfl⟩]
  have p2 : pI S6 (pN S) 2 = nI 0 := by rw [ip, ← hS4, pI_sJ, pI_sI, if_pos ⟨rfl, rfl⟩]
  have kp : pK S6 (pN S) = 5 := by rw [hf6.1.K, f5.K, pK_sR, f4.K, pK_sR]; exact hK3
  have nn : pN S6 = pN S + 2 := by rw [hf6.1.N, f5.N, pN_sR, f4.N, pN_sR]; exact n3
  refine hQ S6 (oF_t o5 (oF_fr hf6.1 (fun a ha => by rw [List.mem_singleton.mp ha]; exact Or.inl (by decide)))) ⟨hf6.1.CS hc5, hf6.X hx5, hT6, Nat.zero_le _, ?_, kp, p1, by decide, fun i hi => absurd hi (Nat.not_lt_zero _), fun i hi => absurd hi (Nat.not_lt_zero _), by omega⟩ ⟨hN, by omega, by omega, by omega, by omega, kp, p1, p2, ?_, ?_, ?_, ?_, fun c hc => absurd hc (Nat.not_lt_zero _)⟩ ?_ ?_ (fun k => ?_)
  · rw [hf6.1.R, f5.R, pR_sR, if_pos ⟨rfl, rfl⟩]
  · rw [hf6.1.J (np1 _ hN), f5.J (np1 _ hN), pJ_sR, ← hS4, pJ_sJ, if_pos ⟨rfl, rfl⟩]
    rfl
  · rw [hf6.1.R, f5.R, pR_sR, if_neg (by omega), f4.R, pR_sR, if_pos ⟨rfl, rfl⟩]
  · rw [hf6.1.K, f5.K, pK_sR, f4.K, pK_sR]
    exact hKr
  · rw [hf6.1.L, f5.L, pL_sR, f4.L, pL_sR]
    exact hLr
  · rw [hf6.2 3 (by decide) (by decide) (by decide) (by decide), ← hS5, pI_sI, if_neg (fun q => absurd q.2 (by decide)), pI_sI, if_neg (fun q => absurd q.2 (by decide)), pI_sI, if_pos ⟨rfl, rfl⟩]
  · rw [hf6.2 4 (by decide) (by decide) (by decide) (by decide), ← hS5, pI_sI, if_neg (fun q => absurd q.2 (by decide)), pI_sI, if_pos ⟨rfl, rfl⟩]
  · rw [hf6.1.R, f5.R, pR_sR, if_neg (by omega)]
    exact o4.2.2.1 3 (by omega) (fun q => (nomatch q)) k
/-- objects of a problem have been made before -/
def bPR (S : PS) (pb : Nat) (P : Nat → Nat) : Prop := pb < pN S ∧ ∃ rw, pR S pb 0 = some rw ∧ rw < pN S ∧ ∀ c, c < P 1 → ∀ o, pR S rw c = some o → o < pN S
theorem cPI_P {S : PS} {pb rw : Nat} {P : Nat → Nat} (h : cPI S pb rw P) : PRep S pb P ∧ bPR S pb P := by
  obtain ⟨a1, a2, a3, a4, a5, a6, a7, a8, a9, a10, a11, a12, a13⟩ := h
  refine ⟨⟨by omega, Or.inr a1, a6, a7, a8, a9, rw, by omega, Or.inr a2, a10, a11, a12, fun c hc => ?_⟩, a4, rw, a10, a5, fun c hc o ho => ?_⟩
  · obtain ⟨o, o1, o2, _, _, _, o3⟩ := a13 c hc
    exact ⟨o, o1, o2, o3⟩
  · obtain ⟨o', o1, o2, o3, _⟩ := a13 c hc
    rw [ho] at o1
    cases o1
    exact o3
/-- a problem as its text tells it -/
theorem Pwf_t {P P0 : Nat → Nat} (h : tld P) (hv : vld P0) (he : ∀ k, k < 9 → k ≠ 1 → P k = P0 k) : Pwf P := by
  obtain ⟨a1, a2, a3, a4, a5, a6⟩ := hv
  have e0 := he 0 (by decide) (by decide)
  refine ⟨h.1, h.2.1, fun x hx => ?_, fun x hx => ?_, fun x hx hx7 => ?_, h.2.2.1⟩
  · rw [he _ (by omega) (by omega)]
    exact a3 x hx
  · rw [e0] at hx
    rw [he _ (by omega) (by omega)]
    exact a4 x hx
  · rw [e0] at hx
    rw [he _ (by omega) (by omega)]
    exact a5 x hx hx7
theorem c_load {S : PS} {tx : Nat → Nat} {n : Nat} {Q : Int32 → PS → Prop} {X : String → PS → Prop} (hc : CSh S) (hx : cLn S tx n) (hN : 107 ≤ pN S)
    (hE : ∀ S' c e, rLoad tx n = er c e → oF [1, 3] [1] (pN S) S S' → CSh S' → pI S' 1 2 = nI 0 → pI S' 1 3 = nI c → pI S' 1 4 = nI e → ∀ k, X "java/lang/IllegalArgumentException" (sSkip S' k))
    (hQ : ∀ S' pb P p, rLoad tx n = ok P p → oF (List.range 85) [0, 1] (pN S) S S' → Pwf P → CJ S' pb P [] [] (prE P [] 0 (fun x => P (2 + x), [])) 0 → bPR S' pb P → pI S' 1 2 = nI 0 → pI S' 1 3 = nI 0 → pI S' 1 4 = ngI → Q (nI (prE P [] 0 (fun x => P (2 + x), [])).2.length) S') : wpX11_load S 0 Q X := by
  have hK1 := hc.2.2.2.2.2.2.2.2.2.2.2.2.2.1
  have bad : ∀ S1 c e, oF [1, 3] [1] (pN S) S S1 → CSh S1 → pI S1 1 3 = nI c → pI S1 1 4 = nI e → rLoad tx n = er c e → wpX11_load_b31 Q X S1 0 := fun S1 c e ho hc1 h3 h4 hr => by
    have f2 : fr [1] S1 (sI S1 1 2 (nI 0)) := fr_sI _ _ _ (by decide)
    unfold wpX11_load_b31 wpX11_load_b32
    rw [c_0]
    refine ⟨hc1.1, 1, hc1.2.1, hc1.2.2.2.2.2.2.2.2.2.2.2.2.2.1, fun z => absurd rfl z, fun _ => hE _ c e hr (oF_t ho (oF_fr f2 (fun a ha => by rw [List.mem_singleton.mp ha]; exact Or.inl (by decide)))) (f2.CS hc1) (by rw [pI_sI, if_pos ⟨rfl, rfl⟩]) ?_ ?_⟩
    · rw [pI_sI, if_neg (fun q => absurd q.2 (by decide))]
      exact h3
    · rw [pI_sI, if_neg (fun q => absurd q.2 (by decide))]
      exact h4
  unfold wpX11_load
  rw [c_0, c_1]
  refine ⟨hc.1, 1, hc.2.1, hK1, q_begin hc hx hN (fun S1 ho1 hR1 hI1 g3 g4 _ => ⟨hR1.1.1, 1, hR1.1.2.1, hR1.1.2.2.2.2.2.2.2.2.2.2.2.2.2.1, ?_⟩)⟩
  have cs : ∀ A S2, oF A [] (pN S) S1 S2 → CSh S2 := fun A S2 h => oF_CS h (by omega) (fun a ha => (nomatch ha)) hR1.1
  have ob : ∀ S2, oF [1, 3] [] (pN S) S1 S2 → oF [1, 3] [1] (pN S) S S2 := fun S2 h => oF_t ho1 (oF_m (B := []) (fun _ q => q) (fun _ q => (nomatch q)) h)
  refine ⟨8, q_readVars (S0 := S1) (pb := pN S) (rw := pN S + 1) (M := pN S) (by omega) (Nat.le_refl _) (rVars tx n 8 zP zP 0) (fun S2 c e h h2 => ⟨fun _ => bad S2 c e (ob S2 h2.1) (cs _ S2 h2.1) h2.2.2.1 h2.2.2.2 ?_, fun z => absurd rfl z⟩) (fun S2 z p h hy hR2 hI2 hv2 => ⟨fun q => absurd q (by rw [o_eq (by decide) (by decide)]; decide), fun _ => ⟨hR2.1.1, 1, hR2.1.2.1, hR2.1.2.2.2.2.2.2.2.2.2.2.2.2.2.1, ?_⟩⟩) 8 S1 0 zP zP rfl (yK_r _ _) hR1 hI1 vld_0 rfl⟩
  · show Rbd (rVars tx n 8 zP zP 0) _ = er c e
    rw [h]
    rfl
  have hsp : rLoad tx n = rCons tx n z.2 9 z.1 p := by
    show Rbd (rVars tx n 8 zP zP 0) _ = _
    rw [h]
    rfl
  have ht2 : tld z.1 := ⟨hv2.1, by rw [hv2.2.1]; decide, fun c hc => by rw [hv2.2.1] at hc; omega, fun k hk => hv2.2.2.2.2.2 k (by omega)⟩
  have hy0 : xK (pN S) S2 S2 := ⟨oF_fr (C := []) (fr_r _ _) (fun a ha => (nomatch ha)), fun _ _ _ _ _ => rfl⟩
  have hcons := q_readCons (S0 := S2) (M := pN S) (tx := tx) (n := n) (N := z.2) (pb := pN S) (rw := pN S + 1) (Q := fun r33 S34 => (r33 = nI 0 → wpX11_load_b31 Q X S34 0) ∧ (¬ r33 = nI 0 → wpX11_load_b32 Q X S34 0 (nI 1))) (by omega) (Nat.le_refl _) (by omega) (rCons tx n z.2 9 z.1 p) z.1
    (fun S3 c e h3 x3 => ⟨fun _ => bad S3 c e (ob S3 (oF_t hy.1 (yE_x x3).1)) (cs _ S3 (oF_t hy.1 (yE_x x3).1)) x3.2.2.1 x3.2.2.2 (hsp.trans h3), fun q => absurd rfl q⟩)
    (fun S3 P p3 h3 hL3 hP => ⟨fun q => absurd q (by rw [o_eq (by decide) (by decide)]; decide), fun _ => ?_⟩) 9 S2 p z.1 (by rw [hv2.2.1]) ⟨hy0, hR2, hI2, ht2⟩ (fun _ _ _ => rfl) rfl
  · unfold wpX8_readConstraints
    have e1 : nI (z.1 1) = nI 0 := by rw [hv2.2.1]
    rw [e1] at hcons
    exact hcons
  · have hw : Pwf P := Pwf_t hL3.2.2.2 hv2 hP
    obtain ⟨hx3, hR3, hI3, ht3⟩ := hL3
    obtain ⟨hc3, hx33, hT3, hp3, g5, gK5, _⟩ := id hR3
    have oy : oF [1, 3] [] (pN S) S1 S3 := oF_t hy.1 (yK_x hx3).1
    have o3 := ob S3 oy
    have k3 : pI S3 1 3 = nI 0 := by rw [hx3.2 3 (by decide) (by decide) (by decide) (by decide), hy.2 3 (by decide) (by decide) (by decide) (by decide)]; exact g3
    have k4 : pI S3 1 4 = ngI := by rw [hx3.2 4 (by decide) (by decide) (by decide) (by decide), hy.2 4 (by decide) (by decide) (by decide) (by decide)]; exact g4
    have f4 : fr [1] S3 (sI S3 1 2 (nI 0)) := fr_sI _ _ _ (by decide)
    have hc4 : CSh (sR (sI S3 1 2 (nI 0)) 0 6 (some (pN S))) := CSh_R (Or.inr ⟨rfl, rfl⟩) (f4.CS hc3)
    obtain ⟨i1, i2, i3, i4, i5, i6, i7, i8, i9, i10, i11, i12, i13⟩ := id hI3
    have hd : Dwf (fun x => P (2 + x)) := fun x hx => hw.2.2.1 x hx
    unfold wpX11_load_b32
    rw [c_0]
    refine ⟨hc3.1, 1, hc3.2.1, hc3.2.2.2.2.2.2.2.2.2.2.2.2.2.1, fun _ => ⟨pN S, g5, 6, hc4.2.2.1, pN S, by rw [pR_sR, if_pos ⟨rfl, rfl⟩], i6, hc4.2.2.2.2.2.2.2.2.2.2.2.1.1, ?_⟩, fun q => absurd q (by rw [o_eq (by decide) (by decide)]; decide)⟩
    have np : ∀ a, a < 107 → pN S ∉ [a] := fun a ha q => by have := List.mem_singleton.mp q; omega
    have j1 : pI (sR (sI S3 1 2 (nI 0)) 0 6 (some (pN S))) (pN S) 1 = nI (P 0) := by rw [pI_sR, f4.I (np 1 (by omega))]; exact i7
    have j3 : pJ (sR (sI S3 1 2 (nI 0)) 0 6 (some (pN S))) (pN S) 3 = pk (fun x => P (2 + x)) := i9
    rw [j1, j3]
    unfold wpX9_begin
    rw [c_0]
    have hTb := cT_begin (S := sR (sI S3 1 2 (nI 0)) 0 6 (some (pN S))) (t := 6) (N := P 0) hw.1 hd (fun x h1 h2 => hw.2.2.2.2.1 x h1 h2)
    have fb := fr_begin (S := sR (sI S3 1 2 (nI 0)) 0 6 (some (pN S))) (t := 6) (a := nI (P 0)) (b := nI 0) (c := nI 0) (L := pk (fun x => P (2 + x)))
    generalize sJ (sI (sI (sI (sR (sI S3 1 2 (nI 0)) 0 6 (some (pN S))) 6 2 (nI (P 0))) 6 3 (nI 0)) 6 4 (nI 0)) 6 5 (pk (fun x => P (2 + x))) = S5 at hTb fb
    have hc5 := fb.CS hc4
    refine ⟨hc4.2.2.2.2.2.2.2.2.2.2.2.1.1, hc5.1, 83, hc5.2.2.2.2.2.1, hc5.2.2.2.2.2.2.2.2.1, 6, hc5.2.2.1, ?_⟩
    have f6 : fr [83, 0] S5 (sI (sI (sI S5 83 0 (nI 0)) 0 7 (nI 0)) 0 8 (nI 0)) := fr_t (fr_t (fr_sI _ _ _ (by decide)) (fr_sI _ _ _ (by decide))) (fr_sI _ _ _ (by decide))
    have q83 : pI (sI (sI (sI S5 83 0 (nI 0)) 0 7 (nI 0)) 0 8 (nI 0)) 83 0 = nI 0 := by rw [pI_sI, if_neg (fun q => absurd q.1 (by decide)), pI_sI, if_neg (fun q => absurd q.1 (by decide)), pI_sI, if_pos ⟨rfl, rfl⟩]
    have q07 : pI (sI (sI (sI S5 83 0 (nI 0)) 0 7 (nI 0)) 0 8 (nI 0)) 0 7 = nI 0 := by rw [pI_sI, if_neg (fun q => absurd q.2 (by decide)), pI_sI, if_pos ⟨rfl, rfl⟩]
    have q08 : pI (sI (sI (sI S5 83 0 (nI 0)) 0 7 (nI 0)) 0 8 (nI 0)) 0 8 = nI 0 := by rw [pI_sI, if_pos ⟨rfl, rfl⟩]
    generalize sI (sI (sI S5 83 0 (nI 0)) 0 7 (nI 0)) 0 8 (nI 0) = S6 at f6 q83 q07 q08
    have hc6 := f6.CS hc5
    have hT6 := cT_fr f6 (fun a ha q => by rw [LT_mem] at ha; simp only [List.mem_cons, List.not_mem_nil, or_false] at q; omega) hTb
    have r6 : pR S6 0 6 = some (pN S) := by rw [f6.R, fb.R, pR_sR, if_pos ⟨rfl, rfl⟩]
    have oR : oF [1, 3] [0] (pN S) (sI S3 1 2 (nI 0)) (sR (sI S3 1 2 (nI 0)) 0 6 (some (pN S))) := ⟨Nat.le_refl _, fun _ _ => ⟨rfl, rfl⟩, fun a _ ha k => by rw [pR_sR, if_neg (fun q => ha (by rw [q.1]; decide))], fun _ _ _ _ => ⟨rfl, rfl⟩⟩
    have hP3 := cPI_P hI3
    have hp4 : PRep (sI S3 1 2 (nI 0)) (pN S) P := PRep_fr f4 (by decide) hP3.1
    have hp4' : PRep (sR (sI S3 1 2 (nI 0)) 0 6 (some (pN S))) (pN S) P := by
      obtain ⟨g1, g2, g3, g4, g5, g6, rw', r1, r2, r3, r4, r5, r7⟩ := hp4
      refine ⟨g1, g2, g3, g4, g5, g6, rw', r1, r2, by rw [pR_sR, if_neg (by omega)]; exact r3, r4, r5, fun c hc => ?_⟩
      obtain ⟨o, o1, o2, o3⟩ := r7 c hc
      exact ⟨o, by rw [pR_sR, if_neg (by omega)]; exact o1, o2, o3⟩
    have hp6 : PRep S6 (pN S) P := PRep_fr f6 (by decide) (PRep_fr fb (by decide) hp4')
    have hss6 : cSS S6 [] := ⟨q07, by decide, fun i hi => absurd hi (Nat.not_lt_zero _)⟩
    have hb : dsum (fun x => P (2 + x)) + ([] : List FT).length ≤ 35 := dsum_le _
    refine q_propagate (σ0 := (fun x => P (2 + x), [])) (Or.inl rfl) hc6 r6 hp6 hw hss6 (fun i hi => absurd hi (Nat.not_lt_zero _)) hT6 hb (fun S7 hJ7 => ?_)
    obtain ⟨f7, hT7, hX7, _⟩ := hJ7
    have hc7 := f7.CS hc6
    refine ⟨hc7.1, 6, hc7.2.2.1, hc7.2.2.2.2.2.2.2.2.2.2.2.1.1, ?_⟩
    rw [hT7.2.1]
    have n7 : ∀ a, (a < 6 ∨ 44 ≤ a) → a ≠ 82 → a ∉ 82 :: LT 6 := fun a h1 h2 q => by
      rw [List.mem_cons, LT_mem] at q
      omega
    have k1 : ∀ k, k ≠ 2 → pI S7 1 k = pI S3 1 k := fun k hk => by
      rw [f7.I (n7 1 (by decide) (by decide)), f6.I (by decide), fb.I (by decide), pI_sR, pI_sI, if_neg (fun q => hk q.2)]
    refine hQ S7 (pN S) P p3 (hsp.trans h3) ?_ hw ⟨hc7, by rw [f7.R]; exact r6, PRep_fr f7 (LT_85 (by decide)) hp6, cSS_fr f7 (n7 0 (by decide) (by decide)) (n7 84 (by decide) (by decide)) hss6, hT7, ⟨hc7.2.2.2.2.2.2.2.2.1, Or.inl (by rw [f7.I (n7 83 (by decide) (by decide))]; exact q83)⟩, fun k hk => absurd hk (Nat.not_lt_zero _), by rw [f7.I (n7 0 (by decide) (by decide))]; exact q08, ?_⟩ ?_ ?_ (by rw [k1 3 (by decide)]; exact k3) (by rw [k1 4 (by decide)]; exact k4)
    · have hr : ∀ A : List Nat, (∀ a, a ∈ A → a < 85) → ∀ T T' : PS, fr A T T' → oF (List.range 85) [0, 1] (pN S) T T' := fun A hA T T' h => oF_fr h (fun a ha => Or.inl (List.mem_range.mpr (hA a ha)))
      refine oF_t (oF_m (fun a ha => List.mem_range.mpr ?_) (fun a ha => ?_) o3) (oF_t (hr _ (by decide) _ _ f4) (oF_t (oF_m (fun a ha => List.mem_range.mpr ?_) (fun a ha => ?_) oR) (oF_t (hr _ (by decide) _ _ fb) (oF_t (hr _ (by decide) _ _ f6) (hr _ (fun a ha => ?_) _ _ f7)))))
      · simp only [List.mem_cons, List.not_mem_nil, or_false] at ha
        omega
      · rw [List.mem_singleton.mp ha]
        decide
      · simp only [List.mem_cons, List.not_mem_nil, or_false] at ha
        omega
      · rw [List.mem_singleton.mp ha]
        decide
      · rw [List.mem_cons, LT_mem] at ha
        omega
    · exact cE_cX (T := []) (fun i hi => absurd hi (Nat.not_lt_zero _)) hX7 (fun i hi => absurd hi (Nat.not_lt_zero _))
    · obtain ⟨b1, rw', b2, b3, b4⟩ := hP3.2
      have eN : pN S7 = pN S3 := by rw [f7.N, f6.N, fb.N, pN_sR, pN_sI]
      have eR : ∀ a k, a ≠ 0 → pR S7 a k = pR S3 a k := fun a k ha => by rw [f7.R, f6.R, fb.R, pR_sR, if_neg (fun q => ha q.1), f4.R]
      refine ⟨by rw [eN]; exact b1, rw', by rw [eR _ _ (by omega)]; exact b2, by rw [eN]; exact b3, fun c hc o ho => ?_⟩
      rw [eR _ _ (by rw [i10] at b2; cases b2; omega)] at ho
      rw [eN]
      exact b4 c hc o ho
    · rw [f7.I (n7 1 (by decide) (by decide)), f6.I (by decide), fb.I (by decide), pI_sR, pI_sI, if_pos ⟨rfl, rfl⟩]

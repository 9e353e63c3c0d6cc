abbrev rmX11_init : Room := { frames := 3, cells := 160, slots := 1767, locals := 61 }
theorem iX11_init_X11 : ∀ w ∈ u_ws RX11 TX11 9, w ∈ wsX11_init := by decide +kernel
theorem iX11_init_X4 : ∀ w ∈ u_ws RX4 TX4 5, w ∈ wsX11_init := by decide +kernel
theorem iX11_init_X6 : ∀ w ∈ u_ws RX6 TX6 4, w ∈ wsX11_init := by decide +kernel
theorem iX11_init_X7 : ∀ w ∈ u_ws RX7 TX7 5, w ∈ wsX11_init := by decide +kernel
theorem iX11_init_X8 : ∀ w ∈ u_ws RX8 TX8 10, w ∈ wsX11_init := by decide +kernel
theorem iX11_init_X9 : ∀ w ∈ u_ws RX9 TX9 6, w ∈ wsX11_init := by decide +kernel
def wpX11_init (S : PS) (x0 : Nat) (Q : PS → Prop) : Prop := (∀ a1 S2, a1 = pN S → S2 = sNew S 7 0 → (wpX8_init S2 a1 (fun S5 => (pK S5 x0 = 10 ∧ (∀ a7 S8, a7 = pN (sR S5 x0 0 (some a1)) → S8 = sNew (sR S5 x0 0 (some a1)) 8 0 → (wpX9_init S8 a7 (fun S11 => (pK S11 x0 = 10 ∧ (∀ a13 S14, a13 = pN (sR S11 x0 1 (some a7)) → S14 = sNew (sR S11 x0 1 (some a7)) 8 0 → (wpX9_init S14 a13 (fun S17 => (pK S17 x0 = 10 ∧ (∀ a19 S20, a19 = pN (sR S17 x0 2 (some a13)) → S20 = sNew (sR S17 x0 2 (some a13)) 4 0 → (wpX4_init S20 a19 (fun S23 => (pK S23 x0 = 10 ∧ (∀ a25 S26, a25 = pN (sR S23 x0 3 (some a19)) → S26 = sNew (sR S23 x0 3 (some a19)) 6 0 → (wpX7_init S26 a25 (fun S29 => (pK S29 x0 = 10 ∧ (∀ a31 S32, a31 = pN (sR S29 x0 4 (some a25)) → S32 = sNew (sR S29 x0 4 (some a25)) 14 12 → (pK S32 x0 = 10 ∧ (∀ a35 S36, a35 = pN (sR S32 x0 5 (some a31)) → S36 = sNew (sR S32 x0 5 (some a31)) 5 0 → (wpX6_init S36 a35 (fun S39 => (pK S39 x0 = 10 ∧ (Q (sI (sI (sR S39 x0 6 (some a35)) x0 7 (0 : Int32)) x0 8 (0 : Int32)))))))))))))))))))))))))))))
set_option maxRecDepth 100000 in
set_option maxHeartbeats 4000000 in
theorem ctX11_init (l : Launch) (G : PG) (hZ : pZa G) (S : PS) (x0 : Nat) (Q : PS → Prop) (h : wpX11_init S x0 Q) : mV l yX11_init wsX11_init rmX11_init G S [.ref (G.2.2 + x0)] Q := by
  unfold mV
  refine met_of (cc := cX11_init) (maxL := 1) (ret := none) (by decide) rfl (Nat.le_of_ble_eq_true rfl) ?_
  intro p e s m args below meth c C hr hin
  unfold wpX11_init at h
  show PW p l e _ s m args below meth c _ G 1 S 0 0 [(0, .ref (G.2.2 + x0))] 0 []
  refine pw_aload_n (pc := 0) C 0 dX11_init_0 rfl rfl ?_
  refine pw_objInit (pc := 1) C (by decide +kernel) (by decide +kernel) (by decide +kernel) (Nat.le_of_ble_eq_true rfl) (Nat.le_of_ble_eq_true rfl) (Nat.le_of_ble_eq_true rfl) dX11_init_1 ?_
  refine pw_aload_n (pc := 4) C 0 dX11_init_4 rfl rfl ?_
  refine pw_new (pc := 5) (kc2 := 1) (kn2 := 10) C pCl6 iX11_init_X8 (by decide +kernel) (by decide +kernel) (by decide +kernel) rfl rfl (Nat.le_of_ble_eq_true rfl) (Nat.le_of_ble_eq_true rfl) dX11_init_5 ?_
  obtain ⟨a1, ea1⟩ : ∃ q, q = pN S := ⟨_, rfl⟩
  obtain ⟨S2, eS2⟩ : ∃ q, q = sNew S 7 0 := ⟨_, rfl⟩
  rw [← ea1, ← eS2]
  replace h := h a1 S2 ea1 eS2
  have hk3 : pK S2 a1 = 7 := by rw [eS2, ea1, pK_sNew, if_pos rfl]
  refine pw_dup (pc := 8) C dX11_init_8 rfl ?_
  refine pw_callv (pc := 9) (kc2 := 5) (kn2 := 629) (pRunIN (pc := 9) C (ctX8_init l G hZ  _ a1 _ h) 0 gX11_init_X8_init_n11 rfl (hZ.2.2.2.2.1) (by decide +kernel) rfl (by decide +kernel) (by decide +kernel) ⟨Nat.le_of_ble_eq_true rfl, Nat.le_of_ble_eq_true rfl⟩ rfl rfl (Nat.le_of_ble_eq_true rfl) dX11_init_9 ⟨Nat.le_of_ble_eq_true rfl, Nat.le_of_ble_eq_true rfl⟩) rfl rfl (fun S5 h => ?_)
  obtain ⟨hk6, h⟩ := h
  refine pw_putR (pc := 12) (ref := "SupportSolver") (k := 0) (index := 12) C pCl9 iX11_init_X11 hk6 rfl (by decide +kernel) (Or.inl rfl) (o := a1) (Or.inr ⟨rfl, hin, rfl, rfl⟩) rfl rfl dX11_init_12 ?_
  refine pw_aload_n (pc := 15) (S := (sR S5 x0 0 (some a1))) C 0 dX11_init_15 rfl rfl ?_
  refine pw_new (pc := 16) (S := (sR S5 x0 0 (some a1))) (kc2 := 6) (kn2 := 635) C pCl7 iX11_init_X9 (by decide +kernel) (by decide +kernel) (by decide +kernel) rfl rfl (Nat.le_of_ble_eq_true rfl) (Nat.le_of_ble_eq_true rfl) dX11_init_16 ?_
  obtain ⟨a7, ea7⟩ : ∃ q, q = pN (sR S5 x0 0 (some a1)) := ⟨_, rfl⟩
  obtain ⟨S8, eS8⟩ : ∃ q, q = sNew (sR S5 x0 0 (some a1)) 8 0 := ⟨_, rfl⟩
  rw [← ea7, ← eS8]
  replace h := h a7 S8 ea7 eS8
  have hk9 : pK S8 a7 = 8 := by rw [eS8, ea7, pK_sNew, if_pos rfl]
  refine pw_dup (pc := 19) C dX11_init_19 rfl ?_
  refine pw_callv (pc := 20) (kc2 := 80) (kn2 := 1181) (pRunI (pc := 20) C (ctX9_init l G hZ  _ a7 _ h) (cwI 0 C.2.2.2.2.1 gX11_init_X9_init rfl rfl rfl (C.2.2.2.2.1 (.initialized RX9) (by decide +kernel)) (C.2.2.2.2.1 (.methodLink RX11 18 yX9_init) (by decide +kernel)) (C.2.2.2.2.1 (.instanceMethod yX9_init) (by decide +kernel)) rfl (by decide +kernel) ⟨Nat.le_of_ble_eq_true rfl, Nat.le_of_ble_eq_true rfl⟩) rfl rfl (Nat.le_of_ble_eq_true rfl) dX11_init_20 ⟨Nat.le_of_ble_eq_true rfl, Nat.le_of_ble_eq_true rfl⟩) rfl rfl (fun S11 h => ?_)
  obtain ⟨hk12, h⟩ := h
  refine pw_putR (pc := 23) (ref := "SupportSolver") (k := 1) (index := 19) C pCl9 iX11_init_X11 hk12 rfl (by decide +kernel) (Or.inl rfl) (o := a7) (Or.inr ⟨rfl, hin, rfl, rfl⟩) rfl rfl dX11_init_23 ?_
  refine pw_aload_n (pc := 26) (S := (sR S11 x0 1 (some a7))) C 0 dX11_init_26 rfl rfl ?_
  refine pw_new (pc := 27) (S := (sR S11 x0 1 (some a7))) (kc2 := 81) (kn2 := 1187) C pCl7 iX11_init_X9 (by decide +kernel) (by decide +kernel) (by decide +kernel) rfl rfl (Nat.le_of_ble_eq_true rfl) (Nat.le_of_ble_eq_true rfl) dX11_init_27 ?_
  obtain ⟨a13, ea13⟩ : ∃ q, q = pN (sR S11 x0 1 (some a7)) := ⟨_, rfl⟩
  obtain ⟨S14, eS14⟩ : ∃ q, q = sNew (sR S11 x0 1 (some a7)) 8 0 := ⟨_, rfl⟩
  rw [← ea13, ← eS14]
  replace h := h a13 S14 ea13 eS14
  have hk15 : pK S14 a13 = 8 := by rw [eS14, ea13, pK_sNew, if_pos rfl]
  refine pw_dup (pc := 30) C dX11_init_30 rfl ?_
  refine pw_callv (pc := 31) (kc2 := 155) (kn2 := 1733) (pRunI (pc := 31) C (ctX9_init l G hZ  _ a13 _ h) (cwI 0 C.2.2.2.2.1 gX11_init_X9_init rfl rfl rfl (C.2.2.2.2.1 (.initialized RX9) (by decide +kernel)) (C.2.2.2.2.1 (.methodLink RX11 18 yX9_init) (by decide +kernel)) (C.2.2.2.2.1 (.instanceMethod yX9_init) (by decide +kernel)) rfl (by decide +kernel) ⟨Nat.le_of_ble_eq_true rfl, Nat.le_of_ble_eq_true rfl⟩) rfl rfl (Nat.le_of_ble_eq_true rfl) dX11_init_31 ⟨Nat.le_of_ble_eq_true rfl, Nat.le_of_ble_eq_true rfl⟩) rfl rfl (fun S17 h => ?_)
  obtain ⟨hk18, h⟩ := h
  refine pw_putR (pc := 34) (ref := "SupportSolver") (k := 2) (index := 23) C pCl9 iX11_init_X11 hk18 rfl (by decide +kernel) (Or.inl rfl) (o := a13) (Or.inr ⟨rfl, hin, rfl, rfl⟩) rfl rfl dX11_init_34 ?_
  refine pw_aload_n (pc := 37) (S := (sR S17 x0 2 (some a13))) C 0 dX11_init_37 rfl rfl ?_
  refine pw_new (pc := 38) (S := (sR S17 x0 2 (some a13))) (kc2 := 156) (kn2 := 1738) C pCl3 iX11_init_X4 (by decide +kernel) (by decide +kernel) (by decide +kernel) rfl rfl (Nat.le_of_ble_eq_true rfl) (Nat.le_of_ble_eq_true rfl) dX11_init_38 ?_
  obtain ⟨a19, ea19⟩ : ∃ q, q = pN (sR S17 x0 2 (some a13)) := ⟨_, rfl⟩
  obtain ⟨S20, eS20⟩ : ∃ q, q = sNew (sR S17 x0 2 (some a13)) 4 0 := ⟨_, rfl⟩
  rw [← ea19, ← eS20]
  replace h := h a19 S20 ea19 eS20
  have hk21 : pK S20 a19 = 4 := by rw [eS20, ea19, pK_sNew, if_pos rfl]
  refine pw_dup (pc := 41) C dX11_init_41 rfl ?_
  refine pw_callv (pc := 42) (kc2 := 156) (kn2 := 1738) (pRunI (pc := 42) C (ctX4_init l G hZ  _ a19 _ h) (cwI 0 C.2.2.2.2.1 gX11_init_X4_init rfl rfl rfl (C.2.2.2.2.1 (.initialized RX4) (by decide +kernel)) (C.2.2.2.2.1 (.methodLink RX11 28 yX4_init) (by decide +kernel)) (C.2.2.2.2.1 (.instanceMethod yX4_init) (by decide +kernel)) rfl (by decide +kernel) ⟨Nat.le_of_ble_eq_true rfl, Nat.le_of_ble_eq_true rfl⟩) rfl rfl (Nat.le_of_ble_eq_true rfl) dX11_init_42 ⟨Nat.le_of_ble_eq_true rfl, Nat.le_of_ble_eq_true rfl⟩) rfl rfl (fun S23 h => ?_)
  obtain ⟨hk24, h⟩ := h
  refine pw_putR (pc := 45) (ref := "SupportSolver") (k := 3) (index := 29) C pCl9 iX11_init_X11 hk24 rfl (by decide +kernel) (Or.inl rfl) (o := a19) (Or.inr ⟨rfl, hin, rfl, rfl⟩) rfl rfl dX11_init_45 ?_
  refine pw_aload_n (pc := 48) (S := (sR S23 x0 3 (some a19))) C 0 dX11_init_48 rfl rfl ?_
  refine pw_new (pc := 49) (S := (sR S23 x0 3 (some a19))) (kc2 := 157) (kn2 := 1743) C pCl5 iX11_init_X7 (by decide +kernel) (by decide +kernel) (by decide +kernel) rfl rfl (Nat.le_of_ble_eq_true rfl) (Nat.le_of_ble_eq_true rfl) dX11_init_49 ?_
  obtain ⟨a25, ea25⟩ : ∃ q, q = pN (sR S23 x0 3 (some a19)) := ⟨_, rfl⟩
  obtain ⟨S26, eS26⟩ : ∃ q, q = sNew (sR S23 x0 3 (some a19)) 6 0 := ⟨_, rfl⟩
  rw [← ea25, ← eS26]
  replace h := h a25 S26 ea25 eS26
  have hk27 : pK S26 a25 = 6 := by rw [eS26, ea25, pK_sNew, if_pos rfl]
  refine pw_dup (pc := 52) C dX11_init_52 rfl ?_
  refine pw_callv (pc := 53) (kc2 := 157) (kn2 := 1743) (pRunIN (pc := 53) C (ctX7_init l G hZ  _ a25 _ h) 0 gX11_init_X7_init_n35 rfl (hZ.2.2.2.2.2.1) (by decide +kernel) rfl (by decide +kernel) (by decide +kernel) ⟨Nat.le_of_ble_eq_true rfl, Nat.le_of_ble_eq_true rfl⟩ rfl rfl (Nat.le_of_ble_eq_true rfl) dX11_init_53 ⟨Nat.le_of_ble_eq_true rfl, Nat.le_of_ble_eq_true rfl⟩) rfl rfl (fun S29 h => ?_)
  obtain ⟨hk30, h⟩ := h
  refine pw_putR (pc := 56) (ref := "SupportSolver") (k := 4) (index := 36) C pCl9 iX11_init_X11 hk30 rfl (by decide +kernel) (Or.inl rfl) (o := a25) (Or.inr ⟨rfl, hin, rfl, rfl⟩) rfl rfl dX11_init_56 ?_
  refine pw_aload_n (pc := 59) (S := (sR S29 x0 4 (some a25))) C 0 dX11_init_59 rfl rfl ?_
  refine pw_bipush (pc := 60) (S := (sR S29 x0 4 (some a25))) (v := 12 ) C dX11_init_60 (by decide) ?_
  refine pw_newaJ (pc := 62) (S := (sR S29 x0 4 (some a25))) (N := 12) (kc2 := 158) (kn2 := 1755) C (by decide +kernel) (by decide) rfl (Nat.le_of_ble_eq_true rfl) rfl rfl (Nat.le_of_ble_eq_true rfl) (Nat.le_of_ble_eq_true rfl) dX11_init_62 ?_
  obtain ⟨a31, ea31⟩ : ∃ q, q = pN (sR S29 x0 4 (some a25)) := ⟨_, rfl⟩
  obtain ⟨S32, eS32⟩ : ∃ q, q = sNew (sR S29 x0 4 (some a25)) 14 12 := ⟨_, rfl⟩
  rw [← ea31, ← eS32]
  replace h := h a31 S32 ea31 eS32
  have hk33 : pK S32 a31 = 14 := by rw [eS32, ea31, pK_sNew, if_pos rfl]
  obtain ⟨hk34, h⟩ := h
  refine pw_putR (pc := 64) (ref := "SupportSolver") (k := 5) (index := 40) C pCl9 iX11_init_X11 hk34 rfl (by decide +kernel) (Or.inl rfl) (o := a31) (Or.inr ⟨rfl, hin, rfl, rfl⟩) rfl rfl dX11_init_64 ?_
  refine pw_aload_n (pc := 67) (S := (sR S32 x0 5 (some a31))) C 0 dX11_init_67 rfl rfl ?_
  refine pw_new (pc := 68) (S := (sR S32 x0 5 (some a31))) (kc2 := 159) (kn2 := 1759) C pCl4 iX11_init_X6 (by decide +kernel) (by decide +kernel) (by decide +kernel) rfl rfl (Nat.le_of_ble_eq_true rfl) (Nat.le_of_ble_eq_true rfl) dX11_init_68 ?_
  obtain ⟨a35, ea35⟩ : ∃ q, q = pN (sR S32 x0 5 (some a31)) := ⟨_, rfl⟩
  obtain ⟨S36, eS36⟩ : ∃ q, q = sNew (sR S32 x0 5 (some a31)) 5 0 := ⟨_, rfl⟩
  rw [← ea35, ← eS36]
  replace h := h a35 S36 ea35 eS36
  have hk37 : pK S36 a35 = 5 := by rw [eS36, ea35, pK_sNew, if_pos rfl]
  refine pw_dup (pc := 71) C dX11_init_71 rfl ?_
  refine pw_callv (pc := 72) (kc2 := 160) (kn2 := 1767) (pRunIN (pc := 72) C (ctX6_init l G hZ  _ a35 _ h) 0 gX11_init_X6_init_n46 rfl (hZ.2.2.2.2.2.2.1) (by decide +kernel) rfl (by decide +kernel) (by decide +kernel) ⟨Nat.le_of_ble_eq_true rfl, Nat.le_of_ble_eq_true rfl⟩ rfl rfl (Nat.le_of_ble_eq_true rfl) dX11_init_72 ⟨Nat.le_of_ble_eq_true rfl, Nat.le_of_ble_eq_true rfl⟩) rfl rfl (fun S39 h => ?_)
  obtain ⟨hk40, h⟩ := h
  refine pw_putR (pc := 75) (ref := "SupportSolver") (k := 6) (index := 47) C pCl9 iX11_init_X11 hk40 rfl (by decide +kernel) (Or.inl rfl) (o := a35) (Or.inl rfl) rfl rfl dX11_init_75 ?_
  refine pw_aload_n (pc := 78) (S := (sR S39 x0 6 (some a35))) C 0 dX11_init_78 rfl rfl ?_
  refine pw_iconst (pc := 79) (S := (sR S39 x0 6 (some a35))) (v := 0 ) C dX11_init_79 (by decide) ?_
  refine pw_putI (pc := 80) (S := (sR S39 x0 6 (some a35))) (ref := "SupportSolver") (k := 7) (index := 51) C pCl9 iX11_init_X11 hk40 rfl (by decide +kernel) (Or.inl rfl) (Or.inl rfl) rfl rfl dX11_init_80 ?_
  refine pw_aload_n (pc := 83) (S := (sI (sR S39 x0 6 (some a35)) x0 7 (0 : Int32))) C 0 dX11_init_83 rfl rfl ?_
  refine pw_iconst (pc := 84) (S := (sI (sR S39 x0 6 (some a35)) x0 7 (0 : Int32))) (v := 0 ) C dX11_init_84 (by decide) ?_
  refine pw_putI (pc := 85) (S := (sI (sR S39 x0 6 (some a35)) x0 7 (0 : Int32))) (ref := "SupportSolver") (k := 8) (index := 55) C pCl9 iX11_init_X11 hk40 rfl (by decide +kernel) (Or.inl rfl) (Or.inl rfl) rfl rfl dX11_init_85 ?_
  exact pw_vret (pc := 88) (S := (sI (sI (sR S39 x0 6 (some a35)) x0 7 (0 : Int32)) x0 8 (0 : Int32))) C hr h dX11_init_88

abbrev rmX11_append : Room := { frames := 6, cells := 1, slots := 6, locals := 90 }
theorem iX11_append_X11 : ∀ w ∈ u_ws RX11 TX11 9, w ∈ wsX11_append := by decide +kernel
theorem iX11_append_X8 : ∀ w ∈ u_ws RX8 TX8 10, w ∈ wsX11_append := by decide +kernel
def wpX11_append (S : PS) (x0 : Nat) (x1 : Int32) (x2 : Int32) (x3 : Int32) (x4 : Int32) (x5 : Int32) (Q : Int32 → PS → Prop) (X : String → PS → Prop) : Prop := (pK S x0 = 10 ∧ (∃ o2, pR S x0 0 = some o2 ∧ (pK S o2 = 7 ∧ ((((pI S o2 2) + (20 : Int32)) ≤ (600 : Int32) → (wpX8_addFour S o2 x1 (fun S5 => (pK S5 x0 = 10 ∧ (∃ o7, pR S5 x0 0 = some o7 ∧ (pK S5 o7 = 7 ∧ (wpX8_addFour S5 o7 x2 (fun S10 => (pK S10 x0 = 10 ∧ (∃ o12, pR S10 x0 0 = some o12 ∧ (pK S10 o12 = 7 ∧ (wpX8_addFour S10 o12 x3 (fun S15 => (pK S15 x0 = 10 ∧ (∃ o17, pR S15 x0 0 = some o17 ∧ (pK S15 o17 = 7 ∧ (wpX8_addFour S15 o17 x4 (fun S20 => (pK S20 x0 = 10 ∧ (∃ o22, pR S20 x0 0 = some o22 ∧ (pK S20 o22 = 7 ∧ (wpX8_addFour S20 o22 x5 (fun S25 => (pK S25 x0 = 10 ∧ (∃ o27, pR S25 x0 0 = some o27 ∧ (pK S25 o27 = 7 ∧ (Q (pI S25 o27 2) S25))))))))))))))))))))))))))) ∧ (¬ ((pI S o2 2) + (20 : Int32)) ≤ (600 : Int32) → (∀ n, X "java/lang/IllegalStateException" (sSkip S n)))))))
set_option maxRecDepth 100000 in
set_option maxHeartbeats 4000000 in
theorem ctX11_append (l : Launch) (G : PG) (hZ : pZa G) (hl : l.stackTraces = false) (S : PS) (x0 : Nat) (x1 : Int32) (x2 : Int32) (x3 : Int32) (x4 : Int32) (x5 : Int32) (Q : Int32 → PS → Prop) (X : String → PS → Prop) (h : wpX11_append S x0 x1 x2 x3 x4 x5 Q X) : mXI l yX11_append wsX11_append rmX11_append G S [.ref (G.2.2 + x0), .int x1, .int x2, .int x3, .int x4, .int x5] Q X := by
  unfold mXI
  refine met_ofX (cc := cX11_append) (maxL := 6) (ret := (some .int)) (by decide) rfl (Nat.le_of_ble_eq_true rfl) ?_
  intro p e s m args below meth c C hout hr hin
  unfold wpX11_append at h
  show PW p l e _ s m args below meth c _ G 6 S 0 0 [(0, .ref (G.2.2 + x0)), (1, .int x1), (2, .int x2), (3, .int x3), (4, .int x4), (5, .int x5)] 0 []
  refine pw_aload_n (pc := 0) C 0 dX11_append_0 rfl rfl ?_
  obtain ⟨hk1, h⟩ := h
  obtain ⟨o2, ho2, h⟩ := h
  refine pw_getR (pc := 1) (ref := "SupportSolver") (k := 0) (index := 12) C pCl9 iX11_append_X11 hk1 rfl (by decide +kernel) (Or.inl rfl) (o := o2) ho2 dX11_append_1 ?_
  obtain ⟨hk3, h⟩ := h
  refine pw_getI (pc := 4) (ref := "SupportSolver$TextReader") (k := 2) (index := 58) C pCl6 iX11_append_X8 hk3 rfl (by decide +kernel) (Or.inl rfl) dX11_append_4 ?_
  refine pw_bipush (pc := 7) (v := 20 ) C dX11_append_7 (by decide) ?_
  refine pw_iadd (pc := 9) C dX11_append_9 ?_
  refine pw_sipush (pc := 10) (v := 600 ) C dX11_append_10 (by decide) ?_
  refine pw_icmp_le (pc := 13) (tgt := 26) C dX11_append_13 rfl ⟨fun hc => ?_, fun hc => ?_⟩
  · replace h := h.1 hc
    refine pw_aload_n (pc := 26) C 0 dX11_append_26 rfl rfl ?_
    refine pw_getR (pc := 27) (ref := "SupportSolver") (k := 0) (index := 12) C pCl9 iX11_append_X11 hk1 rfl (by decide +kernel) (Or.inl rfl) (o := o2) ho2 dX11_append_27 ?_
    refine pw_iload_n (pc := 30) C 1 dX11_append_30 rfl rfl ?_
    refine pw_callv (pc := 31) (kc2 := 0) (kn2 := 0) (pRunV (pc := 31) C (ctX8_addFour l G hZ  _ o2 x1 _ h) (cwV 1 C.2.2.2.2.1 gX11_append_X8_addFour rfl rfl rfl (by decide +kernel) ⟨Nat.le_of_ble_eq_true rfl, Nat.le_of_ble_eq_true rfl⟩) pCl6 hk3 rfl rfl (Nat.le_of_ble_eq_true rfl) dX11_append_31 ⟨Nat.le_of_ble_eq_true rfl, Nat.le_of_ble_eq_true rfl⟩) rfl rfl (fun S5 h => ?_)
    refine pw_aload_n (pc := 34) C 0 dX11_append_34 rfl rfl ?_
    obtain ⟨hk6, h⟩ := h
    obtain ⟨o7, ho7, h⟩ := h
    refine pw_getR (pc := 35) (ref := "SupportSolver") (k := 0) (index := 12) C pCl9 iX11_append_X11 hk6 rfl (by decide +kernel) (Or.inl rfl) (o := o7) ho7 dX11_append_35 ?_
    refine pw_iload_n (pc := 38) C 2 dX11_append_38 rfl rfl ?_
    obtain ⟨hk8, h⟩ := h
    refine pw_callv (pc := 39) (kc2 := 0) (kn2 := 0) (pRunV (pc := 39) C (ctX8_addFour l G hZ  _ o7 x2 _ h) (cwV 1 C.2.2.2.2.1 gX11_append_X8_addFour rfl rfl rfl (by decide +kernel) ⟨Nat.le_of_ble_eq_true rfl, Nat.le_of_ble_eq_true rfl⟩) pCl6 hk8 rfl rfl (Nat.le_of_ble_eq_true rfl) dX11_append_39 ⟨Nat.le_of_ble_eq_true rfl, Nat.le_of_ble_eq_true rfl⟩) rfl rfl (fun S10 h => ?_)
    refine pw_aload_n (pc := 42) C 0 dX11_append_42 rfl rfl ?_
    obtain ⟨hk11, h⟩ := h
    obtain ⟨o12, ho12, h⟩ := h
    refine pw_getR (pc := 43) (ref := "SupportSolver") (k := 0) (index := 12) C pCl9 iX11_append_X11 hk11 rfl (by decide +kernel) (Or.inl rfl) (o := o12) ho12 dX11_append_43 ?_
    refine pw_iload_n (pc := 46) C 3 dX11_append_46 rfl rfl ?_
    obtain ⟨hk13, h⟩ := h
    refine pw_callv (pc := 47) (kc2 := 0) (kn2 := 0) (pRunV (pc := 47) C (ctX8_addFour l G hZ  _ o12 x3 _ h) (cwV 1 C.2.2.2.2.1 gX11_append_X8_addFour rfl rfl rfl (by decide +kernel) ⟨Nat.le_of_ble_eq_true rfl, Nat.le_of_ble_eq_true rfl⟩) pCl6 hk13 rfl rfl (Nat.le_of_ble_eq_true rfl) dX11_append_47 ⟨Nat.le_of_ble_eq_true rfl, Nat.le_of_ble_eq_true rfl⟩) rfl rfl (fun S15 h => ?_)
    refine pw_aload_n (pc := 50) C 0 dX11_append_50 rfl rfl ?_
    obtain ⟨hk16, h⟩ := h
    obtain ⟨o17, ho17, h⟩ := h
    refine pw_getR (pc := 51) (ref := "SupportSolver") (k := 0) (index := 12) C pCl9 iX11_append_X11 hk16 rfl (by decide +kernel) (Or.inl rfl) (o := o17) ho17 dX11_append_51 ?_
    refine pw_iload (pc := 54) C 4 dX11_append_54 rfl ?_
    obtain ⟨hk18, h⟩ := h
    refine pw_callv (pc := 56) (kc2 := 0) (kn2 := 0) (pRunV (pc := 56) C (ctX8_addFour l G hZ  _ o17 x4 _ h) (cwV 1 C.2.2.2.2.1 gX11_append_X8_addFour rfl rfl rfl (by decide +kernel) ⟨Nat.le_of_ble_eq_true rfl, Nat.le_of_ble_eq_true rfl⟩) pCl6 hk18 rfl rfl (Nat.le_of_ble_eq_true rfl) dX11_append_56 ⟨Nat.le_of_ble_eq_true rfl, Nat.le_of_ble_eq_true rfl⟩) rfl rfl (fun S20 h => ?_)
    refine pw_aload_n (pc := 59) C 0 dX11_append_59 rfl rfl ?_
    obtain ⟨hk21, h⟩ := h
    obtain ⟨o22, ho22, h⟩ := h
    refine pw_getR (pc := 60) (ref := "SupportSolver") (k := 0) (index := 12) C pCl9 iX11_append_X11 hk21 rfl (by decide +kernel) (Or.inl rfl) (o := o22) ho22 dX11_append_60 ?_
    refine pw_iload (pc := 63) C 5 dX11_append_63 rfl ?_
    obtain ⟨hk23, h⟩ := h
    refine pw_callv (pc := 65) (kc2 := 0) (kn2 := 0) (pRunV (pc := 65) C (ctX8_addFour l G hZ  _ o22 x5 _ h) (cwV 1 C.2.2.2.2.1 gX11_append_X8_addFour rfl rfl rfl (by decide +kernel) ⟨Nat.le_of_ble_eq_true rfl, Nat.le_of_ble_eq_true rfl⟩) pCl6 hk23 rfl rfl (Nat.le_of_ble_eq_true rfl) dX11_append_65 ⟨Nat.le_of_ble_eq_true rfl, Nat.le_of_ble_eq_true rfl⟩) rfl rfl (fun S25 h => ?_)
    refine pw_aload_n (pc := 68) C 0 dX11_append_68 rfl rfl ?_
    obtain ⟨hk26, h⟩ := h
    obtain ⟨o27, ho27, h⟩ := h
    refine pw_getR (pc := 69) (ref := "SupportSolver") (k := 0) (index := 12) C pCl9 iX11_append_X11 hk26 rfl (by decide +kernel) (Or.inl rfl) (o := o27) ho27 dX11_append_69 ?_
    obtain ⟨hk28, h⟩ := h
    refine pw_getI (pc := 72) (ref := "SupportSolver$TextReader") (k := 2) (index := 58) C pCl6 iX11_append_X8 hk28 rfl (by decide +kernel) (Or.inl rfl) dX11_append_72 ?_
    refine pw_widen (k2 := 1) (n2 := 6) (Nat.le_of_ble_eq_true rfl) (Nat.le_of_ble_eq_true rfl) ?_
    refine pw_xret ?_
    exact pw_iret (pc := 75) C hr h dX11_append_75
  · replace h := h.2 hc
    exact pw_throwS (pc := 16) (mc := 1) (ms := 6) C hl (hZ.2.2.2.2.2.2.2.2.2.2.2.2.2.2.2.2.2.2.2.2.2.2.2.2.2.2.2.2.2.2.2.1) (by decide +kernel) (by decide +kernel) (by decide +kernel) hout dX11_append_16 dX11_append_19 dX11_append_20 dX11_append_22 dX11_append_25 (by decide) (Nat.le_of_ble_eq_true rfl) (Nat.le_of_ble_eq_true rfl) (Nat.le_of_ble_eq_true rfl) (Nat.le_of_ble_eq_true rfl) (Nat.le_of_ble_eq_true rfl) h

abbrev rmX11_truncate : Room := { frames := 6, cells := 1, slots := 6, locals := 90 }
theorem iX11_truncate_X11 : ∀ w ∈ u_ws RX11 TX11 9, w ∈ wsX11_truncate := by decide +kernel
theorem iX11_truncate_X8 : ∀ w ∈ u_ws RX8 TX8 10, w ∈ wsX11_truncate := by decide +kernel
def wpX11_truncate_b15  (Q : Int32 → PS → Prop) (X : String → PS → Prop) (S : PS) (x0 : Nat) (x1 : Int32) : Prop := (∀ n, X "java/lang/IndexOutOfBoundsException" (sSkip S n))
def wpX11_truncate (S : PS) (x0 : Nat) (x1 : Int32) (Q : Int32 → PS → Prop) (X : String → PS → Prop) : Prop := ((x1 < 0 → (wpX11_truncate_b15 Q X S x0 x1)) ∧ (¬ x1 < 0 → (pK S x0 = 10 ∧ (∃ o2, pR S x0 0 = some o2 ∧ (pK S o2 = 7 ∧ ((x1 ≤ (pI S o2 2) → (Q x1 (sI S o2 2 x1))) ∧ (¬ x1 ≤ (pI S o2 2) → (wpX11_truncate_b15 Q X S x0 x1))))))))
set_option maxRecDepth 100000 in
set_option maxHeartbeats 4000000 in
theorem cbX11_truncate_b15 {p : Program} {l : Launch} {e : Env} {s : State} {m : MethodId} {args : Array Value} {below : List Frame} {meth : Method} {c : Code} {G : PG} {Q : Int32 → PS → Prop} {X : String → PS → Prop} (C : pCx p s m args meth c G cX11_truncate 2 yX11_truncate.cls wsX11_truncate) (hr : meth.sig.returnType = (some .int)) (hin : meth.name = yX11_truncate.name) (hZ : pZa G) (hout : ∀ x ∈ c.exceptionTable.toList, False) (hl : l.stackTraces = false)  : ∀ (S : PS) (x0 : Nat) (x1 : Int32), wpX11_truncate_b15  Q X S x0 x1 → PW p l e rmX11_truncate s m args below meth c (vx_MQ below (va_Qi Q (pB G) (pFr G)) (pXC G X) args s rmX11_truncate.cells rmX11_truncate.slots (pFr G)) G 2 S 0 0 [(0, .ref (G.2.2 + x0)), (1, .int x1)] 15 ([]) := by
  intro S x0 x1 h
  unfold wpX11_truncate_b15 at h
  exact pw_throwS (pc := 15) (mc := 1) (ms := 6) C hl (hZ.2.2.2.2.2.2.2.2.2.2.2.2.2.2.2.2.2.2.2.2.2.2.2.2.2.2.2.2.2.2.2.2.1) (by decide +kernel) (by decide +kernel) (by decide +kernel) hout dX11_truncate_15 dX11_truncate_18 dX11_truncate_19 dX11_truncate_21 dX11_truncate_24 (by decide) (Nat.le_of_ble_eq_true rfl) (Nat.le_of_ble_eq_true rfl) (Nat.le_of_ble_eq_true rfl) (Nat.le_of_ble_eq_true rfl) (Nat.le_of_ble_eq_true rfl) h
set_option maxRecDepth 100000 in
set_option maxHeartbeats 4000000 in
theorem ctX11_truncate (l : Launch) (G : PG) (hZ : pZa G) (hl : l.stackTraces = false) (S : PS) (x0 : Nat) (x1 : Int32) (Q : Int32 → PS → Prop) (X : String → PS → Prop) (h : wpX11_truncate S x0 x1 Q X) : mXI l yX11_truncate wsX11_truncate rmX11_truncate G S [.ref (G.2.2 + x0), .int x1] Q X := by
  unfold mXI
  refine met_ofX (cc := cX11_truncate) (maxL := 2) (ret := (some .int)) (by decide) rfl (Nat.le_of_ble_eq_true rfl) ?_
  intro p e s m args below meth c C hout hr hin
  unfold wpX11_truncate at h
  show PW p l e _ s m args below meth c _ G 2 S 0 0 [(0, .ref (G.2.2 + x0)), (1, .int x1)] 0 []
  refine pw_iload_n (pc := 0) C 1 dX11_truncate_0 rfl rfl ?_
  refine pw_if_lt (pc := 1) (tgt := 15) C dX11_truncate_1 rfl ⟨fun hc => ?_, fun hc => ?_⟩
  · replace h := h.1 hc
    exact cbX11_truncate_b15 C hr hin hZ hout hl  _ _ _ h
  · replace h := h.2 hc
    refine pw_iload_n (pc := 4) C 1 dX11_truncate_4 rfl rfl ?_
    refine pw_aload_n (pc := 5) C 0 dX11_truncate_5 rfl rfl ?_
    obtain ⟨hk1, h⟩ := h
    obtain ⟨o2, ho2, h⟩ := h
    refine pw_getR (pc := 6) (ref := "SupportSolver") (k := 0) (index := 12) C pCl9 iX11_truncate_X11 hk1 rfl (by decide +kernel) (Or.inl rfl) (o := o2) ho2 dX11_truncate_6 ?_
    obtain ⟨hk3, h⟩ := h
    refine pw_getI (pc := 9) (ref := "SupportSolver$TextReader") (k := 2) (index := 58) C pCl6 iX11_truncate_X8 hk3 rfl (by decide +kernel) (Or.inl rfl) dX11_truncate_9 ?_
    refine pw_icmp_le (pc := 12) (tgt := 25) C dX11_truncate_12 rfl ⟨fun hc => ?_, fun hc => ?_⟩
    · replace h := h.1 hc
      refine pw_aload_n (pc := 25) C 0 dX11_truncate_25 rfl rfl ?_
      refine pw_getR (pc := 26) (ref := "SupportSolver") (k := 0) (index := 12) C pCl9 iX11_truncate_X11 hk1 rfl (by decide +kernel) (Or.inl rfl) (o := o2) ho2 dX11_truncate_26 ?_
      refine pw_iload_n (pc := 29) C 1 dX11_truncate_29 rfl rfl ?_
      refine pw_putI (pc := 30) (ref := "SupportSolver$TextReader") (k := 2) (index := 58) C pCl6 iX11_truncate_X8 hk3 rfl (by decide +kernel) (Or.inl rfl) (Or.inl rfl) rfl rfl dX11_truncate_30 ?_
      refine pw_iload_n (pc := 33) (S := (sI S o2 2 x1)) C 1 dX11_truncate_33 rfl rfl ?_
      refine pw_widen (k2 := 1) (n2 := 6) (Nat.le_of_ble_eq_true rfl) (Nat.le_of_ble_eq_true rfl) ?_
      refine pw_xret ?_
      exact pw_iret (pc := 34) (S := (sI S o2 2 x1)) C hr h dX11_truncate_34
    · replace h := h.2 hc
      exact cbX11_truncate_b15 C hr hin hZ hout hl  _ _ _ h

abbrev rmX11_sweep : Room := { frames := 13, cells := 0, slots := 0, locals := 364 }
theorem iX11_sweep_X0 : ∀ w ∈ u_ws RX0 TX0 4, w ∈ wsX11_sweep := by decide +kernel
theorem iX11_sweep_X10 : ∀ w ∈ u_ws RX10 TX10 8, w ∈ wsX11_sweep := by decide +kernel
theorem iX11_sweep_X2 : ∀ w ∈ u_ws RX2 TX2 7, w ∈ wsX11_sweep := by decide +kernel
theorem iX11_sweep_X4 : ∀ w ∈ u_ws RX4 TX4 5, w ∈ wsX11_sweep := by decide +kernel
theorem iX11_sweep_X9 : ∀ w ∈ u_ws RX9 TX9 6, w ∈ wsX11_sweep := by decide +kernel
def wpX11_sweep_b23 (K3 : PS → Nat → Nat → Int32 → Int64 → Int32 → Prop) (Q : PS → Prop) : Nat → PS → Nat → Nat → Int32 → Int64 → Int32 → Int32 → Int32 → Prop
  | 0 => fun _ _ _ _ _ _ _ _ => False
  | n + 1 => fun S x0 x1 x2 x3 x5 x6 x7 => (((5 : Int32) ≤ x7 → (K3 S x0 x1 x2 x3 (x5 + 1))) ∧ (¬ (5 : Int32) ≤ x7 → (pK S x0 = 8 ∧ (wpX9_hasFailed S x0 (fun r2 S3 => ((r2 = 0 → (pK S3 x0 = 8 ∧ (wpX5_has S3 (pJ S3 x0 5) x6 x7 (fun r5 S6 => ((r5 = 0 → (wpX11_sweep_b23 K3 Q n S6 x0 x1 x2 x3 x5 x6 (x7 + 1))) ∧ (¬ r5 = 0 → (pK S6 x0 = 8 ∧ (wpX5_narrowed S6 (pJ S6 x0 5) x6 x7 (fun r8 S9 => (wpX1_leastFrom 9 S9 x1 r8 (0 : Int32) (fun r10 S11 => ((¬ (lg_cmp r10 (0 : Int64)) = 0 → (wpX11_sweep_b23 K3 Q n S11 x0 x1 x2 x3 x5 x6 (x7 + 1))) ∧ ((lg_cmp r10 (0 : Int64)) = 0 → (pK S11 x0 = 8 ∧ (wpX9_remove S11 x0 x6 x7 x2 x3 (fun S14 => (wpX11_sweep_b23 K3 Q n S14 x0 x1 x2 x3 x5 x6 (x7 + 1)))))))))))))))))) ∧ (¬ r2 = 0 → (Q S3))))))))
def wpX11_sweep_b3  (Q : PS → Prop) : Nat → PS → Nat → Nat → Int32 → Int64 → Int32 → Prop
  | 0 => fun _ _ _ _ _ _ => False
  | n + 1 => fun S x0 x1 x2 x3 x5 => (pC4 S x1 ∧ (((pI S x1 1) ≤ x5 → (Q S)) ∧ (¬ (pI S x1 1) ≤ x5 → (wpX1_variableAt S x1 x5 (fun r16 S17 => (∃ n9 : Nat, wpX11_sweep_b23 (wpX11_sweep_b3 Q n) Q n9 S17 x0 x1 x2 x3 x5 r16 (0 : Int32)))))))
def wpX11_sweep (S : PS) (x0 : Nat) (x1 : Nat) (x2 : Int32) (x3 : Int64) (Q : PS → Prop) : Prop := (∃ n9 : Nat, wpX11_sweep_b3 Q n9 S x0 x1 x2 x3 (0 : Int32))
set_option maxRecDepth 100000 in
set_option maxHeartbeats 4000000 in
theorem rnX11_sweep_15 {p : Program} {l : Launch} {e : Env} {s : State} {m : MethodId} {args : Array Value} {below : List Frame} {meth : Method} {c : Code} {G : PG} (C : pCx p s m args meth c G cX11_sweep 10 yX11_sweep.cls wsX11_sweep) (hZ : pZa G) (S : PS) (x : Nat) (a0 : Int32) (Q : Int32 → PS → Prop) (hk : pC4 S x) (h : wpX1_variableAt S x a0 Q) {LV : List (Nat × Value)} {st : List Value} (hw : (st.map fun v => v.category).sum ≤ 8) : PRun p l e rmX11_sweep s m args below meth c G 10 S 0 0 0 0 LV 15 (.int a0 :: .ref (G.2.2 + x) :: st) st (va_Qi Q (pB G) (pFr G) (.ref (G.2.2 + x) :: [.int a0]).toArray) := by
  rcases hk with hk | hk | hk | hk
  · exact pRunU (pc := 15) (kc := 0) (kn := 0) C (ctX1_variableAt l G hZ _ x a0 _ h) (va_cwU 1 C.2.2.2.2.1 gX11_sweep_X1_variableAt_u289X0 rfl rfl rfl rfl (by decide +kernel) ⟨Nat.le_of_ble_eq_true rfl, Nat.le_of_ble_eq_true rfl⟩) pCl0 hk rfl rfl hw dX11_sweep_15 ⟨Nat.le_of_ble_eq_true rfl, Nat.le_of_ble_eq_true rfl⟩
  · exact pRunU (pc := 15) (kc := 0) (kn := 0) C (ctX1_variableAt l G hZ _ x a0 _ h) (va_cwU 1 C.2.2.2.2.1 gX11_sweep_X1_variableAt_u289X2 rfl rfl rfl rfl (by decide +kernel) ⟨Nat.le_of_ble_eq_true rfl, Nat.le_of_ble_eq_true rfl⟩) pCl1 hk rfl rfl hw dX11_sweep_15 ⟨Nat.le_of_ble_eq_true rfl, Nat.le_of_ble_eq_true rfl⟩
  · exact pRunU (pc := 15) (kc := 0) (kn := 0) C (ctX1_variableAt l G hZ _ x a0 _ h) (va_cwU 1 C.2.2.2.2.1 gX11_sweep_X1_variableAt_u289X4 rfl rfl rfl rfl (by decide +kernel) ⟨Nat.le_of_ble_eq_true rfl, Nat.le_of_ble_eq_true rfl⟩) pCl3 hk rfl rfl hw dX11_sweep_15 ⟨Nat.le_of_ble_eq_true rfl, Nat.le_of_ble_eq_true rfl⟩
  · exact pRunU (pc := 15) (kc := 0) (kn := 0) C (ctX1_variableAt l G hZ _ x a0 _ h) (va_cwU 1 C.2.2.2.2.1 gX11_sweep_X1_variableAt_u289X10 rfl rfl rfl rfl (by decide +kernel) ⟨Nat.le_of_ble_eq_true rfl, Nat.le_of_ble_eq_true rfl⟩) pCl8 hk rfl rfl hw dX11_sweep_15 ⟨Nat.le_of_ble_eq_true rfl, Nat.le_of_ble_eq_true rfl⟩
set_option maxRecDepth 100000 in
set_option maxHeartbeats 4000000 in
theorem cbX11_sweep_b23 {p : Program} {l : Launch} {e : Env} {s : State} {m : MethodId} {args : Array Value} {below : List Frame} {meth : Method} {c : Code} {G : PG} {Q : PS → Prop} (C : pCx p s m args meth c G cX11_sweep 10 yX11_sweep.cls wsX11_sweep) (hr : meth.sig.returnType = none) (hin : meth.name = yX11_sweep.name) (hZ : pZa G) {K3 : PS → Nat → Nat → Int32 → Int64 → Int32 → Prop} (hK3 : ∀ (S : PS) (x0 : Nat) (x1 : Nat) (x2 : Int32) (x3 : Int64) (x5 : Int32), K3 S x0 x1 x2 x3 x5 → PW p l e rmX11_sweep s m args below meth c (MQ below (va_Qv Q (pB G) (pFr G)) args s rmX11_sweep.cells rmX11_sweep.slots (pFr G)) G 10 S 0 0 [(0, .ref (G.2.2 + x0)), (1, .ref (G.2.2 + x1)), (2, .int x2), (3, .long x3), (5, .int x5)] 3 ([])) (n : Nat) : ∀ (S : PS) (x0 : Nat) (x1 : Nat) (x2 : Int32) (x3 : Int64) (x5 : Int32) (x6 : Int32) (x7 : Int32), wpX11_sweep_b23 K3 Q n S x0 x1 x2 x3 x5 x6 x7 → PW p l e rmX11_sweep s m args below meth c (MQ below (va_Qv Q (pB G) (pFr G)) args s rmX11_sweep.cells rmX11_sweep.slots (pFr G)) G 10 S 0 0 [(0, .ref (G.2.2 + x0)), (1, .ref (G.2.2 + x1)), (2, .int x2), (3, .long x3), (5, .int x5), (6, .int x6), (7, .int x7)] 23 ([]) := by
  induction n with
  | zero => intro S x0 x1 x2 x3 x5 x6 x7 h; exact h.elim
  | succ n ih =>
    intro S x0 x1 x2 x3 x5 x6 x7 h
    unfold wpX11_sweep_b23 at h
    refine pw_iload (pc := 23) C 6 dX11_sweep_23 rfl ?_
    refine pw_iconst (pc := 25) (v := 5 ) C dX11_sweep_25 (by decide) ?_
    refine pw_icmp_ge (pc := 26) (tgt := 92) C dX11_sweep_26 rfl ⟨fun hc => ?_, fun hc => ?_⟩
    · replace h := h.1 hc
      refine pw_iincK (pc := 92) (w := 1) C [(5, .int (x5 + 1)), (0, .ref (G.2.2 + x0)), (1, .ref (G.2.2 + x1)), (2, .int x2), (3, .long x3), (6, .int x6), (7, .int x7)] 4 dX11_sweep_92 (by decide) rfl (by decide) rfl ?_
      refine pw_goto (pc := 95) (tgt := 3) C dX11_sweep_95 rfl ?_
      refine pw_sub [1, 2, 3, 4, 0] (LV2 := [(0, .ref (G.2.2 + x0)), (1, .ref (G.2.2 + x1)), (2, .int x2), (3, .long x3), (5, .int (x5 + 1))]) rfl ?_
      exact hK3 _ _ _ _ _ _ h
    · replace h := h.2 hc
      refine pw_aload_n (pc := 29) C 0 dX11_sweep_29 rfl rfl ?_
      obtain ⟨hk1, h⟩ := h
      refine pw_calli (pc := 30) (kc2 := 0) (kn2 := 0) (pRunV (pc := 30) C (ctX9_hasFailed l G hZ  _ x0 _ h) (cwV 0 C.2.2.2.2.1 gX11_sweep_X9_hasFailed rfl rfl rfl (by decide +kernel) ⟨Nat.le_of_ble_eq_true rfl, Nat.le_of_ble_eq_true rfl⟩) pCl7 hk1 rfl rfl (Nat.le_of_ble_eq_true rfl) dX11_sweep_30 ⟨Nat.le_of_ble_eq_true rfl, Nat.le_of_ble_eq_true rfl⟩) rfl rfl (fun r2 S3 h => ?_)
      refine pw_if_eq (pc := 33) (tgt := 37) C dX11_sweep_33 rfl ⟨fun hc => ?_, fun hc => ?_⟩
      · replace h := h.1 hc
        refine pw_aload_n (pc := 37) C 0 dX11_sweep_37 rfl rfl ?_
        obtain ⟨hk4, h⟩ := h
        refine pw_getJ (pc := 38) (ref := "SupportSolver$Trail") (k := 5) (index := 139) C pCl7 iX11_sweep_X9 hk4 rfl (by decide +kernel) (Or.inl rfl) dX11_sweep_38 ?_
        refine pw_iload (pc := 41) C 5 dX11_sweep_41 rfl ?_
        refine pw_iload (pc := 43) C 6 dX11_sweep_43 rfl ?_
        refine pw_calli (pc := 45) (kc2 := 0) (kn2 := 0) (pRunS (pc := 45) C (ctX5_has l G hZ  _ (pJ S3 x0 5) x6 x7 _ h) (va_cwS 3 C.2.2.2.2.1 gX11_sweep_X5_has rfl rfl rfl (by decide +kernel) ⟨Nat.le_of_ble_eq_true rfl, Nat.le_of_ble_eq_true rfl⟩) rfl rfl (Nat.le_of_ble_eq_true rfl) dX11_sweep_45 ⟨Nat.le_of_ble_eq_true rfl, Nat.le_of_ble_eq_true rfl⟩) rfl rfl (fun r5 S6 h => ?_)
        refine pw_if_eq (pc := 48) (tgt := 86) C dX11_sweep_48 rfl ⟨fun hc => ?_, fun hc => ?_⟩
        · replace h := h.1 hc
          refine pw_iincK (pc := 86) (w := 1) C [(7, .int (x7 + 1)), (0, .ref (G.2.2 + x0)), (1, .ref (G.2.2 + x1)), (2, .int x2), (3, .long x3), (5, .int x5), (6, .int x6)] 6 dX11_sweep_86 (by decide) rfl (by decide) rfl ?_
          refine pw_goto (pc := 89) (tgt := 23) C dX11_sweep_89 rfl ?_
          refine pw_sub [1, 2, 3, 4, 5, 6, 0] (LV2 := [(0, .ref (G.2.2 + x0)), (1, .ref (G.2.2 + x1)), (2, .int x2), (3, .long x3), (5, .int x5), (6, .int x6), (7, .int (x7 + 1))]) rfl ?_
          exact ih _ _ _ _ _ _ _ _ h
        · replace h := h.2 hc
          refine pw_aload_n (pc := 51) C 0 dX11_sweep_51 rfl rfl ?_
          obtain ⟨hk7, h⟩ := h
          refine pw_getJ (pc := 52) (ref := "SupportSolver$Trail") (k := 5) (index := 139) C pCl7 iX11_sweep_X9 hk7 rfl (by decide +kernel) (Or.inl rfl) dX11_sweep_52 ?_
          refine pw_iload (pc := 55) C 5 dX11_sweep_55 rfl ?_
          refine pw_iload (pc := 57) C 6 dX11_sweep_57 rfl ?_
          refine pw_calll (pc := 59) (kc2 := 0) (kn2 := 0) (pRunS (pc := 59) C (ctX5_narrowed l G hZ  _ (pJ S6 x0 5) x6 x7 _ h) (va_cwS 3 C.2.2.2.2.1 gX11_sweep_X5_narrowed rfl rfl rfl (by decide +kernel) ⟨Nat.le_of_ble_eq_true rfl, Nat.le_of_ble_eq_true rfl⟩) rfl rfl (Nat.le_of_ble_eq_true rfl) dX11_sweep_59 ⟨Nat.le_of_ble_eq_true rfl, Nat.le_of_ble_eq_true rfl⟩) rfl rfl (fun r8 S9 h => ?_)
          refine pw_lstore (pc := 62) C [(8, .long r8), (0, .ref (G.2.2 + x0)), (1, .ref (G.2.2 + x1)), (2, .int x2), (3, .long x3), (5, .int x5), (6, .int x6), (7, .int x7)] dX11_sweep_62 (by decide) rfl ?_
          refine pw_aload_n (pc := 64) C 2 dX11_sweep_64 rfl rfl ?_
          refine pw_lload (pc := 65) C 0 dX11_sweep_65 rfl ?_
          refine pw_iconst (pc := 67) (v := 0 ) C dX11_sweep_67 (by decide) ?_
          refine pw_calll (pc := 68) (kc2 := 0) (kn2 := 0) (pRunSN (pc := 68) C (ctX1_leastFrom 9 l G hZ  _ x1 r8 (0 : Int32) _ h) 3 gX11_sweep_X1_leastFrom_n270 rfl (hZ.2.2.2.2.2.2.2.1) (by decide +kernel) (by decide +kernel) (by decide +kernel) ⟨Nat.le_of_ble_eq_true rfl, Nat.le_of_ble_eq_true rfl⟩ rfl rfl (Nat.le_of_ble_eq_true rfl) dX11_sweep_68 ⟨Nat.le_of_ble_eq_true rfl, Nat.le_of_ble_eq_true rfl⟩) rfl rfl (fun r10 S11 h => ?_)
          refine pw_lconst (pc := 71) (v := 0) C dX11_sweep_71 (by decide) ?_
          refine pw_lcmp (pc := 72) C dX11_sweep_72 ?_
          refine pw_if_ne (pc := 73) (tgt := 86) C dX11_sweep_73 rfl ⟨fun hc => ?_, fun hc => ?_⟩
          · replace h := h.1 hc
            refine pw_iincK (pc := 86) (w := 1) C [(7, .int (x7 + 1)), (8, .long r8), (0, .ref (G.2.2 + x0)), (1, .ref (G.2.2 + x1)), (2, .int x2), (3, .long x3), (5, .int x5), (6, .int x6)] 7 dX11_sweep_86 (by decide) rfl (by decide) rfl ?_
            refine pw_goto (pc := 89) (tgt := 23) C dX11_sweep_89 rfl ?_
            refine pw_sub [2, 3, 4, 5, 6, 7, 0] (LV2 := [(0, .ref (G.2.2 + x0)), (1, .ref (G.2.2 + x1)), (2, .int x2), (3, .long x3), (5, .int x5), (6, .int x6), (7, .int (x7 + 1))]) rfl ?_
            exact ih _ _ _ _ _ _ _ _ h
          · replace h := h.2 hc
            refine pw_aload_n (pc := 76) C 1 dX11_sweep_76 rfl rfl ?_
            refine pw_iload (pc := 77) C 6 dX11_sweep_77 rfl ?_
            refine pw_iload (pc := 79) C 7 dX11_sweep_79 rfl ?_
            refine pw_iload_n (pc := 81) C 3 dX11_sweep_81 rfl rfl ?_
            refine pw_lload_n (pc := 82) C 4 dX11_sweep_82 rfl rfl ?_
            obtain ⟨hk12, h⟩ := h
            refine pw_callv (pc := 83) (kc2 := 0) (kn2 := 0) (pRunV (pc := 83) C (ctX9_remove l G hZ  _ x0 x6 x7 x2 x3 _ h) (cwV 4 C.2.2.2.2.1 gX11_sweep_X9_remove rfl rfl rfl (by decide +kernel) ⟨Nat.le_of_ble_eq_true rfl, Nat.le_of_ble_eq_true rfl⟩) pCl7 hk12 rfl rfl (Nat.le_of_ble_eq_true rfl) dX11_sweep_83 ⟨Nat.le_of_ble_eq_true rfl, Nat.le_of_ble_eq_true rfl⟩) rfl rfl (fun S14 h => ?_)
            refine pw_iincK (pc := 86) (w := 1) C [(7, .int (x7 + 1)), (8, .long r8), (0, .ref (G.2.2 + x0)), (1, .ref (G.2.2 + x1)), (2, .int x2), (3, .long x3), (5, .int x5), (6, .int x6)] 7 dX11_sweep_86 (by decide) rfl (by decide) rfl ?_
            refine pw_goto (pc := 89) (tgt := 23) C dX11_sweep_89 rfl ?_
            refine pw_sub [2, 3, 4, 5, 6, 7, 0] (LV2 := [(0, .ref (G.2.2 + x0)), (1, .ref (G.2.2 + x1)), (2, .int x2), (3, .long x3), (5, .int x5), (6, .int x6), (7, .int (x7 + 1))]) rfl ?_
            exact ih _ _ _ _ _ _ _ _ h
      · replace h := h.2 hc
        exact pw_vret (pc := 36) C hr h dX11_sweep_36
set_option maxRecDepth 100000 in
set_option maxHeartbeats 4000000 in
theorem cbX11_sweep_b3 {p : Program} {l : Launch} {e : Env} {s : State} {m : MethodId} {args : Array Value} {below : List Frame} {meth : Method} {c : Code} {G : PG} {Q : PS → Prop} (C : pCx p s m args meth c G cX11_sweep 10 yX11_sweep.cls wsX11_sweep) (hr : meth.sig.returnType = none) (hin : meth.name = yX11_sweep.name) (hZ : pZa G)  (n : Nat) : ∀ (S : PS) (x0 : Nat) (x1 : Nat) (x2 : Int32) (x3 : Int64) (x5 : Int32), wpX11_sweep_b3  Q n S x0 x1 x2 x3 x5 → PW p l e rmX11_sweep s m args below meth c (MQ below (va_Qv Q (pB G) (pFr G)) args s rmX11_sweep.cells rmX11_sweep.slots (pFr G)) G 10 S 0 0 [(0, .ref (G.2.2 + x0)), (1, .ref (G.2.2 + x1)), (2, .int x2), (3, .long x3), (5, .int x5)] 3 ([]) := by
  induction n with
  | zero => intro S x0 x1 x2 x3 x5 h; exact h.elim
  | succ n ih =>
    intro S x0 x1 x2 x3 x5 h
    unfold wpX11_sweep_b3 at h
    refine pw_iload (pc := 3) C 4 dX11_sweep_3 rfl ?_
    refine pw_aload_n (pc := 5) C 1 dX11_sweep_5 rfl rfl ?_
    obtain ⟨hk15, h⟩ := h
    refine pw_getCI (pc := 6) (k := 1) (index := 170) C hk15 iX11_sweep_X0 iX11_sweep_X2 iX11_sweep_X4 iX11_sweep_X10 (by decide) (by decide +kernel) dX11_sweep_6 ?_
    refine pw_icmp_ge (pc := 9) (tgt := 98) C dX11_sweep_9 rfl ⟨fun hc => ?_, fun hc => ?_⟩
    · replace h := h.1 hc
      exact pw_vret (pc := 98) C hr h dX11_sweep_98
    · replace h := h.2 hc
      refine pw_aload_n (pc := 12) C 1 dX11_sweep_12 rfl rfl ?_
      refine pw_iload (pc := 13) C 4 dX11_sweep_13 rfl ?_
      refine pw_calli (pc := 15) (kc2 := 0) (kn2 := 0) (rnX11_sweep_15 C hZ _ x1 x5 _ hk15 h (Nat.le_of_ble_eq_true rfl)) rfl rfl (fun r16 S17 h => ?_)
      refine pw_istore (pc := 18) C [(6, .int r16), (0, .ref (G.2.2 + x0)), (1, .ref (G.2.2 + x1)), (2, .int x2), (3, .long x3), (5, .int x5)] dX11_sweep_18 (by decide) rfl ?_
      refine pw_iconst (pc := 20) (v := 0 ) C dX11_sweep_20 (by decide) ?_
      refine pw_istore (pc := 21) C [(7, .int (0 : Int32)), (6, .int r16), (0, .ref (G.2.2 + x0)), (1, .ref (G.2.2 + x1)), (2, .int x2), (3, .long x3), (5, .int x5)] dX11_sweep_21 (by decide) rfl ?_
      refine pw_sub [2, 3, 4, 5, 6, 1, 0] (LV2 := [(0, .ref (G.2.2 + x0)), (1, .ref (G.2.2 + x1)), (2, .int x2), (3, .long x3), (5, .int x5), (6, .int r16), (7, .int (0 : Int32))]) rfl ?_
      obtain ⟨n9, h⟩ := h
      exact cbX11_sweep_b23 C hr hin hZ ih n9 _ _ _ _ _ _ _ _ h
set_option maxRecDepth 100000 in
set_option maxHeartbeats 4000000 in
theorem ctX11_sweep (l : Launch) (G : PG) (hZ : pZa G) (S : PS) (x0 : Nat) (x1 : Nat) (x2 : Int32) (x3 : Int64) (Q : PS → Prop) (h : wpX11_sweep S x0 x1 x2 x3 Q) : mV l yX11_sweep wsX11_sweep rmX11_sweep G S [.ref (G.2.2 + x0), .ref (G.2.2 + x1), .int x2, .long x3] Q := by
  unfold mV
  refine met_of (cc := cX11_sweep) (maxL := 10) (ret := none) (by decide) rfl (Nat.le_of_ble_eq_true rfl) ?_
  intro p e s m args below meth c C hr hin
  unfold wpX11_sweep at h
  show PW p l e _ s m args below meth c _ G 10 S 0 0 [(0, .ref (G.2.2 + x0)), (1, .ref (G.2.2 + x1)), (2, .int x2), (3, .long x3)] 0 []
  refine pw_iconst (pc := 0) (v := 0 ) C dX11_sweep_0 (by decide) ?_
  refine pw_istore (pc := 1) C [(5, .int (0 : Int32)), (0, .ref (G.2.2 + x0)), (1, .ref (G.2.2 + x1)), (2, .int x2), (3, .long x3)] dX11_sweep_1 (by decide) rfl ?_
  refine pw_sub [1, 2, 3, 4, 0] (LV2 := [(0, .ref (G.2.2 + x0)), (1, .ref (G.2.2 + x1)), (2, .int x2), (3, .long x3), (5, .int (0 : Int32))]) rfl ?_
  obtain ⟨n9, h⟩ := h
  exact cbX11_sweep_b3 C hr hin hZ  n9 _ _ _ _ _ _ h

abbrev rmX11_setAt : Room := { frames := 0, cells := 0, slots := 0, locals := 0 }
theorem iX11_setAt_X11 : ∀ w ∈ u_ws RX11 TX11 9, w ∈ wsX11_setAt := fun _ h => List.mem_cons_of_mem _ (List.mem_append_right _ h)
def wpX11_setAt (S : PS) (x0 : Nat) (x1 : Int32) (Q : Int64 → PS → Prop) : Prop := ((x1 < 0 → (Q (0 : Int64) S)) ∧ (¬ x1 < 0 → (pK S x0 = 10 ∧ (((pI S x0 7) ≤ x1 → (Q (0 : Int64) S)) ∧ (¬ (pI S x0 7) ≤ x1 → (∃ o2, pR S x0 5 = some o2 ∧ (pK S o2 = 14 ∧ (((nI (pL S o2)) ≤ x1 → (Q (0 : Int64) S)) ∧ (¬ (nI (pL S o2)) ≤ x1 → (vp_in x1 (pL S o2) ∧ (Q (pJ S o2 (x1).toNatClampNeg) S)))))))))))
set_option maxRecDepth 100000 in
set_option maxHeartbeats 4000000 in
theorem ctX11_setAt (l : Launch) (G : PG) (hZ : pZa G) (S : PS) (x0 : Nat) (x1 : Int32) (Q : Int64 → PS → Prop) (h : wpX11_setAt S x0 x1 Q) : mJ l yX11_setAt wsX11_setAt rmX11_setAt G S [.ref (G.2.2 + x0), .int x1] Q := by
  unfold mJ
  refine met_of (cc := cX11_setAt) (maxL := 2) (ret := (some .long)) (by decide) rfl (Nat.le_of_ble_eq_true rfl) ?_
  intro p e s m args below meth c C hr hin
  unfold wpX11_setAt at h
  show PW p l e _ s m args below meth c _ G 2 S 0 0 [(0, .ref (G.2.2 + x0)), (1, .int x1)] 0 []
  refine pw_iload_n (pc := 0) C 1 dX11_setAt_0 rfl rfl ?_
  refine pw_if_lt (pc := 1) (tgt := 30) C dX11_setAt_1 rfl ⟨fun hc => ?_, fun hc => ?_⟩
  · replace h := h.1 hc
    refine pw_lconst (pc := 30) (v := 0) C dX11_setAt_30 (by decide) ?_
    exact pw_lret (pc := 31) C hr h dX11_setAt_31
  · replace h := h.2 hc
    refine pw_iload_n (pc := 4) C 1 dX11_setAt_4 rfl rfl ?_
    refine pw_aload_n (pc := 5) C 0 dX11_setAt_5 rfl rfl ?_
    obtain ⟨hk1, h⟩ := h
    refine pw_getI (pc := 6) (ref := "SupportSolver") (k := 7) (index := 51) C pCl9 iX11_setAt_X11 hk1 rfl (by decide +kernel) (Or.inl rfl) dX11_setAt_6 ?_
    refine pw_icmp_ge (pc := 9) (tgt := 30) C dX11_setAt_9 rfl ⟨fun hc => ?_, fun hc => ?_⟩
    · replace h := h.1 hc
      refine pw_lconst (pc := 30) (v := 0) C dX11_setAt_30 (by decide) ?_
      exact pw_lret (pc := 31) C hr h dX11_setAt_31
    · replace h := h.2 hc
      refine pw_iload_n (pc := 12) C 1 dX11_setAt_12 rfl rfl ?_
      refine pw_aload_n (pc := 13) C 0 dX11_setAt_13 rfl rfl ?_
      obtain ⟨o2, ho2, h⟩ := h
      refine pw_getR (pc := 14) (ref := "SupportSolver") (k := 5) (index := 40) C pCl9 iX11_setAt_X11 hk1 rfl (by decide +kernel) (Or.inl rfl) (o := o2) ho2 dX11_setAt_14 ?_
      obtain ⟨hk3, h⟩ := h
      refine pw_alen (pc := 17) C (κ := 14) hk3 (by decide) dX11_setAt_17 ?_
      refine pw_icmp_ge (pc := 18) (tgt := 30) C dX11_setAt_18 rfl ⟨fun hc => ?_, fun hc => ?_⟩
      · replace h := h.1 hc
        refine pw_lconst (pc := 30) (v := 0) C dX11_setAt_30 (by decide) ?_
        exact pw_lret (pc := 31) C hr h dX11_setAt_31
      · replace h := h.2 hc
        refine pw_aload_n (pc := 21) C 0 dX11_setAt_21 rfl rfl ?_
        refine pw_getR (pc := 22) (ref := "SupportSolver") (k := 5) (index := 40) C pCl9 iX11_setAt_X11 hk1 rfl (by decide +kernel) (Or.inl rfl) (o := o2) ho2 dX11_setAt_22 ?_
        refine pw_iload_n (pc := 25) C 1 dX11_setAt_25 rfl rfl ?_
        obtain ⟨hi4, h⟩ := h
        refine pw_lald (pc := 26) C hk3 hi4 dX11_setAt_26 ?_
        refine pw_goto (pc := 27) (tgt := 31) C dX11_setAt_27 rfl ?_
        exact pw_lret (pc := 31) C hr h dX11_setAt_31

abbrev rmX11_propagate : Room := { frames := 14, cells := 0, slots := 0, locals := 393 }
theorem iX11_propagate_X11 : ∀ w ∈ u_ws RX11 TX11 9, w ∈ wsX11_propagate := by decide +kernel
theorem iX11_propagate_X6 : ∀ w ∈ u_ws RX6 TX6 4, w ∈ wsX11_propagate := by decide +kernel
theorem iX11_propagate_X9 : ∀ w ∈ u_ws RX9 TX9 6, w ∈ wsX11_propagate := by decide +kernel
def wpX11_propagate_b62 (K2 : PS → Nat → Nat → Int32 → Prop) (Q : PS → Prop) : Nat → PS → Nat → Nat → Int32 → Int32 → Int32 → Prop
  | 0 => fun _ _ _ _ _ _ => False
  | n + 1 => fun S x0 x1 x2 x3 x4 => (pK S x0 = 10 ∧ (((pI S x0 7) ≤ x4 → (pK S x1 = 8 ∧ ((¬ (pI S x1 3) = x3 → (K2 S x0 x1 (x2 + 1))) ∧ ((pI S x1 3) = x3 → (Q S))))) ∧ (¬ (pI S x0 7) ≤ x4 → (wpX11_setAt S x0 x4 (fun r3 S4 => (pK S4 x0 = 10 ∧ (∃ o6, pR S4 x0 3 = some o6 ∧ (pK S4 o6 = 4 ∧ (wpX4_show S4 o6 r3 (fun S9 => (pK S9 x0 = 10 ∧ (∃ o11, pR S9 x0 3 = some o11 ∧ (wpX11_sweep S9 x1 o11 (100 : Int32) r3 (fun S13 => (wpX11_propagate_b62 K2 Q n S13 x0 x1 x2 x3 (x4 + 1))))))))))))))))
def wpX11_propagate_b16 (K2 : PS → Nat → Nat → Int32 → Prop) (Q : PS → Prop) : Nat → PS → Nat → Nat → Int32 → Int32 → Int32 → Prop
  | 0 => fun _ _ _ _ _ _ => False
  | n + 1 => fun S x0 x1 x2 x3 x4 => (pK S x0 = 10 ∧ (∃ o15, pR S x0 6 = some o15 ∧ (pK S o15 = 5 ∧ (((pI S o15 2) ≤ x4 → (∃ n9 : Nat, wpX11_propagate_b62 K2 Q n9 S x0 x1 x2 x3 (0 : Int32))) ∧ (¬ (pI S o15 2) ≤ x4 → (wpX6_constraintAt S o15 x4 (fun r17 S18 => ((r17 = none → (wpX11_propagate_b16 K2 Q n S18 x0 x1 x2 x3 (x4 + 1))) ∧ (∀ o19, r17 = some o19 → (wpX11_sweep S18 x1 o19 x4 (0 : Int64) (fun S21 => (wpX11_propagate_b16 K2 Q n S21 x0 x1 x2 x3 (x4 + 1)))))))))))))
def wpX11_propagate_b2  (Q : PS → Prop) : Nat → PS → Nat → Nat → Int32 → Prop
  | 0 => fun _ _ _ _ => False
  | n + 1 => fun S x0 x1 x2 => (((35 : Int32) < x2 → (Q S)) ∧ (¬ (35 : Int32) < x2 → (pK S x1 = 8 ∧ (∃ n9 : Nat, wpX11_propagate_b16 (wpX11_propagate_b2 Q n) Q n9 S x0 x1 x2 (pI S x1 3) (0 : Int32)))))
def wpX11_propagate (S : PS) (x0 : Nat) (x1 : Nat) (Q : PS → Prop) : Prop := (∃ n9 : Nat, wpX11_propagate_b2 Q n9 S x0 x1 (0 : Int32))
set_option maxRecDepth 100000 in
set_option maxHeartbeats 4000000 in
theorem cbX11_propagate_b62 {p : Program} {l : Launch} {e : Env} {s : State} {m : MethodId} {args : Array Value} {below : List Frame} {meth : Method} {c : Code} {G : PG} {Q : PS → Prop} (C : pCx p s m args meth c G cX11_propagate 7 yX11_propagate.cls wsX11_propagate) (hr : meth.sig.returnType = none) (hin : meth.name = yX11_propagate.name) (hZ : pZa G) {K2 : PS → Nat → Nat → Int32 → Prop} (hK2 : ∀ (S : PS) (x0 : Nat) (x1 : Nat) (x2 : Int32), K2 S x0 x1 x2 → PW p l e rmX11_propagate s m args below meth c (MQ below (va_Qv Q (pB G) (pFr G)) args s rmX11_propagate.cells rmX11_propagate.slots (pFr G)) G 7 S 0 0 [(0, .ref (G.2.2 + x0)), (1, .ref (G.2.2 + x1)), (2, .int x2)] 2 ([])) (n : Nat) : ∀ (S : PS) (x0 : Nat) (x1 : Nat) (x2 : Int32) (x3 : Int32) (x4 : Int32), wpX11_propagate_b62 K2 Q n S x0 x1 x2 x3 x4 → PW p l e rmX11_propagate s m args below meth c (MQ below (va_Qv Q (pB G) (pFr G)) args s rmX11_propagate.cells rmX11_propagate.slots (pFr G)) G 7 S 0 0 [(0, .ref (G.2.2 + x0)), (1, .ref (G.2.2 + x1)), (2, .int x2), (3, .int x3), (4, .int x4)] 62 ([]) := by
  induction n with
  | zero => intro S x0 x1 x2 x3 x4 h; exact h.elim
  | succ n ih =>
    intro S x0 x1 x2 x3 x4 h
    unfold wpX11_propagate_b62 at h
    refine pw_iload (pc := 62) C 4 dX11_propagate_62 rfl ?_
    refine pw_aload_n (pc := 64) C 0 dX11_propagate_64 rfl rfl ?_
    obtain ⟨hk1, h⟩ := h
    refine pw_getI (pc := 65) (ref := "SupportSolver") (k := 7) (index := 51) C pCl9 iX11_propagate_X11 hk1 rfl (by decide +kernel) (Or.inl rfl) dX11_propagate_65 ?_
    refine pw_icmp_ge (pc := 68) (tgt := 106) C dX11_propagate_68 rfl ⟨fun hc => ?_, fun hc => ?_⟩
    · replace h := h.1 hc
      refine pw_aload_n (pc := 106) C 1 dX11_propagate_106 rfl rfl ?_
      obtain ⟨hk2, h⟩ := h
      refine pw_getI (pc := 107) (ref := "SupportSolver$Trail") (k := 3) (index := 111) C pCl7 iX11_propagate_X9 hk2 rfl (by decide +kernel) (Or.inl rfl) dX11_propagate_107 ?_
      refine pw_iload_n (pc := 110) C 3 dX11_propagate_110 rfl rfl ?_
      refine pw_icmp_ne (pc := 111) (tgt := 115) C dX11_propagate_111 rfl ⟨fun hc => ?_, fun hc => ?_⟩
      · replace h := h.1 hc
        refine pw_iincK (pc := 115) (w := 1) C [(2, .int (x2 + 1)), (0, .ref (G.2.2 + x0)), (1, .ref (G.2.2 + x1)), (3, .int x3), (4, .int x4)] 2 dX11_propagate_115 (by decide) rfl (by decide) rfl ?_
        refine pw_goto (pc := 118) (tgt := 2) C dX11_propagate_118 rfl ?_
        refine pw_sub [1, 2, 0] (LV2 := [(0, .ref (G.2.2 + x0)), (1, .ref (G.2.2 + x1)), (2, .int (x2 + 1))]) rfl ?_
        exact hK2 _ _ _ _ h
      · replace h := h.2 hc
        exact pw_vret (pc := 114) C hr h dX11_propagate_114
    · replace h := h.2 hc
      refine pw_aload_n (pc := 71) C 0 dX11_propagate_71 rfl rfl ?_
      refine pw_iload (pc := 72) C 4 dX11_propagate_72 rfl ?_
      refine pw_calll (pc := 74) (kc2 := 0) (kn2 := 0) (pRunV (pc := 74) C (ctX11_setAt l G hZ  _ x0 x4 _ h) (cwV 1 C.2.2.2.2.1 gX11_propagate_X11_setAt rfl rfl rfl (by decide +kernel) ⟨Nat.le_of_ble_eq_true rfl, Nat.le_of_ble_eq_true rfl⟩) pCl9 hk1 rfl rfl (Nat.le_of_ble_eq_true rfl) dX11_propagate_74 ⟨Nat.le_of_ble_eq_true rfl, Nat.le_of_ble_eq_true rfl⟩) rfl rfl (fun r3 S4 h => ?_)
      refine pw_lstore (pc := 77) C [(5, .long r3), (0, .ref (G.2.2 + x0)), (1, .ref (G.2.2 + x1)), (2, .int x2), (3, .int x3), (4, .int x4)] dX11_propagate_77 (by decide) rfl ?_
      refine pw_aload_n (pc := 79) C 1 dX11_propagate_79 rfl rfl ?_
      obtain ⟨hk5, h⟩ := h
      obtain ⟨o6, ho6, h⟩ := h
      refine pw_getR (pc := 80) (ref := "SupportSolver") (k := 3) (index := 29) C pCl9 iX11_propagate_X11 hk5 rfl (by decide +kernel) (Or.inl rfl) (o := o6) ho6 dX11_propagate_80 ?_
      refine pw_lload (pc := 83) C 0 dX11_propagate_83 rfl ?_
      obtain ⟨hk7, h⟩ := h
      refine pw_callv (pc := 85) (kc2 := 0) (kn2 := 0) (pRunV (pc := 85) C (ctX4_show l G hZ  _ o6 r3 _ h) (cwV 1 C.2.2.2.2.1 gX11_propagate_X4_show rfl rfl rfl (by decide +kernel) ⟨Nat.le_of_ble_eq_true rfl, Nat.le_of_ble_eq_true rfl⟩) pCl3 hk7 rfl rfl (Nat.le_of_ble_eq_true rfl) dX11_propagate_85 ⟨Nat.le_of_ble_eq_true rfl, Nat.le_of_ble_eq_true rfl⟩) rfl rfl (fun S9 h => ?_)
      refine pw_aload_n (pc := 88) C 2 dX11_propagate_88 rfl rfl ?_
      refine pw_aload_n (pc := 89) C 1 dX11_propagate_89 rfl rfl ?_
      obtain ⟨hk10, h⟩ := h
      obtain ⟨o11, ho11, h⟩ := h
      refine pw_getR (pc := 90) (ref := "SupportSolver") (k := 3) (index := 29) C pCl9 iX11_propagate_X11 hk10 rfl (by decide +kernel) (Or.inl rfl) (o := o11) ho11 dX11_propagate_90 ?_
      refine pw_bipush (pc := 93) (v := 100 ) C dX11_propagate_93 (by decide) ?_
      refine pw_lload (pc := 95) C 0 dX11_propagate_95 rfl ?_
      refine pw_callv (pc := 97) (kc2 := 0) (kn2 := 0) (pRunS (pc := 97) C (ctX11_sweep l G hZ  _ x1 o11 (100 : Int32) r3 _ h) (va_cwS 4 C.2.2.2.2.1 gX11_propagate_X11_sweep rfl rfl rfl (by decide +kernel) ⟨Nat.le_of_ble_eq_true rfl, Nat.le_of_ble_eq_true rfl⟩) rfl rfl (Nat.le_of_ble_eq_true rfl) dX11_propagate_97 ⟨Nat.le_of_ble_eq_true rfl, Nat.le_of_ble_eq_true rfl⟩) rfl rfl (fun S13 h => ?_)
      refine pw_iincK (pc := 100) (w := 1) C [(4, .int (x4 + 1)), (5, .long r3), (0, .ref (G.2.2 + x0)), (1, .ref (G.2.2 + x1)), (2, .int x2), (3, .int x3)] 5 dX11_propagate_100 (by decide) rfl (by decide) rfl ?_
      refine pw_goto (pc := 103) (tgt := 62) C dX11_propagate_103 rfl ?_
      refine pw_sub [2, 3, 4, 5, 0] (LV2 := [(0, .ref (G.2.2 + x0)), (1, .ref (G.2.2 + x1)), (2, .int x2), (3, .int x3), (4, .int (x4 + 1))]) rfl ?_
      exact ih _ _ _ _ _ _ h
set_option maxRecDepth 100000 in
set_option maxHeartbeats 4000000 in
theorem cbX11_propagate_b16 {p : Program} {l : Launch} {e : Env} {s : State} {m : MethodId} {args : Array Value} {below : List Frame} {meth : Method} {c : Code} {G : PG} {Q : PS → Prop} (C : pCx p s m args meth c G cX11_propagate 7 yX11_propagate.cls wsX11_propagate) (hr : meth.sig.returnType = none) (hin : meth.name = yX11_propagate.name) (hZ : pZa G) {K2 : PS → Nat → Nat → Int32 → Prop} (hK2 : ∀ (S : PS) (x0 : Nat) (x1 : Nat) (x2 : Int32), K2 S x0 x1 x2 → PW p l e rmX11_propagate s m args below meth c (MQ below (va_Qv Q (pB G) (pFr G)) args s rmX11_propagate.cells rmX11_propagate.slots (pFr G)) G 7 S 0 0 [(0, .ref (G.2.2 + x0)), (1, .ref (G.2.2 + x1)), (2, .int x2)] 2 ([])) (n : Nat) : ∀ (S : PS) (x0 : Nat) (x1 : Nat) (x2 : Int32) (x3 : Int32) (x4 : Int32), wpX11_propagate_b16 K2 Q n S x0 x1 x2 x3 x4 → PW p l e rmX11_propagate s m args below meth c (MQ below (va_Qv Q (pB G) (pFr G)) args s rmX11_propagate.cells rmX11_propagate.slots (pFr G)) G 7 S 0 0 [(0, .ref (G.2.2 + x0)), (1, .ref (G.2.2 + x1)), (2, .int x2), (3, .int x3), (4, .int x4)] 16 ([]) := by
  induction n with
  | zero => intro S x0 x1 x2 x3 x4 h; exact h.elim
  | succ n ih =>
    intro S x0 x1 x2 x3 x4 h
    unfold wpX11_propagate_b16 at h
    refine pw_iload (pc := 16) C 4 dX11_propagate_16 rfl ?_
    refine pw_aload_n (pc := 18) C 0 dX11_propagate_18 rfl rfl ?_
    obtain ⟨hk14, h⟩ := h
    obtain ⟨o15, ho15, h⟩ := h
    refine pw_getR (pc := 19) (ref := "SupportSolver") (k := 6) (index := 47) C pCl9 iX11_propagate_X11 hk14 rfl (by decide +kernel) (Or.inl rfl) (o := o15) ho15 dX11_propagate_19 ?_
    obtain ⟨hk16, h⟩ := h
    refine pw_getI (pc := 22) (ref := "SupportSolver$Problem") (k := 2) (index := 120) C pCl4 iX11_propagate_X6 hk16 rfl (by decide +kernel) (Or.inl rfl) dX11_propagate_22 ?_
    refine pw_icmp_ge (pc := 25) (tgt := 59) C dX11_propagate_25 rfl ⟨fun hc => ?_, fun hc => ?_⟩
    · replace h := h.1 hc
      refine pw_iconst (pc := 59) (v := 0 ) C dX11_propagate_59 (by decide) ?_
      refine pw_istore (pc := 60) C [(4, .int (0 : Int32)), (0, .ref (G.2.2 + x0)), (1, .ref (G.2.2 + x1)), (2, .int x2), (3, .int x3)] dX11_propagate_60 (by decide) rfl ?_
      refine pw_sub [1, 2, 3, 4, 0] (LV2 := [(0, .ref (G.2.2 + x0)), (1, .ref (G.2.2 + x1)), (2, .int x2), (3, .int x3), (4, .int (0 : Int32))]) rfl ?_
      obtain ⟨n9, h⟩ := h
      exact cbX11_propagate_b62 C hr hin hZ hK2 n9 _ _ _ _ _ _ h
    · replace h := h.2 hc
      refine pw_aload_n (pc := 28) C 0 dX11_propagate_28 rfl rfl ?_
      refine pw_getR (pc := 29) (ref := "SupportSolver") (k := 6) (index := 47) C pCl9 iX11_propagate_X11 hk14 rfl (by decide +kernel) (Or.inl rfl) (o := o15) ho15 dX11_propagate_29 ?_
      refine pw_iload (pc := 32) C 4 dX11_propagate_32 rfl ?_
      refine pw_callq (pc := 34) (kc2 := 0) (kn2 := 0) (pRunV (pc := 34) C (ctX6_constraintAt l G hZ  _ o15 x4 _ h) (cwV 1 C.2.2.2.2.1 gX11_propagate_X6_constraintAt rfl rfl rfl (by decide +kernel) ⟨Nat.le_of_ble_eq_true rfl, Nat.le_of_ble_eq_true rfl⟩) pCl4 hk16 rfl rfl (Nat.le_of_ble_eq_true rfl) dX11_propagate_34 ⟨Nat.le_of_ble_eq_true rfl, Nat.le_of_ble_eq_true rfl⟩) rfl rfl (fun r17 S18 h => ?_)
      cases hqr17 : r17 with
      | none =>
        replace h := h.1 hqr17
        show PW p l e _ s m args below meth c _ G _ S18 _ _ _ _ (.null :: [])
        refine pw_astoreN (pc := 37) C [(5, .null), (0, .ref (G.2.2 + x0)), (1, .ref (G.2.2 + x1)), (2, .int x2), (3, .int x3), (4, .int x4)] dX11_propagate_37 (by decide) rfl ?_
        refine pw_aloadN (pc := 39) C 0 dX11_propagate_39 rfl ?_
        refine pw_ifnull_n (pc := 41) (tgt := 53) C dX11_propagate_41 rfl ?_
        refine pw_iincK (pc := 53) (w := 1) C [(4, .int (x4 + 1)), (5, .null), (0, .ref (G.2.2 + x0)), (1, .ref (G.2.2 + x1)), (2, .int x2), (3, .int x3)] 5 dX11_propagate_53 (by decide) rfl (by decide) rfl ?_
        refine pw_goto (pc := 56) (tgt := 16) C dX11_propagate_56 rfl ?_
        refine pw_sub [2, 3, 4, 5, 0] (LV2 := [(0, .ref (G.2.2 + x0)), (1, .ref (G.2.2 + x1)), (2, .int x2), (3, .int x3), (4, .int (x4 + 1))]) rfl ?_
        exact ih _ _ _ _ _ _ h
      | some o19 =>
        replace h := h.2 o19 hqr17
        show PW p l e _ s m args below meth c _ G _ S18 _ _ _ _ (.ref (G.2.2 + o19) :: [])
        refine pw_astore (pc := 37) C [(5, .ref (G.2.2 + o19)), (0, .ref (G.2.2 + x0)), (1, .ref (G.2.2 + x1)), (2, .int x2), (3, .int x3), (4, .int x4)] dX11_propagate_37 (by decide) rfl ?_
        refine pw_aload (pc := 39) C 0 dX11_propagate_39 rfl ?_
        refine pw_ifnull_r (pc := 41) C dX11_propagate_41 ?_
        refine pw_aload_n (pc := 44) C 2 dX11_propagate_44 rfl rfl ?_
        refine pw_aload (pc := 45) C 0 dX11_propagate_45 rfl ?_
        refine pw_iload (pc := 47) C 5 dX11_propagate_47 rfl ?_
        refine pw_lconst (pc := 49) (v := 0) C dX11_propagate_49 (by decide) ?_
        refine pw_callv (pc := 50) (kc2 := 0) (kn2 := 0) (pRunS (pc := 50) C (ctX11_sweep l G hZ  _ x1 o19 x4 (0 : Int64) _ h) (va_cwS 4 C.2.2.2.2.1 gX11_propagate_X11_sweep rfl rfl rfl (by decide +kernel) ⟨Nat.le_of_ble_eq_true rfl, Nat.le_of_ble_eq_true rfl⟩) rfl rfl (Nat.le_of_ble_eq_true rfl) dX11_propagate_50 ⟨Nat.le_of_ble_eq_true rfl, Nat.le_of_ble_eq_true rfl⟩) rfl rfl (fun S21 h => ?_)
        refine pw_iincK (pc := 53) (w := 1) C [(4, .int (x4 + 1)), (5, .ref (G.2.2 + o19)), (0, .ref (G.2.2 + x0)), (1, .ref (G.2.2 + x1)), (2, .int x2), (3, .int x3)] 5 dX11_propagate_53 (by decide) rfl (by decide) rfl ?_
        refine pw_goto (pc := 56) (tgt := 16) C dX11_propagate_56 rfl ?_
        refine pw_sub [2, 3, 4, 5, 0] (LV2 := [(0, .ref (G.2.2 + x0)), (1, .ref (G.2.2 + x1)), (2, .int x2), (3, .int x3), (4, .int (x4 + 1))]) rfl ?_
        exact ih _ _ _ _ _ _ h
set_option maxRecDepth 100000 in
set_option maxHeartbeats 4000000 in
theorem cbX11_propagate_b2 {p : Program} {l : Launch} {e : Env} {s : State} {m : MethodId} {args : Array Value} {below : List Frame} {meth : Method} {c : Code} {G : PG} {Q : PS → Prop} (C : pCx p s m args meth c G cX11_propagate 7 yX11_propagate.cls wsX11_propagate) (hr : meth.sig.returnType = none) (hin : meth.name = yX11_propagate.name) (hZ : pZa G)  (n : Nat) : ∀ (S : PS) (x0 : Nat) (x1 : Nat) (x2 : Int32), wpX11_propagate_b2  Q n S x0 x1 x2 → PW p l e rmX11_propagate s m args below meth c (MQ below (va_Qv Q (pB G) (pFr G)) args s rmX11_propagate.cells rmX11_propagate.slots (pFr G)) G 7 S 0 0 [(0, .ref (G.2.2 + x0)), (1, .ref (G.2.2 + x1)), (2, .int x2)] 2 ([]) := by
  induction n with
  | zero => intro S x0 x1 x2 h; exact h.elim
  | succ n ih =>
    intro S x0 x1 x2 h
    unfold wpX11_propagate_b2 at h
    refine pw_iload_n (pc := 2) C 2 dX11_propagate_2 rfl rfl ?_
    refine pw_bipush (pc := 3) (v := 35 ) C dX11_propagate_3 (by decide) ?_
    refine pw_icmp_gt (pc := 5) (tgt := 121) C dX11_propagate_5 rfl ⟨fun hc => ?_, fun hc => ?_⟩
    · replace h := h.1 hc
      exact pw_vret (pc := 121) C hr h dX11_propagate_121
    · replace h := h.2 hc
      refine pw_aload_n (pc := 8) C 1 dX11_propagate_8 rfl rfl ?_
      obtain ⟨hk22, h⟩ := h
      refine pw_getI (pc := 9) (ref := "SupportSolver$Trail") (k := 3) (index := 111) C pCl7 iX11_propagate_X9 hk22 rfl (by decide +kernel) (Or.inl rfl) dX11_propagate_9 ?_
      refine pw_istore_n (pc := 12) C [(3, .int (pI S x1 3)), (0, .ref (G.2.2 + x0)), (1, .ref (G.2.2 + x1)), (2, .int x2)] dX11_propagate_12 rfl (by decide) rfl ?_
      refine pw_iconst (pc := 13) (v := 0 ) C dX11_propagate_13 (by decide) ?_
      refine pw_istore (pc := 14) C [(4, .int (0 : Int32)), (3, .int (pI S x1 3)), (0, .ref (G.2.2 + x0)), (1, .ref (G.2.2 + x1)), (2, .int x2)] dX11_propagate_14 (by decide) rfl ?_
      refine pw_sub [2, 3, 4, 1, 0] (LV2 := [(0, .ref (G.2.2 + x0)), (1, .ref (G.2.2 + x1)), (2, .int x2), (3, .int (pI S x1 3)), (4, .int (0 : Int32))]) rfl ?_
      obtain ⟨n9, h⟩ := h
      exact cbX11_propagate_b16 C hr hin hZ ih n9 _ _ _ _ _ _ h
set_option maxRecDepth 100000 in
set_option maxHeartbeats 4000000 in
theorem ctX11_propagate (l : Launch) (G : PG) (hZ : pZa G) (S : PS) (x0 : Nat) (x1 : Nat) (Q : PS → Prop) (h : wpX11_propagate S x0 x1 Q) : mV l yX11_propagate wsX11_propagate rmX11_propagate G S [.ref (G.2.2 + x0), .ref (G.2.2 + x1)] Q := by
  unfold mV
  refine met_of (cc := cX11_propagate) (maxL := 7) (ret := none) (by decide) rfl (Nat.le_of_ble_eq_true rfl) ?_
  intro p e s m args below meth c C hr hin
  unfold wpX11_propagate at h
  show PW p l e _ s m args below meth c _ G 7 S 0 0 [(0, .ref (G.2.2 + x0)), (1, .ref (G.2.2 + x1))] 0 []
  refine pw_iconst (pc := 0) (v := 0 ) C dX11_propagate_0 (by decide) ?_
  refine pw_istore_n (pc := 1) C [(2, .int (0 : Int32)), (0, .ref (G.2.2 + x0)), (1, .ref (G.2.2 + x1))] dX11_propagate_1 rfl (by decide) rfl ?_
  refine pw_sub [1, 2, 0] (LV2 := [(0, .ref (G.2.2 + x0)), (1, .ref (G.2.2 + x1)), (2, .int (0 : Int32))]) rfl ?_
  obtain ⟨n9, h⟩ := h
  exact cbX11_propagate_b2 C hr hin hZ  n9 _ _ _ _ h

abbrev rmX11_load : Room := { frames := 15, cells := 22, slots := 170, locals := 419 }
theorem iX11_load_X11 : ∀ w ∈ u_ws RX11 TX11 9, w ∈ wsX11_load := by decide +kernel
theorem iX11_load_X6 : ∀ w ∈ u_ws RX6 TX6 4, w ∈ wsX11_load := by decide +kernel
theorem iX11_load_X7 : ∀ w ∈ u_ws RX7 TX7 5, w ∈ wsX11_load := by decide +kernel
theorem iX11_load_X8 : ∀ w ∈ u_ws RX8 TX8 10, w ∈ wsX11_load := by decide +kernel
theorem iX11_load_X9 : ∀ w ∈ u_ws RX9 TX9 6, w ∈ wsX11_load := by decide +kernel
def wpX11_load_b32  (Q : Int32 → PS → Prop) (X : String → PS → Prop) (S : PS) (x0 : Nat) (t0 : Int32) : Prop := (pK S x0 = 10 ∧ (∃ o2, pR S x0 0 = some o2 ∧ (pK S o2 = 7 ∧ ((¬ t0 = 0 → (∃ o4, pR S o2 5 = some o4 ∧ (∃ o5, pR (sR (sI S o2 2 (0 : Int32)) x0 6 (some o4)) x0 1 = some o5 ∧ (∃ o6, pR (sR (sI S o2 2 (0 : Int32)) x0 6 (some o4)) x0 6 = some o6 ∧ (pK S o6 = 5 ∧ (pK S o5 = 8 ∧ (wpX9_begin (sR (sI S o2 2 (0 : Int32)) x0 6 (some o4)) o5 (pI (sR (sI S o2 2 (0 : Int32)) x0 6 (some o4)) o6 1) (pJ (sR (sI S o2 2 (0 : Int32)) x0 6 (some o4)) o6 3) (fun S10 => (pK S10 x0 = 10 ∧ (∃ o12, pR S10 x0 4 = some o12 ∧ (pK S10 o12 = 6 ∧ (∃ o14, pR S10 x0 1 = some o14 ∧ (wpX11_propagate (sI (sI (sI S10 o12 0 (0 : Int32)) x0 7 (0 : Int32)) x0 8 (0 : Int32)) x0 o14 (fun S16 => (pK S16 x0 = 10 ∧ (∃ o18, pR S16 x0 1 = some o18 ∧ (pK S16 o18 = 8 ∧ (Q (pI S16 o18 3) S16)))))))))))))))))) ∧ (t0 = 0 → (∀ n, X "java/lang/IllegalArgumentException" (sSkip (sI S o2 2 (0 : Int32)) n)))))))
def wpX11_load_b31  (Q : Int32 → PS → Prop) (X : String → PS → Prop) (S : PS) (x0 : Nat) : Prop := (wpX11_load_b32 Q X S x0 (0 : Int32))
def wpX11_load (S : PS) (x0 : Nat) (Q : Int32 → PS → Prop) (X : String → PS → Prop) : Prop := (pK S x0 = 10 ∧ (∃ o21, pR S x0 0 = some o21 ∧ (pK S o21 = 7 ∧ (wpX8_begin S o21 (fun S24 => (pK S24 x0 = 10 ∧ (∃ o26, pR S24 x0 0 = some o26 ∧ (pK S24 o26 = 7 ∧ (wpX8_readVariables S24 o26 (fun r28 S29 => ((r28 = 0 → (wpX11_load_b31 Q X S29 x0)) ∧ (¬ r28 = 0 → (pK S29 x0 = 10 ∧ (∃ o31, pR S29 x0 0 = some o31 ∧ (pK S29 o31 = 7 ∧ (wpX8_readConstraints S29 o31 (fun r33 S34 => ((r33 = 0 → (wpX11_load_b31 Q X S34 x0)) ∧ (¬ r33 = 0 → (wpX11_load_b32 Q X S34 x0 (1 : Int32)))))))))))))))))))))
set_option maxRecDepth 100000 in
set_option maxHeartbeats 4000000 in
theorem cbX11_load_b32 {p : Program} {l : Launch} {e : Env} {s : State} {m : MethodId} {args : Array Value} {below : List Frame} {meth : Method} {c : Code} {G : PG} {Q : Int32 → PS → Prop} {X : String → PS → Prop} (C : pCx p s m args meth c G cX11_load 2 yX11_load.cls wsX11_load) (hr : meth.sig.returnType = (some .int)) (hin : meth.name = yX11_load.name) (hZ : pZa G) (hout : ∀ x ∈ c.exceptionTable.toList, False) (hl : l.stackTraces = false)  : ∀ (S : PS) (x0 : Nat) (t0 : Int32), wpX11_load_b32  Q X S x0 t0 → PW p l e rmX11_load s m args below meth c (vx_MQ below (va_Qi Q (pB G) (pFr G)) (pXC G X) args s rmX11_load.cells rmX11_load.slots (pFr G)) G 2 S 21 164 [(0, .ref (G.2.2 + x0))] 32 (.int t0 :: []) := by
  intro S x0 t0 h
  unfold wpX11_load_b32 at h
  refine pw_istore_n (pc := 32) C [(1, .int t0), (0, .ref (G.2.2 + x0))] dX11_load_32 rfl (by decide) rfl ?_
  refine pw_aload_n (pc := 33) C 1 dX11_load_33 rfl rfl ?_
  obtain ⟨hk1, h⟩ := h
  obtain ⟨o2, ho2, h⟩ := h
  refine pw_getR (pc := 34) (ref := "SupportSolver") (k := 0) (index := 12) C pCl9 iX11_load_X11 hk1 rfl (by decide +kernel) (Or.inl rfl) (o := o2) ho2 dX11_load_34 ?_
  refine pw_iconst (pc := 37) (v := 0 ) C dX11_load_37 (by decide) ?_
  obtain ⟨hk3, h⟩ := h
  refine pw_putI (pc := 38) (ref := "SupportSolver$TextReader") (k := 2) (index := 58) C pCl6 iX11_load_X8 hk3 rfl (by decide +kernel) (Or.inl rfl) (Or.inl rfl) rfl rfl dX11_load_38 ?_
  refine pw_iload_n (pc := 41) (S := (sI S o2 2 (0 : Int32))) C 0 dX11_load_41 rfl rfl ?_
  refine pw_if_ne (pc := 42) (S := (sI S o2 2 (0 : Int32))) (tgt := 55) C dX11_load_42 rfl ⟨fun hc => ?_, fun hc => ?_⟩
  · replace h := h.1 hc
    refine pw_aload_n (pc := 55) (S := (sI S o2 2 (0 : Int32))) C 1 dX11_load_55 rfl rfl ?_
    refine pw_aload_n (pc := 56) (S := (sI S o2 2 (0 : Int32))) C 1 dX11_load_56 rfl rfl ?_
    refine pw_getR (pc := 57) (S := (sI S o2 2 (0 : Int32))) (ref := "SupportSolver") (k := 0) (index := 12) C pCl9 iX11_load_X11 hk1 rfl (by decide +kernel) (Or.inl rfl) (o := o2) ho2 dX11_load_57 ?_
    obtain ⟨o4, ho4, h⟩ := h
    refine pw_getR (pc := 60) (S := (sI S o2 2 (0 : Int32))) (ref := "SupportSolver$TextReader") (k := 5) (index := 92) C pCl6 iX11_load_X8 hk3 rfl (by decide +kernel) (Or.inl rfl) (o := o4) ho4 dX11_load_60 ?_
    refine pw_putR (pc := 63) (S := (sI S o2 2 (0 : Int32))) (ref := "SupportSolver") (k := 6) (index := 47) C pCl9 iX11_load_X11 hk1 rfl (by decide +kernel) (Or.inl rfl) (o := o4) (Or.inl rfl) rfl rfl dX11_load_63 ?_
    refine pw_aload_n (pc := 66) (S := (sR (sI S o2 2 (0 : Int32)) x0 6 (some o4))) C 1 dX11_load_66 rfl rfl ?_
    obtain ⟨o5, ho5, h⟩ := h
    refine pw_getR (pc := 67) (S := (sR (sI S o2 2 (0 : Int32)) x0 6 (some o4))) (ref := "SupportSolver") (k := 1) (index := 19) C pCl9 iX11_load_X11 hk1 rfl (by decide +kernel) (Or.inl rfl) (o := o5) ho5 dX11_load_67 ?_
    refine pw_aload_n (pc := 70) (S := (sR (sI S o2 2 (0 : Int32)) x0 6 (some o4))) C 1 dX11_load_70 rfl rfl ?_
    obtain ⟨o6, ho6, h⟩ := h
    refine pw_getR (pc := 71) (S := (sR (sI S o2 2 (0 : Int32)) x0 6 (some o4))) (ref := "SupportSolver") (k := 6) (index := 47) C pCl9 iX11_load_X11 hk1 rfl (by decide +kernel) (Or.inl rfl) (o := o6) ho6 dX11_load_71 ?_
    obtain ⟨hk7, h⟩ := h
    refine pw_getI (pc := 74) (S := (sR (sI S o2 2 (0 : Int32)) x0 6 (some o4))) (ref := "SupportSolver$Problem") (k := 1) (index := 93) C pCl4 iX11_load_X6 hk7 rfl (by decide +kernel) (Or.inl rfl) dX11_load_74 ?_
    refine pw_aload_n (pc := 77) (S := (sR (sI S o2 2 (0 : Int32)) x0 6 (some o4))) C 1 dX11_load_77 rfl rfl ?_
    refine pw_getR (pc := 78) (S := (sR (sI S o2 2 (0 : Int32)) x0 6 (some o4))) (ref := "SupportSolver") (k := 6) (index := 47) C pCl9 iX11_load_X11 hk1 rfl (by decide +kernel) (Or.inl rfl) (o := o6) ho6 dX11_load_78 ?_
    refine pw_getJ (pc := 81) (S := (sR (sI S o2 2 (0 : Int32)) x0 6 (some o4))) (ref := "SupportSolver$Problem") (k := 3) (index := 96) C pCl4 iX11_load_X6 hk7 rfl (by decide +kernel) (Or.inl rfl) dX11_load_81 ?_
    obtain ⟨hk8, h⟩ := h
    refine pw_callv (pc := 84) (S := (sR (sI S o2 2 (0 : Int32)) x0 6 (some o4))) (kc2 := 21) (kn2 := 164) (pRunV (pc := 84) (S := (sR (sI S o2 2 (0 : Int32)) x0 6 (some o4))) C (ctX9_begin l G hZ  _ o5 (pI (sR (sI S o2 2 (0 : Int32)) x0 6 (some o4)) o6 1) (pJ (sR (sI S o2 2 (0 : Int32)) x0 6 (some o4)) o6 3) _ h) (cwV 2 C.2.2.2.2.1 gX11_load_X9_begin rfl rfl rfl (by decide +kernel) ⟨Nat.le_of_ble_eq_true rfl, Nat.le_of_ble_eq_true rfl⟩) pCl7 hk8 rfl rfl (Nat.le_of_ble_eq_true rfl) dX11_load_84 ⟨Nat.le_of_ble_eq_true rfl, Nat.le_of_ble_eq_true rfl⟩) rfl rfl (fun S10 h => ?_)
    refine pw_aload_n (pc := 87) C 1 dX11_load_87 rfl rfl ?_
    obtain ⟨hk11, h⟩ := h
    obtain ⟨o12, ho12, h⟩ := h
    refine pw_getR (pc := 88) (ref := "SupportSolver") (k := 4) (index := 36) C pCl9 iX11_load_X11 hk11 rfl (by decide +kernel) (Or.inl rfl) (o := o12) ho12 dX11_load_88 ?_
    refine pw_iconst (pc := 91) (v := 0 ) C dX11_load_91 (by decide) ?_
    obtain ⟨hk13, h⟩ := h
    refine pw_putI (pc := 92) (ref := "SupportSolver$Solutions") (k := 0) (index := 103) C pCl5 iX11_load_X7 hk13 rfl (by decide +kernel) (Or.inl rfl) (Or.inl rfl) rfl rfl dX11_load_92 ?_
    refine pw_aload_n (pc := 95) (S := (sI S10 o12 0 (0 : Int32))) C 1 dX11_load_95 rfl rfl ?_
    refine pw_iconst (pc := 96) (S := (sI S10 o12 0 (0 : Int32))) (v := 0 ) C dX11_load_96 (by decide) ?_
    refine pw_putI (pc := 97) (S := (sI S10 o12 0 (0 : Int32))) (ref := "SupportSolver") (k := 7) (index := 51) C pCl9 iX11_load_X11 hk11 rfl (by decide +kernel) (Or.inl rfl) (Or.inl rfl) rfl rfl dX11_load_97 ?_
    refine pw_aload_n (pc := 100) (S := (sI (sI S10 o12 0 (0 : Int32)) x0 7 (0 : Int32))) C 1 dX11_load_100 rfl rfl ?_
    refine pw_iconst (pc := 101) (S := (sI (sI S10 o12 0 (0 : Int32)) x0 7 (0 : Int32))) (v := 0 ) C dX11_load_101 (by decide) ?_
    refine pw_putI (pc := 102) (S := (sI (sI S10 o12 0 (0 : Int32)) x0 7 (0 : Int32))) (ref := "SupportSolver") (k := 8) (index := 55) C pCl9 iX11_load_X11 hk11 rfl (by decide +kernel) (Or.inl rfl) (Or.inl rfl) rfl rfl dX11_load_102 ?_
    refine pw_aload_n (pc := 105) (S := (sI (sI (sI S10 o12 0 (0 : Int32)) x0 7 (0 : Int32)) x0 8 (0 : Int32))) C 1 dX11_load_105 rfl rfl ?_
    refine pw_aload_n (pc := 106) (S := (sI (sI (sI S10 o12 0 (0 : Int32)) x0 7 (0 : Int32)) x0 8 (0 : Int32))) C 1 dX11_load_106 rfl rfl ?_
    obtain ⟨o14, ho14, h⟩ := h
    refine pw_getR (pc := 107) (S := (sI (sI (sI S10 o12 0 (0 : Int32)) x0 7 (0 : Int32)) x0 8 (0 : Int32))) (ref := "SupportSolver") (k := 1) (index := 19) C pCl9 iX11_load_X11 hk11 rfl (by decide +kernel) (Or.inl rfl) (o := o14) ho14 dX11_load_107 ?_
    refine pw_callv (pc := 110) (S := (sI (sI (sI S10 o12 0 (0 : Int32)) x0 7 (0 : Int32)) x0 8 (0 : Int32))) (kc2 := 21) (kn2 := 164) (pRunV (pc := 110) (S := (sI (sI (sI S10 o12 0 (0 : Int32)) x0 7 (0 : Int32)) x0 8 (0 : Int32))) C (ctX11_propagate l G hZ  _ x0 o14 _ h) (cwV 1 C.2.2.2.2.1 gX11_load_X11_propagate rfl rfl rfl (by decide +kernel) ⟨Nat.le_of_ble_eq_true rfl, Nat.le_of_ble_eq_true rfl⟩) pCl9 hk11 rfl rfl (Nat.le_of_ble_eq_true rfl) dX11_load_110 ⟨Nat.le_of_ble_eq_true rfl, Nat.le_of_ble_eq_true rfl⟩) rfl rfl (fun S16 h => ?_)
    refine pw_aload_n (pc := 113) C 1 dX11_load_113 rfl rfl ?_
    obtain ⟨hk17, h⟩ := h
    obtain ⟨o18, ho18, h⟩ := h
    refine pw_getR (pc := 114) (ref := "SupportSolver") (k := 1) (index := 19) C pCl9 iX11_load_X11 hk17 rfl (by decide +kernel) (Or.inl rfl) (o := o18) ho18 dX11_load_114 ?_
    obtain ⟨hk19, h⟩ := h
    refine pw_getI (pc := 117) (ref := "SupportSolver$Trail") (k := 3) (index := 111) C pCl7 iX11_load_X9 hk19 rfl (by decide +kernel) (Or.inl rfl) dX11_load_117 ?_
    refine pw_widen (k2 := 22) (n2 := 170) (Nat.le_of_ble_eq_true rfl) (Nat.le_of_ble_eq_true rfl) ?_
    refine pw_xret ?_
    exact pw_iret (pc := 120) C hr h dX11_load_120
  · replace h := h.2 hc
    exact pw_throwS (pc := 45) (mc := 22) (ms := 170) C hl (hZ.2.2.2.2.2.2.2.2.2.2.2.2.2.2.2.2.2.2.2.2.2.2.2.2.2.2.2.2.2.2.2.2.2.1) (by decide +kernel) (by decide +kernel) (by decide +kernel) hout dX11_load_45 dX11_load_48 dX11_load_49 dX11_load_51 dX11_load_54 (by decide) (Nat.le_of_ble_eq_true rfl) (Nat.le_of_ble_eq_true rfl) (Nat.le_of_ble_eq_true rfl) (Nat.le_of_ble_eq_true rfl) (Nat.le_of_ble_eq_true rfl) h
set_option maxRecDepth 100000 in
set_option maxHeartbeats 4000000 in
theorem cbX11_load_b31 {p : Program} {l : Launch} {e : Env} {s : State} {m : MethodId} {args : Array Value} {below : List Frame} {meth : Method} {c : Code} {G : PG} {Q : Int32 → PS → Prop} {X : String → PS → Prop} (C : pCx p s m args meth c G cX11_load 2 yX11_load.cls wsX11_load) (hr : meth.sig.returnType = (some .int)) (hin : meth.name = yX11_load.name) (hZ : pZa G) (hout : ∀ x ∈ c.exceptionTable.toList, False) (hl : l.stackTraces = false)  : ∀ (S : PS) (x0 : Nat), wpX11_load_b31  Q X S x0 → PW p l e rmX11_load s m args below meth c (vx_MQ below (va_Qi Q (pB G) (pFr G)) (pXC G X) args s rmX11_load.cells rmX11_load.slots (pFr G)) G 2 S 21 164 [(0, .ref (G.2.2 + x0))] 31 ([]) := by
  intro S x0 h
  unfold wpX11_load_b31 at h
  refine pw_iconst (pc := 31) (v := 0 ) C dX11_load_31 (by decide) ?_
  exact cbX11_load_b32 C hr hin hZ hout hl  _ _ _ h
set_option maxRecDepth 100000 in
set_option maxHeartbeats 4000000 in
theorem ctX11_load (l : Launch) (G : PG) (hZ : pZa G) (hl : l.stackTraces = false) (S : PS) (x0 : Nat) (Q : Int32 → PS → Prop) (X : String → PS → Prop) (h : wpX11_load S x0 Q X) : mXI l yX11_load wsX11_load rmX11_load G S [.ref (G.2.2 + x0)] Q X := by
  unfold mXI
  refine met_ofX (cc := cX11_load) (maxL := 2) (ret := (some .int)) (by decide) rfl (Nat.le_of_ble_eq_true rfl) ?_
  intro p e s m args below meth c C hout hr hin
  unfold wpX11_load at h
  show PW p l e _ s m args below meth c _ G 2 S 0 0 [(0, .ref (G.2.2 + x0))] 0 []
  refine pw_aload_n (pc := 0) C 0 dX11_load_0 rfl rfl ?_
  obtain ⟨hk20, h⟩ := h
  obtain ⟨o21, ho21, h⟩ := h
  refine pw_getR (pc := 1) (ref := "SupportSolver") (k := 0) (index := 12) C pCl9 iX11_load_X11 hk20 rfl (by decide +kernel) (Or.inl rfl) (o := o21) ho21 dX11_load_1 ?_
  obtain ⟨hk22, h⟩ := h
  refine pw_callv (pc := 4) (kc2 := 2) (kn2 := 12) (pRunV (pc := 4) C (ctX8_begin l G hZ  _ o21 _ h) (cwV 0 C.2.2.2.2.1 gX11_load_X8_begin rfl rfl rfl (by decide +kernel) ⟨Nat.le_of_ble_eq_true rfl, Nat.le_of_ble_eq_true rfl⟩) pCl6 hk22 rfl rfl (Nat.le_of_ble_eq_true rfl) dX11_load_4 ⟨Nat.le_of_ble_eq_true rfl, Nat.le_of_ble_eq_true rfl⟩) rfl rfl (fun S24 h => ?_)
  refine pw_aload_n (pc := 7) C 0 dX11_load_7 rfl rfl ?_
  obtain ⟨hk25, h⟩ := h
  obtain ⟨o26, ho26, h⟩ := h
  refine pw_getR (pc := 8) (ref := "SupportSolver") (k := 0) (index := 12) C pCl9 iX11_load_X11 hk25 rfl (by decide +kernel) (Or.inl rfl) (o := o26) ho26 dX11_load_8 ?_
  obtain ⟨hk27, h⟩ := h
  refine pw_calli (pc := 11) (kc2 := 2) (kn2 := 12) (pRunV (pc := 11) C (ctX8_readVariables l G hZ  _ o26 _ h) (cwV 0 C.2.2.2.2.1 gX11_load_X8_readVariables rfl rfl rfl (by decide +kernel) ⟨Nat.le_of_ble_eq_true rfl, Nat.le_of_ble_eq_true rfl⟩) pCl6 hk27 rfl rfl (Nat.le_of_ble_eq_true rfl) dX11_load_11 ⟨Nat.le_of_ble_eq_true rfl, Nat.le_of_ble_eq_true rfl⟩) rfl rfl (fun r28 S29 h => ?_)
  refine pw_if_eq (pc := 14) (tgt := 31) C dX11_load_14 rfl ⟨fun hc => ?_, fun hc => ?_⟩
  · replace h := h.1 hc
    refine pw_widen (k2 := 21) (n2 := 164) (Nat.le_of_ble_eq_true rfl) (Nat.le_of_ble_eq_true rfl) ?_
    exact cbX11_load_b31 C hr hin hZ hout hl  _ _ h
  · replace h := h.2 hc
    refine pw_aload_n (pc := 17) C 0 dX11_load_17 rfl rfl ?_
    obtain ⟨hk30, h⟩ := h
    obtain ⟨o31, ho31, h⟩ := h
    refine pw_getR (pc := 18) (ref := "SupportSolver") (k := 0) (index := 12) C pCl9 iX11_load_X11 hk30 rfl (by decide +kernel) (Or.inl rfl) (o := o31) ho31 dX11_load_18 ?_
    obtain ⟨hk32, h⟩ := h
    refine pw_calli (pc := 21) (kc2 := 21) (kn2 := 164) (pRunV (pc := 21) C (ctX8_readConstraints l G hZ  _ o31 _ h) (cwV 0 C.2.2.2.2.1 gX11_load_X8_readConstraints rfl rfl rfl (by decide +kernel) ⟨Nat.le_of_ble_eq_true rfl, Nat.le_of_ble_eq_true rfl⟩) pCl6 hk32 rfl rfl (Nat.le_of_ble_eq_true rfl) dX11_load_21 ⟨Nat.le_of_ble_eq_true rfl, Nat.le_of_ble_eq_true rfl⟩) rfl rfl (fun r33 S34 h => ?_)
    refine pw_if_eq (pc := 24) (tgt := 31) C dX11_load_24 rfl ⟨fun hc => ?_, fun hc => ?_⟩
    · replace h := h.1 hc
      exact cbX11_load_b31 C hr hin hZ hout hl  _ _ h
    · replace h := h.2 hc
      refine pw_iconst (pc := 27) (v := 1 ) C dX11_load_27 (by decide) ?_
      refine pw_goto (pc := 28) (tgt := 32) C dX11_load_28 rfl ?_
      exact cbX11_load_b32 C hr hin hZ hout hl  _ _ _ h

abbrev rmX11_errorCode : Room := { frames := 0, cells := 0, slots := 0, locals := 0 }
theorem iX11_errorCode_X11 : ∀ w ∈ u_ws RX11 TX11 9, w ∈ wsX11_errorCode := by decide +kernel
theorem iX11_errorCode_X8 : ∀ w ∈ u_ws RX8 TX8 10, w ∈ wsX11_errorCode := fun _ h => List.mem_cons_of_mem _ (List.mem_append_right _ h)
def wpX11_errorCode (S : PS) (x0 : Nat) (Q : Int32 → PS → Prop) : Prop := (pK S x0 = 10 ∧ (∃ o2, pR S x0 0 = some o2 ∧ (pK S o2 = 7 ∧ (Q (pI S o2 3) S))))
set_option maxRecDepth 100000 in
set_option maxHeartbeats 4000000 in
theorem ctX11_errorCode (l : Launch) (G : PG) (hZ : pZa G) (S : PS) (x0 : Nat) (Q : Int32 → PS → Prop) (h : wpX11_errorCode S x0 Q) : mI l yX11_errorCode wsX11_errorCode rmX11_errorCode G S [.ref (G.2.2 + x0)] Q := by
  unfold mI
  refine met_of (cc := cX11_errorCode) (maxL := 1) (ret := (some .int)) (by decide) rfl (Nat.le_of_ble_eq_true rfl) ?_
  intro p e s m args below meth c C hr hin
  unfold wpX11_errorCode at h
  show PW p l e _ s m args below meth c _ G 1 S 0 0 [(0, .ref (G.2.2 + x0))] 0 []
  refine pw_aload_n (pc := 0) C 0 dX11_errorCode_0 rfl rfl ?_
  obtain ⟨hk1, h⟩ := h
  obtain ⟨o2, ho2, h⟩ := h
  refine pw_getR (pc := 1) (ref := "SupportSolver") (k := 0) (index := 12) C pCl9 iX11_errorCode_X11 hk1 rfl (by decide +kernel) (Or.inl rfl) (o := o2) ho2 dX11_errorCode_1 ?_
  obtain ⟨hk3, h⟩ := h
  refine pw_getI (pc := 4) (ref := "SupportSolver$TextReader") (k := 3) (index := 114) C pCl6 iX11_errorCode_X8 hk3 rfl (by decide +kernel) (Or.inl rfl) dX11_errorCode_4 ?_
  exact pw_iret (pc := 7) C hr h dX11_errorCode_7

abbrev rmX11_errorPosition : Room := { frames := 0, cells := 0, slots := 0, locals := 0 }
theorem iX11_errorPosition_X11 : ∀ w ∈ u_ws RX11 TX11 9, w ∈ wsX11_errorPosition := by decide +kernel
theorem iX11_errorPosition_X8 : ∀ w ∈ u_ws RX8 TX8 10, w ∈ wsX11_errorPosition := fun _ h => List.mem_cons_of_mem _ (List.mem_append_right _ h)
def wpX11_errorPosition (S : PS) (x0 : Nat) (Q : Int32 → PS → Prop) : Prop := (pK S x0 = 10 ∧ (∃ o2, pR S x0 0 = some o2 ∧ (pK S o2 = 7 ∧ (Q (pI S o2 4) S))))
set_option maxRecDepth 100000 in
set_option maxHeartbeats 4000000 in
theorem ctX11_errorPosition (l : Launch) (G : PG) (hZ : pZa G) (S : PS) (x0 : Nat) (Q : Int32 → PS → Prop) (h : wpX11_errorPosition S x0 Q) : mI l yX11_errorPosition wsX11_errorPosition rmX11_errorPosition G S [.ref (G.2.2 + x0)] Q := by
  unfold mI
  refine met_of (cc := cX11_errorPosition) (maxL := 1) (ret := (some .int)) (by decide) rfl (Nat.le_of_ble_eq_true rfl) ?_
  intro p e s m args below meth c C hr hin
  unfold wpX11_errorPosition at h
  show PW p l e _ s m args below meth c _ G 1 S 0 0 [(0, .ref (G.2.2 + x0))] 0 []
  refine pw_aload_n (pc := 0) C 0 dX11_errorPosition_0 rfl rfl ?_
  obtain ⟨hk1, h⟩ := h
  obtain ⟨o2, ho2, h⟩ := h
  refine pw_getR (pc := 1) (ref := "SupportSolver") (k := 0) (index := 12) C pCl9 iX11_errorPosition_X11 hk1 rfl (by decide +kernel) (Or.inl rfl) (o := o2) ho2 dX11_errorPosition_1 ?_
  obtain ⟨hk3, h⟩ := h
  refine pw_getI (pc := 4) (ref := "SupportSolver$TextReader") (k := 4) (index := 117) C pCl6 iX11_errorPosition_X8 hk3 rfl (by decide +kernel) (Or.inl rfl) dX11_errorPosition_4 ?_
  exact pw_iret (pc := 7) C hr h dX11_errorPosition_7

abbrev rmX11_isFixed : Room := { frames := 1, cells := 0, slots := 0, locals := 22 }
theorem iX11_isFixed_X11 : ∀ w ∈ u_ws RX11 TX11 9, w ∈ wsX11_isFixed := by decide +kernel
theorem iX11_isFixed_X9 : ∀ w ∈ u_ws RX9 TX9 6, w ∈ wsX11_isFixed := fun _ h => List.mem_cons_of_mem _ (List.mem_append_right _ h)
def wpX11_isFixed (S : PS) (x0 : Nat) (x1 : Int32) (Q : Int32 → PS → Prop) : Prop := (pK S x0 = 10 ∧ (∃ o2, pR S x0 1 = some o2 ∧ (pK S o2 = 8 ∧ (wpX5_valuesOf S (pJ S o2 5) x1 (fun r4 S5 => (wpJ6_bitCount_0f7a4 S5 r4 (fun r6 S7 => ((¬ r6 = (1 : Int32) → (Q (0 : Int32) S7)) ∧ (r6 = (1 : Int32) → (Q (1 : Int32) S7))))))))))
set_option maxRecDepth 100000 in
set_option maxHeartbeats 4000000 in
theorem ctX11_isFixed (l : Launch) (G : PG) (hZ : pZa G) (S : PS) (x0 : Nat) (x1 : Int32) (Q : Int32 → PS → Prop) (h : wpX11_isFixed S x0 x1 Q) : mI l yX11_isFixed wsX11_isFixed rmX11_isFixed G S [.ref (G.2.2 + x0), .int x1] Q := by
  unfold mI
  refine met_of (cc := cX11_isFixed) (maxL := 2) (ret := (some .boolean)) (by decide) rfl (Nat.le_of_ble_eq_true rfl) ?_
  intro p e s m args below meth c C hr hin
  unfold wpX11_isFixed at h
  show PW p l e _ s m args below meth c _ G 2 S 0 0 [(0, .ref (G.2.2 + x0)), (1, .int x1)] 0 []
  refine pw_aload_n (pc := 0) C 0 dX11_isFixed_0 rfl rfl ?_
  obtain ⟨hk1, h⟩ := h
  obtain ⟨o2, ho2, h⟩ := h
  refine pw_getR (pc := 1) (ref := "SupportSolver") (k := 1) (index := 19) C pCl9 iX11_isFixed_X11 hk1 rfl (by decide +kernel) (Or.inl rfl) (o := o2) ho2 dX11_isFixed_1 ?_
  obtain ⟨hk3, h⟩ := h
  refine pw_getJ (pc := 4) (ref := "SupportSolver$Trail") (k := 5) (index := 139) C pCl7 iX11_isFixed_X9 hk3 rfl (by decide +kernel) (Or.inl rfl) dX11_isFixed_4 ?_
  refine pw_iload_n (pc := 7) C 1 dX11_isFixed_7 rfl rfl ?_
  refine pw_calli (pc := 8) (kc2 := 0) (kn2 := 0) (pRunS (pc := 8) C (ctX5_valuesOf l G hZ  _ (pJ S o2 5) x1 _ h) (va_cwS 2 C.2.2.2.2.1 gX11_isFixed_X5_valuesOf rfl rfl rfl (by decide +kernel) ⟨Nat.le_of_ble_eq_true rfl, Nat.le_of_ble_eq_true rfl⟩) rfl rfl (Nat.le_of_ble_eq_true rfl) dX11_isFixed_8 ⟨Nat.le_of_ble_eq_true rfl, Nat.le_of_ble_eq_true rfl⟩) rfl rfl (fun r4 S5 h => ?_)
  refine pw_calli (pc := 11) (kc2 := 0) (kn2 := 0) (pRunS (pc := 11) C (ctJ6_bitCount_0f7a4 l G  _ r4 _ h) (va_cwS 1 C.2.2.2.2.1 gX11_isFixed_J6_bitCount_0f7a4 rfl rfl rfl (by decide +kernel) ⟨Nat.le_of_ble_eq_true rfl, Nat.le_of_ble_eq_true rfl⟩) rfl rfl (Nat.le_of_ble_eq_true rfl) dX11_isFixed_11 ⟨Nat.le_of_ble_eq_true rfl, Nat.le_of_ble_eq_true rfl⟩) rfl rfl (fun r6 S7 h => ?_)
  refine pw_iconst (pc := 14) (v := 1 ) C dX11_isFixed_14 (by decide) ?_
  refine pw_icmp_ne (pc := 15) (tgt := 22) C dX11_isFixed_15 rfl ⟨fun hc => ?_, fun hc => ?_⟩
  · replace h := h.1 hc
    refine pw_iconst (pc := 22) (v := 0 ) C dX11_isFixed_22 (by decide) ?_
    exact pw_zret (pc := 23) C hr rfl h dX11_isFixed_23
  · replace h := h.2 hc
    refine pw_iconst (pc := 18) (v := 1 ) C dX11_isFixed_18 (by decide) ?_
    refine pw_goto (pc := 19) (tgt := 23) C dX11_isFixed_19 rfl ?_
    exact pw_zret (pc := 23) C hr rfl h dX11_isFixed_23

abbrev rmX11_fixedVariables : Room := { frames := 2, cells := 0, slots := 0, locals := 43 }
theorem iX11_fixedVariables_X11 : ∀ w ∈ u_ws RX11 TX11 9, w ∈ wsX11_fixedVariables := by decide +kernel
theorem iX11_fixedVariables_X6 : ∀ w ∈ u_ws RX6 TX6 4, w ∈ wsX11_fixedVariables := by decide +kernel
def wpX11_fixedVariables_b4  (Q : Int32 → PS → Prop) : Nat → PS → Nat → Int32 → Int32 → Prop
  | 0 => fun _ _ _ _ => False
  | n + 1 => fun S x0 x1 x2 => (pK S x0 = 10 ∧ (∃ o2, pR S x0 6 = some o2 ∧ (pK S o2 = 5 ∧ (((pI S o2 1) ≤ x2 → (Q x1 S)) ∧ (¬ (pI S o2 1) ≤ x2 → (wpX11_isFixed S x0 x2 (fun r4 S5 => ((r4 = 0 → (wpX11_fixedVariables_b4 Q n S5 x0 x1 (x2 + 1))) ∧ (¬ r4 = 0 → (wpX11_fixedVariables_b4 Q n S5 x0 (x1 + 1) (x2 + 1)))))))))))
def wpX11_fixedVariables (S : PS) (x0 : Nat) (Q : Int32 → PS → Prop) : Prop := (∃ n9 : Nat, wpX11_fixedVariables_b4 Q n9 S x0 (0 : Int32) (0 : Int32))
set_option maxRecDepth 100000 in
set_option maxHeartbeats 4000000 in
theorem cbX11_fixedVariables_b4 {p : Program} {l : Launch} {e : Env} {s : State} {m : MethodId} {args : Array Value} {below : List Frame} {meth : Method} {c : Code} {G : PG} {Q : Int32 → PS → Prop} (C : pCx p s m args meth c G cX11_fixedVariables 3 yX11_fixedVariables.cls wsX11_fixedVariables) (hr : meth.sig.returnType = (some .int)) (hin : meth.name = yX11_fixedVariables.name) (hZ : pZa G)  (n : Nat) : ∀ (S : PS) (x0 : Nat) (x1 : Int32) (x2 : Int32), wpX11_fixedVariables_b4  Q n S x0 x1 x2 → PW p l e rmX11_fixedVariables s m args below meth c (MQ below (va_Qi Q (pB G) (pFr G)) args s rmX11_fixedVariables.cells rmX11_fixedVariables.slots (pFr G)) G 3 S 0 0 [(0, .ref (G.2.2 + x0)), (1, .int x1), (2, .int x2)] 4 ([]) := by
  induction n with
  | zero => intro S x0 x1 x2 h; exact h.elim
  | succ n ih =>
    intro S x0 x1 x2 h
    unfold wpX11_fixedVariables_b4 at h
    refine pw_iload_n (pc := 4) C 2 dX11_fixedVariables_4 rfl rfl ?_
    refine pw_aload_n (pc := 5) C 0 dX11_fixedVariables_5 rfl rfl ?_
    obtain ⟨hk1, h⟩ := h
    obtain ⟨o2, ho2, h⟩ := h
    refine pw_getR (pc := 6) (ref := "SupportSolver") (k := 6) (index := 47) C pCl9 iX11_fixedVariables_X11 hk1 rfl (by decide +kernel) (Or.inl rfl) (o := o2) ho2 dX11_fixedVariables_6 ?_
    obtain ⟨hk3, h⟩ := h
    refine pw_getI (pc := 9) (ref := "SupportSolver$Problem") (k := 1) (index := 93) C pCl4 iX11_fixedVariables_X6 hk3 rfl (by decide +kernel) (Or.inl rfl) dX11_fixedVariables_9 ?_
    refine pw_icmp_ge (pc := 12) (tgt := 32) C dX11_fixedVariables_12 rfl ⟨fun hc => ?_, fun hc => ?_⟩
    · replace h := h.1 hc
      refine pw_iload_n (pc := 32) C 1 dX11_fixedVariables_32 rfl rfl ?_
      exact pw_iret (pc := 33) C hr h dX11_fixedVariables_33
    · replace h := h.2 hc
      refine pw_aload_n (pc := 15) C 0 dX11_fixedVariables_15 rfl rfl ?_
      refine pw_iload_n (pc := 16) C 2 dX11_fixedVariables_16 rfl rfl ?_
      refine pw_calli (pc := 17) (kc2 := 0) (kn2 := 0) (pRunV (pc := 17) C (ctX11_isFixed l G hZ  _ x0 x2 _ h) (cwV 1 C.2.2.2.2.1 gX11_fixedVariables_X11_isFixed rfl rfl rfl (by decide +kernel) ⟨Nat.le_of_ble_eq_true rfl, Nat.le_of_ble_eq_true rfl⟩) pCl9 hk1 rfl rfl (Nat.le_of_ble_eq_true rfl) dX11_fixedVariables_17 ⟨Nat.le_of_ble_eq_true rfl, Nat.le_of_ble_eq_true rfl⟩) rfl rfl (fun r4 S5 h => ?_)
      refine pw_if_eq (pc := 20) (tgt := 26) C dX11_fixedVariables_20 rfl ⟨fun hc => ?_, fun hc => ?_⟩
      · replace h := h.1 hc
        refine pw_iincK (pc := 26) (w := 1) C [(2, .int (x2 + 1)), (0, .ref (G.2.2 + x0)), (1, .int x1)] 2 dX11_fixedVariables_26 (by decide) rfl (by decide) rfl ?_
        refine pw_goto (pc := 29) (tgt := 4) C dX11_fixedVariables_29 rfl ?_
        refine pw_sub [1, 2, 0] (LV2 := [(0, .ref (G.2.2 + x0)), (1, .int x1), (2, .int (x2 + 1))]) rfl ?_
        exact ih _ _ _ _ h
      · replace h := h.2 hc
        refine pw_iincK (pc := 23) (w := 1) C [(1, .int (x1 + 1)), (0, .ref (G.2.2 + x0)), (2, .int x2)] 1 dX11_fixedVariables_23 (by decide) rfl (by decide) rfl ?_
        refine pw_iincK (pc := 26) (w := 1) C [(2, .int (x2 + 1)), (1, .int (x1 + 1)), (0, .ref (G.2.2 + x0))] 2 dX11_fixedVariables_26 (by decide) rfl (by decide) rfl ?_
        refine pw_goto (pc := 29) (tgt := 4) C dX11_fixedVariables_29 rfl ?_
        refine pw_sub [2, 1, 0] (LV2 := [(0, .ref (G.2.2 + x0)), (1, .int (x1 + 1)), (2, .int (x2 + 1))]) rfl ?_
        exact ih _ _ _ _ h
set_option maxRecDepth 100000 in
set_option maxHeartbeats 4000000 in
theorem ctX11_fixedVariables (l : Launch) (G : PG) (hZ : pZa G) (S : PS) (x0 : Nat) (Q : Int32 → PS → Prop) (h : wpX11_fixedVariables S x0 Q) : mI l yX11_fixedVariables wsX11_fixedVariables rmX11_fixedVariables G S [.ref (G.2.2 + x0)] Q := by
  unfold mI
  refine met_of (cc := cX11_fixedVariables) (maxL := 3) (ret := (some .int)) (by decide) rfl (Nat.le_of_ble_eq_true rfl) ?_
  intro p e s m args below meth c C hr hin
  unfold wpX11_fixedVariables at h
  show PW p l e _ s m args below meth c _ G 3 S 0 0 [(0, .ref (G.2.2 + x0))] 0 []
  refine pw_iconst (pc := 0) (v := 0 ) C dX11_fixedVariables_0 (by decide) ?_
  refine pw_istore_n (pc := 1) C [(1, .int (0 : Int32)), (0, .ref (G.2.2 + x0))] dX11_fixedVariables_1 rfl (by decide) rfl ?_
  refine pw_iconst (pc := 2) (v := 0 ) C dX11_fixedVariables_2 (by decide) ?_
  refine pw_istore_n (pc := 3) C [(2, .int (0 : Int32)), (1, .int (0 : Int32)), (0, .ref (G.2.2 + x0))] dX11_fixedVariables_3 rfl (by decide) rfl ?_
  refine pw_sub [2, 1, 0] (LV2 := [(0, .ref (G.2.2 + x0)), (1, .int (0 : Int32)), (2, .int (0 : Int32))]) rfl ?_
  obtain ⟨n9, h⟩ := h
  exact cbX11_fixedVariables_b4 C hr hin hZ  n9 _ _ _ _ h

abbrev rmX11_report : Room := { frames := 6, cells := 1, slots := 6, locals := 90 }
theorem iX11_report_X11 : ∀ w ∈ u_ws RX11 TX11 9, w ∈ wsX11_report := by decide +kernel
theorem iX11_report_X6 : ∀ w ∈ u_ws RX6 TX6 4, w ∈ wsX11_report := by decide +kernel
theorem iX11_report_X9 : ∀ w ∈ u_ws RX9 TX9 6, w ∈ wsX11_report := by decide +kernel
def wpX11_report (S : PS) (x0 : Nat) (x1 : Int32) (Q : Int32 → PS → Prop) (X : String → PS → Prop) : Prop := ((x1 = 0 → (pK S x0 = 10 ∧ (∃ o2, pR S x0 6 = some o2 ∧ (pK S o2 = 5 ∧ (Q (pI S o2 1) S))))) ∧ (x1 = 1 → (pK S x0 = 10 ∧ (∃ o5, pR S x0 6 = some o5 ∧ (pK S o5 = 5 ∧ (Q (pI S o5 2) S))))) ∧ (x1 = 2 → (pK S x0 = 10 ∧ (∃ o8, pR S x0 1 = some o8 ∧ (pK S o8 = 8 ∧ (Q (pI S o8 4) S))))) ∧ (x1 = 3 → (pK S x0 = 10 ∧ (∃ o11, pR S x0 1 = some o11 ∧ (pK S o11 = 8 ∧ (Q (pI S o11 3) S))))) ∧ (x1 = 4 → (pK S x0 = 10 ∧ (Q (pI S x0 7) S))) ∧ (x1 = 5 → (pK S x0 = 10 ∧ (∃ o15, pR S x0 1 = some o15 ∧ (pK S o15 = 8 ∧ (wpX9_hasFailed S o15 (fun r17 S18 => ((r17 = 0 → (Q (0 : Int32) S18)) ∧ (¬ r17 = 0 → (Q (1 : Int32) S18))))))))) ∧ (x1 = 6 → (pK S x0 = 10 ∧ (wpX11_fixedVariables S x0 (fun r20 S21 => (Q r20 S21))))) ∧ (x1 = 7 → (pK S x0 = 10 ∧ (Q (pI S x0 8) S))) ∧ ((¬ x1 = 0 ∧ ¬ x1 = 1 ∧ ¬ x1 = 2 ∧ ¬ x1 = 3 ∧ ¬ x1 = 4 ∧ ¬ x1 = 5 ∧ ¬ x1 = 6 ∧ ¬ x1 = 7) → (∀ n, X "java/lang/IllegalArgumentException" (sSkip S n))))
set_option maxRecDepth 100000 in
set_option maxHeartbeats 4000000 in
theorem ctX11_report (l : Launch) (G : PG) (hZ : pZa G) (hl : l.stackTraces = false) (S : PS) (x0 : Nat) (x1 : Int32) (Q : Int32 → PS → Prop) (X : String → PS → Prop) (h : wpX11_report S x0 x1 Q X) : mXI l yX11_report wsX11_report rmX11_report G S [.ref (G.2.2 + x0), .int x1] Q X := by
  unfold mXI
  refine met_ofX (cc := cX11_report) (maxL := 2) (ret := (some .int)) (by decide) rfl (Nat.le_of_ble_eq_true rfl) ?_
  intro p e s m args below meth c C hout hr hin
  unfold wpX11_report at h
  show PW p l e _ s m args below meth c _ G 2 S 0 0 [(0, .ref (G.2.2 + x0)), (1, .int x1)] 0 []
  refine pw_iload_n (pc := 0) C 1 dX11_report_0 rfl rfl ?_
  by_cases hc0 : x1 = 0
  · replace h := h.1 hc0
    refine pw_tableIn (pc := 1) (tgt := 48) C dX11_report_1 (by rw [hc0]; decide) (by rw [hc0]; decide) (by rw [hc0]; rfl) rfl ?_
    refine pw_aload_n (pc := 48) C 0 dX11_report_48 rfl rfl ?_
    obtain ⟨hk1, h⟩ := h
    obtain ⟨o2, ho2, h⟩ := h
    refine pw_getR (pc := 49) (ref := "SupportSolver") (k := 6) (index := 47) C pCl9 iX11_report_X11 hk1 rfl (by decide +kernel) (Or.inl rfl) (o := o2) ho2 dX11_report_49 ?_
    obtain ⟨hk3, h⟩ := h
    refine pw_getI (pc := 52) (ref := "SupportSolver$Problem") (k := 1) (index := 93) C pCl4 iX11_report_X6 hk3 rfl (by decide +kernel) (Or.inl rfl) dX11_report_52 ?_
    refine pw_widen (k2 := 1) (n2 := 6) (Nat.le_of_ble_eq_true rfl) (Nat.le_of_ble_eq_true rfl) ?_
    refine pw_xret ?_
    exact pw_iret (pc := 55) C hr h dX11_report_55
  by_cases hc1 : x1 = 1
  · replace h := h.2.1 hc1
    refine pw_tableIn (pc := 1) (tgt := 56) C dX11_report_1 (by rw [hc1]; decide) (by rw [hc1]; decide) (by rw [hc1]; rfl) rfl ?_
    refine pw_aload_n (pc := 56) C 0 dX11_report_56 rfl rfl ?_
    obtain ⟨hk4, h⟩ := h
    obtain ⟨o5, ho5, h⟩ := h
    refine pw_getR (pc := 57) (ref := "SupportSolver") (k := 6) (index := 47) C pCl9 iX11_report_X11 hk4 rfl (by decide +kernel) (Or.inl rfl) (o := o5) ho5 dX11_report_57 ?_
    obtain ⟨hk6, h⟩ := h
    refine pw_getI (pc := 60) (ref := "SupportSolver$Problem") (k := 2) (index := 120) C pCl4 iX11_report_X6 hk6 rfl (by decide +kernel) (Or.inl rfl) dX11_report_60 ?_
    refine pw_widen (k2 := 1) (n2 := 6) (Nat.le_of_ble_eq_true rfl) (Nat.le_of_ble_eq_true rfl) ?_
    refine pw_xret ?_
    exact pw_iret (pc := 63) C hr h dX11_report_63
  by_cases hc2 : x1 = 2
  · replace h := h.2.2.1 hc2
    refine pw_tableIn (pc := 1) (tgt := 64) C dX11_report_1 (by rw [hc2]; decide) (by rw [hc2]; decide) (by rw [hc2]; rfl) rfl ?_
    refine pw_aload_n (pc := 64) C 0 dX11_report_64 rfl rfl ?_
    obtain ⟨hk7, h⟩ := h
    obtain ⟨o8, ho8, h⟩ := h
    refine pw_getR (pc := 65) (ref := "SupportSolver") (k := 1) (index := 19) C pCl9 iX11_report_X11 hk7 rfl (by decide +kernel) (Or.inl rfl) (o := o8) ho8 dX11_report_65 ?_
    obtain ⟨hk9, h⟩ := h
    refine pw_getI (pc := 68) (ref := "SupportSolver$Trail") (k := 4) (index := 123) C pCl7 iX11_report_X9 hk9 rfl (by decide +kernel) (Or.inl rfl) dX11_report_68 ?_
    refine pw_widen (k2 := 1) (n2 := 6) (Nat.le_of_ble_eq_true rfl) (Nat.le_of_ble_eq_true rfl) ?_
    refine pw_xret ?_
    exact pw_iret (pc := 71) C hr h dX11_report_71
  by_cases hc3 : x1 = 3
  · replace h := h.2.2.2.1 hc3
    refine pw_tableIn (pc := 1) (tgt := 72) C dX11_report_1 (by rw [hc3]; decide) (by rw [hc3]; decide) (by rw [hc3]; rfl) rfl ?_
    refine pw_aload_n (pc := 72) C 0 dX11_report_72 rfl rfl ?_
    obtain ⟨hk10, h⟩ := h
    obtain ⟨o11, ho11, h⟩ := h
    refine pw_getR (pc := 73) (ref := "SupportSolver") (k := 1) (index := 19) C pCl9 iX11_report_X11 hk10 rfl (by decide +kernel) (Or.inl rfl) (o := o11) ho11 dX11_report_73 ?_
    obtain ⟨hk12, h⟩ := h
    refine pw_getI (pc := 76) (ref := "SupportSolver$Trail") (k := 3) (index := 111) C pCl7 iX11_report_X9 hk12 rfl (by decide +kernel) (Or.inl rfl) dX11_report_76 ?_
    refine pw_widen (k2 := 1) (n2 := 6) (Nat.le_of_ble_eq_true rfl) (Nat.le_of_ble_eq_true rfl) ?_
    refine pw_xret ?_
    exact pw_iret (pc := 79) C hr h dX11_report_79
  by_cases hc4 : x1 = 4
  · replace h := h.2.2.2.2.1 hc4
    refine pw_tableIn (pc := 1) (tgt := 80) C dX11_report_1 (by rw [hc4]; decide) (by rw [hc4]; decide) (by rw [hc4]; rfl) rfl ?_
    refine pw_aload_n (pc := 80) C 0 dX11_report_80 rfl rfl ?_
    obtain ⟨hk13, h⟩ := h
    refine pw_getI (pc := 81) (ref := "SupportSolver") (k := 7) (index := 51) C pCl9 iX11_report_X11 hk13 rfl (by decide +kernel) (Or.inl rfl) dX11_report_81 ?_
    refine pw_widen (k2 := 1) (n2 := 6) (Nat.le_of_ble_eq_true rfl) (Nat.le_of_ble_eq_true rfl) ?_
    refine pw_xret ?_
    exact pw_iret (pc := 84) C hr h dX11_report_84
  by_cases hc5 : x1 = 5
  · replace h := h.2.2.2.2.2.1 hc5
    refine pw_tableIn (pc := 1) (tgt := 85) C dX11_report_1 (by rw [hc5]; decide) (by rw [hc5]; decide) (by rw [hc5]; rfl) rfl ?_
    refine pw_aload_n (pc := 85) C 0 dX11_report_85 rfl rfl ?_
    obtain ⟨hk14, h⟩ := h
    obtain ⟨o15, ho15, h⟩ := h
    refine pw_getR (pc := 86) (ref := "SupportSolver") (k := 1) (index := 19) C pCl9 iX11_report_X11 hk14 rfl (by decide +kernel) (Or.inl rfl) (o := o15) ho15 dX11_report_86 ?_
    obtain ⟨hk16, h⟩ := h
    refine pw_calli (pc := 89) (kc2 := 0) (kn2 := 0) (pRunV (pc := 89) C (ctX9_hasFailed l G hZ  _ o15 _ h) (cwV 0 C.2.2.2.2.1 gX11_report_X9_hasFailed rfl rfl rfl (by decide +kernel) ⟨Nat.le_of_ble_eq_true rfl, Nat.le_of_ble_eq_true rfl⟩) pCl7 hk16 rfl rfl (Nat.le_of_ble_eq_true rfl) dX11_report_89 ⟨Nat.le_of_ble_eq_true rfl, Nat.le_of_ble_eq_true rfl⟩) rfl rfl (fun r17 S18 h => ?_)
    refine pw_if_eq (pc := 92) (tgt := 99) C dX11_report_92 rfl ⟨fun hc => ?_, fun hc => ?_⟩
    · replace h := h.1 hc
      refine pw_iconst (pc := 99) (v := 0 ) C dX11_report_99 (by decide) ?_
      refine pw_widen (k2 := 1) (n2 := 6) (Nat.le_of_ble_eq_true rfl) (Nat.le_of_ble_eq_true rfl) ?_
      refine pw_xret ?_
      exact pw_iret (pc := 100) C hr h dX11_report_100
    · replace h := h.2 hc
      refine pw_iconst (pc := 95) (v := 1 ) C dX11_report_95 (by decide) ?_
      refine pw_goto (pc := 96) (tgt := 100) C dX11_report_96 rfl ?_
      refine pw_widen (k2 := 1) (n2 := 6) (Nat.le_of_ble_eq_true rfl) (Nat.le_of_ble_eq_true rfl) ?_
      refine pw_xret ?_
      exact pw_iret (pc := 100) C hr h dX11_report_100
  by_cases hc6 : x1 = 6
  · replace h := h.2.2.2.2.2.2.1 hc6
    refine pw_tableIn (pc := 1) (tgt := 101) C dX11_report_1 (by rw [hc6]; decide) (by rw [hc6]; decide) (by rw [hc6]; rfl) rfl ?_
    refine pw_aload_n (pc := 101) C 0 dX11_report_101 rfl rfl ?_
    obtain ⟨hk19, h⟩ := h
    refine pw_calli (pc := 102) (kc2 := 0) (kn2 := 0) (pRunV (pc := 102) C (ctX11_fixedVariables l G hZ  _ x0 _ h) (cwV 0 C.2.2.2.2.1 gX11_report_X11_fixedVariables rfl rfl rfl (by decide +kernel) ⟨Nat.le_of_ble_eq_true rfl, Nat.le_of_ble_eq_true rfl⟩) pCl9 hk19 rfl rfl (Nat.le_of_ble_eq_true rfl) dX11_report_102 ⟨Nat.le_of_ble_eq_true rfl, Nat.le_of_ble_eq_true rfl⟩) rfl rfl (fun r20 S21 h => ?_)
    refine pw_widen (k2 := 1) (n2 := 6) (Nat.le_of_ble_eq_true rfl) (Nat.le_of_ble_eq_true rfl) ?_
    refine pw_xret ?_
    exact pw_iret (pc := 105) C hr h dX11_report_105
  by_cases hc7 : x1 = 7
  · replace h := h.2.2.2.2.2.2.2.1 hc7
    refine pw_tableIn (pc := 1) (tgt := 106) C dX11_report_1 (by rw [hc7]; decide) (by rw [hc7]; decide) (by rw [hc7]; rfl) rfl ?_
    refine pw_aload_n (pc := 106) C 0 dX11_report_106 rfl rfl ?_
    obtain ⟨hk22, h⟩ := h
    refine pw_getI (pc := 107) (ref := "SupportSolver") (k := 8) (index := 55) C pCl9 iX11_report_X11 hk22 rfl (by decide +kernel) (Or.inl rfl) dX11_report_107 ?_
    refine pw_widen (k2 := 1) (n2 := 6) (Nat.le_of_ble_eq_true rfl) (Nat.le_of_ble_eq_true rfl) ?_
    refine pw_xret ?_
    exact pw_iret (pc := 110) C hr h dX11_report_110
  replace h := h.2.2.2.2.2.2.2.2 ⟨hc0, hc1, hc2, hc3, hc4, hc5, hc6, hc7⟩
  refine pw_tableOut (pc := 1) (tgt := 111) C dX11_report_1 (sw_out (x1) 0 7 (fun (j : Int) h1 h2 => Or.elim (show j = 0 ∨ j = 1 ∨ j = 2 ∨ j = 3 ∨ j = 4 ∨ j = 5 ∨ j = 6 ∨ j = 7 by omega) (fun q => by subst q; exact lv_neT hc0 (by decide)) (fun q => q.elim (fun q => by subst q; exact lv_neT hc1 (by decide)) (fun q => q.elim (fun q => by subst q; exact lv_neT hc2 (by decide)) (fun q => q.elim (fun q => by subst q; exact lv_neT hc3 (by decide)) (fun q => q.elim (fun q => by subst q; exact lv_neT hc4 (by decide)) (fun q => q.elim (fun q => by subst q; exact lv_neT hc5 (by decide)) (fun q => q.elim (fun q => by subst q; exact lv_neT hc6 (by decide)) (fun q => by subst q; exact lv_neT hc7 (by decide)))))))))) rfl ?_
  exact pw_throwS (pc := 111) (mc := 1) (ms := 6) C hl (hZ.2.2.2.2.2.2.2.2.2.2.2.2.2.2.2.2.2.2.2.2.2.2.2.2.2.2.2.2.2.2.2.2.2.2.1) (by decide +kernel) (by decide +kernel) (by decide +kernel) hout dX11_report_111 dX11_report_114 dX11_report_115 dX11_report_117 dX11_report_120 (by decide) (Nat.le_of_ble_eq_true rfl) (Nat.le_of_ble_eq_true rfl) (Nat.le_of_ble_eq_true rfl) (Nat.le_of_ble_eq_true rfl) (Nat.le_of_ble_eq_true rfl) h

abbrev rmX11_isVariable : Room := { frames := 0, cells := 0, slots := 0, locals := 0 }
theorem iX11_isVariable_X11 : ∀ w ∈ u_ws RX11 TX11 9, w ∈ wsX11_isVariable := by decide +kernel
theorem iX11_isVariable_X6 : ∀ w ∈ u_ws RX6 TX6 4, w ∈ wsX11_isVariable := fun _ h => List.mem_cons_of_mem _ (List.mem_append_right _ h)
def wpX11_isVariable (S : PS) (x0 : Nat) (x1 : Int32) (Q : Int32 → PS → Prop) : Prop := ((x1 < 0 → (Q (0 : Int32) S)) ∧ (¬ x1 < 0 → (pK S x0 = 10 ∧ (∃ o2, pR S x0 6 = some o2 ∧ (pK S o2 = 5 ∧ (((pI S o2 1) ≤ x1 → (Q (0 : Int32) S)) ∧ (¬ (pI S o2 1) ≤ x1 → (Q (1 : Int32) S))))))))
set_option maxRecDepth 100000 in
set_option maxHeartbeats 4000000 in
theorem ctX11_isVariable (l : Launch) (G : PG) (hZ : pZa G) (S : PS) (x0 : Nat) (x1 : Int32) (Q : Int32 → PS → Prop) (h : wpX11_isVariable S x0 x1 Q) : mI l yX11_isVariable wsX11_isVariable rmX11_isVariable G S [.ref (G.2.2 + x0), .int x1] Q := by
  unfold mI
  refine met_of (cc := cX11_isVariable) (maxL := 2) (ret := (some .boolean)) (by decide) rfl (Nat.le_of_ble_eq_true rfl) ?_
  intro p e s m args below meth c C hr hin
  unfold wpX11_isVariable at h
  show PW p l e _ s m args below meth c _ G 2 S 0 0 [(0, .ref (G.2.2 + x0)), (1, .int x1)] 0 []
  refine pw_iload_n (pc := 0) C 1 dX11_isVariable_0 rfl rfl ?_
  refine pw_if_lt (pc := 1) (tgt := 19) C dX11_isVariable_1 rfl ⟨fun hc => ?_, fun hc => ?_⟩
  · replace h := h.1 hc
    refine pw_iconst (pc := 19) (v := 0 ) C dX11_isVariable_19 (by decide) ?_
    exact pw_zret (pc := 20) C hr rfl h dX11_isVariable_20
  · replace h := h.2 hc
    refine pw_iload_n (pc := 4) C 1 dX11_isVariable_4 rfl rfl ?_
    refine pw_aload_n (pc := 5) C 0 dX11_isVariable_5 rfl rfl ?_
    obtain ⟨hk1, h⟩ := h
    obtain ⟨o2, ho2, h⟩ := h
    refine pw_getR (pc := 6) (ref := "SupportSolver") (k := 6) (index := 47) C pCl9 iX11_isVariable_X11 hk1 rfl (by decide +kernel) (Or.inl rfl) (o := o2) ho2 dX11_isVariable_6 ?_
    obtain ⟨hk3, h⟩ := h
    refine pw_getI (pc := 9) (ref := "SupportSolver$Problem") (k := 1) (index := 93) C pCl4 iX11_isVariable_X6 hk3 rfl (by decide +kernel) (Or.inl rfl) dX11_isVariable_9 ?_
    refine pw_icmp_ge (pc := 12) (tgt := 19) C dX11_isVariable_12 rfl ⟨fun hc => ?_, fun hc => ?_⟩
    · replace h := h.1 hc
      refine pw_iconst (pc := 19) (v := 0 ) C dX11_isVariable_19 (by decide) ?_
      exact pw_zret (pc := 20) C hr rfl h dX11_isVariable_20
    · replace h := h.2 hc
      refine pw_iconst (pc := 15) (v := 1 ) C dX11_isVariable_15 (by decide) ?_
      refine pw_goto (pc := 16) (tgt := 20) C dX11_isVariable_16 rfl ?_
      exact pw_zret (pc := 20) C hr rfl h dX11_isVariable_20

abbrev rmX11_domain : Room := { frames := 6, cells := 1, slots := 6, locals := 90 }
theorem iX11_domain_X11 : ∀ w ∈ u_ws RX11 TX11 9, w ∈ wsX11_domain := by decide +kernel
theorem iX11_domain_X9 : ∀ w ∈ u_ws RX9 TX9 6, w ∈ wsX11_domain := by decide +kernel
def wpX11_domain (S : PS) (x0 : Nat) (x1 : Int32) (Q : Int32 → PS → Prop) (X : String → PS → Prop) : Prop := (pK S x0 = 10 ∧ (wpX11_isVariable S x0 x1 (fun r2 S3 => ((¬ r2 = 0 → (pK S3 x0 = 10 ∧ (∃ o5, pR S3 x0 1 = some o5 ∧ (pK S3 o5 = 8 ∧ (wpX5_valuesOf S3 (pJ S3 o5 5) x1 (fun r7 S8 => (Q r7 S8))))))) ∧ (r2 = 0 → (∀ n, X "java/lang/IndexOutOfBoundsException" (sSkip S3 n)))))))
set_option maxRecDepth 100000 in
set_option maxHeartbeats 4000000 in
theorem ctX11_domain (l : Launch) (G : PG) (hZ : pZa G) (hl : l.stackTraces = false) (S : PS) (x0 : Nat) (x1 : Int32) (Q : Int32 → PS → Prop) (X : String → PS → Prop) (h : wpX11_domain S x0 x1 Q X) : mXI l yX11_domain wsX11_domain rmX11_domain G S [.ref (G.2.2 + x0), .int x1] Q X := by
  unfold mXI
  refine met_ofX (cc := cX11_domain) (maxL := 2) (ret := (some .int)) (by decide) rfl (Nat.le_of_ble_eq_true rfl) ?_
  intro p e s m args below meth c C hout hr hin
  unfold wpX11_domain at h
  show PW p l e _ s m args below meth c _ G 2 S 0 0 [(0, .ref (G.2.2 + x0)), (1, .int x1)] 0 []
  refine pw_aload_n (pc := 0) C 0 dX11_domain_0 rfl rfl ?_
  refine pw_iload_n (pc := 1) C 1 dX11_domain_1 rfl rfl ?_
  obtain ⟨hk1, h⟩ := h
  refine pw_calli (pc := 2) (kc2 := 0) (kn2 := 0) (pRunV (pc := 2) C (ctX11_isVariable l G hZ  _ x0 x1 _ h) (cwV 1 C.2.2.2.2.1 gX11_domain_X11_isVariable rfl rfl rfl (by decide +kernel) ⟨Nat.le_of_ble_eq_true rfl, Nat.le_of_ble_eq_true rfl⟩) pCl9 hk1 rfl rfl (Nat.le_of_ble_eq_true rfl) dX11_domain_2 ⟨Nat.le_of_ble_eq_true rfl, Nat.le_of_ble_eq_true rfl⟩) rfl rfl (fun r2 S3 h => ?_)
  refine pw_if_ne (pc := 5) (tgt := 18) C dX11_domain_5 rfl ⟨fun hc => ?_, fun hc => ?_⟩
  · replace h := h.1 hc
    refine pw_aload_n (pc := 18) C 0 dX11_domain_18 rfl rfl ?_
    obtain ⟨hk4, h⟩ := h
    obtain ⟨o5, ho5, h⟩ := h
    refine pw_getR (pc := 19) (ref := "SupportSolver") (k := 1) (index := 19) C pCl9 iX11_domain_X11 hk4 rfl (by decide +kernel) (Or.inl rfl) (o := o5) ho5 dX11_domain_19 ?_
    obtain ⟨hk6, h⟩ := h
    refine pw_getJ (pc := 22) (ref := "SupportSolver$Trail") (k := 5) (index := 139) C pCl7 iX11_domain_X9 hk6 rfl (by decide +kernel) (Or.inl rfl) dX11_domain_22 ?_
    refine pw_iload_n (pc := 25) C 1 dX11_domain_25 rfl rfl ?_
    refine pw_calli (pc := 26) (kc2 := 0) (kn2 := 0) (pRunS (pc := 26) C (ctX5_valuesOf l G hZ  _ (pJ S3 o5 5) x1 _ h) (va_cwS 2 C.2.2.2.2.1 gX11_domain_X5_valuesOf rfl rfl rfl (by decide +kernel) ⟨Nat.le_of_ble_eq_true rfl, Nat.le_of_ble_eq_true rfl⟩) rfl rfl (Nat.le_of_ble_eq_true rfl) dX11_domain_26 ⟨Nat.le_of_ble_eq_true rfl, Nat.le_of_ble_eq_true rfl⟩) rfl rfl (fun r7 S8 h => ?_)
    refine pw_widen (k2 := 1) (n2 := 6) (Nat.le_of_ble_eq_true rfl) (Nat.le_of_ble_eq_true rfl) ?_
    refine pw_xret ?_
    exact pw_iret (pc := 29) C hr h dX11_domain_29
  · replace h := h.2 hc
    exact pw_throwS (pc := 8) (mc := 1) (ms := 6) C hl (hZ.2.2.2.2.2.2.2.2.2.2.2.2.2.2.2.2.2.2.2.2.2.2.2.2.2.2.2.2.2.2.2.2.2.2.2.1) (by decide +kernel) (by decide +kernel) (by decide +kernel) hout dX11_domain_8 dX11_domain_11 dX11_domain_12 dX11_domain_14 dX11_domain_17 (by decide) (Nat.le_of_ble_eq_true rfl) (Nat.le_of_ble_eq_true rfl) (Nat.le_of_ble_eq_true rfl) (Nat.le_of_ble_eq_true rfl) (Nat.le_of_ble_eq_true rfl) h

abbrev rmX11_setOfVariables : Room := { frames := 2, cells := 0, slots := 0, locals := 41 }
def wpX11_setOfVariables_b4  (Q : Int32 → PS → Prop) : Nat → PS → Nat → Int32 → Int32 → Prop
  | 0 => fun _ _ _ _ => False
  | n + 1 => fun S x0 x1 x2 => (((7 : Int32) ≤ x2 → (Q x1 S)) ∧ (¬ (7 : Int32) ≤ x2 → (pC4 S x0 ∧ (wpX1_hasVariable S x0 x2 (fun r2 S3 => ((r2 = 0 → (wpX11_setOfVariables_b4 Q n S3 x0 x1 (x2 + 1))) ∧ (¬ r2 = 0 → (wpX11_setOfVariables_b4 Q n S3 x0 (x1 ||| ((1 : Int32) <<< (x2 &&& 31))) (x2 + 1)))))))))
def wpX11_setOfVariables (S : PS) (x0 : Nat) (Q : Int32 → PS → Prop) : Prop := (∃ n9 : Nat, wpX11_setOfVariables_b4 Q n9 S x0 (0 : Int32) (0 : Int32))
set_option maxRecDepth 100000 in
set_option maxHeartbeats 4000000 in
theorem rnX11_setOfVariables_12 {p : Program} {l : Launch} {e : Env} {s : State} {m : MethodId} {args : Array Value} {below : List Frame} {meth : Method} {c : Code} {G : PG} (C : pCx p s m args meth c G cX11_setOfVariables 3 yX11_setOfVariables.cls wsX11_setOfVariables) (hZ : pZa G) (S : PS) (x : Nat) (a0 : Int32) (Q : Int32 → PS → Prop) (hk : pC4 S x) (h : wpX1_hasVariable S x a0 Q) {LV : List (Nat × Value)} {st : List Value} (hw : (st.map fun v => v.category).sum ≤ 8) : PRun p l e rmX11_setOfVariables s m args below meth c G 3 S 0 0 0 0 LV 12 (.int a0 :: .ref (G.2.2 + x) :: st) st (va_Qi Q (pB G) (pFr G) (.ref (G.2.2 + x) :: [.int a0]).toArray) := by
  rcases hk with hk | hk | hk | hk
  · exact pRunU (pc := 12) (kc := 0) (kn := 0) C (ctX1_hasVariable l G hZ _ x a0 _ h) (va_cwU 1 C.2.2.2.2.1 gX11_setOfVariables_X1_hasVariable_u178X0 rfl rfl rfl rfl (by decide +kernel) ⟨Nat.le_of_ble_eq_true rfl, Nat.le_of_ble_eq_true rfl⟩) pCl0 hk rfl rfl hw dX11_setOfVariables_12 ⟨Nat.le_of_ble_eq_true rfl, Nat.le_of_ble_eq_true rfl⟩
  · exact pRunU (pc := 12) (kc := 0) (kn := 0) C (ctX1_hasVariable l G hZ _ x a0 _ h) (va_cwU 1 C.2.2.2.2.1 gX11_setOfVariables_X1_hasVariable_u178X2 rfl rfl rfl rfl (by decide +kernel) ⟨Nat.le_of_ble_eq_true rfl, Nat.le_of_ble_eq_true rfl⟩) pCl1 hk rfl rfl hw dX11_setOfVariables_12 ⟨Nat.le_of_ble_eq_true rfl, Nat.le_of_ble_eq_true rfl⟩
  · exact pRunU (pc := 12) (kc := 0) (kn := 0) C (ctX1_hasVariable l G hZ _ x a0 _ h) (va_cwU 1 C.2.2.2.2.1 gX11_setOfVariables_X1_hasVariable_u178X4 rfl rfl rfl rfl (by decide +kernel) ⟨Nat.le_of_ble_eq_true rfl, Nat.le_of_ble_eq_true rfl⟩) pCl3 hk rfl rfl hw dX11_setOfVariables_12 ⟨Nat.le_of_ble_eq_true rfl, Nat.le_of_ble_eq_true rfl⟩
  · exact pRunU (pc := 12) (kc := 0) (kn := 0) C (ctX1_hasVariable l G hZ _ x a0 _ h) (va_cwU 1 C.2.2.2.2.1 gX11_setOfVariables_X1_hasVariable_u178X10 rfl rfl rfl rfl (by decide +kernel) ⟨Nat.le_of_ble_eq_true rfl, Nat.le_of_ble_eq_true rfl⟩) pCl8 hk rfl rfl hw dX11_setOfVariables_12 ⟨Nat.le_of_ble_eq_true rfl, Nat.le_of_ble_eq_true rfl⟩
set_option maxRecDepth 100000 in
set_option maxHeartbeats 4000000 in
theorem cbX11_setOfVariables_b4 {p : Program} {l : Launch} {e : Env} {s : State} {m : MethodId} {args : Array Value} {below : List Frame} {meth : Method} {c : Code} {G : PG} {Q : Int32 → PS → Prop} (C : pCx p s m args meth c G cX11_setOfVariables 3 yX11_setOfVariables.cls wsX11_setOfVariables) (hr : meth.sig.returnType = (some .int)) (hin : meth.name = yX11_setOfVariables.name) (hZ : pZa G)  (n : Nat) : ∀ (S : PS) (x0 : Nat) (x1 : Int32) (x2 : Int32), wpX11_setOfVariables_b4  Q n S x0 x1 x2 → PW p l e rmX11_setOfVariables s m args below meth c (MQ below (va_Qi Q (pB G) (pFr G)) args s rmX11_setOfVariables.cells rmX11_setOfVariables.slots (pFr G)) G 3 S 0 0 [(0, .ref (G.2.2 + x0)), (1, .int x1), (2, .int x2)] 4 ([]) := by
  induction n with
  | zero => intro S x0 x1 x2 h; exact h.elim
  | succ n ih =>
    intro S x0 x1 x2 h
    unfold wpX11_setOfVariables_b4 at h
    refine pw_iload_n (pc := 4) C 2 dX11_setOfVariables_4 rfl rfl ?_
    refine pw_bipush (pc := 5) (v := 7 ) C dX11_setOfVariables_5 (by decide) ?_
    refine pw_icmp_ge (pc := 7) (tgt := 30) C dX11_setOfVariables_7 rfl ⟨fun hc => ?_, fun hc => ?_⟩
    · replace h := h.1 hc
      refine pw_iload_n (pc := 30) C 1 dX11_setOfVariables_30 rfl rfl ?_
      exact pw_iret (pc := 31) C hr h dX11_setOfVariables_31
    · replace h := h.2 hc
      refine pw_aload_n (pc := 10) C 0 dX11_setOfVariables_10 rfl rfl ?_
      refine pw_iload_n (pc := 11) C 2 dX11_setOfVariables_11 rfl rfl ?_
      obtain ⟨hk1, h⟩ := h
      refine pw_calli (pc := 12) (kc2 := 0) (kn2 := 0) (rnX11_setOfVariables_12 C hZ _ x0 x2 _ hk1 h (Nat.le_of_ble_eq_true rfl)) rfl rfl (fun r2 S3 h => ?_)
      refine pw_if_eq (pc := 15) (tgt := 24) C dX11_setOfVariables_15 rfl ⟨fun hc => ?_, fun hc => ?_⟩
      · replace h := h.1 hc
        refine pw_iincK (pc := 24) (w := 1) C [(2, .int (x2 + 1)), (0, .ref (G.2.2 + x0)), (1, .int x1)] 2 dX11_setOfVariables_24 (by decide) rfl (by decide) rfl ?_
        refine pw_goto (pc := 27) (tgt := 4) C dX11_setOfVariables_27 rfl ?_
        refine pw_sub [1, 2, 0] (LV2 := [(0, .ref (G.2.2 + x0)), (1, .int x1), (2, .int (x2 + 1))]) rfl ?_
        exact ih _ _ _ _ h
      · replace h := h.2 hc
        refine pw_iload_n (pc := 18) C 1 dX11_setOfVariables_18 rfl rfl ?_
        refine pw_iconst (pc := 19) (v := 1 ) C dX11_setOfVariables_19 (by decide) ?_
        refine pw_iload_n (pc := 20) C 2 dX11_setOfVariables_20 rfl rfl ?_
        refine pw_ishl (pc := 21) C dX11_setOfVariables_21 ?_
        refine pw_ior (pc := 22) C dX11_setOfVariables_22 ?_
        refine pw_istore_n (pc := 23) C [(1, .int (x1 ||| ((1 : Int32) <<< (x2 &&& 31)))), (0, .ref (G.2.2 + x0)), (2, .int x2)] dX11_setOfVariables_23 rfl (by decide) rfl ?_
        refine pw_iincK (pc := 24) (w := 1) C [(2, .int (x2 + 1)), (1, .int (x1 ||| ((1 : Int32) <<< (x2 &&& 31)))), (0, .ref (G.2.2 + x0))] 2 dX11_setOfVariables_24 (by decide) rfl (by decide) rfl ?_
        refine pw_goto (pc := 27) (tgt := 4) C dX11_setOfVariables_27 rfl ?_
        refine pw_sub [2, 1, 0] (LV2 := [(0, .ref (G.2.2 + x0)), (1, .int (x1 ||| ((1 : Int32) <<< (x2 &&& 31)))), (2, .int (x2 + 1))]) rfl ?_
        exact ih _ _ _ _ h
set_option maxRecDepth 100000 in
set_option maxHeartbeats 4000000 in
theorem ctX11_setOfVariables (l : Launch) (G : PG) (hZ : pZa G) (S : PS) (x0 : Nat) (Q : Int32 → PS → Prop) (h : wpX11_setOfVariables S x0 Q) : mI l yX11_setOfVariables wsX11_setOfVariables rmX11_setOfVariables G S [.ref (G.2.2 + x0)] Q := by
  unfold mI
  refine met_of (cc := cX11_setOfVariables) (maxL := 3) (ret := (some .int)) (by decide) rfl (Nat.le_of_ble_eq_true rfl) ?_
  intro p e s m args below meth c C hr hin
  unfold wpX11_setOfVariables at h
  show PW p l e _ s m args below meth c _ G 3 S 0 0 [(0, .ref (G.2.2 + x0))] 0 []
  refine pw_iconst (pc := 0) (v := 0 ) C dX11_setOfVariables_0 (by decide) ?_
  refine pw_istore_n (pc := 1) C [(1, .int (0 : Int32)), (0, .ref (G.2.2 + x0))] dX11_setOfVariables_1 rfl (by decide) rfl ?_
  refine pw_iconst (pc := 2) (v := 0 ) C dX11_setOfVariables_2 (by decide) ?_
  refine pw_istore_n (pc := 3) C [(2, .int (0 : Int32)), (1, .int (0 : Int32)), (0, .ref (G.2.2 + x0))] dX11_setOfVariables_3 rfl (by decide) rfl ?_
  refine pw_sub [2, 1, 0] (LV2 := [(0, .ref (G.2.2 + x0)), (1, .int (0 : Int32)), (2, .int (0 : Int32))]) rfl ?_
  obtain ⟨n9, h⟩ := h
  exact cbX11_setOfVariables_b4 C hr hin hZ  n9 _ _ _ _ h

abbrev rmX11_factsWithReason : Room := { frames := 1, cells := 0, slots := 0, locals := 21 }
theorem iX11_factsWithReason_X11 : ∀ w ∈ u_ws RX11 TX11 9, w ∈ wsX11_factsWithReason := by decide +kernel
theorem iX11_factsWithReason_X3 : ∀ w ∈ u_ws RX3 TX3 7, w ∈ wsX11_factsWithReason := fun _ h => List.mem_cons_of_mem _ (List.mem_append_right _ h)
theorem iX11_factsWithReason_X9 : ∀ w ∈ u_ws RX9 TX9 6, w ∈ wsX11_factsWithReason := by decide +kernel
def wpX11_factsWithReason_b4  (Q : Int32 → PS → Prop) : Nat → PS → Nat → Int32 → Int32 → Int32 → Prop
  | 0 => fun _ _ _ _ _ => False
  | n + 1 => fun S x0 x1 x2 x3 => (pK S x0 = 10 ∧ (∃ o2, pR S x0 1 = some o2 ∧ (pK S o2 = 8 ∧ (((pI S o2 3) ≤ x3 → (Q x2 S)) ∧ (¬ (pI S o2 3) ≤ x3 → (wpX9_factAt S o2 x3 (fun r4 S5 => ((r4 = none → (wpX11_factsWithReason_b4 Q n S5 x0 x1 x2 (x3 + 1))) ∧ (∀ o6, r4 = some o6 → (pK S5 o6 = 3 ∧ ((¬ (pI S5 o6 2) = x1 → (wpX11_factsWithReason_b4 Q n S5 x0 x1 x2 (x3 + 1))) ∧ ((pI S5 o6 2) = x1 → (wpX11_factsWithReason_b4 Q n S5 x0 x1 (x2 + 1) (x3 + 1))))))))))))))
def wpX11_factsWithReason (S : PS) (x0 : Nat) (x1 : Int32) (Q : Int32 → PS → Prop) : Prop := (∃ n9 : Nat, wpX11_factsWithReason_b4 Q n9 S x0 x1 (0 : Int32) (0 : Int32))
set_option maxRecDepth 100000 in
set_option maxHeartbeats 4000000 in
theorem cbX11_factsWithReason_b4 {p : Program} {l : Launch} {e : Env} {s : State} {m : MethodId} {args : Array Value} {below : List Frame} {meth : Method} {c : Code} {G : PG} {Q : Int32 → PS → Prop} (C : pCx p s m args meth c G cX11_factsWithReason 5 yX11_factsWithReason.cls wsX11_factsWithReason) (hr : meth.sig.returnType = (some .int)) (hin : meth.name = yX11_factsWithReason.name) (hZ : pZa G)  (n : Nat) : ∀ (S : PS) (x0 : Nat) (x1 : Int32) (x2 : Int32) (x3 : Int32), wpX11_factsWithReason_b4  Q n S x0 x1 x2 x3 → PW p l e rmX11_factsWithReason s m args below meth c (MQ below (va_Qi Q (pB G) (pFr G)) args s rmX11_factsWithReason.cells rmX11_factsWithReason.slots (pFr G)) G 5 S 0 0 [(0, .ref (G.2.2 + x0)), (1, .int x1), (2, .int x2), (3, .int x3)] 4 ([]) := by
  induction n with
  | zero => intro S x0 x1 x2 x3 h; exact h.elim
  | succ n ih =>
    intro S x0 x1 x2 x3 h
    unfold wpX11_factsWithReason_b4 at h
    refine pw_iload_n (pc := 4) C 3 dX11_factsWithReason_4 rfl rfl ?_
    refine pw_aload_n (pc := 5) C 0 dX11_factsWithReason_5 rfl rfl ?_
    obtain ⟨hk1, h⟩ := h
    obtain ⟨o2, ho2, h⟩ := h
    refine pw_getR (pc := 6) (ref := "SupportSolver") (k := 1) (index := 19) C pCl9 iX11_factsWithReason_X11 hk1 rfl (by decide +kernel) (Or.inl rfl) (o := o2) ho2 dX11_factsWithReason_6 ?_
    obtain ⟨hk3, h⟩ := h
    refine pw_getI (pc := 9) (ref := "SupportSolver$Trail") (k := 3) (index := 111) C pCl7 iX11_factsWithReason_X9 hk3 rfl (by decide +kernel) (Or.inl rfl) dX11_factsWithReason_9 ?_
    refine pw_icmp_ge (pc := 12) (tgt := 48) C dX11_factsWithReason_12 rfl ⟨fun hc => ?_, fun hc => ?_⟩
    · replace h := h.1 hc
      refine pw_iload_n (pc := 48) C 2 dX11_factsWithReason_48 rfl rfl ?_
      exact pw_iret (pc := 49) C hr h dX11_factsWithReason_49
    · replace h := h.2 hc
      refine pw_aload_n (pc := 15) C 0 dX11_factsWithReason_15 rfl rfl ?_
      refine pw_getR (pc := 16) (ref := "SupportSolver") (k := 1) (index := 19) C pCl9 iX11_factsWithReason_X11 hk1 rfl (by decide +kernel) (Or.inl rfl) (o := o2) ho2 dX11_factsWithReason_16 ?_
      refine pw_iload_n (pc := 19) C 3 dX11_factsWithReason_19 rfl rfl ?_
      refine pw_callq (pc := 20) (kc2 := 0) (kn2 := 0) (pRunV (pc := 20) C (ctX9_factAt l G hZ  _ o2 x3 _ h) (cwV 1 C.2.2.2.2.1 gX11_factsWithReason_X9_factAt rfl rfl rfl (by decide +kernel) ⟨Nat.le_of_ble_eq_true rfl, Nat.le_of_ble_eq_true rfl⟩) pCl7 hk3 rfl rfl (Nat.le_of_ble_eq_true rfl) dX11_factsWithReason_20 ⟨Nat.le_of_ble_eq_true rfl, Nat.le_of_ble_eq_true rfl⟩) rfl rfl (fun r4 S5 h => ?_)
      cases hqr4 : r4 with
      | none =>
        replace h := h.1 hqr4
        show PW p l e _ s m args below meth c _ G _ S5 _ _ _ _ (.null :: [])
        refine pw_astoreN (pc := 23) C [(4, .null), (0, .ref (G.2.2 + x0)), (1, .int x1), (2, .int x2), (3, .int x3)] dX11_factsWithReason_23 (by decide) rfl ?_
        refine pw_aloadN (pc := 25) C 0 dX11_factsWithReason_25 rfl ?_
        refine pw_ifnull_n (pc := 27) (tgt := 42) C dX11_factsWithReason_27 rfl ?_
        refine pw_iincK (pc := 42) (w := 1) C [(3, .int (x3 + 1)), (4, .null), (0, .ref (G.2.2 + x0)), (1, .int x1), (2, .int x2)] 4 dX11_factsWithReason_42 (by decide) rfl (by decide) rfl ?_
        refine pw_goto (pc := 45) (tgt := 4) C dX11_factsWithReason_45 rfl ?_
        refine pw_sub [2, 3, 4, 0] (LV2 := [(0, .ref (G.2.2 + x0)), (1, .int x1), (2, .int x2), (3, .int (x3 + 1))]) rfl ?_
        exact ih _ _ _ _ _ h
      | some o6 =>
        replace h := h.2 o6 hqr4
        show PW p l e _ s m args below meth c _ G _ S5 _ _ _ _ (.ref (G.2.2 + o6) :: [])
        refine pw_astore (pc := 23) C [(4, .ref (G.2.2 + o6)), (0, .ref (G.2.2 + x0)), (1, .int x1), (2, .int x2), (3, .int x3)] dX11_factsWithReason_23 (by decide) rfl ?_
        refine pw_aload (pc := 25) C 0 dX11_factsWithReason_25 rfl ?_
        refine pw_ifnull_r (pc := 27) C dX11_factsWithReason_27 ?_
        refine pw_aload (pc := 30) C 0 dX11_factsWithReason_30 rfl ?_
        obtain ⟨hk7, h⟩ := h
        refine pw_getI (pc := 32) (ref := "SupportSolver$Fact") (k := 2) (index := 185) C pCl2 iX11_factsWithReason_X3 hk7 rfl (by decide +kernel) (Or.inl rfl) dX11_factsWithReason_32 ?_
        refine pw_iload_n (pc := 35) C 2 dX11_factsWithReason_35 rfl rfl ?_
        refine pw_icmp_ne (pc := 36) (tgt := 42) C dX11_factsWithReason_36 rfl ⟨fun hc => ?_, fun hc => ?_⟩
        · replace h := h.1 hc
          refine pw_iincK (pc := 42) (w := 1) C [(3, .int (x3 + 1)), (4, .ref (G.2.2 + o6)), (0, .ref (G.2.2 + x0)), (1, .int x1), (2, .int x2)] 4 dX11_factsWithReason_42 (by decide) rfl (by decide) rfl ?_
          refine pw_goto (pc := 45) (tgt := 4) C dX11_factsWithReason_45 rfl ?_
          refine pw_sub [2, 3, 4, 0] (LV2 := [(0, .ref (G.2.2 + x0)), (1, .int x1), (2, .int x2), (3, .int (x3 + 1))]) rfl ?_
          exact ih _ _ _ _ _ h
        · replace h := h.2 hc
          refine pw_iincK (pc := 39) (w := 1) C [(2, .int (x2 + 1)), (4, .ref (G.2.2 + o6)), (0, .ref (G.2.2 + x0)), (1, .int x1), (3, .int x3)] 3 dX11_factsWithReason_39 (by decide) rfl (by decide) rfl ?_
          refine pw_iincK (pc := 42) (w := 1) C [(3, .int (x3 + 1)), (2, .int (x2 + 1)), (4, .ref (G.2.2 + o6)), (0, .ref (G.2.2 + x0)), (1, .int x1)] 4 dX11_factsWithReason_42 (by decide) rfl (by decide) rfl ?_
          refine pw_goto (pc := 45) (tgt := 4) C dX11_factsWithReason_45 rfl ?_
          refine pw_sub [3, 4, 1, 0] (LV2 := [(0, .ref (G.2.2 + x0)), (1, .int x1), (2, .int (x2 + 1)), (3, .int (x3 + 1))]) rfl ?_
          exact ih _ _ _ _ _ h
set_option maxRecDepth 100000 in
set_option maxHeartbeats 4000000 in
theorem ctX11_factsWithReason (l : Launch) (G : PG) (hZ : pZa G) (S : PS) (x0 : Nat) (x1 : Int32) (Q : Int32 → PS → Prop) (h : wpX11_factsWithReason S x0 x1 Q) : mI l yX11_factsWithReason wsX11_factsWithReason rmX11_factsWithReason G S [.ref (G.2.2 + x0), .int x1] Q := by
  unfold mI
  refine met_of (cc := cX11_factsWithReason) (maxL := 5) (ret := (some .int)) (by decide) rfl (Nat.le_of_ble_eq_true rfl) ?_
  intro p e s m args below meth c C hr hin
  unfold wpX11_factsWithReason at h
  show PW p l e _ s m args below meth c _ G 5 S 0 0 [(0, .ref (G.2.2 + x0)), (1, .int x1)] 0 []
  refine pw_iconst (pc := 0) (v := 0 ) C dX11_factsWithReason_0 (by decide) ?_
  refine pw_istore_n (pc := 1) C [(2, .int (0 : Int32)), (0, .ref (G.2.2 + x0)), (1, .int x1)] dX11_factsWithReason_1 rfl (by decide) rfl ?_
  refine pw_iconst (pc := 2) (v := 0 ) C dX11_factsWithReason_2 (by decide) ?_
  refine pw_istore_n (pc := 3) C [(3, .int (0 : Int32)), (2, .int (0 : Int32)), (0, .ref (G.2.2 + x0)), (1, .int x1)] dX11_factsWithReason_3 rfl (by decide) rfl ?_
  refine pw_sub [2, 3, 1, 0] (LV2 := [(0, .ref (G.2.2 + x0)), (1, .int x1), (2, .int (0 : Int32)), (3, .int (0 : Int32))]) rfl ?_
  obtain ⟨n9, h⟩ := h
  exact cbX11_factsWithReason_b4 C hr hin hZ  n9 _ _ _ _ _ h

abbrev rmX11_constraint : Room := { frames := 6, cells := 1, slots := 6, locals := 90 }
theorem iX11_constraint_X0 : ∀ w ∈ u_ws RX0 TX0 4, w ∈ wsX11_constraint := by decide +kernel
theorem iX11_constraint_X10 : ∀ w ∈ u_ws RX10 TX10 8, w ∈ wsX11_constraint := by decide +kernel
theorem iX11_constraint_X11 : ∀ w ∈ u_ws RX11 TX11 9, w ∈ wsX11_constraint := by decide +kernel
theorem iX11_constraint_X2 : ∀ w ∈ u_ws RX2 TX2 7, w ∈ wsX11_constraint := by decide +kernel
theorem iX11_constraint_X4 : ∀ w ∈ u_ws RX4 TX4 5, w ∈ wsX11_constraint := by decide +kernel
def wpX11_constraint (S : PS) (x0 : Nat) (x1 : Int32) (x2 : Int32) (Q : Int32 → PS → Prop) (X : String → PS → Prop) : Prop := (pK S x0 = 10 ∧ (∃ o2, pR S x0 6 = some o2 ∧ (pK S o2 = 5 ∧ (wpX6_constraintAt S o2 x1 (fun r4 S5 => ((r4 = none → (∀ n, X "java/lang/IndexOutOfBoundsException" (sSkip S5 n))) ∧ (∀ o6, r4 = some o6 → ((x2 = 0 → (pC4 S5 o6 ∧ (Q (pI S5 o6 0) S5))) ∧ (x2 = 1 → (pC4 S5 o6 ∧ (Q (pI S5 o6 1) S5))) ∧ (x2 = 2 → (wpX11_setOfVariables S5 o6 (fun r9 S10 => (Q r9 S10)))) ∧ (x2 = 3 → (pK S5 x0 = 10 ∧ (wpX11_factsWithReason S5 x0 x1 (fun r12 S13 => (Q r12 S13))))) ∧ ((¬ x2 = 0 ∧ ¬ x2 = 1 ∧ ¬ x2 = 2 ∧ ¬ x2 = 3) → (∀ n, X "java/lang/IllegalArgumentException" (sSkip S5 n)))))))))))
set_option maxRecDepth 100000 in
set_option maxHeartbeats 4000000 in
theorem ctX11_constraint (l : Launch) (G : PG) (hZ : pZa G) (hl : l.stackTraces = false) (S : PS) (x0 : Nat) (x1 : Int32) (x2 : Int32) (Q : Int32 → PS → Prop) (X : String → PS → Prop) (h : wpX11_constraint S x0 x1 x2 Q X) : mXI l yX11_constraint wsX11_constraint rmX11_constraint G S [.ref (G.2.2 + x0), .int x1, .int x2] Q X := by
  unfold mXI
  refine met_ofX (cc := cX11_constraint) (maxL := 4) (ret := (some .int)) (by decide) rfl (Nat.le_of_ble_eq_true rfl) ?_
  intro p e s m args below meth c C hout hr hin
  unfold wpX11_constraint at h
  show PW p l e _ s m args below meth c _ G 4 S 0 0 [(0, .ref (G.2.2 + x0)), (1, .int x1), (2, .int x2)] 0 []
  refine pw_aload_n (pc := 0) C 0 dX11_constraint_0 rfl rfl ?_
  obtain ⟨hk1, h⟩ := h
  obtain ⟨o2, ho2, h⟩ := h
  refine pw_getR (pc := 1) (ref := "SupportSolver") (k := 6) (index := 47) C pCl9 iX11_constraint_X11 hk1 rfl (by decide +kernel) (Or.inl rfl) (o := o2) ho2 dX11_constraint_1 ?_
  refine pw_iload_n (pc := 4) C 1 dX11_constraint_4 rfl rfl ?_
  obtain ⟨hk3, h⟩ := h
  refine pw_callq (pc := 5) (kc2 := 0) (kn2 := 0) (pRunV (pc := 5) C (ctX6_constraintAt l G hZ  _ o2 x1 _ h) (cwV 1 C.2.2.2.2.1 gX11_constraint_X6_constraintAt rfl rfl rfl (by decide +kernel) ⟨Nat.le_of_ble_eq_true rfl, Nat.le_of_ble_eq_true rfl⟩) pCl4 hk3 rfl rfl (Nat.le_of_ble_eq_true rfl) dX11_constraint_5 ⟨Nat.le_of_ble_eq_true rfl, Nat.le_of_ble_eq_true rfl⟩) rfl rfl (fun r4 S5 h => ?_)
  cases hqr4 : r4 with
  | none =>
    replace h := h.1 hqr4
    show PW p l e _ s m args below meth c _ G _ S5 _ _ _ _ (.null :: [])
    refine pw_astore_nN (pc := 8) C [(3, .null), (0, .ref (G.2.2 + x0)), (1, .int x1), (2, .int x2)] dX11_constraint_8 rfl (by decide) rfl ?_
    refine pw_aload_nN (pc := 9) C 0 dX11_constraint_9 rfl rfl ?_
    refine pw_ifnonnull_n (pc := 10) C dX11_constraint_10 ?_
    exact pw_throwS (pc := 13) (mc := 1) (ms := 6) C hl (hZ.2.2.2.2.2.2.2.2.2.2.2.2.2.2.2.2.2.2.2.2.2.2.2.2.2.2.2.2.2.2.2.2.2.2.2.2.1) (by decide +kernel) (by decide +kernel) (by decide +kernel) hout dX11_constraint_13 dX11_constraint_16 dX11_constraint_17 dX11_constraint_19 dX11_constraint_22 (by decide) (Nat.le_of_ble_eq_true rfl) (Nat.le_of_ble_eq_true rfl) (Nat.le_of_ble_eq_true rfl) (Nat.le_of_ble_eq_true rfl) (Nat.le_of_ble_eq_true rfl) h
  | some o6 =>
    replace h := h.2 o6 hqr4
    show PW p l e _ s m args below meth c _ G _ S5 _ _ _ _ (.ref (G.2.2 + o6) :: [])
    refine pw_astore_n (pc := 8) C [(3, .ref (G.2.2 + o6)), (0, .ref (G.2.2 + x0)), (1, .int x1), (2, .int x2)] dX11_constraint_8 rfl (by decide) rfl ?_
    refine pw_aload_n (pc := 9) C 0 dX11_constraint_9 rfl rfl ?_
    refine pw_ifnonnull_r (pc := 10) (tgt := 23) C dX11_constraint_10 rfl ?_
    refine pw_iload_n (pc := 23) C 3 dX11_constraint_23 rfl rfl ?_
    by_cases hc0 : x2 = 0
    · replace h := h.1 hc0
      refine pw_tableIn (pc := 24) (tgt := 56) C dX11_constraint_24 (by rw [hc0]; decide) (by rw [hc0]; decide) (by rw [hc0]; rfl) rfl ?_
      refine pw_aload_n (pc := 56) C 0 dX11_constraint_56 rfl rfl ?_
      obtain ⟨hk7, h⟩ := h
      refine pw_getCI (pc := 57) (k := 0) (index := 165) C hk7 iX11_constraint_X0 iX11_constraint_X2 iX11_constraint_X4 iX11_constraint_X10 (by decide) (by decide +kernel) dX11_constraint_57 ?_
      refine pw_widen (k2 := 1) (n2 := 6) (Nat.le_of_ble_eq_true rfl) (Nat.le_of_ble_eq_true rfl) ?_
      refine pw_xret ?_
      exact pw_iret (pc := 60) C hr h dX11_constraint_60
    by_cases hc1 : x2 = 1
    · replace h := h.2.1 hc1
      refine pw_tableIn (pc := 24) (tgt := 61) C dX11_constraint_24 (by rw [hc1]; decide) (by rw [hc1]; decide) (by rw [hc1]; rfl) rfl ?_
      refine pw_aload_n (pc := 61) C 0 dX11_constraint_61 rfl rfl ?_
      obtain ⟨hk8, h⟩ := h
      refine pw_getCI (pc := 62) (k := 1) (index := 170) C hk8 iX11_constraint_X0 iX11_constraint_X2 iX11_constraint_X4 iX11_constraint_X10 (by decide) (by decide +kernel) dX11_constraint_62 ?_
      refine pw_widen (k2 := 1) (n2 := 6) (Nat.le_of_ble_eq_true rfl) (Nat.le_of_ble_eq_true rfl) ?_
      refine pw_xret ?_
      exact pw_iret (pc := 65) C hr h dX11_constraint_65
    by_cases hc2 : x2 = 2
    · replace h := h.2.2.1 hc2
      refine pw_tableIn (pc := 24) (tgt := 66) C dX11_constraint_24 (by rw [hc2]; decide) (by rw [hc2]; decide) (by rw [hc2]; rfl) rfl ?_
      refine pw_aload_n (pc := 66) C 0 dX11_constraint_66 rfl rfl ?_
      refine pw_calli (pc := 67) (kc2 := 0) (kn2 := 0) (pRunS (pc := 67) C (ctX11_setOfVariables l G hZ  _ o6 _ h) (va_cwS 1 C.2.2.2.2.1 gX11_constraint_X11_setOfVariables rfl rfl rfl (by decide +kernel) ⟨Nat.le_of_ble_eq_true rfl, Nat.le_of_ble_eq_true rfl⟩) rfl rfl (Nat.le_of_ble_eq_true rfl) dX11_constraint_67 ⟨Nat.le_of_ble_eq_true rfl, Nat.le_of_ble_eq_true rfl⟩) rfl rfl (fun r9 S10 h => ?_)
      refine pw_widen (k2 := 1) (n2 := 6) (Nat.le_of_ble_eq_true rfl) (Nat.le_of_ble_eq_true rfl) ?_
      refine pw_xret ?_
      exact pw_iret (pc := 70) C hr h dX11_constraint_70
    by_cases hc3 : x2 = 3
    · replace h := h.2.2.2.1 hc3
      refine pw_tableIn (pc := 24) (tgt := 71) C dX11_constraint_24 (by rw [hc3]; decide) (by rw [hc3]; decide) (by rw [hc3]; rfl) rfl ?_
      refine pw_aload_n (pc := 71) C 1 dX11_constraint_71 rfl rfl ?_
      refine pw_iload_n (pc := 72) C 2 dX11_constraint_72 rfl rfl ?_
      obtain ⟨hk11, h⟩ := h
      refine pw_calli (pc := 73) (kc2 := 0) (kn2 := 0) (pRunV (pc := 73) C (ctX11_factsWithReason l G hZ  _ x0 x1 _ h) (cwV 1 C.2.2.2.2.1 gX11_constraint_X11_factsWithReason rfl rfl rfl (by decide +kernel) ⟨Nat.le_of_ble_eq_true rfl, Nat.le_of_ble_eq_true rfl⟩) pCl9 hk11 rfl rfl (Nat.le_of_ble_eq_true rfl) dX11_constraint_73 ⟨Nat.le_of_ble_eq_true rfl, Nat.le_of_ble_eq_true rfl⟩) rfl rfl (fun r12 S13 h => ?_)
      refine pw_widen (k2 := 1) (n2 := 6) (Nat.le_of_ble_eq_true rfl) (Nat.le_of_ble_eq_true rfl) ?_
      refine pw_xret ?_
      exact pw_iret (pc := 76) C hr h dX11_constraint_76
    replace h := h.2.2.2.2 ⟨hc0, hc1, hc2, hc3⟩
    refine pw_tableOut (pc := 24) (tgt := 77) C dX11_constraint_24 (sw_out (x2) 0 3 (fun (j : Int) h1 h2 => Or.elim (show j = 0 ∨ j = 1 ∨ j = 2 ∨ j = 3 by omega) (fun q => by subst q; exact lv_neT hc0 (by decide)) (fun q => q.elim (fun q => by subst q; exact lv_neT hc1 (by decide)) (fun q => q.elim (fun q => by subst q; exact lv_neT hc2 (by decide)) (fun q => by subst q; exact lv_neT hc3 (by decide)))))) rfl ?_
    exact pw_throwS (pc := 77) (mc := 1) (ms := 6) C hl (hZ.2.2.2.2.2.2.2.2.2.2.2.2.2.2.2.2.2.2.2.2.2.2.2.2.2.2.2.2.2.2.2.2.2.2.1) (by decide +kernel) (by decide +kernel) (by decide +kernel) hout dX11_constraint_77 dX11_constraint_80 dX11_constraint_81 dX11_constraint_83 dX11_constraint_86 (by decide) (Nat.le_of_ble_eq_true rfl) (Nat.le_of_ble_eq_true rfl) (Nat.le_of_ble_eq_true rfl) (Nat.le_of_ble_eq_true rfl) (Nat.le_of_ble_eq_true rfl) h

abbrev rmX11_fact : Room := { frames := 6, cells := 1, slots := 6, locals := 90 }
theorem iX11_fact_X11 : ∀ w ∈ u_ws RX11 TX11 9, w ∈ wsX11_fact := by decide +kernel
theorem iX11_fact_X3 : ∀ w ∈ u_ws RX3 TX3 7, w ∈ wsX11_fact := by decide +kernel
def wpX11_fact (S : PS) (x0 : Nat) (x1 : Int32) (x2 : Int32) (Q : Int32 → PS → Prop) (X : String → PS → Prop) : Prop := (pK S x0 = 10 ∧ (∃ o2, pR S x0 1 = some o2 ∧ (pK S o2 = 8 ∧ (wpX9_factAt S o2 x1 (fun r4 S5 => ((r4 = none → (∀ n, X "java/lang/IndexOutOfBoundsException" (sSkip S5 n))) ∧ (∀ o6, r4 = some o6 → ((x2 = 0 → (pK S5 o6 = 3 ∧ (Q (pI S5 o6 0) S5))) ∧ (x2 = 1 → (pK S5 o6 = 3 ∧ (Q (pI S5 o6 1) S5))) ∧ (x2 = 2 → (pK S5 o6 = 3 ∧ (Q (pI S5 o6 2) S5))) ∧ (x2 = 3 → (pK S5 o6 = 3 ∧ (Q (pI S5 o6 3) S5))) ∧ ((¬ x2 = 0 ∧ ¬ x2 = 1 ∧ ¬ x2 = 2 ∧ ¬ x2 = 3) → (∀ n, X "java/lang/IllegalArgumentException" (sSkip S5 n)))))))))))
set_option maxRecDepth 100000 in
set_option maxHeartbeats 4000000 in
theorem ctX11_fact (l : Launch) (G : PG) (hZ : pZa G) (hl : l.stackTraces = false) (S : PS) (x0 : Nat) (x1 : Int32) (x2 : Int32) (Q : Int32 → PS → Prop) (X : String → PS → Prop) (h : wpX11_fact S x0 x1 x2 Q X) : mXI l yX11_fact wsX11_fact rmX11_fact G S [.ref (G.2.2 + x0), .int x1, .int x2] Q X := by
  unfold mXI
  refine met_ofX (cc := cX11_fact) (maxL := 4) (ret := (some .int)) (by decide) rfl (Nat.le_of_ble_eq_true rfl) ?_
  intro p e s m args below meth c C hout hr hin
  unfold wpX11_fact at h
  show PW p l e _ s m args below meth c _ G 4 S 0 0 [(0, .ref (G.2.2 + x0)), (1, .int x1), (2, .int x2)] 0 []
  refine pw_aload_n (pc := 0) C 0 dX11_fact_0 rfl rfl ?_
  obtain ⟨hk1, h⟩ := h
  obtain ⟨o2, ho2, h⟩ := h
  refine pw_getR (pc := 1) (ref := "SupportSolver") (k := 1) (index := 19) C pCl9 iX11_fact_X11 hk1 rfl (by decide +kernel) (Or.inl rfl) (o := o2) ho2 dX11_fact_1 ?_
  refine pw_iload_n (pc := 4) C 1 dX11_fact_4 rfl rfl ?_
  obtain ⟨hk3, h⟩ := h
  refine pw_callq (pc := 5) (kc2 := 0) (kn2 := 0) (pRunV (pc := 5) C (ctX9_factAt l G hZ  _ o2 x1 _ h) (cwV 1 C.2.2.2.2.1 gX11_fact_X9_factAt rfl rfl rfl (by decide +kernel) ⟨Nat.le_of_ble_eq_true rfl, Nat.le_of_ble_eq_true rfl⟩) pCl7 hk3 rfl rfl (Nat.le_of_ble_eq_true rfl) dX11_fact_5 ⟨Nat.le_of_ble_eq_true rfl, Nat.le_of_ble_eq_true rfl⟩) rfl rfl (fun r4 S5 h => ?_)
  cases hqr4 : r4 with
  | none =>
    replace h := h.1 hqr4
    show PW p l e _ s m args below meth c _ G _ S5 _ _ _ _ (.null :: [])
    refine pw_astore_nN (pc := 8) C [(3, .null), (0, .ref (G.2.2 + x0)), (1, .int x1), (2, .int x2)] dX11_fact_8 rfl (by decide) rfl ?_
    refine pw_aload_nN (pc := 9) C 0 dX11_fact_9 rfl rfl ?_
    refine pw_ifnonnull_n (pc := 10) C dX11_fact_10 ?_
    exact pw_throwS (pc := 13) (mc := 1) (ms := 6) C hl (hZ.2.2.2.2.2.2.2.2.2.2.2.2.2.2.2.2.2.2.2.2.2.2.2.2.2.2.2.2.2.2.2.2.2.2.2.2.2.1) (by decide +kernel) (by decide +kernel) (by decide +kernel) hout dX11_fact_13 dX11_fact_16 dX11_fact_17 dX11_fact_19 dX11_fact_22 (by decide) (Nat.le_of_ble_eq_true rfl) (Nat.le_of_ble_eq_true rfl) (Nat.le_of_ble_eq_true rfl) (Nat.le_of_ble_eq_true rfl) (Nat.le_of_ble_eq_true rfl) h
  | some o6 =>
    replace h := h.2 o6 hqr4
    show PW p l e _ s m args below meth c _ G _ S5 _ _ _ _ (.ref (G.2.2 + o6) :: [])
    refine pw_astore_n (pc := 8) C [(3, .ref (G.2.2 + o6)), (0, .ref (G.2.2 + x0)), (1, .int x1), (2, .int x2)] dX11_fact_8 rfl (by decide) rfl ?_
    refine pw_aload_n (pc := 9) C 0 dX11_fact_9 rfl rfl ?_
    refine pw_ifnonnull_r (pc := 10) (tgt := 23) C dX11_fact_10 rfl ?_
    refine pw_iload_n (pc := 23) C 3 dX11_fact_23 rfl rfl ?_
    by_cases hc0 : x2 = 0
    · replace h := h.1 hc0
      refine pw_tableIn (pc := 24) (tgt := 56) C dX11_fact_24 (by rw [hc0]; decide) (by rw [hc0]; decide) (by rw [hc0]; rfl) rfl ?_
      refine pw_aload_n (pc := 56) C 0 dX11_fact_56 rfl rfl ?_
      obtain ⟨hk7, h⟩ := h
      refine pw_getI (pc := 57) (ref := "SupportSolver$Fact") (k := 0) (index := 192) C pCl2 iX11_fact_X3 hk7 rfl (by decide +kernel) (Or.inl rfl) dX11_fact_57 ?_
      refine pw_widen (k2 := 1) (n2 := 6) (Nat.le_of_ble_eq_true rfl) (Nat.le_of_ble_eq_true rfl) ?_
      refine pw_xret ?_
      exact pw_iret (pc := 60) C hr h dX11_fact_60
    by_cases hc1 : x2 = 1
    · replace h := h.2.1 hc1
      refine pw_tableIn (pc := 24) (tgt := 61) C dX11_fact_24 (by rw [hc1]; decide) (by rw [hc1]; decide) (by rw [hc1]; rfl) rfl ?_
      refine pw_aload_n (pc := 61) C 0 dX11_fact_61 rfl rfl ?_
      obtain ⟨hk8, h⟩ := h
      refine pw_getI (pc := 62) (ref := "SupportSolver$Fact") (k := 1) (index := 195) C pCl2 iX11_fact_X3 hk8 rfl (by decide +kernel) (Or.inl rfl) dX11_fact_62 ?_
      refine pw_widen (k2 := 1) (n2 := 6) (Nat.le_of_ble_eq_true rfl) (Nat.le_of_ble_eq_true rfl) ?_
      refine pw_xret ?_
      exact pw_iret (pc := 65) C hr h dX11_fact_65
    by_cases hc2 : x2 = 2
    · replace h := h.2.2.1 hc2
      refine pw_tableIn (pc := 24) (tgt := 66) C dX11_fact_24 (by rw [hc2]; decide) (by rw [hc2]; decide) (by rw [hc2]; rfl) rfl ?_
      refine pw_aload_n (pc := 66) C 0 dX11_fact_66 rfl rfl ?_
      obtain ⟨hk9, h⟩ := h
      refine pw_getI (pc := 67) (ref := "SupportSolver$Fact") (k := 2) (index := 185) C pCl2 iX11_fact_X3 hk9 rfl (by decide +kernel) (Or.inl rfl) dX11_fact_67 ?_
      refine pw_widen (k2 := 1) (n2 := 6) (Nat.le_of_ble_eq_true rfl) (Nat.le_of_ble_eq_true rfl) ?_
      refine pw_xret ?_
      exact pw_iret (pc := 70) C hr h dX11_fact_70
    by_cases hc3 : x2 = 3
    · replace h := h.2.2.2.1 hc3
      refine pw_tableIn (pc := 24) (tgt := 71) C dX11_fact_24 (by rw [hc3]; decide) (by rw [hc3]; decide) (by rw [hc3]; rfl) rfl ?_
      refine pw_aload_n (pc := 71) C 0 dX11_fact_71 rfl rfl ?_
      obtain ⟨hk10, h⟩ := h
      refine pw_getI (pc := 72) (ref := "SupportSolver$Fact") (k := 3) (index := 198) C pCl2 iX11_fact_X3 hk10 rfl (by decide +kernel) (Or.inl rfl) dX11_fact_72 ?_
      refine pw_widen (k2 := 1) (n2 := 6) (Nat.le_of_ble_eq_true rfl) (Nat.le_of_ble_eq_true rfl) ?_
      refine pw_xret ?_
      exact pw_iret (pc := 75) C hr h dX11_fact_75
    replace h := h.2.2.2.2 ⟨hc0, hc1, hc2, hc3⟩
    refine pw_tableOut (pc := 24) (tgt := 76) C dX11_fact_24 (sw_out (x2) 0 3 (fun (j : Int) h1 h2 => Or.elim (show j = 0 ∨ j = 1 ∨ j = 2 ∨ j = 3 by omega) (fun q => by subst q; exact lv_neT hc0 (by decide)) (fun q => q.elim (fun q => by subst q; exact lv_neT hc1 (by decide)) (fun q => q.elim (fun q => by subst q; exact lv_neT hc2 (by decide)) (fun q => by subst q; exact lv_neT hc3 (by decide)))))) rfl ?_
    exact pw_throwS (pc := 76) (mc := 1) (ms := 6) C hl (hZ.2.2.2.2.2.2.2.2.2.2.2.2.2.2.2.2.2.2.2.2.2.2.2.2.2.2.2.2.2.2.2.2.2.2.1) (by decide +kernel) (by decide +kernel) (by decide +kernel) hout dX11_fact_76 dX11_fact_79 dX11_fact_80 dX11_fact_82 dX11_fact_85 (by decide) (Nat.le_of_ble_eq_true rfl) (Nat.le_of_ble_eq_true rfl) (Nat.le_of_ble_eq_true rfl) (Nat.le_of_ble_eq_true rfl) (Nat.le_of_ble_eq_true rfl) h

abbrev rmX11_factOf : Room := { frames := 6, cells := 1, slots := 6, locals := 90 }
theorem iX11_factOf_X11 : ∀ w ∈ u_ws RX11 TX11 9, w ∈ wsQ_factOf := by decide +kernel
theorem iX11_factOf_X9 : ∀ w ∈ u_ws RX9 TX9 6, w ∈ wsQ_factOf := by decide +kernel
def wpX11_factOf_b44  (Q : Int32 → PS → Prop) (X : String → PS → Prop) : Nat → PS → Nat → Int32 → Int32 → Int64 → Int32 → Prop
  | 0 => fun _ _ _ _ _ _ => False
  | n + 1 => fun S x0 x1 x2 x3 x5 => (pK S x0 = 10 ∧ (∃ o2, pR S x0 1 = some o2 ∧ (pK S o2 = 8 ∧ (((pI S o2 3) ≤ x5 → (∀ n, X "java/util/NoSuchElementException" (sSkip S n))) ∧ (¬ (pI S o2 3) ≤ x5 → (wpX9_pairAt S o2 x5 (fun r4 S5 => ((¬ (lg_cmp r4 x3) = 0 → (wpX11_factOf_b44 Q X n S5 x0 x1 x2 x3 (x5 + 1))) ∧ ((lg_cmp r4 x3) = 0 → (Q x5 S5))))))))))
def wpX11_factOf (S : PS) (x0 : Nat) (x1 : Int32) (x2 : Int32) (Q : Int32 → PS → Prop) (X : String → PS → Prop) : Prop := (pK S x0 = 10 ∧ (wpX11_isVariable S x0 x1 (fun r7 S8 => ((¬ r7 = 0 → (wpX11_isValue S8 x2 (fun r9 S10 => ((¬ r9 = 0 → (wpX5_pair S10 x1 x2 (fun r11 S12 => (∃ n9 : Nat, wpX11_factOf_b44 Q X n9 S12 x0 x1 x2 r11 (0 : Int32))))) ∧ (r9 = 0 → (∀ n, X "java/lang/IllegalArgumentException" (sSkip S10 n))))))) ∧ (r7 = 0 → (∀ n, X "java/lang/IndexOutOfBoundsException" (sSkip S8 n)))))))
set_option maxRecDepth 100000 in
set_option maxHeartbeats 4000000 in
theorem cbX11_factOf_b44 {p : Program} {l : Launch} {e : Env} {s : State} {m : MethodId} {args : Array Value} {below : List Frame} {meth : Method} {c : Code} {G : PG} {Q : Int32 → PS → Prop} {X : String → PS → Prop} (C : pCx p s m args meth c G cX11_factOf 6 yX11_factOf.cls wsQ_factOf) (hr : meth.sig.returnType = (some .int)) (hin : meth.name = yX11_factOf.name) (hZ : pZa G) (hout : ∀ x ∈ c.exceptionTable.toList, False) (hl : l.stackTraces = false)  (n : Nat) : ∀ (S : PS) (x0 : Nat) (x1 : Int32) (x2 : Int32) (x3 : Int64) (x5 : Int32), wpX11_factOf_b44  Q X n S x0 x1 x2 x3 x5 → PW p l e rmX11_factOf s m args below meth c (vx_MQ below (va_Qi Q (pB G) (pFr G)) (pXC G X) args s rmX11_factOf.cells rmX11_factOf.slots (pFr G)) G 6 S 0 0 [(0, .ref (G.2.2 + x0)), (1, .int x1), (2, .int x2), (3, .long x3), (5, .int x5)] 44 ([]) := by
  induction n with
  | zero => intro S x0 x1 x2 x3 x5 h; exact h.elim
  | succ n ih =>
    intro S x0 x1 x2 x3 x5 h
    unfold wpX11_factOf_b44 at h
    refine pw_iload (pc := 44) C 4 dX11_factOf_44 rfl ?_
    refine pw_aload_n (pc := 46) C 0 dX11_factOf_46 rfl rfl ?_
    obtain ⟨hk1, h⟩ := h
    obtain ⟨o2, ho2, h⟩ := h
    refine pw_getR (pc := 47) (ref := "SupportSolver") (k := 1) (index := 19) C pCl9 iX11_factOf_X11 hk1 rfl (by decide +kernel) (Or.inl rfl) (o := o2) ho2 dX11_factOf_47 ?_
    obtain ⟨hk3, h⟩ := h
    refine pw_getI (pc := 50) (ref := "SupportSolver$Trail") (k := 3) (index := 111) C pCl7 iX11_factOf_X9 hk3 rfl (by decide +kernel) (Or.inl rfl) dX11_factOf_50 ?_
    refine pw_icmp_ge (pc := 53) (tgt := 79) C dX11_factOf_53 rfl ⟨fun hc => ?_, fun hc => ?_⟩
    · replace h := h.1 hc
      exact pw_throwX (pc := 79) (mc := 1) (ms := 6) (n := 2) C hl (hZ.2.2.2.2.2.2.2.2.2.2.2.2.2.2.2.2.2.2.2.2.2.2.2.2.2.2.2.2.2.2.2.2.2.2.2.2.2.2.2.1) (by decide +kernel) hout dX11_factOf_79 dX11_factOf_82 (Or.inl ⟨dX11_factOf_83, rfl⟩) dX11_factOf_85 dX11_factOf_88 (by decide) (Nat.le_of_ble_eq_true rfl) (Nat.le_of_ble_eq_true rfl) (Nat.le_of_ble_eq_true rfl) (Nat.le_of_ble_eq_true rfl) (Nat.le_of_ble_eq_true rfl) h
    · replace h := h.2 hc
      refine pw_aload_n (pc := 56) C 0 dX11_factOf_56 rfl rfl ?_
      refine pw_getR (pc := 57) (ref := "SupportSolver") (k := 1) (index := 19) C pCl9 iX11_factOf_X11 hk1 rfl (by decide +kernel) (Or.inl rfl) (o := o2) ho2 dX11_factOf_57 ?_
      refine pw_iload (pc := 60) C 4 dX11_factOf_60 rfl ?_
      refine pw_calll (pc := 62) (kc2 := 0) (kn2 := 0) (pRunV (pc := 62) C (ctX9_pairAt l G hZ  _ o2 x5 _ h) (cwV 1 C.2.2.2.2.1 qgX11_factOf_X9_pairAt rfl rfl rfl (by decide +kernel) ⟨Nat.le_of_ble_eq_true rfl, Nat.le_of_ble_eq_true rfl⟩) pCl7 hk3 rfl rfl (Nat.le_of_ble_eq_true rfl) dX11_factOf_62 ⟨Nat.le_of_ble_eq_true rfl, Nat.le_of_ble_eq_true rfl⟩) rfl rfl (fun r4 S5 h => ?_)
      refine pw_lload_n (pc := 65) C 3 dX11_factOf_65 rfl rfl ?_
      refine pw_lcmp (pc := 66) C dX11_factOf_66 ?_
      refine pw_if_ne (pc := 67) (tgt := 73) C dX11_factOf_67 rfl ⟨fun hc => ?_, fun hc => ?_⟩
      · replace h := h.1 hc
        refine pw_iincK (pc := 73) (w := 1) C [(5, .int (x5 + 1)), (0, .ref (G.2.2 + x0)), (1, .int x1), (2, .int x2), (3, .long x3)] 4 dX11_factOf_73 (by decide) rfl (by decide) rfl ?_
        refine pw_goto (pc := 76) (tgt := 44) C dX11_factOf_76 rfl ?_
        refine pw_sub [1, 2, 3, 4, 0] (LV2 := [(0, .ref (G.2.2 + x0)), (1, .int x1), (2, .int x2), (3, .long x3), (5, .int (x5 + 1))]) rfl ?_
        exact ih _ _ _ _ _ _ h
      · replace h := h.2 hc
        refine pw_iload (pc := 70) C 4 dX11_factOf_70 rfl ?_
        refine pw_widen (k2 := 1) (n2 := 6) (Nat.le_of_ble_eq_true rfl) (Nat.le_of_ble_eq_true rfl) ?_
        refine pw_xret ?_
        exact pw_iret (pc := 72) C hr h dX11_factOf_72
set_option maxRecDepth 100000 in
set_option maxHeartbeats 4000000 in
theorem ctX11_factOf (l : Launch) (G : PG) (hZ : pZa G) (hl : l.stackTraces = false) (S : PS) (x0 : Nat) (x1 : Int32) (x2 : Int32) (Q : Int32 → PS → Prop) (X : String → PS → Prop) (h : wpX11_factOf S x0 x1 x2 Q X) : mXI l yX11_factOf wsQ_factOf rmX11_factOf G S [.ref (G.2.2 + x0), .int x1, .int x2] Q X := by
  unfold mXI
  refine met_ofX (cc := cX11_factOf) (maxL := 6) (ret := (some .int)) (by decide) rfl (Nat.le_of_ble_eq_true rfl) ?_
  intro p e s m args below meth c C hout hr hin
  unfold wpX11_factOf at h
  show PW p l e _ s m args below meth c _ G 6 S 0 0 [(0, .ref (G.2.2 + x0)), (1, .int x1), (2, .int x2)] 0 []
  refine pw_aload_n (pc := 0) C 0 dX11_factOf_0 rfl rfl ?_
  refine pw_iload_n (pc := 1) C 1 dX11_factOf_1 rfl rfl ?_
  obtain ⟨hk6, h⟩ := h
  refine pw_calli (pc := 2) (kc2 := 0) (kn2 := 0) (pRunV (pc := 2) C (ctX11_isVariable l G hZ  _ x0 x1 _ h) (cwV 1 C.2.2.2.2.1 qgX11_factOf_X11_isVariable rfl rfl rfl (by decide +kernel) ⟨Nat.le_of_ble_eq_true rfl, Nat.le_of_ble_eq_true rfl⟩) pCl9 hk6 rfl rfl (Nat.le_of_ble_eq_true rfl) dX11_factOf_2 ⟨Nat.le_of_ble_eq_true rfl, Nat.le_of_ble_eq_true rfl⟩) rfl rfl (fun r7 S8 h => ?_)
  refine pw_if_ne (pc := 5) (tgt := 18) C dX11_factOf_5 rfl ⟨fun hc => ?_, fun hc => ?_⟩
  · replace h := h.1 hc
    refine pw_iload_n (pc := 18) C 2 dX11_factOf_18 rfl rfl ?_
    refine pw_calli (pc := 19) (kc2 := 0) (kn2 := 0) (pRunS (pc := 19) C (ctX11_isValue l G hZ  _ x2 _ h) (va_cwS 1 C.2.2.2.2.1 qgX11_factOf_X11_isValue rfl rfl rfl (by decide +kernel) ⟨Nat.le_of_ble_eq_true rfl, Nat.le_of_ble_eq_true rfl⟩) rfl rfl (Nat.le_of_ble_eq_true rfl) dX11_factOf_19 ⟨Nat.le_of_ble_eq_true rfl, Nat.le_of_ble_eq_true rfl⟩) rfl rfl (fun r9 S10 h => ?_)
    refine pw_if_ne (pc := 22) (tgt := 35) C dX11_factOf_22 rfl ⟨fun hc => ?_, fun hc => ?_⟩
    · replace h := h.1 hc
      refine pw_iload_n (pc := 35) C 1 dX11_factOf_35 rfl rfl ?_
      refine pw_iload_n (pc := 36) C 2 dX11_factOf_36 rfl rfl ?_
      refine pw_calll (pc := 37) (kc2 := 0) (kn2 := 0) (pRunS (pc := 37) C (ctX5_pair l G hZ  _ x1 x2 _ h) (va_cwS 2 C.2.2.2.2.1 qgX11_factOf_X5_pair rfl rfl rfl (by decide +kernel) ⟨Nat.le_of_ble_eq_true rfl, Nat.le_of_ble_eq_true rfl⟩) rfl rfl (Nat.le_of_ble_eq_true rfl) dX11_factOf_37 ⟨Nat.le_of_ble_eq_true rfl, Nat.le_of_ble_eq_true rfl⟩) rfl rfl (fun r11 S12 h => ?_)
      refine pw_lstore_n (pc := 40) C [(3, .long r11), (0, .ref (G.2.2 + x0)), (1, .int x1), (2, .int x2)] dX11_factOf_40 rfl (by decide) rfl ?_
      refine pw_iconst (pc := 41) (v := 0 ) C dX11_factOf_41 (by decide) ?_
      refine pw_istore (pc := 42) C [(5, .int (0 : Int32)), (3, .long r11), (0, .ref (G.2.2 + x0)), (1, .int x1), (2, .int x2)] dX11_factOf_42 (by decide) rfl ?_
      refine pw_sub [2, 3, 4, 1, 0] (LV2 := [(0, .ref (G.2.2 + x0)), (1, .int x1), (2, .int x2), (3, .long r11), (5, .int (0 : Int32))]) rfl ?_
      obtain ⟨n9, h⟩ := h
      exact cbX11_factOf_b44 C hr hin hZ hout hl  n9 _ _ _ _ _ _ h
    · replace h := h.2 hc
      exact pw_throwS (pc := 25) (mc := 1) (ms := 6) C hl (hZ.2.2.2.2.2.2.2.2.2.2.2.2.2.2.2.2.2.2.2.2.2.2.2.2.2.2.2.2.2.2.2.2.2.2.2.2.2.2.1) (by decide +kernel) (by decide +kernel) (by decide +kernel) hout dX11_factOf_25 dX11_factOf_28 dX11_factOf_29 dX11_factOf_31 dX11_factOf_34 (by decide) (Nat.le_of_ble_eq_true rfl) (Nat.le_of_ble_eq_true rfl) (Nat.le_of_ble_eq_true rfl) (Nat.le_of_ble_eq_true rfl) (Nat.le_of_ble_eq_true rfl) h
  · replace h := h.2 hc
    exact pw_throwS (pc := 8) (mc := 1) (ms := 6) C hl (hZ.2.2.2.2.2.2.2.2.2.2.2.2.2.2.2.2.2.2.2.2.2.2.2.2.2.2.2.2.2.2.2.2.2.2.2.1) (by decide +kernel) (by decide +kernel) (by decide +kernel) hout dX11_factOf_8 dX11_factOf_11 dX11_factOf_12 dX11_factOf_14 dX11_factOf_17 (by decide) (Nat.le_of_ble_eq_true rfl) (Nat.le_of_ble_eq_true rfl) (Nat.le_of_ble_eq_true rfl) (Nat.le_of_ble_eq_true rfl) (Nat.le_of_ble_eq_true rfl) h

abbrev rmX11_sourceOf : Room := { frames := 3, cells := 0, slots := 0, locals := 64 }
theorem iX11_sourceOf_X11 : ∀ w ∈ u_ws RX11 TX11 9, w ∈ wsX11_sourceOf := by decide +kernel
theorem iX11_sourceOf_X3 : ∀ w ∈ u_ws RX3 TX3 7, w ∈ wsX11_sourceOf := by decide +kernel
def wpX11_sourceOf (S : PS) (x0 : Nat) (x1 : Nat) (Q : Option Nat → PS → Prop) : Prop := (pK S x1 = 3 ∧ ((¬ (pI S x1 2) = (100 : Int32) → (pK S x0 = 10 ∧ (∃ o3, pR S x0 6 = some o3 ∧ (pK S o3 = 5 ∧ (wpX6_constraintAt S o3 (pI S x1 2) (fun r5 S6 => (Q r5 S6))))))) ∧ ((pI S x1 2) = (100 : Int32) → (pK S x0 = 10 ∧ (∃ o8, pR S x0 3 = some o8 ∧ (pK S o8 = 4 ∧ (wpX4_show S o8 (pJ S x1 4) (fun S11 => (pK S11 x0 = 10 ∧ (∃ o13, pR S11 x0 3 = some o13 ∧ (Q (some o13) S11)))))))))))
set_option maxRecDepth 100000 in
set_option maxHeartbeats 4000000 in
theorem ctX11_sourceOf (l : Launch) (G : PG) (hZ : pZa G) (S : PS) (x0 : Nat) (x1 : Nat) (Q : Option Nat → PS → Prop) (h : wpX11_sourceOf S x0 x1 Q) : mQ l yX11_sourceOf wsX11_sourceOf rmX11_sourceOf G S [.ref (G.2.2 + x0), .ref (G.2.2 + x1)] Q := by
  unfold mQ
  refine met_of (cc := cX11_sourceOf) (maxL := 2) (ret := (some (.object "SupportSolver$Constraint"))) (by decide) rfl (Nat.le_of_ble_eq_true rfl) ?_
  intro p e s m args below meth c C hr hin
  unfold wpX11_sourceOf at h
  show PW p l e _ s m args below meth c _ G 2 S 0 0 [(0, .ref (G.2.2 + x0)), (1, .ref (G.2.2 + x1))] 0 []
  refine pw_aload_n (pc := 0) C 1 dX11_sourceOf_0 rfl rfl ?_
  obtain ⟨hk1, h⟩ := h
  refine pw_getI (pc := 1) (ref := "SupportSolver$Fact") (k := 2) (index := 185) C pCl2 iX11_sourceOf_X3 hk1 rfl (by decide +kernel) (Or.inl rfl) dX11_sourceOf_1 ?_
  refine pw_bipush (pc := 4) (v := 100 ) C dX11_sourceOf_4 (by decide) ?_
  refine pw_icmp_ne (pc := 6) (tgt := 25) C dX11_sourceOf_6 rfl ⟨fun hc => ?_, fun hc => ?_⟩
  · replace h := h.1 hc
    refine pw_aload_n (pc := 25) C 0 dX11_sourceOf_25 rfl rfl ?_
    obtain ⟨hk2, h⟩ := h
    obtain ⟨o3, ho3, h⟩ := h
    refine pw_getR (pc := 26) (ref := "SupportSolver") (k := 6) (index := 47) C pCl9 iX11_sourceOf_X11 hk2 rfl (by decide +kernel) (Or.inl rfl) (o := o3) ho3 dX11_sourceOf_26 ?_
    refine pw_aload_n (pc := 29) C 1 dX11_sourceOf_29 rfl rfl ?_
    refine pw_getI (pc := 30) (ref := "SupportSolver$Fact") (k := 2) (index := 185) C pCl2 iX11_sourceOf_X3 hk1 rfl (by decide +kernel) (Or.inl rfl) dX11_sourceOf_30 ?_
    obtain ⟨hk4, h⟩ := h
    refine pw_callq (pc := 33) (kc2 := 0) (kn2 := 0) (pRunV (pc := 33) C (ctX6_constraintAt l G hZ  _ o3 (pI S x1 2) _ h) (cwV 1 C.2.2.2.2.1 gX11_sourceOf_X6_constraintAt rfl rfl rfl (by decide +kernel) ⟨Nat.le_of_ble_eq_true rfl, Nat.le_of_ble_eq_true rfl⟩) pCl4 hk4 rfl rfl (Nat.le_of_ble_eq_true rfl) dX11_sourceOf_33 ⟨Nat.le_of_ble_eq_true rfl, Nat.le_of_ble_eq_true rfl⟩) rfl rfl (fun r5 S6 h => ?_)
    exact pw_aret (pc := 36) C hr (o := r5) rfl h dX11_sourceOf_36
  · replace h := h.2 hc
    refine pw_aload_n (pc := 9) C 0 dX11_sourceOf_9 rfl rfl ?_
    obtain ⟨hk7, h⟩ := h
    obtain ⟨o8, ho8, h⟩ := h
    refine pw_getR (pc := 10) (ref := "SupportSolver") (k := 3) (index := 29) C pCl9 iX11_sourceOf_X11 hk7 rfl (by decide +kernel) (Or.inl rfl) (o := o8) ho8 dX11_sourceOf_10 ?_
    refine pw_aload_n (pc := 13) C 1 dX11_sourceOf_13 rfl rfl ?_
    refine pw_getJ (pc := 14) (ref := "SupportSolver$Fact") (k := 4) (index := 256) C pCl2 iX11_sourceOf_X3 hk1 rfl (by decide +kernel) (Or.inl rfl) dX11_sourceOf_14 ?_
    obtain ⟨hk9, h⟩ := h
    refine pw_callv (pc := 17) (kc2 := 0) (kn2 := 0) (pRunV (pc := 17) C (ctX4_show l G hZ  _ o8 (pJ S x1 4) _ h) (cwV 1 C.2.2.2.2.1 gX11_sourceOf_X4_show rfl rfl rfl (by decide +kernel) ⟨Nat.le_of_ble_eq_true rfl, Nat.le_of_ble_eq_true rfl⟩) pCl3 hk9 rfl rfl (Nat.le_of_ble_eq_true rfl) dX11_sourceOf_17 ⟨Nat.le_of_ble_eq_true rfl, Nat.le_of_ble_eq_true rfl⟩) rfl rfl (fun S11 h => ?_)
    refine pw_aload_n (pc := 20) C 0 dX11_sourceOf_20 rfl rfl ?_
    obtain ⟨hk12, h⟩ := h
    obtain ⟨o13, ho13, h⟩ := h
    refine pw_getR (pc := 21) (ref := "SupportSolver") (k := 3) (index := 29) C pCl9 iX11_sourceOf_X11 hk12 rfl (by decide +kernel) (Or.inl rfl) (o := o13) ho13 dX11_sourceOf_21 ?_
    exact pw_aret (pc := 24) C hr (o := (some o13)) rfl h dX11_sourceOf_24

abbrev rmX11_leastExplanation : Room := { frames := 13, cells := 0, slots := 0, locals := 364 }
theorem iX11_leastExplanation_X0 : ∀ w ∈ u_ws RX0 TX0 4, w ∈ wsX11_leastExplanation := by decide +kernel
theorem iX11_leastExplanation_X10 : ∀ w ∈ u_ws RX10 TX10 8, w ∈ wsX11_leastExplanation := by decide +kernel
theorem iX11_leastExplanation_X11 : ∀ w ∈ u_ws RX11 TX11 9, w ∈ wsX11_leastExplanation := by decide +kernel
theorem iX11_leastExplanation_X2 : ∀ w ∈ u_ws RX2 TX2 7, w ∈ wsX11_leastExplanation := by decide +kernel
theorem iX11_leastExplanation_X3 : ∀ w ∈ u_ws RX3 TX3 7, w ∈ wsX11_leastExplanation := by decide +kernel
theorem iX11_leastExplanation_X4 : ∀ w ∈ u_ws RX4 TX4 5, w ∈ wsX11_leastExplanation := by decide +kernel
theorem iX11_leastExplanation_X6 : ∀ w ∈ u_ws RX6 TX6 4, w ∈ wsX11_leastExplanation := by decide +kernel
def wpX11_leastExplanation_b42  (Q : Int64 → PS → Prop) : Nat → PS → Nat → Nat → Int32 → Nat → Int64 → Int32 → Prop
  | 0 => fun _ _ _ _ _ _ _ => False
  | n + 1 => fun S x0 x1 x2 x3 x4 x6 => ((x6 < 0 → (Q x4 S)) ∧ (¬ x6 < 0 → (pK S x0 = 10 ∧ (∃ o2, pR S x0 1 = some o2 ∧ (pK S o2 = 8 ∧ (wpX9_pairAt S o2 x6 (fun r4 S5 => (pK S5 x0 = 10 ∧ (∃ o7, pR S5 x0 6 = some o7 ∧ (pK S5 o7 = 5 ∧ (pK S5 x1 = 3 ∧ (wpX5_narrowed S5 ((pJ S5 o7 3) &&& ((x4 &&& (r4 ^^^ (-1 : Int64))) ^^^ (-1 : Int64))) (pI S5 x1 0) (pI S5 x1 1) (fun r10 S11 => (((lg_cmp (x4 &&& (r4 ^^^ (-1 : Int64))) x4) = 0 → (wpX11_leastExplanation_b42 Q n S11 x0 x1 x2 x3 x4 (x6 + (-1)))) ∧ (¬ (lg_cmp (x4 &&& (r4 ^^^ (-1 : Int64))) x4) = 0 → (wpX1_leastFrom 9 S11 x3 r10 (0 : Int32) (fun r12 S13 => ((¬ (lg_cmp r12 (0 : Int64)) = 0 → (wpX11_leastExplanation_b42 Q n S13 x0 x1 x2 x3 x4 (x6 + (-1)))) ∧ ((lg_cmp r12 (0 : Int64)) = 0 → (wpX11_leastExplanation_b42 Q n S13 x0 x1 x2 x3 (x4 &&& (r4 ^^^ (-1 : Int64))) (x6 + (-1))))))))))))))))))))))
def wpX11_leastExplanation_b6  (Q : Int64 → PS → Prop) : Nat → PS → Nat → Nat → Int32 → Nat → Int64 → Int32 → Prop
  | 0 => fun _ _ _ _ _ _ _ => False
  | n + 1 => fun S x0 x1 x2 x3 x4 x6 => ((x2 ≤ x6 → (∃ n9 : Nat, wpX11_leastExplanation_b42 Q n9 S x0 x1 x2 x3 x4 (x2 - (1 : Int32)))) ∧ (¬ x2 ≤ x6 → (pK S x0 = 10 ∧ (∃ o15, pR S x0 1 = some o15 ∧ (pK S o15 = 8 ∧ (wpX9_pairAt S o15 x6 (fun r17 S18 => (pC4 S18 x3 ∧ (wpX11_leastExplanation_b6 Q n S18 x0 x1 x2 x3 (x4 ||| (r17 &&& (pJ S18 x3 2))) (x6 + 1))))))))))
def wpX11_leastExplanation (S : PS) (x0 : Nat) (x1 : Nat) (x2 : Int32) (x3 : Nat) (Q : Int64 → PS → Prop) : Prop := (∃ n9 : Nat, wpX11_leastExplanation_b6 Q n9 S x0 x1 x2 x3 (0 : Int64) (0 : Int32))
set_option maxRecDepth 100000 in
set_option maxHeartbeats 4000000 in
theorem cbX11_leastExplanation_b42 {p : Program} {l : Launch} {e : Env} {s : State} {m : MethodId} {args : Array Value} {below : List Frame} {meth : Method} {c : Code} {G : PG} {Q : Int64 → PS → Prop} (C : pCx p s m args meth c G cX11_leastExplanation 11 yX11_leastExplanation.cls wsX11_leastExplanation) (hr : meth.sig.returnType = (some .long)) (hin : meth.name = yX11_leastExplanation.name) (hZ : pZa G)  (n : Nat) : ∀ (S : PS) (x0 : Nat) (x1 : Nat) (x2 : Int32) (x3 : Nat) (x4 : Int64) (x6 : Int32), wpX11_leastExplanation_b42  Q n S x0 x1 x2 x3 x4 x6 → PW p l e rmX11_leastExplanation s m args below meth c (MQ below (va_Ql Q (pB G) (pFr G)) args s rmX11_leastExplanation.cells rmX11_leastExplanation.slots (pFr G)) G 11 S 0 0 [(0, .ref (G.2.2 + x0)), (1, .ref (G.2.2 + x1)), (2, .int x2), (3, .ref (G.2.2 + x3)), (4, .long x4), (6, .int x6)] 42 ([]) := by
  induction n with
  | zero => intro S x0 x1 x2 x3 x4 x6 h; exact h.elim
  | succ n ih =>
    intro S x0 x1 x2 x3 x4 x6 h
    unfold wpX11_leastExplanation_b42 at h
    refine pw_iload (pc := 42) C 5 dX11_leastExplanation_42 rfl ?_
    refine pw_if_lt (pc := 44) (tgt := 122) C dX11_leastExplanation_44 rfl ⟨fun hc => ?_, fun hc => ?_⟩
    · replace h := h.1 hc
      refine pw_lload (pc := 122) C 4 dX11_leastExplanation_122 rfl ?_
      exact pw_lret (pc := 124) C hr h dX11_leastExplanation_124
    · replace h := h.2 hc
      refine pw_lload (pc := 47) C 4 dX11_leastExplanation_47 rfl ?_
      refine pw_aload_n (pc := 49) C 0 dX11_leastExplanation_49 rfl rfl ?_
      obtain ⟨hk1, h⟩ := h
      obtain ⟨o2, ho2, h⟩ := h
      refine pw_getR (pc := 50) (ref := "SupportSolver") (k := 1) (index := 19) C pCl9 iX11_leastExplanation_X11 hk1 rfl (by decide +kernel) (Or.inl rfl) (o := o2) ho2 dX11_leastExplanation_50 ?_
      refine pw_iload (pc := 53) C 5 dX11_leastExplanation_53 rfl ?_
      obtain ⟨hk3, h⟩ := h
      refine pw_calll (pc := 55) (kc2 := 0) (kn2 := 0) (pRunV (pc := 55) C (ctX9_pairAt l G hZ  _ o2 x6 _ h) (cwV 1 C.2.2.2.2.1 gX11_leastExplanation_X9_pairAt rfl rfl rfl (by decide +kernel) ⟨Nat.le_of_ble_eq_true rfl, Nat.le_of_ble_eq_true rfl⟩) pCl7 hk3 rfl rfl (Nat.le_of_ble_eq_true rfl) dX11_leastExplanation_55 ⟨Nat.le_of_ble_eq_true rfl, Nat.le_of_ble_eq_true rfl⟩) rfl rfl (fun r4 S5 h => ?_)
      refine pw_ldc2 (pc := 58) (v := (-1)) C (by decide +kernel) dX11_leastExplanation_58 ?_
      refine pw_lxor (pc := 61) C dX11_leastExplanation_61 ?_
      refine pw_land (pc := 62) C dX11_leastExplanation_62 ?_
      refine pw_lstore (pc := 63) C [(7, .long (x4 &&& (r4 ^^^ (-1 : Int64)))), (0, .ref (G.2.2 + x0)), (1, .ref (G.2.2 + x1)), (2, .int x2), (3, .ref (G.2.2 + x3)), (4, .long x4), (6, .int x6)] dX11_leastExplanation_63 (by decide) rfl ?_
      refine pw_aload_n (pc := 65) C 1 dX11_leastExplanation_65 rfl rfl ?_
      obtain ⟨hk6, h⟩ := h
      obtain ⟨o7, ho7, h⟩ := h
      refine pw_getR (pc := 66) (ref := "SupportSolver") (k := 6) (index := 47) C pCl9 iX11_leastExplanation_X11 hk6 rfl (by decide +kernel) (Or.inl rfl) (o := o7) ho7 dX11_leastExplanation_66 ?_
      obtain ⟨hk8, h⟩ := h
      refine pw_getJ (pc := 69) (ref := "SupportSolver$Problem") (k := 3) (index := 96) C pCl4 iX11_leastExplanation_X6 hk8 rfl (by decide +kernel) (Or.inl rfl) dX11_leastExplanation_69 ?_
      refine pw_lload (pc := 72) C 0 dX11_leastExplanation_72 rfl ?_
      refine pw_ldc2 (pc := 74) (v := (-1)) C (by decide +kernel) dX11_leastExplanation_74 ?_
      refine pw_lxor (pc := 77) C dX11_leastExplanation_77 ?_
      refine pw_land (pc := 78) C dX11_leastExplanation_78 ?_
      refine pw_aload_n (pc := 79) C 2 dX11_leastExplanation_79 rfl rfl ?_
      obtain ⟨hk9, h⟩ := h
      refine pw_getI (pc := 80) (ref := "SupportSolver$Fact") (k := 0) (index := 192) C pCl2 iX11_leastExplanation_X3 hk9 rfl (by decide +kernel) (Or.inl rfl) dX11_leastExplanation_80 ?_
      refine pw_aload_n (pc := 83) C 2 dX11_leastExplanation_83 rfl rfl ?_
      refine pw_getI (pc := 84) (ref := "SupportSolver$Fact") (k := 1) (index := 195) C pCl2 iX11_leastExplanation_X3 hk9 rfl (by decide +kernel) (Or.inl rfl) dX11_leastExplanation_84 ?_
      refine pw_calll (pc := 87) (kc2 := 0) (kn2 := 0) (pRunS (pc := 87) C (ctX5_narrowed l G hZ  _ ((pJ S5 o7 3) &&& ((x4 &&& (r4 ^^^ (-1 : Int64))) ^^^ (-1 : Int64))) (pI S5 x1 0) (pI S5 x1 1) _ h) (va_cwS 3 C.2.2.2.2.1 gX11_leastExplanation_X5_narrowed rfl rfl rfl (by decide +kernel) ⟨Nat.le_of_ble_eq_true rfl, Nat.le_of_ble_eq_true rfl⟩) rfl rfl (Nat.le_of_ble_eq_true rfl) dX11_leastExplanation_87 ⟨Nat.le_of_ble_eq_true rfl, Nat.le_of_ble_eq_true rfl⟩) rfl rfl (fun r10 S11 h => ?_)
      refine pw_lstore (pc := 90) C [(9, .long r10), (7, .long (x4 &&& (r4 ^^^ (-1 : Int64)))), (0, .ref (G.2.2 + x0)), (1, .ref (G.2.2 + x1)), (2, .int x2), (3, .ref (G.2.2 + x3)), (4, .long x4), (6, .int x6)] dX11_leastExplanation_90 (by decide) rfl ?_
      refine pw_lload (pc := 92) C 1 dX11_leastExplanation_92 rfl ?_
      refine pw_lload (pc := 94) C 6 dX11_leastExplanation_94 rfl ?_
      refine pw_lcmp (pc := 96) C dX11_leastExplanation_96 ?_
      refine pw_if_eq (pc := 97) (tgt := 116) C dX11_leastExplanation_97 rfl ⟨fun hc => ?_, fun hc => ?_⟩
      · replace h := h.1 hc
        refine pw_iincK (pc := 116) (w := (-1)) C [(6, .int (x6 + (-1))), (9, .long r10), (7, .long (x4 &&& (r4 ^^^ (-1 : Int64)))), (0, .ref (G.2.2 + x0)), (1, .ref (G.2.2 + x1)), (2, .int x2), (3, .ref (G.2.2 + x3)), (4, .long x4)] 7 dX11_leastExplanation_116 (by decide) rfl (by decide) rfl ?_
        refine pw_goto (pc := 119) (tgt := 42) C dX11_leastExplanation_119 rfl ?_
        refine pw_sub [3, 4, 5, 6, 7, 0] (LV2 := [(0, .ref (G.2.2 + x0)), (1, .ref (G.2.2 + x1)), (2, .int x2), (3, .ref (G.2.2 + x3)), (4, .long x4), (6, .int (x6 + (-1)))]) rfl ?_
        exact ih _ _ _ _ _ _ _ h
      · replace h := h.2 hc
        refine pw_aload_n (pc := 100) C 5 dX11_leastExplanation_100 rfl rfl ?_
        refine pw_lload (pc := 101) C 0 dX11_leastExplanation_101 rfl ?_
        refine pw_iconst (pc := 103) (v := 0 ) C dX11_leastExplanation_103 (by decide) ?_
        refine pw_calll (pc := 104) (kc2 := 0) (kn2 := 0) (pRunSN (pc := 104) C (ctX1_leastFrom 9 l G hZ  _ x3 r10 (0 : Int32) _ h) 3 gX11_leastExplanation_X1_leastFrom_n270 rfl (hZ.2.2.2.2.2.2.2.1) (by decide +kernel) (by decide +kernel) (by decide +kernel) ⟨Nat.le_of_ble_eq_true rfl, Nat.le_of_ble_eq_true rfl⟩ rfl rfl (Nat.le_of_ble_eq_true rfl) dX11_leastExplanation_104 ⟨Nat.le_of_ble_eq_true rfl, Nat.le_of_ble_eq_true rfl⟩) rfl rfl (fun r12 S13 h => ?_)
        refine pw_lconst (pc := 107) (v := 0) C dX11_leastExplanation_107 (by decide) ?_
        refine pw_lcmp (pc := 108) C dX11_leastExplanation_108 ?_
        refine pw_if_ne (pc := 109) (tgt := 116) C dX11_leastExplanation_109 rfl ⟨fun hc => ?_, fun hc => ?_⟩
        · replace h := h.1 hc
          refine pw_iincK (pc := 116) (w := (-1)) C [(6, .int (x6 + (-1))), (9, .long r10), (7, .long (x4 &&& (r4 ^^^ (-1 : Int64)))), (0, .ref (G.2.2 + x0)), (1, .ref (G.2.2 + x1)), (2, .int x2), (3, .ref (G.2.2 + x3)), (4, .long x4)] 7 dX11_leastExplanation_116 (by decide) rfl (by decide) rfl ?_
          refine pw_goto (pc := 119) (tgt := 42) C dX11_leastExplanation_119 rfl ?_
          refine pw_sub [3, 4, 5, 6, 7, 0] (LV2 := [(0, .ref (G.2.2 + x0)), (1, .ref (G.2.2 + x1)), (2, .int x2), (3, .ref (G.2.2 + x3)), (4, .long x4), (6, .int (x6 + (-1)))]) rfl ?_
          exact ih _ _ _ _ _ _ _ h
        · replace h := h.2 hc
          refine pw_lload (pc := 112) C 1 dX11_leastExplanation_112 rfl ?_
          refine pw_lstore (pc := 114) C [(4, .long (x4 &&& (r4 ^^^ (-1 : Int64)))), (9, .long r10), (7, .long (x4 &&& (r4 ^^^ (-1 : Int64)))), (0, .ref (G.2.2 + x0)), (1, .ref (G.2.2 + x1)), (2, .int x2), (3, .ref (G.2.2 + x3)), (6, .int x6)] dX11_leastExplanation_114 (by decide) rfl ?_
          refine pw_iincK (pc := 116) (w := (-1)) C [(6, .int (x6 + (-1))), (4, .long (x4 &&& (r4 ^^^ (-1 : Int64)))), (9, .long r10), (7, .long (x4 &&& (r4 ^^^ (-1 : Int64)))), (0, .ref (G.2.2 + x0)), (1, .ref (G.2.2 + x1)), (2, .int x2), (3, .ref (G.2.2 + x3))] 7 dX11_leastExplanation_116 (by decide) rfl (by decide) rfl ?_
          refine pw_goto (pc := 119) (tgt := 42) C dX11_leastExplanation_119 rfl ?_
          refine pw_sub [4, 5, 6, 7, 1, 0] (LV2 := [(0, .ref (G.2.2 + x0)), (1, .ref (G.2.2 + x1)), (2, .int x2), (3, .ref (G.2.2 + x3)), (4, .long (x4 &&& (r4 ^^^ (-1 : Int64)))), (6, .int (x6 + (-1)))]) rfl ?_
          exact ih _ _ _ _ _ _ _ h
set_option maxRecDepth 100000 in
set_option maxHeartbeats 4000000 in
theorem cbX11_leastExplanation_b6 {p : Program} {l : Launch} {e : Env} {s : State} {m : MethodId} {args : Array Value} {below : List Frame} {meth : Method} {c : Code} {G : PG} {Q : Int64 → PS → Prop} (C : pCx p s m args meth c G cX11_leastExplanation 11 yX11_leastExplanation.cls wsX11_leastExplanation) (hr : meth.sig.returnType = (some .long)) (hin : meth.name = yX11_leastExplanation.name) (hZ : pZa G)  (n : Nat) : ∀ (S : PS) (x0 : Nat) (x1 : Nat) (x2 : Int32) (x3 : Nat) (x4 : Int64) (x6 : Int32), wpX11_leastExplanation_b6  Q n S x0 x1 x2 x3 x4 x6 → PW p l e rmX11_leastExplanation s m args below meth c (MQ below (va_Ql Q (pB G) (pFr G)) args s rmX11_leastExplanation.cells rmX11_leastExplanation.slots (pFr G)) G 11 S 0 0 [(0, .ref (G.2.2 + x0)), (1, .ref (G.2.2 + x1)), (2, .int x2), (3, .ref (G.2.2 + x3)), (4, .long x4), (6, .int x6)] 6 ([]) := by
  induction n with
  | zero => intro S x0 x1 x2 x3 x4 x6 h; exact h.elim
  | succ n ih =>
    intro S x0 x1 x2 x3 x4 x6 h
    unfold wpX11_leastExplanation_b6 at h
    refine pw_iload (pc := 6) C 5 dX11_leastExplanation_6 rfl ?_
    refine pw_iload_n (pc := 8) C 2 dX11_leastExplanation_8 rfl rfl ?_
    refine pw_icmp_ge (pc := 9) (tgt := 37) C dX11_leastExplanation_9 rfl ⟨fun hc => ?_, fun hc => ?_⟩
    · replace h := h.1 hc
      refine pw_iload_n (pc := 37) C 2 dX11_leastExplanation_37 rfl rfl ?_
      refine pw_iconst (pc := 38) (v := 1 ) C dX11_leastExplanation_38 (by decide) ?_
      refine pw_isub (pc := 39) C dX11_leastExplanation_39 ?_
      refine pw_istore (pc := 40) C [(6, .int (x2 - (1 : Int32))), (0, .ref (G.2.2 + x0)), (1, .ref (G.2.2 + x1)), (2, .int x2), (3, .ref (G.2.2 + x3)), (4, .long x4)] dX11_leastExplanation_40 (by decide) rfl ?_
      refine pw_sub [1, 2, 3, 4, 5, 0] (LV2 := [(0, .ref (G.2.2 + x0)), (1, .ref (G.2.2 + x1)), (2, .int x2), (3, .ref (G.2.2 + x3)), (4, .long x4), (6, .int (x2 - (1 : Int32)))]) rfl ?_
      obtain ⟨n9, h⟩ := h
      exact cbX11_leastExplanation_b42 C hr hin hZ  n9 _ _ _ _ _ _ _ h
    · replace h := h.2 hc
      refine pw_lload (pc := 12) C 4 dX11_leastExplanation_12 rfl ?_
      refine pw_aload_n (pc := 14) C 0 dX11_leastExplanation_14 rfl rfl ?_
      obtain ⟨hk14, h⟩ := h
      obtain ⟨o15, ho15, h⟩ := h
      refine pw_getR (pc := 15) (ref := "SupportSolver") (k := 1) (index := 19) C pCl9 iX11_leastExplanation_X11 hk14 rfl (by decide +kernel) (Or.inl rfl) (o := o15) ho15 dX11_leastExplanation_15 ?_
      refine pw_iload (pc := 18) C 5 dX11_leastExplanation_18 rfl ?_
      obtain ⟨hk16, h⟩ := h
      refine pw_calll (pc := 20) (kc2 := 0) (kn2 := 0) (pRunV (pc := 20) C (ctX9_pairAt l G hZ  _ o15 x6 _ h) (cwV 1 C.2.2.2.2.1 gX11_leastExplanation_X9_pairAt rfl rfl rfl (by decide +kernel) ⟨Nat.le_of_ble_eq_true rfl, Nat.le_of_ble_eq_true rfl⟩) pCl7 hk16 rfl rfl (Nat.le_of_ble_eq_true rfl) dX11_leastExplanation_20 ⟨Nat.le_of_ble_eq_true rfl, Nat.le_of_ble_eq_true rfl⟩) rfl rfl (fun r17 S18 h => ?_)
      refine pw_aload_n (pc := 23) C 3 dX11_leastExplanation_23 rfl rfl ?_
      obtain ⟨hk19, h⟩ := h
      refine pw_getCJ (pc := 24) (k := 2) (index := 263) C hk19 iX11_leastExplanation_X0 iX11_leastExplanation_X2 iX11_leastExplanation_X4 iX11_leastExplanation_X10 rfl (by decide +kernel) dX11_leastExplanation_24 ?_
      refine pw_land (pc := 27) C dX11_leastExplanation_27 ?_
      refine pw_lor (pc := 28) C dX11_leastExplanation_28 ?_
      refine pw_lstore (pc := 29) C [(4, .long (x4 ||| (r17 &&& (pJ S18 x3 2)))), (0, .ref (G.2.2 + x0)), (1, .ref (G.2.2 + x1)), (2, .int x2), (3, .ref (G.2.2 + x3)), (6, .int x6)] dX11_leastExplanation_29 (by decide) rfl ?_
      refine pw_iincK (pc := 31) (w := 1) C [(6, .int (x6 + 1)), (4, .long (x4 ||| (r17 &&& (pJ S18 x3 2)))), (0, .ref (G.2.2 + x0)), (1, .ref (G.2.2 + x1)), (2, .int x2), (3, .ref (G.2.2 + x3))] 5 dX11_leastExplanation_31 (by decide) rfl (by decide) rfl ?_
      refine pw_goto (pc := 34) (tgt := 6) C dX11_leastExplanation_34 rfl ?_
      refine pw_sub [2, 3, 4, 5, 1, 0] (LV2 := [(0, .ref (G.2.2 + x0)), (1, .ref (G.2.2 + x1)), (2, .int x2), (3, .ref (G.2.2 + x3)), (4, .long (x4 ||| (r17 &&& (pJ S18 x3 2)))), (6, .int (x6 + 1))]) rfl ?_
      exact ih _ _ _ _ _ _ _ h
set_option maxRecDepth 100000 in
set_option maxHeartbeats 4000000 in
theorem ctX11_leastExplanation (l : Launch) (G : PG) (hZ : pZa G) (S : PS) (x0 : Nat) (x1 : Nat) (x2 : Int32) (x3 : Nat) (Q : Int64 → PS → Prop) (h : wpX11_leastExplanation S x0 x1 x2 x3 Q) : mJ l yX11_leastExplanation wsX11_leastExplanation rmX11_leastExplanation G S [.ref (G.2.2 + x0), .ref (G.2.2 + x1), .int x2, .ref (G.2.2 + x3)] Q := by
  unfold mJ
  refine met_of (cc := cX11_leastExplanation) (maxL := 11) (ret := (some .long)) (by decide) rfl (Nat.le_of_ble_eq_true rfl) ?_
  intro p e s m args below meth c C hr hin
  unfold wpX11_leastExplanation at h
  show PW p l e _ s m args below meth c _ G 11 S 0 0 [(0, .ref (G.2.2 + x0)), (1, .ref (G.2.2 + x1)), (2, .int x2), (3, .ref (G.2.2 + x3))] 0 []
  refine pw_lconst (pc := 0) (v := 0) C dX11_leastExplanation_0 (by decide) ?_
  refine pw_lstore (pc := 1) C [(4, .long (0 : Int64)), (0, .ref (G.2.2 + x0)), (1, .ref (G.2.2 + x1)), (2, .int x2), (3, .ref (G.2.2 + x3))] dX11_leastExplanation_1 (by decide) rfl ?_
  refine pw_iconst (pc := 3) (v := 0 ) C dX11_leastExplanation_3 (by decide) ?_
  refine pw_istore (pc := 4) C [(6, .int (0 : Int32)), (4, .long (0 : Int64)), (0, .ref (G.2.2 + x0)), (1, .ref (G.2.2 + x1)), (2, .int x2), (3, .ref (G.2.2 + x3))] dX11_leastExplanation_4 (by decide) rfl ?_
  refine pw_sub [2, 3, 4, 5, 1, 0] (LV2 := [(0, .ref (G.2.2 + x0)), (1, .ref (G.2.2 + x1)), (2, .int x2), (3, .ref (G.2.2 + x3)), (4, .long (0 : Int64)), (6, .int (0 : Int32))]) rfl ?_
  obtain ⟨n9, h⟩ := h
  exact cbX11_leastExplanation_b6 C hr hin hZ  n9 _ _ _ _ _ _ _ h

abbrev rmX11_explanationOf : Room := { frames := 14, cells := 0, slots := 0, locals := 394 }
theorem iX11_explanationOf_X3 : ∀ w ∈ u_ws RX3 TX3 7, w ∈ wsX11_explanationOf := by decide +kernel
def wpX11_explanationOf (S : PS) (x0 : Nat) (x1 : Nat) (x2 : Int32) (Q : Int64 → PS → Prop) : Prop := (pK S x1 = 3 ∧ ((¬ (lg_cmp (pJ S x1 5) (-1 : Int64)) = 0 → (Q (pJ S x1 5) S)) ∧ ((lg_cmp (pJ S x1 5) (-1 : Int64)) = 0 → (pK S x0 = 10 ∧ (wpX11_sourceOf S x0 x1 (fun r3 S4 => ((r3 = none → (pK S4 x1 = 3 ∧ (Q (pJ (sJ S4 x1 5 (0 : Int64)) x1 5) (sJ S4 x1 5 (0 : Int64))))) ∧ (∀ o6, r3 = some o6 → (pK S4 x0 = 10 ∧ (wpX11_leastExplanation S4 x0 x1 x2 o6 (fun r8 S9 => (pK S9 x1 = 3 ∧ (Q (pJ (sJ S9 x1 5 r8) x1 5) (sJ S9 x1 5 r8))))))))))))))
set_option maxRecDepth 100000 in
set_option maxHeartbeats 4000000 in
theorem ctX11_explanationOf (l : Launch) (G : PG) (hZ : pZa G) (S : PS) (x0 : Nat) (x1 : Nat) (x2 : Int32) (Q : Int64 → PS → Prop) (h : wpX11_explanationOf S x0 x1 x2 Q) : mJ l yX11_explanationOf wsX11_explanationOf rmX11_explanationOf G S [.ref (G.2.2 + x0), .ref (G.2.2 + x1), .int x2] Q := by
  unfold mJ
  refine met_of (cc := cX11_explanationOf) (maxL := 4) (ret := (some .long)) (by decide) rfl (Nat.le_of_ble_eq_true rfl) ?_
  intro p e s m args below meth c C hr hin
  unfold wpX11_explanationOf at h
  show PW p l e _ s m args below meth c _ G 4 S 0 0 [(0, .ref (G.2.2 + x0)), (1, .ref (G.2.2 + x1)), (2, .int x2)] 0 []
  refine pw_aload_n (pc := 0) C 1 dX11_explanationOf_0 rfl rfl ?_
  obtain ⟨hk1, h⟩ := h
  refine pw_getJ (pc := 1) (ref := "SupportSolver$Fact") (k := 5) (index := 243) C pCl2 iX11_explanationOf_X3 hk1 rfl (by decide +kernel) (Or.inl rfl) dX11_explanationOf_1 ?_
  refine pw_ldc2 (pc := 4) (v := (-1)) C (by decide +kernel) dX11_explanationOf_4 ?_
  refine pw_lcmp (pc := 7) C dX11_explanationOf_7 ?_
  refine pw_if_ne (pc := 8) (tgt := 36) C dX11_explanationOf_8 rfl ⟨fun hc => ?_, fun hc => ?_⟩
  · replace h := h.1 hc
    refine pw_aload_n (pc := 36) C 1 dX11_explanationOf_36 rfl rfl ?_
    refine pw_getJ (pc := 37) (ref := "SupportSolver$Fact") (k := 5) (index := 243) C pCl2 iX11_explanationOf_X3 hk1 rfl (by decide +kernel) (Or.inl rfl) dX11_explanationOf_37 ?_
    exact pw_lret (pc := 40) C hr h dX11_explanationOf_40
  · replace h := h.2 hc
    refine pw_aload_n (pc := 11) C 0 dX11_explanationOf_11 rfl rfl ?_
    refine pw_aload_n (pc := 12) C 1 dX11_explanationOf_12 rfl rfl ?_
    obtain ⟨hk2, h⟩ := h
    refine pw_callq (pc := 13) (kc2 := 0) (kn2 := 0) (pRunV (pc := 13) C (ctX11_sourceOf l G hZ  _ x0 x1 _ h) (cwV 1 C.2.2.2.2.1 gX11_explanationOf_X11_sourceOf rfl rfl rfl (by decide +kernel) ⟨Nat.le_of_ble_eq_true rfl, Nat.le_of_ble_eq_true rfl⟩) pCl9 hk2 rfl rfl (Nat.le_of_ble_eq_true rfl) dX11_explanationOf_13 ⟨Nat.le_of_ble_eq_true rfl, Nat.le_of_ble_eq_true rfl⟩) rfl rfl (fun r3 S4 h => ?_)
    cases hqr3 : r3 with
    | none =>
      replace h := h.1 hqr3
      show PW p l e _ s m args below meth c _ G _ S4 _ _ _ _ (.null :: [])
      refine pw_astore_nN (pc := 16) C [(3, .null), (0, .ref (G.2.2 + x0)), (1, .ref (G.2.2 + x1)), (2, .int x2)] dX11_explanationOf_16 rfl (by decide) rfl ?_
      refine pw_aload_n (pc := 17) C 2 dX11_explanationOf_17 rfl rfl ?_
      refine pw_aload_nN (pc := 18) C 0 dX11_explanationOf_18 rfl rfl ?_
      refine pw_ifnonnull_n (pc := 19) C dX11_explanationOf_19 ?_
      refine pw_lconst (pc := 22) (v := 0) C dX11_explanationOf_22 (by decide) ?_
      refine pw_goto (pc := 23) (tgt := 33) C dX11_explanationOf_23 rfl ?_
      obtain ⟨hk5, h⟩ := h
      refine pw_putJ (pc := 33) (ref := "SupportSolver$Fact") (k := 5) (index := 243) C pCl2 iX11_explanationOf_X3 hk5 rfl (by decide +kernel) (Or.inl rfl) (Or.inl rfl) rfl rfl dX11_explanationOf_33 ?_
      refine pw_aload_n (pc := 36) (S := (sJ S4 x1 5 (0 : Int64))) C 2 dX11_explanationOf_36 rfl rfl ?_
      refine pw_getJ (pc := 37) (S := (sJ S4 x1 5 (0 : Int64))) (ref := "SupportSolver$Fact") (k := 5) (index := 243) C pCl2 iX11_explanationOf_X3 hk5 rfl (by decide +kernel) (Or.inl rfl) dX11_explanationOf_37 ?_
      exact pw_lret (pc := 40) (S := (sJ S4 x1 5 (0 : Int64))) C hr h dX11_explanationOf_40
    | some o6 =>
      replace h := h.2 o6 hqr3
      show PW p l e _ s m args below meth c _ G _ S4 _ _ _ _ (.ref (G.2.2 + o6) :: [])
      refine pw_astore_n (pc := 16) C [(3, .ref (G.2.2 + o6)), (0, .ref (G.2.2 + x0)), (1, .ref (G.2.2 + x1)), (2, .int x2)] dX11_explanationOf_16 rfl (by decide) rfl ?_
      refine pw_aload_n (pc := 17) C 2 dX11_explanationOf_17 rfl rfl ?_
      refine pw_aload_n (pc := 18) C 0 dX11_explanationOf_18 rfl rfl ?_
      refine pw_ifnonnull_r (pc := 19) (tgt := 26) C dX11_explanationOf_19 rfl ?_
      refine pw_aload_n (pc := 26) C 1 dX11_explanationOf_26 rfl rfl ?_
      refine pw_aload_n (pc := 27) C 2 dX11_explanationOf_27 rfl rfl ?_
      refine pw_iload_n (pc := 28) C 3 dX11_explanationOf_28 rfl rfl ?_
      refine pw_aload_n (pc := 29) C 0 dX11_explanationOf_29 rfl rfl ?_
      obtain ⟨hk7, h⟩ := h
      refine pw_calll (pc := 30) (kc2 := 0) (kn2 := 0) (pRunV (pc := 30) C (ctX11_leastExplanation l G hZ  _ x0 x1 x2 o6 _ h) (cwV 3 C.2.2.2.2.1 gX11_explanationOf_X11_leastExplanation rfl rfl rfl (by decide +kernel) ⟨Nat.le_of_ble_eq_true rfl, Nat.le_of_ble_eq_true rfl⟩) pCl9 hk7 rfl rfl (Nat.le_of_ble_eq_true rfl) dX11_explanationOf_30 ⟨Nat.le_of_ble_eq_true rfl, Nat.le_of_ble_eq_true rfl⟩) rfl rfl (fun r8 S9 h => ?_)
      obtain ⟨hk10, h⟩ := h
      refine pw_putJ (pc := 33) (ref := "SupportSolver$Fact") (k := 5) (index := 243) C pCl2 iX11_explanationOf_X3 hk10 rfl (by decide +kernel) (Or.inl rfl) (Or.inl rfl) rfl rfl dX11_explanationOf_33 ?_
      refine pw_aload_n (pc := 36) (S := (sJ S9 x1 5 r8)) C 2 dX11_explanationOf_36 rfl rfl ?_
      refine pw_getJ (pc := 37) (S := (sJ S9 x1 5 r8)) (ref := "SupportSolver$Fact") (k := 5) (index := 243) C pCl2 iX11_explanationOf_X3 hk10 rfl (by decide +kernel) (Or.inl rfl) dX11_explanationOf_37 ?_
      exact pw_lret (pc := 40) (S := (sJ S9 x1 5 r8)) C hr h dX11_explanationOf_40

abbrev rmX11_explanationSize : Room := { frames := 15, cells := 1, slots := 6, locals := 417 }
theorem iX11_explanationSize_X11 : ∀ w ∈ u_ws RX11 TX11 9, w ∈ wsX11_explanationSize := by decide +kernel
def wpX11_explanationSize (S : PS) (x0 : Nat) (x1 : Int32) (Q : Int32 → PS → Prop) (X : String → PS → Prop) : Prop := (pK S x0 = 10 ∧ (∃ o2, pR S x0 1 = some o2 ∧ (pK S o2 = 8 ∧ (wpX9_factAt S o2 x1 (fun r4 S5 => ((r4 = none → (∀ n, X "java/lang/IndexOutOfBoundsException" (sSkip S5 n))) ∧ (∀ o6, r4 = some o6 → (pK S5 x0 = 10 ∧ (wpX11_explanationOf S5 x0 o6 x1 (fun r8 S9 => (wpJ13_bitCount_95d88 S9 r8 (fun r10 S11 => (Q r10 S11)))))))))))))
set_option maxRecDepth 100000 in
set_option maxHeartbeats 4000000 in
theorem ctX11_explanationSize (l : Launch) (G : PG) (hZ : pZa G) (hl : l.stackTraces = false) (S : PS) (x0 : Nat) (x1 : Int32) (Q : Int32 → PS → Prop) (X : String → PS → Prop) (h : wpX11_explanationSize S x0 x1 Q X) : mXI l yX11_explanationSize wsX11_explanationSize rmX11_explanationSize G S [.ref (G.2.2 + x0), .int x1] Q X := by
  unfold mXI
  refine met_ofX (cc := cX11_explanationSize) (maxL := 3) (ret := (some .int)) (by decide) rfl (Nat.le_of_ble_eq_true rfl) ?_
  intro p e s m args below meth c C hout hr hin
  unfold wpX11_explanationSize at h
  show PW p l e _ s m args below meth c _ G 3 S 0 0 [(0, .ref (G.2.2 + x0)), (1, .int x1)] 0 []
  refine pw_aload_n (pc := 0) C 0 dX11_explanationSize_0 rfl rfl ?_
  obtain ⟨hk1, h⟩ := h
  obtain ⟨o2, ho2, h⟩ := h
  refine pw_getR (pc := 1) (ref := "SupportSolver") (k := 1) (index := 19) C pCl9 iX11_explanationSize_X11 hk1 rfl (by decide +kernel) (Or.inl rfl) (o := o2) ho2 dX11_explanationSize_1 ?_
  refine pw_iload_n (pc := 4) C 1 dX11_explanationSize_4 rfl rfl ?_
  obtain ⟨hk3, h⟩ := h
  refine pw_callq (pc := 5) (kc2 := 0) (kn2 := 0) (pRunV (pc := 5) C (ctX9_factAt l G hZ  _ o2 x1 _ h) (cwV 1 C.2.2.2.2.1 gX11_explanationSize_X9_factAt rfl rfl rfl (by decide +kernel) ⟨Nat.le_of_ble_eq_true rfl, Nat.le_of_ble_eq_true rfl⟩) pCl7 hk3 rfl rfl (Nat.le_of_ble_eq_true rfl) dX11_explanationSize_5 ⟨Nat.le_of_ble_eq_true rfl, Nat.le_of_ble_eq_true rfl⟩) rfl rfl (fun r4 S5 h => ?_)
  cases hqr4 : r4 with
  | none =>
    replace h := h.1 hqr4
    show PW p l e _ s m args below meth c _ G _ S5 _ _ _ _ (.null :: [])
    refine pw_astore_nN (pc := 8) C [(2, .null), (0, .ref (G.2.2 + x0)), (1, .int x1)] dX11_explanationSize_8 rfl (by decide) rfl ?_
    refine pw_aload_nN (pc := 9) C 0 dX11_explanationSize_9 rfl rfl ?_
    refine pw_ifnonnull_n (pc := 10) C dX11_explanationSize_10 ?_
    exact pw_throwS (pc := 13) (mc := 1) (ms := 6) C hl (hZ.2.2.2.2.2.2.2.2.2.2.2.2.2.2.2.2.2.2.2.2.2.2.2.2.2.2.2.2.2.2.2.2.2.2.2.2.2.1) (by decide +kernel) (by decide +kernel) (by decide +kernel) hout dX11_explanationSize_13 dX11_explanationSize_16 dX11_explanationSize_17 dX11_explanationSize_19 dX11_explanationSize_22 (by decide) (Nat.le_of_ble_eq_true rfl) (Nat.le_of_ble_eq_true rfl) (Nat.le_of_ble_eq_true rfl) (Nat.le_of_ble_eq_true rfl) (Nat.le_of_ble_eq_true rfl) h
  | some o6 =>
    replace h := h.2 o6 hqr4
    show PW p l e _ s m args below meth c _ G _ S5 _ _ _ _ (.ref (G.2.2 + o6) :: [])
    refine pw_astore_n (pc := 8) C [(2, .ref (G.2.2 + o6)), (0, .ref (G.2.2 + x0)), (1, .int x1)] dX11_explanationSize_8 rfl (by decide) rfl ?_
    refine pw_aload_n (pc := 9) C 0 dX11_explanationSize_9 rfl rfl ?_
    refine pw_ifnonnull_r (pc := 10) (tgt := 23) C dX11_explanationSize_10 rfl ?_
    refine pw_aload_n (pc := 23) C 1 dX11_explanationSize_23 rfl rfl ?_
    refine pw_aload_n (pc := 24) C 0 dX11_explanationSize_24 rfl rfl ?_
    refine pw_iload_n (pc := 25) C 2 dX11_explanationSize_25 rfl rfl ?_
    obtain ⟨hk7, h⟩ := h
    refine pw_calll (pc := 26) (kc2 := 0) (kn2 := 0) (pRunV (pc := 26) C (ctX11_explanationOf l G hZ  _ x0 o6 x1 _ h) (cwV 2 C.2.2.2.2.1 gX11_explanationSize_X11_explanationOf rfl rfl rfl (by decide +kernel) ⟨Nat.le_of_ble_eq_true rfl, Nat.le_of_ble_eq_true rfl⟩) pCl9 hk7 rfl rfl (Nat.le_of_ble_eq_true rfl) dX11_explanationSize_26 ⟨Nat.le_of_ble_eq_true rfl, Nat.le_of_ble_eq_true rfl⟩) rfl rfl (fun r8 S9 h => ?_)
    refine pw_calli (pc := 29) (kc2 := 0) (kn2 := 0) (pRunS (pc := 29) C (ctJ13_bitCount_95d88 l G  _ r8 _ h) (va_cwS 1 C.2.2.2.2.1 gX11_explanationSize_J13_bitCount_95d88 rfl rfl rfl (by decide +kernel) ⟨Nat.le_of_ble_eq_true rfl, Nat.le_of_ble_eq_true rfl⟩) rfl rfl (Nat.le_of_ble_eq_true rfl) dX11_explanationSize_29 ⟨Nat.le_of_ble_eq_true rfl, Nat.le_of_ble_eq_true rfl⟩) rfl rfl (fun r10 S11 h => ?_)
    refine pw_widen (k2 := 1) (n2 := 6) (Nat.le_of_ble_eq_true rfl) (Nat.le_of_ble_eq_true rfl) ?_
    refine pw_xret ?_
    exact pw_iret (pc := 32) C hr h dX11_explanationSize_32

abbrev rmX11_explained : Room := { frames := 15, cells := 1, slots := 6, locals := 417 }
theorem iX11_explained_X11 : ∀ w ∈ u_ws RX11 TX11 9, w ∈ wsX11_explained := by decide +kernel
def wpX11_explained_b37  (Q : Int32 → PS → Prop) (X : String → PS → Prop) : Nat → PS → Nat → Int32 → Int32 → Option Nat → Int64 → Int32 → Int32 → Prop
  | 0 => fun _ _ _ _ _ _ _ _ => False
  | n + 1 => fun S x0 x1 x2 x3 x4 x6 x7 => ((x3 = none → ((x1 ≤ x7 → (∀ n, X "java/lang/IndexOutOfBoundsException" (sSkip S n))) ∧ (¬ x1 ≤ x7 → (pK S x0 = 10 ∧ (∃ o3, pR S x0 1 = some o3 ∧ (pK S o3 = 8 ∧ (wpX9_pairAt S o3 x7 (fun r5 S6 => (((lg_cmp (r5 &&& x4) (0 : Int64)) = 0 → (wpX11_explained_b37 Q X n S6 x0 x1 x2 none x4 x6 (x7 + 1))) ∧ (¬ (lg_cmp (r5 &&& x4) (0 : Int64)) = 0 → ((¬ x6 = x2 → (wpX11_explained_b37 Q X n S6 x0 x1 x2 none x4 (x6 + 1) (x7 + 1))) ∧ (x6 = x2 → (Q x7 S6))))))))))))) ∧ (∀ o1, x3 = some o1 → ((x1 ≤ x7 → (∀ n, X "java/lang/IndexOutOfBoundsException" (sSkip S n))) ∧ (¬ x1 ≤ x7 → (pK S x0 = 10 ∧ (∃ o8, pR S x0 1 = some o8 ∧ (pK S o8 = 8 ∧ (wpX9_pairAt S o8 x7 (fun r10 S11 => (((lg_cmp (r10 &&& x4) (0 : Int64)) = 0 → (wpX11_explained_b37 Q X n S11 x0 x1 x2 (some o1) x4 x6 (x7 + 1))) ∧ (¬ (lg_cmp (r10 &&& x4) (0 : Int64)) = 0 → ((¬ x6 = x2 → (wpX11_explained_b37 Q X n S11 x0 x1 x2 (some o1) x4 (x6 + 1) (x7 + 1))) ∧ (x6 = x2 → (Q x7 S11))))))))))))))
def wpX11_explained (S : PS) (x0 : Nat) (x1 : Int32) (x2 : Int32) (Q : Int32 → PS → Prop) (X : String → PS → Prop) : Prop := (pK S x0 = 10 ∧ (∃ o13, pR S x0 1 = some o13 ∧ (pK S o13 = 8 ∧ (wpX9_factAt S o13 x1 (fun r15 S16 => ((r15 = none → (∀ n, X "java/lang/IndexOutOfBoundsException" (sSkip S16 n))) ∧ (∀ o17, r15 = some o17 → (pK S16 x0 = 10 ∧ (wpX11_explanationOf S16 x0 o17 x1 (fun r19 S20 => (∃ n9 : Nat, wpX11_explained_b37 Q X n9 S20 x0 x1 x2 (some o17) r19 (0 : Int32) (0 : Int32))))))))))))
set_option maxRecDepth 100000 in
set_option maxHeartbeats 4000000 in
theorem cbX11_explained_b37 {p : Program} {l : Launch} {e : Env} {s : State} {m : MethodId} {args : Array Value} {below : List Frame} {meth : Method} {c : Code} {G : PG} {Q : Int32 → PS → Prop} {X : String → PS → Prop} (C : pCx p s m args meth c G cX11_explained 8 yX11_explained.cls wsX11_explained) (hr : meth.sig.returnType = (some .int)) (hin : meth.name = yX11_explained.name) (hZ : pZa G) (hout : ∀ x ∈ c.exceptionTable.toList, False) (hl : l.stackTraces = false)  (n : Nat) : ∀ (S : PS) (x0 : Nat) (x1 : Int32) (x2 : Int32) (x3 : Option Nat) (x4 : Int64) (x6 : Int32) (x7 : Int32), wpX11_explained_b37  Q X n S x0 x1 x2 x3 x4 x6 x7 → PW p l e rmX11_explained s m args below meth c (vx_MQ below (va_Qi Q (pB G) (pFr G)) (pXC G X) args s rmX11_explained.cells rmX11_explained.slots (pFr G)) G 8 S 0 0 [(0, .ref (G.2.2 + x0)), (1, .int x1), (2, .int x2), (3, rf G.2.2 x3), (4, .long x4), (6, .int x6), (7, .int x7)] 37 ([]) := by
  induction n with
  | zero => intro S x0 x1 x2 x3 x4 x6 x7 h; exact h.elim
  | succ n ih =>
    intro S x0 x1 x2 x3 x4 x6 x7 h
    unfold wpX11_explained_b37 at h
    cases hqx3 : x3 with
    | none =>
      replace h := h.1 hqx3
      show PW p l e _ s m args below meth c _ G _ S _ _ [(0, .ref (G.2.2 + x0)), (1, .int x1), (2, .int x2), (3, .null), (4, .long x4), (6, .int x6), (7, .int x7)] 37 ([])
      refine pw_iload (pc := 37) C 6 dX11_explained_37 rfl ?_
      refine pw_iload_n (pc := 39) C 1 dX11_explained_39 rfl rfl ?_
      refine pw_icmp_ge (pc := 40) (tgt := 78) C dX11_explained_40 rfl ⟨fun hc => ?_, fun hc => ?_⟩
      · replace h := h.1 hc
        exact pw_throwS (pc := 78) (mc := 1) (ms := 6) C hl (hZ.2.2.2.2.2.2.2.2.2.2.2.2.2.2.2.2.2.2.2.2.2.2.2.2.2.2.2.2.2.2.2.2.2.2.2.2.2.2.2.2.1) (by decide +kernel) (by decide +kernel) (by decide +kernel) hout dX11_explained_78 dX11_explained_81 dX11_explained_82 dX11_explained_84 dX11_explained_87 (by decide) (Nat.le_of_ble_eq_true rfl) (Nat.le_of_ble_eq_true rfl) (Nat.le_of_ble_eq_true rfl) (Nat.le_of_ble_eq_true rfl) (Nat.le_of_ble_eq_true rfl) h
      · replace h := h.2 hc
        refine pw_aload_n (pc := 43) C 0 dX11_explained_43 rfl rfl ?_
        obtain ⟨hk2, h⟩ := h
        obtain ⟨o3, ho3, h⟩ := h
        refine pw_getR (pc := 44) (ref := "SupportSolver") (k := 1) (index := 19) C pCl9 iX11_explained_X11 hk2 rfl (by decide +kernel) (Or.inl rfl) (o := o3) ho3 dX11_explained_44 ?_
        refine pw_iload (pc := 47) C 6 dX11_explained_47 rfl ?_
        obtain ⟨hk4, h⟩ := h
        refine pw_calll (pc := 49) (kc2 := 0) (kn2 := 0) (pRunV (pc := 49) C (ctX9_pairAt l G hZ  _ o3 x7 _ h) (cwV 1 C.2.2.2.2.1 gX11_explained_X9_pairAt rfl rfl rfl (by decide +kernel) ⟨Nat.le_of_ble_eq_true rfl, Nat.le_of_ble_eq_true rfl⟩) pCl7 hk4 rfl rfl (Nat.le_of_ble_eq_true rfl) dX11_explained_49 ⟨Nat.le_of_ble_eq_true rfl, Nat.le_of_ble_eq_true rfl⟩) rfl rfl (fun r5 S6 h => ?_)
        refine pw_lload (pc := 52) C 4 dX11_explained_52 rfl ?_
        refine pw_land (pc := 54) C dX11_explained_54 ?_
        refine pw_lconst (pc := 55) (v := 0) C dX11_explained_55 (by decide) ?_
        refine pw_lcmp (pc := 56) C dX11_explained_56 ?_
        refine pw_if_eq (pc := 57) (tgt := 72) C dX11_explained_57 rfl ⟨fun hc => ?_, fun hc => ?_⟩
        · replace h := h.1 hc
          refine pw_iincK (pc := 72) (w := 1) C [(7, .int (x7 + 1)), (0, .ref (G.2.2 + x0)), (1, .int x1), (2, .int x2), (3, .null), (4, .long x4), (6, .int x6)] 6 dX11_explained_72 (by decide) rfl (by decide) rfl ?_
          refine pw_goto (pc := 75) (tgt := 37) C dX11_explained_75 rfl ?_
          refine pw_sub [1, 2, 3, 4, 5, 6, 0] (LV2 := [(0, .ref (G.2.2 + x0)), (1, .int x1), (2, .int x2), (3, .null), (4, .long x4), (6, .int x6), (7, .int (x7 + 1))]) rfl ?_
          exact ih _ _ _ _ _ _ _ _ h
        · replace h := h.2 hc
          refine pw_iload (pc := 60) C 5 dX11_explained_60 rfl ?_
          refine pw_iload_n (pc := 62) C 2 dX11_explained_62 rfl rfl ?_
          refine pw_icmp_ne (pc := 63) (tgt := 69) C dX11_explained_63 rfl ⟨fun hc => ?_, fun hc => ?_⟩
          · replace h := h.1 hc
            refine pw_iincK (pc := 69) (w := 1) C [(6, .int (x6 + 1)), (0, .ref (G.2.2 + x0)), (1, .int x1), (2, .int x2), (3, .null), (4, .long x4), (7, .int x7)] 5 dX11_explained_69 (by decide) rfl (by decide) rfl ?_
            refine pw_iincK (pc := 72) (w := 1) C [(7, .int (x7 + 1)), (6, .int (x6 + 1)), (0, .ref (G.2.2 + x0)), (1, .int x1), (2, .int x2), (3, .null), (4, .long x4)] 6 dX11_explained_72 (by decide) rfl (by decide) rfl ?_
            refine pw_goto (pc := 75) (tgt := 37) C dX11_explained_75 rfl ?_
            refine pw_sub [2, 3, 4, 5, 6, 1, 0] (LV2 := [(0, .ref (G.2.2 + x0)), (1, .int x1), (2, .int x2), (3, .null), (4, .long x4), (6, .int (x6 + 1)), (7, .int (x7 + 1))]) rfl ?_
            exact ih _ _ _ _ _ _ _ _ h
          · replace h := h.2 hc
            refine pw_iload (pc := 66) C 6 dX11_explained_66 rfl ?_
            refine pw_widen (k2 := 1) (n2 := 6) (Nat.le_of_ble_eq_true rfl) (Nat.le_of_ble_eq_true rfl) ?_
            refine pw_xret ?_
            exact pw_iret (pc := 68) C hr h dX11_explained_68
    | some o1 =>
      replace h := h.2 o1 hqx3
      show PW p l e _ s m args below meth c _ G _ S _ _ [(0, .ref (G.2.2 + x0)), (1, .int x1), (2, .int x2), (3, .ref (G.2.2 + o1)), (4, .long x4), (6, .int x6), (7, .int x7)] 37 ([])
      refine pw_iload (pc := 37) C 6 dX11_explained_37 rfl ?_
      refine pw_iload_n (pc := 39) C 1 dX11_explained_39 rfl rfl ?_
      refine pw_icmp_ge (pc := 40) (tgt := 78) C dX11_explained_40 rfl ⟨fun hc => ?_, fun hc => ?_⟩
      · replace h := h.1 hc
        exact pw_throwS (pc := 78) (mc := 1) (ms := 6) C hl (hZ.2.2.2.2.2.2.2.2.2.2.2.2.2.2.2.2.2.2.2.2.2.2.2.2.2.2.2.2.2.2.2.2.2.2.2.2.2.2.2.2.1) (by decide +kernel) (by decide +kernel) (by decide +kernel) hout dX11_explained_78 dX11_explained_81 dX11_explained_82 dX11_explained_84 dX11_explained_87 (by decide) (Nat.le_of_ble_eq_true rfl) (Nat.le_of_ble_eq_true rfl) (Nat.le_of_ble_eq_true rfl) (Nat.le_of_ble_eq_true rfl) (Nat.le_of_ble_eq_true rfl) h
      · replace h := h.2 hc
        refine pw_aload_n (pc := 43) C 0 dX11_explained_43 rfl rfl ?_
        obtain ⟨hk7, h⟩ := h
        obtain ⟨o8, ho8, h⟩ := h
        refine pw_getR (pc := 44) (ref := "SupportSolver") (k := 1) (index := 19) C pCl9 iX11_explained_X11 hk7 rfl (by decide +kernel) (Or.inl rfl) (o := o8) ho8 dX11_explained_44 ?_
        refine pw_iload (pc := 47) C 6 dX11_explained_47 rfl ?_
        obtain ⟨hk9, h⟩ := h
        refine pw_calll (pc := 49) (kc2 := 0) (kn2 := 0) (pRunV (pc := 49) C (ctX9_pairAt l G hZ  _ o8 x7 _ h) (cwV 1 C.2.2.2.2.1 gX11_explained_X9_pairAt rfl rfl rfl (by decide +kernel) ⟨Nat.le_of_ble_eq_true rfl, Nat.le_of_ble_eq_true rfl⟩) pCl7 hk9 rfl rfl (Nat.le_of_ble_eq_true rfl) dX11_explained_49 ⟨Nat.le_of_ble_eq_true rfl, Nat.le_of_ble_eq_true rfl⟩) rfl rfl (fun r10 S11 h => ?_)
        refine pw_lload (pc := 52) C 4 dX11_explained_52 rfl ?_
        refine pw_land (pc := 54) C dX11_explained_54 ?_
        refine pw_lconst (pc := 55) (v := 0) C dX11_explained_55 (by decide) ?_
        refine pw_lcmp (pc := 56) C dX11_explained_56 ?_
        refine pw_if_eq (pc := 57) (tgt := 72) C dX11_explained_57 rfl ⟨fun hc => ?_, fun hc => ?_⟩
        · replace h := h.1 hc
          refine pw_iincK (pc := 72) (w := 1) C [(7, .int (x7 + 1)), (0, .ref (G.2.2 + x0)), (1, .int x1), (2, .int x2), (3, .ref (G.2.2 + o1)), (4, .long x4), (6, .int x6)] 6 dX11_explained_72 (by decide) rfl (by decide) rfl ?_
          refine pw_goto (pc := 75) (tgt := 37) C dX11_explained_75 rfl ?_
          refine pw_sub [1, 2, 3, 4, 5, 6, 0] (LV2 := [(0, .ref (G.2.2 + x0)), (1, .int x1), (2, .int x2), (3, .ref (G.2.2 + o1)), (4, .long x4), (6, .int x6), (7, .int (x7 + 1))]) rfl ?_
          exact ih _ _ _ _ _ _ _ _ h
        · replace h := h.2 hc
          refine pw_iload (pc := 60) C 5 dX11_explained_60 rfl ?_
          refine pw_iload_n (pc := 62) C 2 dX11_explained_62 rfl rfl ?_
          refine pw_icmp_ne (pc := 63) (tgt := 69) C dX11_explained_63 rfl ⟨fun hc => ?_, fun hc => ?_⟩
          · replace h := h.1 hc
            refine pw_iincK (pc := 69) (w := 1) C [(6, .int (x6 + 1)), (0, .ref (G.2.2 + x0)), (1, .int x1), (2, .int x2), (3, .ref (G.2.2 + o1)), (4, .long x4), (7, .int x7)] 5 dX11_explained_69 (by decide) rfl (by decide) rfl ?_
            refine pw_iincK (pc := 72) (w := 1) C [(7, .int (x7 + 1)), (6, .int (x6 + 1)), (0, .ref (G.2.2 + x0)), (1, .int x1), (2, .int x2), (3, .ref (G.2.2 + o1)), (4, .long x4)] 6 dX11_explained_72 (by decide) rfl (by decide) rfl ?_
            refine pw_goto (pc := 75) (tgt := 37) C dX11_explained_75 rfl ?_
            refine pw_sub [2, 3, 4, 5, 6, 1, 0] (LV2 := [(0, .ref (G.2.2 + x0)), (1, .int x1), (2, .int x2), (3, .ref (G.2.2 + o1)), (4, .long x4), (6, .int (x6 + 1)), (7, .int (x7 + 1))]) rfl ?_
            exact ih _ _ _ _ _ _ _ _ h
          · replace h := h.2 hc
            refine pw_iload (pc := 66) C 6 dX11_explained_66 rfl ?_
            refine pw_widen (k2 := 1) (n2 := 6) (Nat.le_of_ble_eq_true rfl) (Nat.le_of_ble_eq_true rfl) ?_
            refine pw_xret ?_
            exact pw_iret (pc := 68) C hr h dX11_explained_68
set_option maxRecDepth 100000 in
set_option maxHeartbeats 4000000 in
theorem ctX11_explained (l : Launch) (G : PG) (hZ : pZa G) (hl : l.stackTraces = false) (S : PS) (x0 : Nat) (x1 : Int32) (x2 : Int32) (Q : Int32 → PS → Prop) (X : String → PS → Prop) (h : wpX11_explained S x0 x1 x2 Q X) : mXI l yX11_explained wsX11_explained rmX11_explained G S [.ref (G.2.2 + x0), .int x1, .int x2] Q X := by
  unfold mXI
  refine met_ofX (cc := cX11_explained) (maxL := 8) (ret := (some .int)) (by decide) rfl (Nat.le_of_ble_eq_true rfl) ?_
  intro p e s m args below meth c C hout hr hin
  unfold wpX11_explained at h
  show PW p l e _ s m args below meth c _ G 8 S 0 0 [(0, .ref (G.2.2 + x0)), (1, .int x1), (2, .int x2)] 0 []
  refine pw_aload_n (pc := 0) C 0 dX11_explained_0 rfl rfl ?_
  obtain ⟨hk12, h⟩ := h
  obtain ⟨o13, ho13, h⟩ := h
  refine pw_getR (pc := 1) (ref := "SupportSolver") (k := 1) (index := 19) C pCl9 iX11_explained_X11 hk12 rfl (by decide +kernel) (Or.inl rfl) (o := o13) ho13 dX11_explained_1 ?_
  refine pw_iload_n (pc := 4) C 1 dX11_explained_4 rfl rfl ?_
  obtain ⟨hk14, h⟩ := h
  refine pw_callq (pc := 5) (kc2 := 0) (kn2 := 0) (pRunV (pc := 5) C (ctX9_factAt l G hZ  _ o13 x1 _ h) (cwV 1 C.2.2.2.2.1 gX11_explained_X9_factAt rfl rfl rfl (by decide +kernel) ⟨Nat.le_of_ble_eq_true rfl, Nat.le_of_ble_eq_true rfl⟩) pCl7 hk14 rfl rfl (Nat.le_of_ble_eq_true rfl) dX11_explained_5 ⟨Nat.le_of_ble_eq_true rfl, Nat.le_of_ble_eq_true rfl⟩) rfl rfl (fun r15 S16 h => ?_)
  cases hqr15 : r15 with
  | none =>
    replace h := h.1 hqr15
    show PW p l e _ s m args below meth c _ G _ S16 _ _ _ _ (.null :: [])
    refine pw_astore_nN (pc := 8) C [(3, .null), (0, .ref (G.2.2 + x0)), (1, .int x1), (2, .int x2)] dX11_explained_8 rfl (by decide) rfl ?_
    refine pw_aload_nN (pc := 9) C 0 dX11_explained_9 rfl rfl ?_
    refine pw_ifnonnull_n (pc := 10) C dX11_explained_10 ?_
    exact pw_throwS (pc := 13) (mc := 1) (ms := 6) C hl (hZ.2.2.2.2.2.2.2.2.2.2.2.2.2.2.2.2.2.2.2.2.2.2.2.2.2.2.2.2.2.2.2.2.2.2.2.2.2.1) (by decide +kernel) (by decide +kernel) (by decide +kernel) hout dX11_explained_13 dX11_explained_16 dX11_explained_17 dX11_explained_19 dX11_explained_22 (by decide) (Nat.le_of_ble_eq_true rfl) (Nat.le_of_ble_eq_true rfl) (Nat.le_of_ble_eq_true rfl) (Nat.le_of_ble_eq_true rfl) (Nat.le_of_ble_eq_true rfl) h
  | some o17 =>
    replace h := h.2 o17 hqr15
    show PW p l e _ s m args below meth c _ G _ S16 _ _ _ _ (.ref (G.2.2 + o17) :: [])
    refine pw_astore_n (pc := 8) C [(3, .ref (G.2.2 + o17)), (0, .ref (G.2.2 + x0)), (1, .int x1), (2, .int x2)] dX11_explained_8 rfl (by decide) rfl ?_
    refine pw_aload_n (pc := 9) C 0 dX11_explained_9 rfl rfl ?_
    refine pw_ifnonnull_r (pc := 10) (tgt := 23) C dX11_explained_10 rfl ?_
    refine pw_aload_n (pc := 23) C 1 dX11_explained_23 rfl rfl ?_
    refine pw_aload_n (pc := 24) C 0 dX11_explained_24 rfl rfl ?_
    refine pw_iload_n (pc := 25) C 2 dX11_explained_25 rfl rfl ?_
    obtain ⟨hk18, h⟩ := h
    refine pw_calll (pc := 26) (kc2 := 0) (kn2 := 0) (pRunV (pc := 26) C (ctX11_explanationOf l G hZ  _ x0 o17 x1 _ h) (cwV 2 C.2.2.2.2.1 gX11_explained_X11_explanationOf rfl rfl rfl (by decide +kernel) ⟨Nat.le_of_ble_eq_true rfl, Nat.le_of_ble_eq_true rfl⟩) pCl9 hk18 rfl rfl (Nat.le_of_ble_eq_true rfl) dX11_explained_26 ⟨Nat.le_of_ble_eq_true rfl, Nat.le_of_ble_eq_true rfl⟩) rfl rfl (fun r19 S20 h => ?_)
    refine pw_lstore (pc := 29) C [(4, .long r19), (3, .ref (G.2.2 + o17)), (0, .ref (G.2.2 + x0)), (1, .int x1), (2, .int x2)] dX11_explained_29 (by decide) rfl ?_
    refine pw_iconst (pc := 31) (v := 0 ) C dX11_explained_31 (by decide) ?_
    refine pw_istore (pc := 32) C [(6, .int (0 : Int32)), (4, .long r19), (3, .ref (G.2.2 + o17)), (0, .ref (G.2.2 + x0)), (1, .int x1), (2, .int x2)] dX11_explained_32 (by decide) rfl ?_
    refine pw_iconst (pc := 34) (v := 0 ) C dX11_explained_34 (by decide) ?_
    refine pw_istore (pc := 35) C [(7, .int (0 : Int32)), (6, .int (0 : Int32)), (4, .long r19), (3, .ref (G.2.2 + o17)), (0, .ref (G.2.2 + x0)), (1, .int x1), (2, .int x2)] dX11_explained_35 (by decide) rfl ?_
    refine pw_sub [4, 5, 6, 3, 2, 1, 0] (LV2 := [(0, .ref (G.2.2 + x0)), (1, .int x1), (2, .int x2), (3, .ref (G.2.2 + o17)), (4, .long r19), (6, .int (0 : Int32)), (7, .int (0 : Int32))]) rfl ?_
    obtain ⟨n9, h⟩ := h
    exact cbX11_explained_b37 C hr hin hZ hout hl  n9 _ _ _ _ _ _ _ _ h

abbrev rmX11_depthAbove : Room := { frames := 2, cells := 0, slots := 0, locals := 41 }
theorem iX11_depthAbove_X11 : ∀ w ∈ u_ws RX11 TX11 9, w ∈ wsX11_depthAbove := by decide +kernel
theorem iX11_depthAbove_X3 : ∀ w ∈ u_ws RX3 TX3 7, w ∈ wsX11_depthAbove := by decide +kernel
def wpX11_depthAbove_b6  (Q : Int32 → PS → Prop) : Nat → PS → Nat → Int64 → Int32 → Int32 → Int32 → Prop
  | 0 => fun _ _ _ _ _ _ => False
  | n + 1 => fun S x0 x1 x3 x4 x5 => ((x3 ≤ x5 → (Q x4 S)) ∧ (¬ x3 ≤ x5 → (pK S x0 = 10 ∧ (∃ o2, pR S x0 1 = some o2 ∧ (pK S o2 = 8 ∧ (wpX9_factAt S o2 x5 (fun r4 S5 => ((r4 = none → (wpX11_depthAbove_b6 Q n S5 x0 x1 x3 x4 (x5 + 1))) ∧ (∀ o6, r4 = some o6 → (pK S5 o6 = 3 ∧ (wpX3_pair S5 o6 (fun r8 S9 => (((lg_cmp (r8 &&& x1) (0 : Int64)) = 0 → (wpX11_depthAbove_b6 Q n S9 x0 x1 x3 x4 (x5 + 1))) ∧ (¬ (lg_cmp (r8 &&& x1) (0 : Int64)) = 0 → (pK S9 o6 = 3 ∧ (wpX11_depthAbove_b6 Q n S9 x0 x1 x3 (if x4 < ((pI S9 o6 6) + (1 : Int32)) then ((pI S9 o6 6) + (1 : Int32)) else x4) (x5 + 1)))))))))))))))))
def wpX11_depthAbove (S : PS) (x0 : Nat) (x1 : Int64) (x3 : Int32) (Q : Int32 → PS → Prop) : Prop := (∃ n9 : Nat, wpX11_depthAbove_b6 Q n9 S x0 x1 x3 (0 : Int32) (0 : Int32))
set_option maxRecDepth 100000 in
set_option maxHeartbeats 4000000 in
theorem cbX11_depthAbove_b6 {p : Program} {l : Launch} {e : Env} {s : State} {m : MethodId} {args : Array Value} {below : List Frame} {meth : Method} {c : Code} {G : PG} {Q : Int32 → PS → Prop} (C : pCx p s m args meth c G cX11_depthAbove 7 yX11_depthAbove.cls wsX11_depthAbove) (hr : meth.sig.returnType = (some .int)) (hin : meth.name = yX11_depthAbove.name) (hZ : pZa G)  (n : Nat) : ∀ (S : PS) (x0 : Nat) (x1 : Int64) (x3 : Int32) (x4 : Int32) (x5 : Int32), wpX11_depthAbove_b6  Q n S x0 x1 x3 x4 x5 → PW p l e rmX11_depthAbove s m args below meth c (MQ below (va_Qi Q (pB G) (pFr G)) args s rmX11_depthAbove.cells rmX11_depthAbove.slots (pFr G)) G 7 S 0 0 [(0, .ref (G.2.2 + x0)), (1, .long x1), (3, .int x3), (4, .int x4), (5, .int x5)] 6 ([]) := by
  induction n with
  | zero => intro S x0 x1 x3 x4 x5 h; exact h.elim
  | succ n ih =>
    intro S x0 x1 x3 x4 x5 h
    unfold wpX11_depthAbove_b6 at h
    refine pw_iload (pc := 6) C 4 dX11_depthAbove_6 rfl ?_
    refine pw_iload_n (pc := 8) C 2 dX11_depthAbove_8 rfl rfl ?_
    refine pw_icmp_ge (pc := 9) (tgt := 60) C dX11_depthAbove_9 rfl ⟨fun hc => ?_, fun hc => ?_⟩
    · replace h := h.1 hc
      refine pw_iload (pc := 60) C 3 dX11_depthAbove_60 rfl ?_
      exact pw_iret (pc := 62) C hr h dX11_depthAbove_62
    · replace h := h.2 hc
      refine pw_aload_n (pc := 12) C 0 dX11_depthAbove_12 rfl rfl ?_
      obtain ⟨hk1, h⟩ := h
      obtain ⟨o2, ho2, h⟩ := h
      refine pw_getR (pc := 13) (ref := "SupportSolver") (k := 1) (index := 19) C pCl9 iX11_depthAbove_X11 hk1 rfl (by decide +kernel) (Or.inl rfl) (o := o2) ho2 dX11_depthAbove_13 ?_
      refine pw_iload (pc := 16) C 4 dX11_depthAbove_16 rfl ?_
      obtain ⟨hk3, h⟩ := h
      refine pw_callq (pc := 18) (kc2 := 0) (kn2 := 0) (pRunV (pc := 18) C (ctX9_factAt l G hZ  _ o2 x5 _ h) (cwV 1 C.2.2.2.2.1 gX11_depthAbove_X9_factAt rfl rfl rfl (by decide +kernel) ⟨Nat.le_of_ble_eq_true rfl, Nat.le_of_ble_eq_true rfl⟩) pCl7 hk3 rfl rfl (Nat.le_of_ble_eq_true rfl) dX11_depthAbove_18 ⟨Nat.le_of_ble_eq_true rfl, Nat.le_of_ble_eq_true rfl⟩) rfl rfl (fun r4 S5 h => ?_)
      cases hqr4 : r4 with
      | none =>
        replace h := h.1 hqr4
        show PW p l e _ s m args below meth c _ G _ S5 _ _ _ _ (.null :: [])
        refine pw_astoreN (pc := 21) C [(6, .null), (0, .ref (G.2.2 + x0)), (1, .long x1), (3, .int x3), (4, .int x4), (5, .int x5)] dX11_depthAbove_21 (by decide) rfl ?_
        refine pw_aloadN (pc := 23) C 0 dX11_depthAbove_23 rfl ?_
        refine pw_ifnull_n (pc := 25) (tgt := 54) C dX11_depthAbove_25 rfl ?_
        refine pw_iincK (pc := 54) (w := 1) C [(5, .int (x5 + 1)), (6, .null), (0, .ref (G.2.2 + x0)), (1, .long x1), (3, .int x3), (4, .int x4)] 5 dX11_depthAbove_54 (by decide) rfl (by decide) rfl ?_
        refine pw_goto (pc := 57) (tgt := 6) C dX11_depthAbove_57 rfl ?_
        refine pw_sub [2, 3, 4, 5, 0] (LV2 := [(0, .ref (G.2.2 + x0)), (1, .long x1), (3, .int x3), (4, .int x4), (5, .int (x5 + 1))]) rfl ?_
        exact ih _ _ _ _ _ _ h
      | some o6 =>
        replace h := h.2 o6 hqr4
        show PW p l e _ s m args below meth c _ G _ S5 _ _ _ _ (.ref (G.2.2 + o6) :: [])
        refine pw_astore (pc := 21) C [(6, .ref (G.2.2 + o6)), (0, .ref (G.2.2 + x0)), (1, .long x1), (3, .int x3), (4, .int x4), (5, .int x5)] dX11_depthAbove_21 (by decide) rfl ?_
        refine pw_aload (pc := 23) C 0 dX11_depthAbove_23 rfl ?_
        refine pw_ifnull_r (pc := 25) C dX11_depthAbove_25 ?_
        refine pw_aload (pc := 28) C 0 dX11_depthAbove_28 rfl ?_
        obtain ⟨hk7, h⟩ := h
        refine pw_calll (pc := 30) (kc2 := 0) (kn2 := 0) (pRunV (pc := 30) C (ctX3_pair l G hZ  _ o6 _ h) (cwV 0 C.2.2.2.2.1 gX11_depthAbove_X3_pair rfl rfl rfl (by decide +kernel) ⟨Nat.le_of_ble_eq_true rfl, Nat.le_of_ble_eq_true rfl⟩) pCl2 hk7 rfl rfl (Nat.le_of_ble_eq_true rfl) dX11_depthAbove_30 ⟨Nat.le_of_ble_eq_true rfl, Nat.le_of_ble_eq_true rfl⟩) rfl rfl (fun r8 S9 h => ?_)
        refine pw_lload_n (pc := 33) C 2 dX11_depthAbove_33 rfl rfl ?_
        refine pw_land (pc := 34) C dX11_depthAbove_34 ?_
        refine pw_lconst (pc := 35) (v := 0) C dX11_depthAbove_35 (by decide) ?_
        refine pw_lcmp (pc := 36) C dX11_depthAbove_36 ?_
        refine pw_if_eq (pc := 37) (tgt := 54) C dX11_depthAbove_37 rfl ⟨fun hc => ?_, fun hc => ?_⟩
        · replace h := h.1 hc
          refine pw_iincK (pc := 54) (w := 1) C [(5, .int (x5 + 1)), (6, .ref (G.2.2 + o6)), (0, .ref (G.2.2 + x0)), (1, .long x1), (3, .int x3), (4, .int x4)] 5 dX11_depthAbove_54 (by decide) rfl (by decide) rfl ?_
          refine pw_goto (pc := 57) (tgt := 6) C dX11_depthAbove_57 rfl ?_
          refine pw_sub [2, 3, 4, 5, 0] (LV2 := [(0, .ref (G.2.2 + x0)), (1, .long x1), (3, .int x3), (4, .int x4), (5, .int (x5 + 1))]) rfl ?_
          exact ih _ _ _ _ _ _ h
        · replace h := h.2 hc
          refine pw_iload (pc := 40) C 4 dX11_depthAbove_40 rfl ?_
          refine pw_aload (pc := 42) C 0 dX11_depthAbove_42 rfl ?_
          obtain ⟨hk10, h⟩ := h
          refine pw_getI (pc := 44) (ref := "SupportSolver$Fact") (k := 6) (index := 231) C pCl2 iX11_depthAbove_X3 hk10 rfl (by decide +kernel) (Or.inl rfl) dX11_depthAbove_44 ?_
          refine pw_iconst (pc := 47) (v := 1 ) C dX11_depthAbove_47 (by decide) ?_
          refine pw_iadd (pc := 48) C dX11_depthAbove_48 ?_
          refine pw_mmax (pc := 49) (index := 237) C (by decide +kernel) (by decide +kernel) (by decide +kernel) (by decide +kernel) (Nat.le_of_ble_eq_true rfl) (Nat.le_of_ble_eq_true rfl) ⟨Nat.le_of_ble_eq_true rfl, Nat.le_of_ble_eq_true rfl⟩ dX11_depthAbove_49 ?_
          refine pw_istore (pc := 52) C [(4, .int (if x4 < ((pI S9 o6 6) + (1 : Int32)) then ((pI S9 o6 6) + (1 : Int32)) else x4)), (6, .ref (G.2.2 + o6)), (0, .ref (G.2.2 + x0)), (1, .long x1), (3, .int x3), (5, .int x5)] dX11_depthAbove_52 (by decide) rfl ?_
          refine pw_iincK (pc := 54) (w := 1) C [(5, .int (x5 + 1)), (4, .int (if x4 < ((pI S9 o6 6) + (1 : Int32)) then ((pI S9 o6 6) + (1 : Int32)) else x4)), (6, .ref (G.2.2 + o6)), (0, .ref (G.2.2 + x0)), (1, .long x1), (3, .int x3)] 5 dX11_depthAbove_54 (by decide) rfl (by decide) rfl ?_
          refine pw_goto (pc := 57) (tgt := 6) C dX11_depthAbove_57 rfl ?_
          refine pw_sub [3, 4, 5, 1, 0] (LV2 := [(0, .ref (G.2.2 + x0)), (1, .long x1), (3, .int x3), (4, .int (if x4 < ((pI S9 o6 6) + (1 : Int32)) then ((pI S9 o6 6) + (1 : Int32)) else x4)), (5, .int (x5 + 1))]) rfl ?_
          exact ih _ _ _ _ _ _ h
set_option maxRecDepth 100000 in
set_option maxHeartbeats 4000000 in
theorem ctX11_depthAbove (l : Launch) (G : PG) (hZ : pZa G) (S : PS) (x0 : Nat) (x1 : Int64) (x3 : Int32) (Q : Int32 → PS → Prop) (h : wpX11_depthAbove S x0 x1 x3 Q) : mI l yX11_depthAbove wsX11_depthAbove rmX11_depthAbove G S [.ref (G.2.2 + x0), .long x1, .int x3] Q := by
  unfold mI
  refine met_of (cc := cX11_depthAbove) (maxL := 7) (ret := (some .int)) (by decide) rfl (Nat.le_of_ble_eq_true rfl) ?_
  intro p e s m args below meth c C hr hin
  unfold wpX11_depthAbove at h
  show PW p l e _ s m args below meth c _ G 7 S 0 0 [(0, .ref (G.2.2 + x0)), (1, .long x1), (3, .int x3)] 0 []
  refine pw_iconst (pc := 0) (v := 0 ) C dX11_depthAbove_0 (by decide) ?_
  refine pw_istore (pc := 1) C [(4, .int (0 : Int32)), (0, .ref (G.2.2 + x0)), (1, .long x1), (3, .int x3)] dX11_depthAbove_1 (by decide) rfl ?_
  refine pw_iconst (pc := 3) (v := 0 ) C dX11_depthAbove_3 (by decide) ?_
  refine pw_istore (pc := 4) C [(5, .int (0 : Int32)), (4, .int (0 : Int32)), (0, .ref (G.2.2 + x0)), (1, .long x1), (3, .int x3)] dX11_depthAbove_4 (by decide) rfl ?_
  refine pw_sub [2, 3, 4, 1, 0] (LV2 := [(0, .ref (G.2.2 + x0)), (1, .long x1), (3, .int x3), (4, .int (0 : Int32)), (5, .int (0 : Int32))]) rfl ?_
  obtain ⟨n9, h⟩ := h
  exact cbX11_depthAbove_b6 C hr hin hZ  n9 _ _ _ _ _ _ h

abbrev rmX11_depth : Room := { frames := 15, cells := 1, slots := 6, locals := 417 }
theorem iX11_depth_X11 : ∀ w ∈ u_ws RX11 TX11 9, w ∈ wsX11_depth := by decide +kernel
theorem iX11_depth_X3 : ∀ w ∈ u_ws RX3 TX3 7, w ∈ wsX11_depth := by decide +kernel
def wpX11_depth_b25  (Q : Int32 → PS → Prop) (X : String → PS → Prop) : Nat → PS → Nat → Int32 → Option Nat → Int32 → Prop
  | 0 => fun _ _ _ _ _ => False
  | n + 1 => fun S x0 x1 x2 x3 => ((x2 = none → ((x1 < x3 → False) ∧ (¬ x1 < x3 → (pK S x0 = 10 ∧ (∃ o3, pR S x0 1 = some o3 ∧ (pK S o3 = 8 ∧ (wpX9_factAt S o3 x3 (fun r5 S6 => ((r5 = none → (wpX11_depth_b25 Q X n S6 x0 x1 none (x3 + 1))) ∧ (∀ o7, r5 = some o7 → (pK S6 x0 = 10 ∧ (wpX11_explanationOf S6 x0 o7 x3 (fun r9 S10 => (pK S10 x0 = 10 ∧ (wpX11_depthAbove S10 x0 r9 x3 (fun r12 S13 => (pK S13 o7 = 3 ∧ (wpX11_depth_b25 Q X n (sI S13 o7 6 r12) x0 x1 none (x3 + 1))))))))))))))))))) ∧ (∀ o1, x2 = some o1 → ((x1 < x3 → (pK S o1 = 3 ∧ (Q (pI S o1 6) S))) ∧ (¬ x1 < x3 → (pK S x0 = 10 ∧ (∃ o17, pR S x0 1 = some o17 ∧ (pK S o17 = 8 ∧ (wpX9_factAt S o17 x3 (fun r19 S20 => ((r19 = none → (wpX11_depth_b25 Q X n S20 x0 x1 (some o1) (x3 + 1))) ∧ (∀ o21, r19 = some o21 → (pK S20 x0 = 10 ∧ (wpX11_explanationOf S20 x0 o21 x3 (fun r23 S24 => (pK S24 x0 = 10 ∧ (wpX11_depthAbove S24 x0 r23 x3 (fun r26 S27 => (pK S27 o21 = 3 ∧ (wpX11_depth_b25 Q X n (sI S27 o21 6 r26) x0 x1 (some o1) (x3 + 1))))))))))))))))))))
def wpX11_depth (S : PS) (x0 : Nat) (x1 : Int32) (Q : Int32 → PS → Prop) (X : String → PS → Prop) : Prop := (pK S x0 = 10 ∧ (∃ o30, pR S x0 1 = some o30 ∧ (pK S o30 = 8 ∧ (wpX9_factAt S o30 x1 (fun r32 S33 => ((r32 = none → (∀ n, X "java/lang/IndexOutOfBoundsException" (sSkip S33 n))) ∧ (∀ o34, r32 = some o34 → (∃ n9 : Nat, wpX11_depth_b25 Q X n9 S33 x0 x1 (some o34) (0 : Int32)))))))))
set_option maxRecDepth 100000 in
set_option maxHeartbeats 4000000 in
theorem cbX11_depth_b25 {p : Program} {l : Launch} {e : Env} {s : State} {m : MethodId} {args : Array Value} {below : List Frame} {meth : Method} {c : Code} {G : PG} {Q : Int32 → PS → Prop} {X : String → PS → Prop} (C : pCx p s m args meth c G cX11_depth 5 yX11_depth.cls wsX11_depth) (hr : meth.sig.returnType = (some .int)) (hin : meth.name = yX11_depth.name) (hZ : pZa G) (hout : ∀ x ∈ c.exceptionTable.toList, False) (hl : l.stackTraces = false)  (n : Nat) : ∀ (S : PS) (x0 : Nat) (x1 : Int32) (x2 : Option Nat) (x3 : Int32), wpX11_depth_b25  Q X n S x0 x1 x2 x3 → PW p l e rmX11_depth s m args below meth c (vx_MQ below (va_Qi Q (pB G) (pFr G)) (pXC G X) args s rmX11_depth.cells rmX11_depth.slots (pFr G)) G 5 S 0 0 [(0, .ref (G.2.2 + x0)), (1, .int x1), (2, rf G.2.2 x2), (3, .int x3)] 25 ([]) := by
  induction n with
  | zero => intro S x0 x1 x2 x3 h; exact h.elim
  | succ n ih =>
    intro S x0 x1 x2 x3 h
    unfold wpX11_depth_b25 at h
    cases hqx2 : x2 with
    | none =>
      replace h := h.1 hqx2
      show PW p l e _ s m args below meth c _ G _ S _ _ [(0, .ref (G.2.2 + x0)), (1, .int x1), (2, .null), (3, .int x3)] 25 ([])
      refine pw_iload_n (pc := 25) C 3 dX11_depth_25 rfl rfl ?_
      refine pw_iload_n (pc := 26) C 1 dX11_depth_26 rfl rfl ?_
      refine pw_icmp_gt (pc := 27) (tgt := 68) C dX11_depth_27 rfl ⟨fun hc => ?_, fun hc => ?_⟩
      · replace h := h.1 hc
        refine pw_aload_nN (pc := 68) C 2 dX11_depth_68 rfl rfl ?_
        exact h.elim
      · replace h := h.2 hc
        refine pw_aload_n (pc := 30) C 0 dX11_depth_30 rfl rfl ?_
        obtain ⟨hk2, h⟩ := h
        obtain ⟨o3, ho3, h⟩ := h
        refine pw_getR (pc := 31) (ref := "SupportSolver") (k := 1) (index := 19) C pCl9 iX11_depth_X11 hk2 rfl (by decide +kernel) (Or.inl rfl) (o := o3) ho3 dX11_depth_31 ?_
        refine pw_iload_n (pc := 34) C 3 dX11_depth_34 rfl rfl ?_
        obtain ⟨hk4, h⟩ := h
        refine pw_callq (pc := 35) (kc2 := 0) (kn2 := 0) (pRunV (pc := 35) C (ctX9_factAt l G hZ  _ o3 x3 _ h) (cwV 1 C.2.2.2.2.1 gX11_depth_X9_factAt rfl rfl rfl (by decide +kernel) ⟨Nat.le_of_ble_eq_true rfl, Nat.le_of_ble_eq_true rfl⟩) pCl7 hk4 rfl rfl (Nat.le_of_ble_eq_true rfl) dX11_depth_35 ⟨Nat.le_of_ble_eq_true rfl, Nat.le_of_ble_eq_true rfl⟩) rfl rfl (fun r5 S6 h => ?_)
        cases hqr5 : r5 with
        | none =>
          replace h := h.1 hqr5
          show PW p l e _ s m args below meth c _ G _ S6 _ _ _ _ (.null :: [])
          refine pw_astoreN (pc := 38) C [(4, .null), (0, .ref (G.2.2 + x0)), (1, .int x1), (2, .null), (3, .int x3)] dX11_depth_38 (by decide) rfl ?_
          refine pw_aloadN (pc := 40) C 0 dX11_depth_40 rfl ?_
          refine pw_ifnull_n (pc := 42) (tgt := 62) C dX11_depth_42 rfl ?_
          refine pw_iincK (pc := 62) (w := 1) C [(3, .int (x3 + 1)), (4, .null), (0, .ref (G.2.2 + x0)), (1, .int x1), (2, .null)] 4 dX11_depth_62 (by decide) rfl (by decide) rfl ?_
          refine pw_goto (pc := 65) (tgt := 25) C dX11_depth_65 rfl ?_
          refine pw_sub [2, 3, 4, 0] (LV2 := [(0, .ref (G.2.2 + x0)), (1, .int x1), (2, .null), (3, .int (x3 + 1))]) rfl ?_
          exact ih _ _ _ _ _ h
        | some o7 =>
          replace h := h.2 o7 hqr5
          show PW p l e _ s m args below meth c _ G _ S6 _ _ _ _ (.ref (G.2.2 + o7) :: [])
          refine pw_astore (pc := 38) C [(4, .ref (G.2.2 + o7)), (0, .ref (G.2.2 + x0)), (1, .int x1), (2, .null), (3, .int x3)] dX11_depth_38 (by decide) rfl ?_
          refine pw_aload (pc := 40) C 0 dX11_depth_40 rfl ?_
          refine pw_ifnull_r (pc := 42) C dX11_depth_42 ?_
          refine pw_aload (pc := 45) C 0 dX11_depth_45 rfl ?_
          refine pw_aload_n (pc := 47) C 1 dX11_depth_47 rfl rfl ?_
          refine pw_aload_n (pc := 48) C 1 dX11_depth_48 rfl rfl ?_
          refine pw_aload (pc := 49) C 0 dX11_depth_49 rfl ?_
          refine pw_iload_n (pc := 51) C 4 dX11_depth_51 rfl rfl ?_
          obtain ⟨hk8, h⟩ := h
          refine pw_calll (pc := 52) (kc2 := 0) (kn2 := 0) (pRunV (pc := 52) C (ctX11_explanationOf l G hZ  _ x0 o7 x3 _ h) (cwV 2 C.2.2.2.2.1 gX11_depth_X11_explanationOf rfl rfl rfl (by decide +kernel) ⟨Nat.le_of_ble_eq_true rfl, Nat.le_of_ble_eq_true rfl⟩) pCl9 hk8 rfl rfl (Nat.le_of_ble_eq_true rfl) dX11_depth_52 ⟨Nat.le_of_ble_eq_true rfl, Nat.le_of_ble_eq_true rfl⟩) rfl rfl (fun r9 S10 h => ?_)
          refine pw_iload_n (pc := 55) C 4 dX11_depth_55 rfl rfl ?_
          obtain ⟨hk11, h⟩ := h
          refine pw_calli (pc := 56) (kc2 := 0) (kn2 := 0) (pRunV (pc := 56) C (ctX11_depthAbove l G hZ  _ x0 r9 x3 _ h) (cwV 2 C.2.2.2.2.1 gX11_depth_X11_depthAbove rfl rfl rfl (by decide +kernel) ⟨Nat.le_of_ble_eq_true rfl, Nat.le_of_ble_eq_true rfl⟩) pCl9 hk11 rfl rfl (Nat.le_of_ble_eq_true rfl) dX11_depth_56 ⟨Nat.le_of_ble_eq_true rfl, Nat.le_of_ble_eq_true rfl⟩) rfl rfl (fun r12 S13 h => ?_)
          obtain ⟨hk14, h⟩ := h
          refine pw_putI (pc := 59) (ref := "SupportSolver$Fact") (k := 6) (index := 231) C pCl2 iX11_depth_X3 hk14 rfl (by decide +kernel) (Or.inl rfl) (Or.inl rfl) rfl rfl dX11_depth_59 ?_
          refine pw_iincK (pc := 62) (S := (sI S13 o7 6 r12)) (w := 1) C [(3, .int (x3 + 1)), (4, .ref (G.2.2 + o7)), (0, .ref (G.2.2 + x0)), (1, .int x1), (2, .null)] 4 dX11_depth_62 (by decide) rfl (by decide) rfl ?_
          refine pw_goto (pc := 65) (S := (sI S13 o7 6 r12)) (tgt := 25) C dX11_depth_65 rfl ?_
          refine pw_sub [2, 3, 4, 0] (LV2 := [(0, .ref (G.2.2 + x0)), (1, .int x1), (2, .null), (3, .int (x3 + 1))]) rfl ?_
          exact ih _ _ _ _ _ h
    | some o1 =>
      replace h := h.2 o1 hqx2
      show PW p l e _ s m args below meth c _ G _ S _ _ [(0, .ref (G.2.2 + x0)), (1, .int x1), (2, .ref (G.2.2 + o1)), (3, .int x3)] 25 ([])
      refine pw_iload_n (pc := 25) C 3 dX11_depth_25 rfl rfl ?_
      refine pw_iload_n (pc := 26) C 1 dX11_depth_26 rfl rfl ?_
      refine pw_icmp_gt (pc := 27) (tgt := 68) C dX11_depth_27 rfl ⟨fun hc => ?_, fun hc => ?_⟩
      · replace h := h.1 hc
        refine pw_aload_n (pc := 68) C 2 dX11_depth_68 rfl rfl ?_
        obtain ⟨hk15, h⟩ := h
        refine pw_getI (pc := 69) (ref := "SupportSolver$Fact") (k := 6) (index := 231) C pCl2 iX11_depth_X3 hk15 rfl (by decide +kernel) (Or.inl rfl) dX11_depth_69 ?_
        refine pw_widen (k2 := 1) (n2 := 6) (Nat.le_of_ble_eq_true rfl) (Nat.le_of_ble_eq_true rfl) ?_
        refine pw_xret ?_
        exact pw_iret (pc := 72) C hr h dX11_depth_72
      · replace h := h.2 hc
        refine pw_aload_n (pc := 30) C 0 dX11_depth_30 rfl rfl ?_
        obtain ⟨hk16, h⟩ := h
        obtain ⟨o17, ho17, h⟩ := h
        refine pw_getR (pc := 31) (ref := "SupportSolver") (k := 1) (index := 19) C pCl9 iX11_depth_X11 hk16 rfl (by decide +kernel) (Or.inl rfl) (o := o17) ho17 dX11_depth_31 ?_
        refine pw_iload_n (pc := 34) C 3 dX11_depth_34 rfl rfl ?_
        obtain ⟨hk18, h⟩ := h
        refine pw_callq (pc := 35) (kc2 := 0) (kn2 := 0) (pRunV (pc := 35) C (ctX9_factAt l G hZ  _ o17 x3 _ h) (cwV 1 C.2.2.2.2.1 gX11_depth_X9_factAt rfl rfl rfl (by decide +kernel) ⟨Nat.le_of_ble_eq_true rfl, Nat.le_of_ble_eq_true rfl⟩) pCl7 hk18 rfl rfl (Nat.le_of_ble_eq_true rfl) dX11_depth_35 ⟨Nat.le_of_ble_eq_true rfl, Nat.le_of_ble_eq_true rfl⟩) rfl rfl (fun r19 S20 h => ?_)
        cases hqr19 : r19 with
        | none =>
          replace h := h.1 hqr19
          show PW p l e _ s m args below meth c _ G _ S20 _ _ _ _ (.null :: [])
          refine pw_astoreN (pc := 38) C [(4, .null), (0, .ref (G.2.2 + x0)), (1, .int x1), (2, .ref (G.2.2 + o1)), (3, .int x3)] dX11_depth_38 (by decide) rfl ?_
          refine pw_aloadN (pc := 40) C 0 dX11_depth_40 rfl ?_
          refine pw_ifnull_n (pc := 42) (tgt := 62) C dX11_depth_42 rfl ?_
          refine pw_iincK (pc := 62) (w := 1) C [(3, .int (x3 + 1)), (4, .null), (0, .ref (G.2.2 + x0)), (1, .int x1), (2, .ref (G.2.2 + o1))] 4 dX11_depth_62 (by decide) rfl (by decide) rfl ?_
          refine pw_goto (pc := 65) (tgt := 25) C dX11_depth_65 rfl ?_
          refine pw_sub [2, 3, 4, 0] (LV2 := [(0, .ref (G.2.2 + x0)), (1, .int x1), (2, .ref (G.2.2 + o1)), (3, .int (x3 + 1))]) rfl ?_
          exact ih _ _ _ _ _ h
        | some o21 =>
          replace h := h.2 o21 hqr19
          show PW p l e _ s m args below meth c _ G _ S20 _ _ _ _ (.ref (G.2.2 + o21) :: [])
          refine pw_astore (pc := 38) C [(4, .ref (G.2.2 + o21)), (0, .ref (G.2.2 + x0)), (1, .int x1), (2, .ref (G.2.2 + o1)), (3, .int x3)] dX11_depth_38 (by decide) rfl ?_
          refine pw_aload (pc := 40) C 0 dX11_depth_40 rfl ?_
          refine pw_ifnull_r (pc := 42) C dX11_depth_42 ?_
          refine pw_aload (pc := 45) C 0 dX11_depth_45 rfl ?_
          refine pw_aload_n (pc := 47) C 1 dX11_depth_47 rfl rfl ?_
          refine pw_aload_n (pc := 48) C 1 dX11_depth_48 rfl rfl ?_
          refine pw_aload (pc := 49) C 0 dX11_depth_49 rfl ?_
          refine pw_iload_n (pc := 51) C 4 dX11_depth_51 rfl rfl ?_
          obtain ⟨hk22, h⟩ := h
          refine pw_calll (pc := 52) (kc2 := 0) (kn2 := 0) (pRunV (pc := 52) C (ctX11_explanationOf l G hZ  _ x0 o21 x3 _ h) (cwV 2 C.2.2.2.2.1 gX11_depth_X11_explanationOf rfl rfl rfl (by decide +kernel) ⟨Nat.le_of_ble_eq_true rfl, Nat.le_of_ble_eq_true rfl⟩) pCl9 hk22 rfl rfl (Nat.le_of_ble_eq_true rfl) dX11_depth_52 ⟨Nat.le_of_ble_eq_true rfl, Nat.le_of_ble_eq_true rfl⟩) rfl rfl (fun r23 S24 h => ?_)
          refine pw_iload_n (pc := 55) C 4 dX11_depth_55 rfl rfl ?_
          obtain ⟨hk25, h⟩ := h
          refine pw_calli (pc := 56) (kc2 := 0) (kn2 := 0) (pRunV (pc := 56) C (ctX11_depthAbove l G hZ  _ x0 r23 x3 _ h) (cwV 2 C.2.2.2.2.1 gX11_depth_X11_depthAbove rfl rfl rfl (by decide +kernel) ⟨Nat.le_of_ble_eq_true rfl, Nat.le_of_ble_eq_true rfl⟩) pCl9 hk25 rfl rfl (Nat.le_of_ble_eq_true rfl) dX11_depth_56 ⟨Nat.le_of_ble_eq_true rfl, Nat.le_of_ble_eq_true rfl⟩) rfl rfl (fun r26 S27 h => ?_)
          obtain ⟨hk28, h⟩ := h
          refine pw_putI (pc := 59) (ref := "SupportSolver$Fact") (k := 6) (index := 231) C pCl2 iX11_depth_X3 hk28 rfl (by decide +kernel) (Or.inl rfl) (Or.inl rfl) rfl rfl dX11_depth_59 ?_
          refine pw_iincK (pc := 62) (S := (sI S27 o21 6 r26)) (w := 1) C [(3, .int (x3 + 1)), (4, .ref (G.2.2 + o21)), (0, .ref (G.2.2 + x0)), (1, .int x1), (2, .ref (G.2.2 + o1))] 4 dX11_depth_62 (by decide) rfl (by decide) rfl ?_
          refine pw_goto (pc := 65) (S := (sI S27 o21 6 r26)) (tgt := 25) C dX11_depth_65 rfl ?_
          refine pw_sub [2, 3, 4, 0] (LV2 := [(0, .ref (G.2.2 + x0)), (1, .int x1), (2, .ref (G.2.2 + o1)), (3, .int (x3 + 1))]) rfl ?_
          exact ih _ _ _ _ _ h
set_option maxRecDepth 100000 in
set_option maxHeartbeats 4000000 in
theorem ctX11_depth (l : Launch) (G : PG) (hZ : pZa G) (hl : l.stackTraces = false) (S : PS) (x0 : Nat) (x1 : Int32) (Q : Int32 → PS → Prop) (X : String → PS → Prop) (h : wpX11_depth S x0 x1 Q X) : mXI l yX11_depth wsX11_depth rmX11_depth G S [.ref (G.2.2 + x0), .int x1] Q X := by
  unfold mXI
  refine met_ofX (cc := cX11_depth) (maxL := 5) (ret := (some .int)) (by decide) rfl (Nat.le_of_ble_eq_true rfl) ?_
  intro p e s m args below meth c C hout hr hin
  unfold wpX11_depth at h
  show PW p l e _ s m args below meth c _ G 5 S 0 0 [(0, .ref (G.2.2 + x0)), (1, .int x1)] 0 []
  refine pw_aload_n (pc := 0) C 0 dX11_depth_0 rfl rfl ?_
  obtain ⟨hk29, h⟩ := h
  obtain ⟨o30, ho30, h⟩ := h
  refine pw_getR (pc := 1) (ref := "SupportSolver") (k := 1) (index := 19) C pCl9 iX11_depth_X11 hk29 rfl (by decide +kernel) (Or.inl rfl) (o := o30) ho30 dX11_depth_1 ?_
  refine pw_iload_n (pc := 4) C 1 dX11_depth_4 rfl rfl ?_
  obtain ⟨hk31, h⟩ := h
  refine pw_callq (pc := 5) (kc2 := 0) (kn2 := 0) (pRunV (pc := 5) C (ctX9_factAt l G hZ  _ o30 x1 _ h) (cwV 1 C.2.2.2.2.1 gX11_depth_X9_factAt rfl rfl rfl (by decide +kernel) ⟨Nat.le_of_ble_eq_true rfl, Nat.le_of_ble_eq_true rfl⟩) pCl7 hk31 rfl rfl (Nat.le_of_ble_eq_true rfl) dX11_depth_5 ⟨Nat.le_of_ble_eq_true rfl, Nat.le_of_ble_eq_true rfl⟩) rfl rfl (fun r32 S33 h => ?_)
  cases hqr32 : r32 with
  | none =>
    replace h := h.1 hqr32
    show PW p l e _ s m args below meth c _ G _ S33 _ _ _ _ (.null :: [])
    refine pw_astore_nN (pc := 8) C [(2, .null), (0, .ref (G.2.2 + x0)), (1, .int x1)] dX11_depth_8 rfl (by decide) rfl ?_
    refine pw_aload_nN (pc := 9) C 0 dX11_depth_9 rfl rfl ?_
    refine pw_ifnonnull_n (pc := 10) C dX11_depth_10 ?_
    exact pw_throwS (pc := 13) (mc := 1) (ms := 6) C hl (hZ.2.2.2.2.2.2.2.2.2.2.2.2.2.2.2.2.2.2.2.2.2.2.2.2.2.2.2.2.2.2.2.2.2.2.2.2.2.1) (by decide +kernel) (by decide +kernel) (by decide +kernel) hout dX11_depth_13 dX11_depth_16 dX11_depth_17 dX11_depth_19 dX11_depth_22 (by decide) (Nat.le_of_ble_eq_true rfl) (Nat.le_of_ble_eq_true rfl) (Nat.le_of_ble_eq_true rfl) (Nat.le_of_ble_eq_true rfl) (Nat.le_of_ble_eq_true rfl) h
  | some o34 =>
    replace h := h.2 o34 hqr32
    show PW p l e _ s m args below meth c _ G _ S33 _ _ _ _ (.ref (G.2.2 + o34) :: [])
    refine pw_astore_n (pc := 8) C [(2, .ref (G.2.2 + o34)), (0, .ref (G.2.2 + x0)), (1, .int x1)] dX11_depth_8 rfl (by decide) rfl ?_
    refine pw_aload_n (pc := 9) C 0 dX11_depth_9 rfl rfl ?_
    refine pw_ifnonnull_r (pc := 10) (tgt := 23) C dX11_depth_10 rfl ?_
    refine pw_iconst (pc := 23) (v := 0 ) C dX11_depth_23 (by decide) ?_
    refine pw_istore_n (pc := 24) C [(3, .int (0 : Int32)), (2, .ref (G.2.2 + o34)), (0, .ref (G.2.2 + x0)), (1, .int x1)] dX11_depth_24 rfl (by decide) rfl ?_
    refine pw_sub [2, 3, 1, 0] (LV2 := [(0, .ref (G.2.2 + x0)), (1, .int x1), (2, .ref (G.2.2 + o34)), (3, .int (0 : Int32))]) rfl ?_
    obtain ⟨n9, h⟩ := h
    exact cbX11_depth_b25 C hr hin hZ hout hl  n9 _ _ _ _ _ h

abbrev rmX11_presentSupport : Room := { frames := 13, cells := 0, slots := 0, locals := 364 }
theorem iX11_presentSupport_X11 : ∀ w ∈ u_ws RX11 TX11 9, w ∈ wsX11_presentSupport := by decide +kernel
theorem iX11_presentSupport_X9 : ∀ w ∈ u_ws RX9 TX9 6, w ∈ wsX11_presentSupport := by decide +kernel
def wpX11_presentSupport (S : PS) (x0 : Nat) (x1 : Nat) (x2 : Int32) (x3 : Int32) (Q : Int64 → PS → Prop) : Prop := (pK S x0 = 10 ∧ (∃ o2, pR S x0 1 = some o2 ∧ (pK S o2 = 8 ∧ (wpX5_narrowed S (pJ S o2 5) x2 x3 (fun r4 S5 => (wpX1_leastFrom 9 S5 x1 r4 (0 : Int32) (fun r6 S7 => (Q r6 S7))))))))
set_option maxRecDepth 100000 in
set_option maxHeartbeats 4000000 in
theorem ctX11_presentSupport (l : Launch) (G : PG) (hZ : pZa G) (S : PS) (x0 : Nat) (x1 : Nat) (x2 : Int32) (x3 : Int32) (Q : Int64 → PS → Prop) (h : wpX11_presentSupport S x0 x1 x2 x3 Q) : mJ l yX11_presentSupport wsX11_presentSupport rmX11_presentSupport G S [.ref (G.2.2 + x0), .ref (G.2.2 + x1), .int x2, .int x3] Q := by
  unfold mJ
  refine met_of (cc := cX11_presentSupport) (maxL := 4) (ret := (some .long)) (by decide) rfl (Nat.le_of_ble_eq_true rfl) ?_
  intro p e s m args below meth c C hr hin
  unfold wpX11_presentSupport at h
  show PW p l e _ s m args below meth c _ G 4 S 0 0 [(0, .ref (G.2.2 + x0)), (1, .ref (G.2.2 + x1)), (2, .int x2), (3, .int x3)] 0 []
  refine pw_aload_n (pc := 0) C 1 dX11_presentSupport_0 rfl rfl ?_
  refine pw_aload_n (pc := 1) C 0 dX11_presentSupport_1 rfl rfl ?_
  obtain ⟨hk1, h⟩ := h
  obtain ⟨o2, ho2, h⟩ := h
  refine pw_getR (pc := 2) (ref := "SupportSolver") (k := 1) (index := 19) C pCl9 iX11_presentSupport_X11 hk1 rfl (by decide +kernel) (Or.inl rfl) (o := o2) ho2 dX11_presentSupport_2 ?_
  obtain ⟨hk3, h⟩ := h
  refine pw_getJ (pc := 5) (ref := "SupportSolver$Trail") (k := 5) (index := 139) C pCl7 iX11_presentSupport_X9 hk3 rfl (by decide +kernel) (Or.inl rfl) dX11_presentSupport_5 ?_
  refine pw_iload_n (pc := 8) C 2 dX11_presentSupport_8 rfl rfl ?_
  refine pw_iload_n (pc := 9) C 3 dX11_presentSupport_9 rfl rfl ?_
  refine pw_calll (pc := 10) (kc2 := 0) (kn2 := 0) (pRunS (pc := 10) C (ctX5_narrowed l G hZ  _ (pJ S o2 5) x2 x3 _ h) (va_cwS 3 C.2.2.2.2.1 gX11_presentSupport_X5_narrowed rfl rfl rfl (by decide +kernel) ⟨Nat.le_of_ble_eq_true rfl, Nat.le_of_ble_eq_true rfl⟩) rfl rfl (Nat.le_of_ble_eq_true rfl) dX11_presentSupport_10 ⟨Nat.le_of_ble_eq_true rfl, Nat.le_of_ble_eq_true rfl⟩) rfl rfl (fun r4 S5 h => ?_)
  refine pw_iconst (pc := 13) (v := 0 ) C dX11_presentSupport_13 (by decide) ?_
  refine pw_calll (pc := 14) (kc2 := 0) (kn2 := 0) (pRunSN (pc := 14) C (ctX1_leastFrom 9 l G hZ  _ x1 r4 (0 : Int32) _ h) 3 gX11_presentSupport_X1_leastFrom_n270 rfl (hZ.2.2.2.2.2.2.2.1) (by decide +kernel) (by decide +kernel) (by decide +kernel) ⟨Nat.le_of_ble_eq_true rfl, Nat.le_of_ble_eq_true rfl⟩ rfl rfl (Nat.le_of_ble_eq_true rfl) dX11_presentSupport_14 ⟨Nat.le_of_ble_eq_true rfl, Nat.le_of_ble_eq_true rfl⟩) rfl rfl (fun r6 S7 h => ?_)
  exact pw_lret (pc := 17) C hr h dX11_presentSupport_17

abbrev rmX11_isSupported : Room := { frames := 14, cells := 1, slots := 6, locals := 387 }
theorem iX11_isSupported_X11 : ∀ w ∈ u_ws RX11 TX11 9, w ∈ wsX11_isSupported := by decide +kernel
def wpX11_isSupported_b24  (Q : Int32 → PS → Prop) (X : String → PS → Prop) (S : PS) (x0 : Nat) (x1 : Int32) (x2 : Int32) (x3 : Int32) (x4 : Option Nat) : Prop := ((x4 = none → (∀ n, X "java/lang/IndexOutOfBoundsException" (sSkip S n))) ∧ (∀ o1, x4 = some o1 → (∀ n, X "java/lang/IndexOutOfBoundsException" (sSkip S n))))
def wpX11_isSupported (S : PS) (x0 : Nat) (x1 : Int32) (x2 : Int32) (x3 : Int32) (Q : Int32 → PS → Prop) (X : String → PS → Prop) : Prop := (pK S x0 = 10 ∧ (∃ o3, pR S x0 6 = some o3 ∧ (pK S o3 = 5 ∧ (wpX6_constraintAt S o3 x1 (fun r5 S6 => ((r5 = none → (wpX11_isSupported_b24 Q X S6 x0 x1 x2 x3 none)) ∧ (∀ o7, r5 = some o7 → (pC4 S6 o7 ∧ (wpX1_hasVariable S6 o7 x2 (fun r9 S10 => ((¬ r9 = 0 → (wpX11_isValue S10 x3 (fun r11 S12 => ((¬ r11 = 0 → (pK S12 x0 = 10 ∧ (wpX11_presentSupport S12 x0 o7 x2 x3 (fun r14 S15 => (((lg_cmp r14 (0 : Int64)) = 0 → (Q (0 : Int32) S15)) ∧ (¬ (lg_cmp r14 (0 : Int64)) = 0 → (Q (1 : Int32) S15))))))) ∧ (r11 = 0 → (∀ n, X "java/lang/IllegalArgumentException" (sSkip S12 n))))))) ∧ (r9 = 0 → (wpX11_isSupported_b24 Q X S10 x0 x1 x2 x3 (some o7))))))))))))))
set_option maxRecDepth 100000 in
set_option maxHeartbeats 4000000 in
theorem rnX11_isSupported_18 {p : Program} {l : Launch} {e : Env} {s : State} {m : MethodId} {args : Array Value} {below : List Frame} {meth : Method} {c : Code} {G : PG} (C : pCx p s m args meth c G cX11_isSupported 5 yX11_isSupported.cls wsX11_isSupported) (hZ : pZa G) (S : PS) (x : Nat) (a0 : Int32) (Q : Int32 → PS → Prop) (hk : pC4 S x) (h : wpX1_hasVariable S x a0 Q) {LV : List (Nat × Value)} {st : List Value} (hw : (st.map fun v => v.category).sum ≤ 8) : PRun p l e rmX11_isSupported s m args below meth c G 5 S 0 0 0 0 LV 18 (.int a0 :: .ref (G.2.2 + x) :: st) st (va_Qi Q (pB G) (pFr G) (.ref (G.2.2 + x) :: [.int a0]).toArray) := by
  rcases hk with hk | hk | hk | hk
  · exact pRunU (pc := 18) (kc := 0) (kn := 0) C (ctX1_hasVariable l G hZ _ x a0 _ h) (va_cwU 1 C.2.2.2.2.1 gX11_isSupported_X1_hasVariable_u178X0 rfl rfl rfl rfl (by decide +kernel) ⟨Nat.le_of_ble_eq_true rfl, Nat.le_of_ble_eq_true rfl⟩) pCl0 hk rfl rfl hw dX11_isSupported_18 ⟨Nat.le_of_ble_eq_true rfl, Nat.le_of_ble_eq_true rfl⟩
  · exact pRunU (pc := 18) (kc := 0) (kn := 0) C (ctX1_hasVariable l G hZ _ x a0 _ h) (va_cwU 1 C.2.2.2.2.1 gX11_isSupported_X1_hasVariable_u178X2 rfl rfl rfl rfl (by decide +kernel) ⟨Nat.le_of_ble_eq_true rfl, Nat.le_of_ble_eq_true rfl⟩) pCl1 hk rfl rfl hw dX11_isSupported_18 ⟨Nat.le_of_ble_eq_true rfl, Nat.le_of_ble_eq_true rfl⟩
  · exact pRunU (pc := 18) (kc := 0) (kn := 0) C (ctX1_hasVariable l G hZ _ x a0 _ h) (va_cwU 1 C.2.2.2.2.1 gX11_isSupported_X1_hasVariable_u178X4 rfl rfl rfl rfl (by decide +kernel) ⟨Nat.le_of_ble_eq_true rfl, Nat.le_of_ble_eq_true rfl⟩) pCl3 hk rfl rfl hw dX11_isSupported_18 ⟨Nat.le_of_ble_eq_true rfl, Nat.le_of_ble_eq_true rfl⟩
  · exact pRunU (pc := 18) (kc := 0) (kn := 0) C (ctX1_hasVariable l G hZ _ x a0 _ h) (va_cwU 1 C.2.2.2.2.1 gX11_isSupported_X1_hasVariable_u178X10 rfl rfl rfl rfl (by decide +kernel) ⟨Nat.le_of_ble_eq_true rfl, Nat.le_of_ble_eq_true rfl⟩) pCl8 hk rfl rfl hw dX11_isSupported_18 ⟨Nat.le_of_ble_eq_true rfl, Nat.le_of_ble_eq_true rfl⟩
set_option maxRecDepth 100000 in
set_option maxHeartbeats 4000000 in
theorem cbX11_isSupported_b24 {p : Program} {l : Launch} {e : Env} {s : State} {m : MethodId} {args : Array Value} {below : List Frame} {meth : Method} {c : Code} {G : PG} {Q : Int32 → PS → Prop} {X : String → PS → Prop} (C : pCx p s m args meth c G cX11_isSupported 5 yX11_isSupported.cls wsX11_isSupported) (hr : meth.sig.returnType = (some .boolean)) (hin : meth.name = yX11_isSupported.name) (hZ : pZa G) (hout : ∀ x ∈ c.exceptionTable.toList, False) (hl : l.stackTraces = false)  : ∀ (S : PS) (x0 : Nat) (x1 : Int32) (x2 : Int32) (x3 : Int32) (x4 : Option Nat), wpX11_isSupported_b24  Q X S x0 x1 x2 x3 x4 → PW p l e rmX11_isSupported s m args below meth c (vx_MQ below (va_Qi Q (pB G) (pFr G)) (pXC G X) args s rmX11_isSupported.cells rmX11_isSupported.slots (pFr G)) G 5 S 0 0 [(0, .ref (G.2.2 + x0)), (1, .int x1), (2, .int x2), (3, .int x3), (4, rf G.2.2 x4)] 24 ([]) := by
  intro S x0 x1 x2 x3 x4 h
  unfold wpX11_isSupported_b24 at h
  cases hqx4 : x4 with
  | none =>
    replace h := h.1 hqx4
    show PW p l e _ s m args below meth c _ G _ S _ _ [(0, .ref (G.2.2 + x0)), (1, .int x1), (2, .int x2), (3, .int x3), (4, .null)] 24 ([])
    exact pw_throwSW (pc := 24) (mc := 1) (ms := 6) C hl (hZ.2.2.2.2.2.2.2.2.2.2.2.2.2.2.2.2.2.2.2.2.2.2.2.2.2.2.2.2.2.2.2.2.2.2.2.2.2.2.2.2.2.1) (by decide +kernel) (by decide +kernel) (by decide +kernel) hout dX11_isSupported_24 dX11_isSupported_27 dX11_isSupported_28 dX11_isSupported_31 dX11_isSupported_34 (by decide) (Nat.le_of_ble_eq_true rfl) (Nat.le_of_ble_eq_true rfl) (Nat.le_of_ble_eq_true rfl) (Nat.le_of_ble_eq_true rfl) (Nat.le_of_ble_eq_true rfl) h
  | some o1 =>
    replace h := h.2 o1 hqx4
    show PW p l e _ s m args below meth c _ G _ S _ _ [(0, .ref (G.2.2 + x0)), (1, .int x1), (2, .int x2), (3, .int x3), (4, .ref (G.2.2 + o1))] 24 ([])
    exact pw_throwSW (pc := 24) (mc := 1) (ms := 6) C hl (hZ.2.2.2.2.2.2.2.2.2.2.2.2.2.2.2.2.2.2.2.2.2.2.2.2.2.2.2.2.2.2.2.2.2.2.2.2.2.2.2.2.2.1) (by decide +kernel) (by decide +kernel) (by decide +kernel) hout dX11_isSupported_24 dX11_isSupported_27 dX11_isSupported_28 dX11_isSupported_31 dX11_isSupported_34 (by decide) (Nat.le_of_ble_eq_true rfl) (Nat.le_of_ble_eq_true rfl) (Nat.le_of_ble_eq_true rfl) (Nat.le_of_ble_eq_true rfl) (Nat.le_of_ble_eq_true rfl) h
set_option maxRecDepth 100000 in
set_option maxHeartbeats 4000000 in
theorem ctX11_isSupported (l : Launch) (G : PG) (hZ : pZa G) (hl : l.stackTraces = false) (S : PS) (x0 : Nat) (x1 : Int32) (x2 : Int32) (x3 : Int32) (Q : Int32 → PS → Prop) (X : String → PS → Prop) (h : wpX11_isSupported S x0 x1 x2 x3 Q X) : mXI l yX11_isSupported wsX11_isSupported rmX11_isSupported G S [.ref (G.2.2 + x0), .int x1, .int x2, .int x3] Q X := by
  unfold mXI
  refine met_ofX (cc := cX11_isSupported) (maxL := 5) (ret := (some .boolean)) (by decide) rfl (Nat.le_of_ble_eq_true rfl) ?_
  intro p e s m args below meth c C hout hr hin
  unfold wpX11_isSupported at h
  show PW p l e _ s m args below meth c _ G 5 S 0 0 [(0, .ref (G.2.2 + x0)), (1, .int x1), (2, .int x2), (3, .int x3)] 0 []
  refine pw_aload_n (pc := 0) C 0 dX11_isSupported_0 rfl rfl ?_
  obtain ⟨hk2, h⟩ := h
  obtain ⟨o3, ho3, h⟩ := h
  refine pw_getR (pc := 1) (ref := "SupportSolver") (k := 6) (index := 47) C pCl9 iX11_isSupported_X11 hk2 rfl (by decide +kernel) (Or.inl rfl) (o := o3) ho3 dX11_isSupported_1 ?_
  refine pw_iload_n (pc := 4) C 1 dX11_isSupported_4 rfl rfl ?_
  obtain ⟨hk4, h⟩ := h
  refine pw_callq (pc := 5) (kc2 := 0) (kn2 := 0) (pRunV (pc := 5) C (ctX6_constraintAt l G hZ  _ o3 x1 _ h) (cwV 1 C.2.2.2.2.1 gX11_isSupported_X6_constraintAt rfl rfl rfl (by decide +kernel) ⟨Nat.le_of_ble_eq_true rfl, Nat.le_of_ble_eq_true rfl⟩) pCl4 hk4 rfl rfl (Nat.le_of_ble_eq_true rfl) dX11_isSupported_5 ⟨Nat.le_of_ble_eq_true rfl, Nat.le_of_ble_eq_true rfl⟩) rfl rfl (fun r5 S6 h => ?_)
  cases hqr5 : r5 with
  | none =>
    replace h := h.1 hqr5
    show PW p l e _ s m args below meth c _ G _ S6 _ _ _ _ (.null :: [])
    refine pw_astoreN (pc := 8) C [(4, .null), (0, .ref (G.2.2 + x0)), (1, .int x1), (2, .int x2), (3, .int x3)] dX11_isSupported_8 (by decide) rfl ?_
    refine pw_aloadN (pc := 10) C 0 dX11_isSupported_10 rfl ?_
    refine pw_ifnull_n (pc := 12) (tgt := 24) C dX11_isSupported_12 rfl ?_
    refine pw_sub [1, 2, 3, 4, 0] (LV2 := [(0, .ref (G.2.2 + x0)), (1, .int x1), (2, .int x2), (3, .int x3), (4, .null)]) rfl ?_
    exact cbX11_isSupported_b24 C hr hin hZ hout hl  _ _ _ _ _ _ h
  | some o7 =>
    replace h := h.2 o7 hqr5
    show PW p l e _ s m args below meth c _ G _ S6 _ _ _ _ (.ref (G.2.2 + o7) :: [])
    refine pw_astore (pc := 8) C [(4, .ref (G.2.2 + o7)), (0, .ref (G.2.2 + x0)), (1, .int x1), (2, .int x2), (3, .int x3)] dX11_isSupported_8 (by decide) rfl ?_
    refine pw_aload (pc := 10) C 0 dX11_isSupported_10 rfl ?_
    refine pw_ifnull_r (pc := 12) C dX11_isSupported_12 ?_
    refine pw_aload (pc := 15) C 0 dX11_isSupported_15 rfl ?_
    refine pw_iload_n (pc := 17) C 3 dX11_isSupported_17 rfl rfl ?_
    obtain ⟨hk8, h⟩ := h
    refine pw_calli (pc := 18) (kc2 := 0) (kn2 := 0) (rnX11_isSupported_18 C hZ _ o7 x2 _ hk8 h (Nat.le_of_ble_eq_true rfl)) rfl rfl (fun r9 S10 h => ?_)
    refine pw_if_ne (pc := 21) (tgt := 35) C dX11_isSupported_21 rfl ⟨fun hc => ?_, fun hc => ?_⟩
    · replace h := h.1 hc
      refine pw_iload_n (pc := 35) C 4 dX11_isSupported_35 rfl rfl ?_
      refine pw_calli (pc := 36) (kc2 := 0) (kn2 := 0) (pRunS (pc := 36) C (ctX11_isValue l G hZ  _ x3 _ h) (va_cwS 1 C.2.2.2.2.1 gX11_isSupported_X11_isValue rfl rfl rfl (by decide +kernel) ⟨Nat.le_of_ble_eq_true rfl, Nat.le_of_ble_eq_true rfl⟩) rfl rfl (Nat.le_of_ble_eq_true rfl) dX11_isSupported_36 ⟨Nat.le_of_ble_eq_true rfl, Nat.le_of_ble_eq_true rfl⟩) rfl rfl (fun r11 S12 h => ?_)
      refine pw_if_ne (pc := 39) (tgt := 52) C dX11_isSupported_39 rfl ⟨fun hc => ?_, fun hc => ?_⟩
      · replace h := h.1 hc
        refine pw_aload_n (pc := 52) C 1 dX11_isSupported_52 rfl rfl ?_
        refine pw_aload (pc := 53) C 0 dX11_isSupported_53 rfl ?_
        refine pw_iload_n (pc := 55) C 3 dX11_isSupported_55 rfl rfl ?_
        refine pw_iload_n (pc := 56) C 4 dX11_isSupported_56 rfl rfl ?_
        obtain ⟨hk13, h⟩ := h
        refine pw_calll (pc := 57) (kc2 := 0) (kn2 := 0) (pRunV (pc := 57) C (ctX11_presentSupport l G hZ  _ x0 o7 x2 x3 _ h) (cwV 3 C.2.2.2.2.1 gX11_isSupported_X11_presentSupport rfl rfl rfl (by decide +kernel) ⟨Nat.le_of_ble_eq_true rfl, Nat.le_of_ble_eq_true rfl⟩) pCl9 hk13 rfl rfl (Nat.le_of_ble_eq_true rfl) dX11_isSupported_57 ⟨Nat.le_of_ble_eq_true rfl, Nat.le_of_ble_eq_true rfl⟩) rfl rfl (fun r14 S15 h => ?_)
        refine pw_lconst (pc := 60) (v := 0) C dX11_isSupported_60 (by decide) ?_
        refine pw_lcmp (pc := 61) C dX11_isSupported_61 ?_
        refine pw_if_eq (pc := 62) (tgt := 69) C dX11_isSupported_62 rfl ⟨fun hc => ?_, fun hc => ?_⟩
        · replace h := h.1 hc
          refine pw_iconst (pc := 69) (v := 0 ) C dX11_isSupported_69 (by decide) ?_
          refine pw_widen (k2 := 1) (n2 := 6) (Nat.le_of_ble_eq_true rfl) (Nat.le_of_ble_eq_true rfl) ?_
          refine pw_xret ?_
          exact pw_zret (pc := 70) C hr rfl h dX11_isSupported_70
        · replace h := h.2 hc
          refine pw_iconst (pc := 65) (v := 1 ) C dX11_isSupported_65 (by decide) ?_
          refine pw_goto (pc := 66) (tgt := 70) C dX11_isSupported_66 rfl ?_
          refine pw_widen (k2 := 1) (n2 := 6) (Nat.le_of_ble_eq_true rfl) (Nat.le_of_ble_eq_true rfl) ?_
          refine pw_xret ?_
          exact pw_zret (pc := 70) C hr rfl h dX11_isSupported_70
      · replace h := h.2 hc
        exact pw_throwS (pc := 42) (mc := 1) (ms := 6) C hl (hZ.2.2.2.2.2.2.2.2.2.2.2.2.2.2.2.2.2.2.2.2.2.2.2.2.2.2.2.2.2.2.2.2.2.2.2.2.2.2.1) (by decide +kernel) (by decide +kernel) (by decide +kernel) hout dX11_isSupported_42 dX11_isSupported_45 dX11_isSupported_46 dX11_isSupported_48 dX11_isSupported_51 (by decide) (Nat.le_of_ble_eq_true rfl) (Nat.le_of_ble_eq_true rfl) (Nat.le_of_ble_eq_true rfl) (Nat.le_of_ble_eq_true rfl) (Nat.le_of_ble_eq_true rfl) h
    · replace h := h.2 hc
      refine pw_sub [1, 2, 3, 4, 0] (LV2 := [(0, .ref (G.2.2 + x0)), (1, .int x1), (2, .int x2), (3, .int x3), (4, .ref (G.2.2 + o7))]) rfl ?_
      exact cbX11_isSupported_b24 C hr hin hZ hout hl  _ _ _ _ _ _ h

abbrev rmX11_support : Room := { frames := 14, cells := 1, slots := 6, locals := 387 }
theorem iX11_support_X11 : ∀ w ∈ u_ws RX11 TX11 9, w ∈ wsQ_support := by decide +kernel
def wpX11_support_b34  (Q : Int32 → PS → Prop) (X : String → PS → Prop) (S : PS) (x0 : Nat) (x1 : Int32) (x2 : Int32) (x3 : Int32) (x4 : Int32) (x5 : Option Nat) : Prop := ((x5 = none → (∀ n, X "java/lang/IndexOutOfBoundsException" (sSkip S n))) ∧ (∀ o1, x5 = some o1 → (∀ n, X "java/lang/IndexOutOfBoundsException" (sSkip S n))))
def wpX11_support (S : PS) (x0 : Nat) (x1 : Int32) (x2 : Int32) (x3 : Int32) (x4 : Int32) (Q : Int32 → PS → Prop) (X : String → PS → Prop) : Prop := (pK S x0 = 10 ∧ (∃ o3, pR S x0 6 = some o3 ∧ (pK S o3 = 5 ∧ (wpX6_constraintAt S o3 x1 (fun r5 S6 => ((r5 = none → (wpX11_support_b34 Q X S6 x0 x1 x2 x3 x4 none)) ∧ (∀ o7, r5 = some o7 → (pC4 S6 o7 ∧ (wpX1_hasVariable S6 o7 x2 (fun r9 S10 => ((r9 = 0 → (wpX11_support_b34 Q X S10 x0 x1 x2 x3 x4 (some o7))) ∧ (¬ r9 = 0 → (pC4 S10 o7 ∧ (wpX1_hasVariable S10 o7 x4 (fun r12 S13 => ((¬ r12 = 0 → (wpX11_isValue S13 x3 (fun r14 S15 => ((¬ r14 = 0 → (pK S15 x0 = 10 ∧ (wpX11_presentSupport S15 x0 o7 x2 x3 (fun r17 S18 => ((¬ (lg_cmp r17 (0 : Int64)) = 0 → (wpX5_leastValueOf S18 r17 x4 (fun r19 S20 => (Q r19 S20)))) ∧ ((lg_cmp r17 (0 : Int64)) = 0 → (∀ n, X "java/util/NoSuchElementException" (sSkip S18 n)))))))) ∧ (r14 = 0 → (∀ n, X "java/lang/IllegalArgumentException" (sSkip S15 n))))))) ∧ (r12 = 0 → (wpX11_support_b34 Q X S13 x0 x1 x2 x3 x4 (some o7)))))))))))))))))))
set_option maxRecDepth 100000 in
set_option maxHeartbeats 4000000 in
theorem rnX11_support_18 {p : Program} {l : Launch} {e : Env} {s : State} {m : MethodId} {args : Array Value} {below : List Frame} {meth : Method} {c : Code} {G : PG} (C : pCx p s m args meth c G cX11_support 8 yX11_support.cls wsQ_support) (hZ : pZa G) (S : PS) (x : Nat) (a0 : Int32) (Q : Int32 → PS → Prop) (hk : pC4 S x) (h : wpX1_hasVariable S x a0 Q) {LV : List (Nat × Value)} {st : List Value} (hw : (st.map fun v => v.category).sum ≤ 8) : PRun p l e rmX11_support s m args below meth c G 8 S 0 0 0 0 LV 18 (.int a0 :: .ref (G.2.2 + x) :: st) st (va_Qi Q (pB G) (pFr G) (.ref (G.2.2 + x) :: [.int a0]).toArray) := by
  rcases hk with hk | hk | hk | hk
  · exact pRunU (pc := 18) (kc := 0) (kn := 0) C (ctX1_hasVariable l G hZ _ x a0 _ h) (va_cwU 1 C.2.2.2.2.1 qgX11_support_X1_hasVariable_u178X0 rfl rfl rfl rfl (by decide +kernel) ⟨Nat.le_of_ble_eq_true rfl, Nat.le_of_ble_eq_true rfl⟩) pCl0 hk rfl rfl hw dX11_support_18 ⟨Nat.le_of_ble_eq_true rfl, Nat.le_of_ble_eq_true rfl⟩
  · exact pRunU (pc := 18) (kc := 0) (kn := 0) C (ctX1_hasVariable l G hZ _ x a0 _ h) (va_cwU 1 C.2.2.2.2.1 qgX11_support_X1_hasVariable_u178X2 rfl rfl rfl rfl (by decide +kernel) ⟨Nat.le_of_ble_eq_true rfl, Nat.le_of_ble_eq_true rfl⟩) pCl1 hk rfl rfl hw dX11_support_18 ⟨Nat.le_of_ble_eq_true rfl, Nat.le_of_ble_eq_true rfl⟩
  · exact pRunU (pc := 18) (kc := 0) (kn := 0) C (ctX1_hasVariable l G hZ _ x a0 _ h) (va_cwU 1 C.2.2.2.2.1 qgX11_support_X1_hasVariable_u178X4 rfl rfl rfl rfl (by decide +kernel) ⟨Nat.le_of_ble_eq_true rfl, Nat.le_of_ble_eq_true rfl⟩) pCl3 hk rfl rfl hw dX11_support_18 ⟨Nat.le_of_ble_eq_true rfl, Nat.le_of_ble_eq_true rfl⟩
  · exact pRunU (pc := 18) (kc := 0) (kn := 0) C (ctX1_hasVariable l G hZ _ x a0 _ h) (va_cwU 1 C.2.2.2.2.1 qgX11_support_X1_hasVariable_u178X10 rfl rfl rfl rfl (by decide +kernel) ⟨Nat.le_of_ble_eq_true rfl, Nat.le_of_ble_eq_true rfl⟩) pCl8 hk rfl rfl hw dX11_support_18 ⟨Nat.le_of_ble_eq_true rfl, Nat.le_of_ble_eq_true rfl⟩
set_option maxRecDepth 100000 in
set_option maxHeartbeats 4000000 in
theorem rnX11_support_28 {p : Program} {l : Launch} {e : Env} {s : State} {m : MethodId} {args : Array Value} {below : List Frame} {meth : Method} {c : Code} {G : PG} (C : pCx p s m args meth c G cX11_support 8 yX11_support.cls wsQ_support) (hZ : pZa G) (S : PS) (x : Nat) (a0 : Int32) (Q : Int32 → PS → Prop) (hk : pC4 S x) (h : wpX1_hasVariable S x a0 Q) {LV : List (Nat × Value)} {st : List Value} (hw : (st.map fun v => v.category).sum ≤ 8) : PRun p l e rmX11_support s m args below meth c G 8 S 0 0 0 0 LV 28 (.int a0 :: .ref (G.2.2 + x) :: st) st (va_Qi Q (pB G) (pFr G) (.ref (G.2.2 + x) :: [.int a0]).toArray) := by
  rcases hk with hk | hk | hk | hk
  · exact pRunU (pc := 28) (kc := 0) (kn := 0) C (ctX1_hasVariable l G hZ _ x a0 _ h) (va_cwU 1 C.2.2.2.2.1 qgX11_support_X1_hasVariable_u178X0 rfl rfl rfl rfl (by decide +kernel) ⟨Nat.le_of_ble_eq_true rfl, Nat.le_of_ble_eq_true rfl⟩) pCl0 hk rfl rfl hw dX11_support_28 ⟨Nat.le_of_ble_eq_true rfl, Nat.le_of_ble_eq_true rfl⟩
  · exact pRunU (pc := 28) (kc := 0) (kn := 0) C (ctX1_hasVariable l G hZ _ x a0 _ h) (va_cwU 1 C.2.2.2.2.1 qgX11_support_X1_hasVariable_u178X2 rfl rfl rfl rfl (by decide +kernel) ⟨Nat.le_of_ble_eq_true rfl, Nat.le_of_ble_eq_true rfl⟩) pCl1 hk rfl rfl hw dX11_support_28 ⟨Nat.le_of_ble_eq_true rfl, Nat.le_of_ble_eq_true rfl⟩
  · exact pRunU (pc := 28) (kc := 0) (kn := 0) C (ctX1_hasVariable l G hZ _ x a0 _ h) (va_cwU 1 C.2.2.2.2.1 qgX11_support_X1_hasVariable_u178X4 rfl rfl rfl rfl (by decide +kernel) ⟨Nat.le_of_ble_eq_true rfl, Nat.le_of_ble_eq_true rfl⟩) pCl3 hk rfl rfl hw dX11_support_28 ⟨Nat.le_of_ble_eq_true rfl, Nat.le_of_ble_eq_true rfl⟩
  · exact pRunU (pc := 28) (kc := 0) (kn := 0) C (ctX1_hasVariable l G hZ _ x a0 _ h) (va_cwU 1 C.2.2.2.2.1 qgX11_support_X1_hasVariable_u178X10 rfl rfl rfl rfl (by decide +kernel) ⟨Nat.le_of_ble_eq_true rfl, Nat.le_of_ble_eq_true rfl⟩) pCl8 hk rfl rfl hw dX11_support_28 ⟨Nat.le_of_ble_eq_true rfl, Nat.le_of_ble_eq_true rfl⟩
set_option maxRecDepth 100000 in
set_option maxHeartbeats 4000000 in
theorem cbX11_support_b34 {p : Program} {l : Launch} {e : Env} {s : State} {m : MethodId} {args : Array Value} {below : List Frame} {meth : Method} {c : Code} {G : PG} {Q : Int32 → PS → Prop} {X : String → PS → Prop} (C : pCx p s m args meth c G cX11_support 8 yX11_support.cls wsQ_support) (hr : meth.sig.returnType = (some .int)) (hin : meth.name = yX11_support.name) (hZ : pZa G) (hout : ∀ x ∈ c.exceptionTable.toList, False) (hl : l.stackTraces = false)  : ∀ (S : PS) (x0 : Nat) (x1 : Int32) (x2 : Int32) (x3 : Int32) (x4 : Int32) (x5 : Option Nat), wpX11_support_b34  Q X S x0 x1 x2 x3 x4 x5 → PW p l e rmX11_support s m args below meth c (vx_MQ below (va_Qi Q (pB G) (pFr G)) (pXC G X) args s rmX11_support.cells rmX11_support.slots (pFr G)) G 8 S 0 0 [(0, .ref (G.2.2 + x0)), (1, .int x1), (2, .int x2), (3, .int x3), (4, .int x4), (5, rf G.2.2 x5)] 34 ([]) := by
  intro S x0 x1 x2 x3 x4 x5 h
  unfold wpX11_support_b34 at h
  cases hqx5 : x5 with
  | none =>
    replace h := h.1 hqx5
    show PW p l e _ s m args below meth c _ G _ S _ _ [(0, .ref (G.2.2 + x0)), (1, .int x1), (2, .int x2), (3, .int x3), (4, .int x4), (5, .null)] 34 ([])
    exact pw_throwSW (pc := 34) (mc := 1) (ms := 6) C hl (hZ.2.2.2.2.2.2.2.2.2.2.2.2.2.2.2.2.2.2.2.2.2.2.2.2.2.2.2.2.2.2.2.2.2.2.2.2.2.2.2.2.2.1) (by decide +kernel) (by decide +kernel) (by decide +kernel) hout dX11_support_34 dX11_support_37 dX11_support_38 dX11_support_41 dX11_support_44 (by decide) (Nat.le_of_ble_eq_true rfl) (Nat.le_of_ble_eq_true rfl) (Nat.le_of_ble_eq_true rfl) (Nat.le_of_ble_eq_true rfl) (Nat.le_of_ble_eq_true rfl) h
  | some o1 =>
    replace h := h.2 o1 hqx5
    show PW p l e _ s m args below meth c _ G _ S _ _ [(0, .ref (G.2.2 + x0)), (1, .int x1), (2, .int x2), (3, .int x3), (4, .int x4), (5, .ref (G.2.2 + o1))] 34 ([])
    exact pw_throwSW (pc := 34) (mc := 1) (ms := 6) C hl (hZ.2.2.2.2.2.2.2.2.2.2.2.2.2.2.2.2.2.2.2.2.2.2.2.2.2.2.2.2.2.2.2.2.2.2.2.2.2.2.2.2.2.1) (by decide +kernel) (by decide +kernel) (by decide +kernel) hout dX11_support_34 dX11_support_37 dX11_support_38 dX11_support_41 dX11_support_44 (by decide) (Nat.le_of_ble_eq_true rfl) (Nat.le_of_ble_eq_true rfl) (Nat.le_of_ble_eq_true rfl) (Nat.le_of_ble_eq_true rfl) (Nat.le_of_ble_eq_true rfl) h
set_option maxRecDepth 100000 in
set_option maxHeartbeats 4000000 in
theorem ctX11_support (l : Launch) (G : PG) (hZ : pZa G) (hl : l.stackTraces = false) (S : PS) (x0 : Nat) (x1 : Int32) (x2 : Int32) (x3 : Int32) (x4 : Int32) (Q : Int32 → PS → Prop) (X : String → PS → Prop) (h : wpX11_support S x0 x1 x2 x3 x4 Q X) : mXI l yX11_support wsQ_support rmX11_support G S [.ref (G.2.2 + x0), .int x1, .int x2, .int x3, .int x4] Q X := by
  unfold mXI
  refine met_ofX (cc := cX11_support) (maxL := 8) (ret := (some .int)) (by decide) rfl (Nat.le_of_ble_eq_true rfl) ?_
  intro p e s m args below meth c C hout hr hin
  unfold wpX11_support at h
  show PW p l e _ s m args below meth c _ G 8 S 0 0 [(0, .ref (G.2.2 + x0)), (1, .int x1), (2, .int x2), (3, .int x3), (4, .int x4)] 0 []
  refine pw_aload_n (pc := 0) C 0 dX11_support_0 rfl rfl ?_
  obtain ⟨hk2, h⟩ := h
  obtain ⟨o3, ho3, h⟩ := h
  refine pw_getR (pc := 1) (ref := "SupportSolver") (k := 6) (index := 47) C pCl9 iX11_support_X11 hk2 rfl (by decide +kernel) (Or.inl rfl) (o := o3) ho3 dX11_support_1 ?_
  refine pw_iload_n (pc := 4) C 1 dX11_support_4 rfl rfl ?_
  obtain ⟨hk4, h⟩ := h
  refine pw_callq (pc := 5) (kc2 := 0) (kn2 := 0) (pRunV (pc := 5) C (ctX6_constraintAt l G hZ  _ o3 x1 _ h) (cwV 1 C.2.2.2.2.1 qgX11_support_X6_constraintAt rfl rfl rfl (by decide +kernel) ⟨Nat.le_of_ble_eq_true rfl, Nat.le_of_ble_eq_true rfl⟩) pCl4 hk4 rfl rfl (Nat.le_of_ble_eq_true rfl) dX11_support_5 ⟨Nat.le_of_ble_eq_true rfl, Nat.le_of_ble_eq_true rfl⟩) rfl rfl (fun r5 S6 h => ?_)
  cases hqr5 : r5 with
  | none =>
    replace h := h.1 hqr5
    show PW p l e _ s m args below meth c _ G _ S6 _ _ _ _ (.null :: [])
    refine pw_astoreN (pc := 8) C [(5, .null), (0, .ref (G.2.2 + x0)), (1, .int x1), (2, .int x2), (3, .int x3), (4, .int x4)] dX11_support_8 (by decide) rfl ?_
    refine pw_aloadN (pc := 10) C 0 dX11_support_10 rfl ?_
    refine pw_ifnull_n (pc := 12) (tgt := 34) C dX11_support_12 rfl ?_
    refine pw_sub [1, 2, 3, 4, 5, 0] (LV2 := [(0, .ref (G.2.2 + x0)), (1, .int x1), (2, .int x2), (3, .int x3), (4, .int x4), (5, .null)]) rfl ?_
    exact cbX11_support_b34 C hr hin hZ hout hl  _ _ _ _ _ _ _ h
  | some o7 =>
    replace h := h.2 o7 hqr5
    show PW p l e _ s m args below meth c _ G _ S6 _ _ _ _ (.ref (G.2.2 + o7) :: [])
    refine pw_astore (pc := 8) C [(5, .ref (G.2.2 + o7)), (0, .ref (G.2.2 + x0)), (1, .int x1), (2, .int x2), (3, .int x3), (4, .int x4)] dX11_support_8 (by decide) rfl ?_
    refine pw_aload (pc := 10) C 0 dX11_support_10 rfl ?_
    refine pw_ifnull_r (pc := 12) C dX11_support_12 ?_
    refine pw_aload (pc := 15) C 0 dX11_support_15 rfl ?_
    refine pw_iload_n (pc := 17) C 3 dX11_support_17 rfl rfl ?_
    obtain ⟨hk8, h⟩ := h
    refine pw_calli (pc := 18) (kc2 := 0) (kn2 := 0) (rnX11_support_18 C hZ _ o7 x2 _ hk8 h (Nat.le_of_ble_eq_true rfl)) rfl rfl (fun r9 S10 h => ?_)
    refine pw_if_eq (pc := 21) (tgt := 34) C dX11_support_21 rfl ⟨fun hc => ?_, fun hc => ?_⟩
    · replace h := h.1 hc
      refine pw_sub [1, 2, 3, 4, 5, 0] (LV2 := [(0, .ref (G.2.2 + x0)), (1, .int x1), (2, .int x2), (3, .int x3), (4, .int x4), (5, .ref (G.2.2 + o7))]) rfl ?_
      exact cbX11_support_b34 C hr hin hZ hout hl  _ _ _ _ _ _ _ h
    · replace h := h.2 hc
      refine pw_aload (pc := 24) C 0 dX11_support_24 rfl ?_
      refine pw_iload (pc := 26) C 5 dX11_support_26 rfl ?_
      obtain ⟨hk11, h⟩ := h
      refine pw_calli (pc := 28) (kc2 := 0) (kn2 := 0) (rnX11_support_28 C hZ _ o7 x4 _ hk11 h (Nat.le_of_ble_eq_true rfl)) rfl rfl (fun r12 S13 h => ?_)
      refine pw_if_ne (pc := 31) (tgt := 45) C dX11_support_31 rfl ⟨fun hc => ?_, fun hc => ?_⟩
      · replace h := h.1 hc
        refine pw_iload_n (pc := 45) C 4 dX11_support_45 rfl rfl ?_
        refine pw_calli (pc := 46) (kc2 := 0) (kn2 := 0) (pRunS (pc := 46) C (ctX11_isValue l G hZ  _ x3 _ h) (va_cwS 1 C.2.2.2.2.1 qgX11_support_X11_isValue rfl rfl rfl (by decide +kernel) ⟨Nat.le_of_ble_eq_true rfl, Nat.le_of_ble_eq_true rfl⟩) rfl rfl (Nat.le_of_ble_eq_true rfl) dX11_support_46 ⟨Nat.le_of_ble_eq_true rfl, Nat.le_of_ble_eq_true rfl⟩) rfl rfl (fun r14 S15 h => ?_)
        refine pw_if_ne (pc := 49) (tgt := 62) C dX11_support_49 rfl ⟨fun hc => ?_, fun hc => ?_⟩
        · replace h := h.1 hc
          refine pw_aload_n (pc := 62) C 1 dX11_support_62 rfl rfl ?_
          refine pw_aload (pc := 63) C 0 dX11_support_63 rfl ?_
          refine pw_iload_n (pc := 65) C 3 dX11_support_65 rfl rfl ?_
          refine pw_iload_n (pc := 66) C 4 dX11_support_66 rfl rfl ?_
          obtain ⟨hk16, h⟩ := h
          refine pw_calll (pc := 67) (kc2 := 0) (kn2 := 0) (pRunV (pc := 67) C (ctX11_presentSupport l G hZ  _ x0 o7 x2 x3 _ h) (cwV 3 C.2.2.2.2.1 qgX11_support_X11_presentSupport rfl rfl rfl (by decide +kernel) ⟨Nat.le_of_ble_eq_true rfl, Nat.le_of_ble_eq_true rfl⟩) pCl9 hk16 rfl rfl (Nat.le_of_ble_eq_true rfl) dX11_support_67 ⟨Nat.le_of_ble_eq_true rfl, Nat.le_of_ble_eq_true rfl⟩) rfl rfl (fun r17 S18 h => ?_)
          refine pw_lstore (pc := 70) C [(6, .long r17), (5, .ref (G.2.2 + o7)), (0, .ref (G.2.2 + x0)), (1, .int x1), (2, .int x2), (3, .int x3), (4, .int x4)] dX11_support_70 (by decide) rfl ?_
          refine pw_lload (pc := 72) C 0 dX11_support_72 rfl ?_
          refine pw_lconst (pc := 74) (v := 0) C dX11_support_74 (by decide) ?_
          refine pw_lcmp (pc := 75) C dX11_support_75 ?_
          refine pw_if_ne (pc := 76) (tgt := 90) C dX11_support_76 rfl ⟨fun hc => ?_, fun hc => ?_⟩
          · replace h := h.1 hc
            refine pw_lload (pc := 90) C 0 dX11_support_90 rfl ?_
            refine pw_iload (pc := 92) C 6 dX11_support_92 rfl ?_
            refine pw_calli (pc := 94) (kc2 := 0) (kn2 := 0) (pRunS (pc := 94) C (ctX5_leastValueOf l G hZ  _ r17 x4 _ h) (va_cwS 2 C.2.2.2.2.1 qgX11_support_X5_leastValueOf rfl rfl rfl (by decide +kernel) ⟨Nat.le_of_ble_eq_true rfl, Nat.le_of_ble_eq_true rfl⟩) rfl rfl (Nat.le_of_ble_eq_true rfl) dX11_support_94 ⟨Nat.le_of_ble_eq_true rfl, Nat.le_of_ble_eq_true rfl⟩) rfl rfl (fun r19 S20 h => ?_)
            refine pw_widen (k2 := 1) (n2 := 6) (Nat.le_of_ble_eq_true rfl) (Nat.le_of_ble_eq_true rfl) ?_
            refine pw_xret ?_
            exact pw_iret (pc := 97) C hr h dX11_support_97
          · replace h := h.2 hc
            exact pw_throwX (pc := 79) (mc := 1) (ms := 6) (n := 3) C hl (hZ.2.2.2.2.2.2.2.2.2.2.2.2.2.2.2.2.2.2.2.2.2.2.2.2.2.2.2.2.2.2.2.2.2.2.2.2.2.2.2.2.2.2.1) (by decide +kernel) hout dX11_support_79 dX11_support_82 (Or.inr ⟨dX11_support_83, rfl⟩) dX11_support_86 dX11_support_89 (by decide) (Nat.le_of_ble_eq_true rfl) (Nat.le_of_ble_eq_true rfl) (Nat.le_of_ble_eq_true rfl) (Nat.le_of_ble_eq_true rfl) (Nat.le_of_ble_eq_true rfl) h
        · replace h := h.2 hc
          exact pw_throwS (pc := 52) (mc := 1) (ms := 6) C hl (hZ.2.2.2.2.2.2.2.2.2.2.2.2.2.2.2.2.2.2.2.2.2.2.2.2.2.2.2.2.2.2.2.2.2.2.2.2.2.2.1) (by decide +kernel) (by decide +kernel) (by decide +kernel) hout dX11_support_52 dX11_support_55 dX11_support_56 dX11_support_58 dX11_support_61 (by decide) (Nat.le_of_ble_eq_true rfl) (Nat.le_of_ble_eq_true rfl) (Nat.le_of_ble_eq_true rfl) (Nat.le_of_ble_eq_true rfl) (Nat.le_of_ble_eq_true rfl) h
      · replace h := h.2 hc
        refine pw_sub [1, 2, 3, 4, 5, 0] (LV2 := [(0, .ref (G.2.2 + x0)), (1, .int x1), (2, .int x2), (3, .int x3), (4, .int x4), (5, .ref (G.2.2 + o7))]) rfl ?_
        exact cbX11_support_b34 C hr hin hZ hout hl  _ _ _ _ _ _ _ h

abbrev rmX11_watchersIn : Room := { frames := 14, cells := 0, slots := 0, locals := 387 }
theorem iX11_watchersIn_X0 : ∀ w ∈ u_ws RX0 TX0 4, w ∈ wsX11_watchersIn := by decide +kernel
theorem iX11_watchersIn_X10 : ∀ w ∈ u_ws RX10 TX10 8, w ∈ wsX11_watchersIn := by decide +kernel
theorem iX11_watchersIn_X2 : ∀ w ∈ u_ws RX2 TX2 7, w ∈ wsX11_watchersIn := by decide +kernel
theorem iX11_watchersIn_X4 : ∀ w ∈ u_ws RX4 TX4 5, w ∈ wsX11_watchersIn := by decide +kernel
def wpX11_watchersIn_b26 (K6 : PS → Nat → Nat → Int32 → Int32 → Int32 → Int32 → Prop) (Q : Int32 → PS → Prop) : Nat → PS → Nat → Nat → Int32 → Int32 → Int32 → Int32 → Int32 → Int32 → Prop
  | 0 => fun _ _ _ _ _ _ _ _ _ => False
  | n + 1 => fun S x0 x1 x2 x3 x4 x5 x6 x7 => (((5 : Int32) ≤ x7 → (K6 S x0 x1 x2 x3 x4 (x5 + 1))) ∧ (¬ (5 : Int32) ≤ x7 → ((x6 = x2 → (K6 S x0 x1 x2 x3 x4 (x5 + 1))) ∧ (¬ x6 = x2 → (pK S x0 = 10 ∧ (wpX11_presentSupport S x0 x1 x6 x7 (fun r2 S3 => (wpX5_has S3 r2 x2 x3 (fun r4 S5 => ((r4 = 0 → (wpX11_watchersIn_b26 K6 Q n S5 x0 x1 x2 x3 x4 x5 x6 (x7 + 1))) ∧ (¬ r4 = 0 → (wpX11_watchersIn_b26 K6 Q n S5 x0 x1 x2 x3 (x4 + 1) x5 x6 (x7 + 1)))))))))))))
def wpX11_watchersIn_b6  (Q : Int32 → PS → Prop) : Nat → PS → Nat → Nat → Int32 → Int32 → Int32 → Int32 → Prop
  | 0 => fun _ _ _ _ _ _ _ => False
  | n + 1 => fun S x0 x1 x2 x3 x4 x5 => (pC4 S x1 ∧ (((pI S x1 1) ≤ x5 → (Q x4 S)) ∧ (¬ (pI S x1 1) ≤ x5 → (wpX1_variableAt S x1 x5 (fun r7 S8 => (∃ n9 : Nat, wpX11_watchersIn_b26 (wpX11_watchersIn_b6 Q n) Q n9 S8 x0 x1 x2 x3 x4 x5 r7 (0 : Int32)))))))
def wpX11_watchersIn (S : PS) (x0 : Nat) (x1 : Nat) (x2 : Int32) (x3 : Int32) (Q : Int32 → PS → Prop) : Prop := (∃ n9 : Nat, wpX11_watchersIn_b6 Q n9 S x0 x1 x2 x3 (0 : Int32) (0 : Int32))
set_option maxRecDepth 100000 in
set_option maxHeartbeats 4000000 in
theorem rnX11_watchersIn_18 {p : Program} {l : Launch} {e : Env} {s : State} {m : MethodId} {args : Array Value} {below : List Frame} {meth : Method} {c : Code} {G : PG} (C : pCx p s m args meth c G cX11_watchersIn 8 yX11_watchersIn.cls wsX11_watchersIn) (hZ : pZa G) (S : PS) (x : Nat) (a0 : Int32) (Q : Int32 → PS → Prop) (hk : pC4 S x) (h : wpX1_variableAt S x a0 Q) {LV : List (Nat × Value)} {st : List Value} (hw : (st.map fun v => v.category).sum ≤ 8) : PRun p l e rmX11_watchersIn s m args below meth c G 8 S 0 0 0 0 LV 18 (.int a0 :: .ref (G.2.2 + x) :: st) st (va_Qi Q (pB G) (pFr G) (.ref (G.2.2 + x) :: [.int a0]).toArray) := by
  rcases hk with hk | hk | hk | hk
  · exact pRunU (pc := 18) (kc := 0) (kn := 0) C (ctX1_variableAt l G hZ _ x a0 _ h) (va_cwU 1 C.2.2.2.2.1 gX11_watchersIn_X1_variableAt_u289X0 rfl rfl rfl rfl (by decide +kernel) ⟨Nat.le_of_ble_eq_true rfl, Nat.le_of_ble_eq_true rfl⟩) pCl0 hk rfl rfl hw dX11_watchersIn_18 ⟨Nat.le_of_ble_eq_true rfl, Nat.le_of_ble_eq_true rfl⟩
  · exact pRunU (pc := 18) (kc := 0) (kn := 0) C (ctX1_variableAt l G hZ _ x a0 _ h) (va_cwU 1 C.2.2.2.2.1 gX11_watchersIn_X1_variableAt_u289X2 rfl rfl rfl rfl (by decide +kernel) ⟨Nat.le_of_ble_eq_true rfl, Nat.le_of_ble_eq_true rfl⟩) pCl1 hk rfl rfl hw dX11_watchersIn_18 ⟨Nat.le_of_ble_eq_true rfl, Nat.le_of_ble_eq_true rfl⟩
  · exact pRunU (pc := 18) (kc := 0) (kn := 0) C (ctX1_variableAt l G hZ _ x a0 _ h) (va_cwU 1 C.2.2.2.2.1 gX11_watchersIn_X1_variableAt_u289X4 rfl rfl rfl rfl (by decide +kernel) ⟨Nat.le_of_ble_eq_true rfl, Nat.le_of_ble_eq_true rfl⟩) pCl3 hk rfl rfl hw dX11_watchersIn_18 ⟨Nat.le_of_ble_eq_true rfl, Nat.le_of_ble_eq_true rfl⟩
  · exact pRunU (pc := 18) (kc := 0) (kn := 0) C (ctX1_variableAt l G hZ _ x a0 _ h) (va_cwU 1 C.2.2.2.2.1 gX11_watchersIn_X1_variableAt_u289X10 rfl rfl rfl rfl (by decide +kernel) ⟨Nat.le_of_ble_eq_true rfl, Nat.le_of_ble_eq_true rfl⟩) pCl8 hk rfl rfl hw dX11_watchersIn_18 ⟨Nat.le_of_ble_eq_true rfl, Nat.le_of_ble_eq_true rfl⟩
set_option maxRecDepth 100000 in
set_option maxHeartbeats 4000000 in
theorem cbX11_watchersIn_b26 {p : Program} {l : Launch} {e : Env} {s : State} {m : MethodId} {args : Array Value} {below : List Frame} {meth : Method} {c : Code} {G : PG} {Q : Int32 → PS → Prop} (C : pCx p s m args meth c G cX11_watchersIn 8 yX11_watchersIn.cls wsX11_watchersIn) (hr : meth.sig.returnType = (some .int)) (hin : meth.name = yX11_watchersIn.name) (hZ : pZa G) {K6 : PS → Nat → Nat → Int32 → Int32 → Int32 → Int32 → Prop} (hK6 : ∀ (S : PS) (x0 : Nat) (x1 : Nat) (x2 : Int32) (x3 : Int32) (x4 : Int32) (x5 : Int32), K6 S x0 x1 x2 x3 x4 x5 → PW p l e rmX11_watchersIn s m args below meth c (MQ below (va_Qi Q (pB G) (pFr G)) args s rmX11_watchersIn.cells rmX11_watchersIn.slots (pFr G)) G 8 S 0 0 [(0, .ref (G.2.2 + x0)), (1, .ref (G.2.2 + x1)), (2, .int x2), (3, .int x3), (4, .int x4), (5, .int x5)] 6 ([])) (n : Nat) : ∀ (S : PS) (x0 : Nat) (x1 : Nat) (x2 : Int32) (x3 : Int32) (x4 : Int32) (x5 : Int32) (x6 : Int32) (x7 : Int32), wpX11_watchersIn_b26 K6 Q n S x0 x1 x2 x3 x4 x5 x6 x7 → PW p l e rmX11_watchersIn s m args below meth c (MQ below (va_Qi Q (pB G) (pFr G)) args s rmX11_watchersIn.cells rmX11_watchersIn.slots (pFr G)) G 8 S 0 0 [(0, .ref (G.2.2 + x0)), (1, .ref (G.2.2 + x1)), (2, .int x2), (3, .int x3), (4, .int x4), (5, .int x5), (6, .int x6), (7, .int x7)] 26 ([]) := by
  induction n with
  | zero => intro S x0 x1 x2 x3 x4 x5 x6 x7 h; exact h.elim
  | succ n ih =>
    intro S x0 x1 x2 x3 x4 x5 x6 x7 h
    unfold wpX11_watchersIn_b26 at h
    refine pw_iload (pc := 26) C 7 dX11_watchersIn_26 rfl ?_
    refine pw_iconst (pc := 28) (v := 5 ) C dX11_watchersIn_28 (by decide) ?_
    refine pw_icmp_ge (pc := 29) (tgt := 64) C dX11_watchersIn_29 rfl ⟨fun hc => ?_, fun hc => ?_⟩
    · replace h := h.1 hc
      refine pw_iincK (pc := 64) (w := 1) C [(5, .int (x5 + 1)), (0, .ref (G.2.2 + x0)), (1, .ref (G.2.2 + x1)), (2, .int x2), (3, .int x3), (4, .int x4), (6, .int x6), (7, .int x7)] 5 dX11_watchersIn_64 (by decide) rfl (by decide) rfl ?_
      refine pw_goto (pc := 67) (tgt := 6) C dX11_watchersIn_67 rfl ?_
      refine pw_sub [1, 2, 3, 4, 5, 0] (LV2 := [(0, .ref (G.2.2 + x0)), (1, .ref (G.2.2 + x1)), (2, .int x2), (3, .int x3), (4, .int x4), (5, .int (x5 + 1))]) rfl ?_
      exact hK6 _ _ _ _ _ _ _ h
    · replace h := h.2 hc
      refine pw_iload (pc := 32) C 6 dX11_watchersIn_32 rfl ?_
      refine pw_iload_n (pc := 34) C 2 dX11_watchersIn_34 rfl rfl ?_
      refine pw_icmp_eq (pc := 35) (tgt := 64) C dX11_watchersIn_35 rfl ⟨fun hc => ?_, fun hc => ?_⟩
      · replace h := h.1 hc
        refine pw_iincK (pc := 64) (w := 1) C [(5, .int (x5 + 1)), (0, .ref (G.2.2 + x0)), (1, .ref (G.2.2 + x1)), (2, .int x2), (3, .int x3), (4, .int x4), (6, .int x6), (7, .int x7)] 5 dX11_watchersIn_64 (by decide) rfl (by decide) rfl ?_
        refine pw_goto (pc := 67) (tgt := 6) C dX11_watchersIn_67 rfl ?_
        refine pw_sub [1, 2, 3, 4, 5, 0] (LV2 := [(0, .ref (G.2.2 + x0)), (1, .ref (G.2.2 + x1)), (2, .int x2), (3, .int x3), (4, .int x4), (5, .int (x5 + 1))]) rfl ?_
        exact hK6 _ _ _ _ _ _ _ h
      · replace h := h.2 hc
        refine pw_aload_n (pc := 38) C 0 dX11_watchersIn_38 rfl rfl ?_
        refine pw_aload_n (pc := 39) C 1 dX11_watchersIn_39 rfl rfl ?_
        refine pw_iload (pc := 40) C 6 dX11_watchersIn_40 rfl ?_
        refine pw_iload (pc := 42) C 7 dX11_watchersIn_42 rfl ?_
        obtain ⟨hk1, h⟩ := h
        refine pw_calll (pc := 44) (kc2 := 0) (kn2 := 0) (pRunV (pc := 44) C (ctX11_presentSupport l G hZ  _ x0 x1 x6 x7 _ h) (cwV 3 C.2.2.2.2.1 gX11_watchersIn_X11_presentSupport rfl rfl rfl (by decide +kernel) ⟨Nat.le_of_ble_eq_true rfl, Nat.le_of_ble_eq_true rfl⟩) pCl9 hk1 rfl rfl (Nat.le_of_ble_eq_true rfl) dX11_watchersIn_44 ⟨Nat.le_of_ble_eq_true rfl, Nat.le_of_ble_eq_true rfl⟩) rfl rfl (fun r2 S3 h => ?_)
        refine pw_iload_n (pc := 47) C 2 dX11_watchersIn_47 rfl rfl ?_
        refine pw_iload_n (pc := 48) C 3 dX11_watchersIn_48 rfl rfl ?_
        refine pw_calli (pc := 49) (kc2 := 0) (kn2 := 0) (pRunS (pc := 49) C (ctX5_has l G hZ  _ r2 x2 x3 _ h) (va_cwS 3 C.2.2.2.2.1 gX11_watchersIn_X5_has rfl rfl rfl (by decide +kernel) ⟨Nat.le_of_ble_eq_true rfl, Nat.le_of_ble_eq_true rfl⟩) rfl rfl (Nat.le_of_ble_eq_true rfl) dX11_watchersIn_49 ⟨Nat.le_of_ble_eq_true rfl, Nat.le_of_ble_eq_true rfl⟩) rfl rfl (fun r4 S5 h => ?_)
        refine pw_if_eq (pc := 52) (tgt := 58) C dX11_watchersIn_52 rfl ⟨fun hc => ?_, fun hc => ?_⟩
        · replace h := h.1 hc
          refine pw_iincK (pc := 58) (w := 1) C [(7, .int (x7 + 1)), (0, .ref (G.2.2 + x0)), (1, .ref (G.2.2 + x1)), (2, .int x2), (3, .int x3), (4, .int x4), (5, .int x5), (6, .int x6)] 7 dX11_watchersIn_58 (by decide) rfl (by decide) rfl ?_
          refine pw_goto (pc := 61) (tgt := 26) C dX11_watchersIn_61 rfl ?_
          refine pw_sub [1, 2, 3, 4, 5, 6, 7, 0] (LV2 := [(0, .ref (G.2.2 + x0)), (1, .ref (G.2.2 + x1)), (2, .int x2), (3, .int x3), (4, .int x4), (5, .int x5), (6, .int x6), (7, .int (x7 + 1))]) rfl ?_
          exact ih _ _ _ _ _ _ _ _ _ h
        · replace h := h.2 hc
          refine pw_iincK (pc := 55) (w := 1) C [(4, .int (x4 + 1)), (0, .ref (G.2.2 + x0)), (1, .ref (G.2.2 + x1)), (2, .int x2), (3, .int x3), (5, .int x5), (6, .int x6), (7, .int x7)] 4 dX11_watchersIn_55 (by decide) rfl (by decide) rfl ?_
          refine pw_iincK (pc := 58) (w := 1) C [(7, .int (x7 + 1)), (4, .int (x4 + 1)), (0, .ref (G.2.2 + x0)), (1, .ref (G.2.2 + x1)), (2, .int x2), (3, .int x3), (5, .int x5), (6, .int x6)] 7 dX11_watchersIn_58 (by decide) rfl (by decide) rfl ?_
          refine pw_goto (pc := 61) (tgt := 26) C dX11_watchersIn_61 rfl ?_
          refine pw_sub [2, 3, 4, 5, 1, 6, 7, 0] (LV2 := [(0, .ref (G.2.2 + x0)), (1, .ref (G.2.2 + x1)), (2, .int x2), (3, .int x3), (4, .int (x4 + 1)), (5, .int x5), (6, .int x6), (7, .int (x7 + 1))]) rfl ?_
          exact ih _ _ _ _ _ _ _ _ _ h
set_option maxRecDepth 100000 in
set_option maxHeartbeats 4000000 in
theorem cbX11_watchersIn_b6 {p : Program} {l : Launch} {e : Env} {s : State} {m : MethodId} {args : Array Value} {below : List Frame} {meth : Method} {c : Code} {G : PG} {Q : Int32 → PS → Prop} (C : pCx p s m args meth c G cX11_watchersIn 8 yX11_watchersIn.cls wsX11_watchersIn) (hr : meth.sig.returnType = (some .int)) (hin : meth.name = yX11_watchersIn.name) (hZ : pZa G)  (n : Nat) : ∀ (S : PS) (x0 : Nat) (x1 : Nat) (x2 : Int32) (x3 : Int32) (x4 : Int32) (x5 : Int32), wpX11_watchersIn_b6  Q n S x0 x1 x2 x3 x4 x5 → PW p l e rmX11_watchersIn s m args below meth c (MQ below (va_Qi Q (pB G) (pFr G)) args s rmX11_watchersIn.cells rmX11_watchersIn.slots (pFr G)) G 8 S 0 0 [(0, .ref (G.2.2 + x0)), (1, .ref (G.2.2 + x1)), (2, .int x2), (3, .int x3), (4, .int x4), (5, .int x5)] 6 ([]) := by
  induction n with
  | zero => intro S x0 x1 x2 x3 x4 x5 h; exact h.elim
  | succ n ih =>
    intro S x0 x1 x2 x3 x4 x5 h
    unfold wpX11_watchersIn_b6 at h
    refine pw_iload (pc := 6) C 5 dX11_watchersIn_6 rfl ?_
    refine pw_aload_n (pc := 8) C 1 dX11_watchersIn_8 rfl rfl ?_
    obtain ⟨hk6, h⟩ := h
    refine pw_getCI (pc := 9) (k := 1) (index := 170) C hk6 iX11_watchersIn_X0 iX11_watchersIn_X2 iX11_watchersIn_X4 iX11_watchersIn_X10 (by decide) (by decide +kernel) dX11_watchersIn_9 ?_
    refine pw_icmp_ge (pc := 12) (tgt := 70) C dX11_watchersIn_12 rfl ⟨fun hc => ?_, fun hc => ?_⟩
    · replace h := h.1 hc
      refine pw_iload (pc := 70) C 4 dX11_watchersIn_70 rfl ?_
      exact pw_iret (pc := 72) C hr h dX11_watchersIn_72
    · replace h := h.2 hc
      refine pw_aload_n (pc := 15) C 1 dX11_watchersIn_15 rfl rfl ?_
      refine pw_iload (pc := 16) C 5 dX11_watchersIn_16 rfl ?_
      refine pw_calli (pc := 18) (kc2 := 0) (kn2 := 0) (rnX11_watchersIn_18 C hZ _ x1 x5 _ hk6 h (Nat.le_of_ble_eq_true rfl)) rfl rfl (fun r7 S8 h => ?_)
      refine pw_istore (pc := 21) C [(6, .int r7), (0, .ref (G.2.2 + x0)), (1, .ref (G.2.2 + x1)), (2, .int x2), (3, .int x3), (4, .int x4), (5, .int x5)] dX11_watchersIn_21 (by decide) rfl ?_
      refine pw_iconst (pc := 23) (v := 0 ) C dX11_watchersIn_23 (by decide) ?_
      refine pw_istore (pc := 24) C [(7, .int (0 : Int32)), (6, .int r7), (0, .ref (G.2.2 + x0)), (1, .ref (G.2.2 + x1)), (2, .int x2), (3, .int x3), (4, .int x4), (5, .int x5)] dX11_watchersIn_24 (by decide) rfl ?_
      refine pw_sub [2, 3, 4, 5, 6, 7, 1, 0] (LV2 := [(0, .ref (G.2.2 + x0)), (1, .ref (G.2.2 + x1)), (2, .int x2), (3, .int x3), (4, .int x4), (5, .int x5), (6, .int r7), (7, .int (0 : Int32))]) rfl ?_
      obtain ⟨n9, h⟩ := h
      exact cbX11_watchersIn_b26 C hr hin hZ ih n9 _ _ _ _ _ _ _ _ _ h
set_option maxRecDepth 100000 in
set_option maxHeartbeats 4000000 in
theorem ctX11_watchersIn (l : Launch) (G : PG) (hZ : pZa G) (S : PS) (x0 : Nat) (x1 : Nat) (x2 : Int32) (x3 : Int32) (Q : Int32 → PS → Prop) (h : wpX11_watchersIn S x0 x1 x2 x3 Q) : mI l yX11_watchersIn wsX11_watchersIn rmX11_watchersIn G S [.ref (G.2.2 + x0), .ref (G.2.2 + x1), .int x2, .int x3] Q := by
  unfold mI
  refine met_of (cc := cX11_watchersIn) (maxL := 8) (ret := (some .int)) (by decide) rfl (Nat.le_of_ble_eq_true rfl) ?_
  intro p e s m args below meth c C hr hin
  unfold wpX11_watchersIn at h
  show PW p l e _ s m args below meth c _ G 8 S 0 0 [(0, .ref (G.2.2 + x0)), (1, .ref (G.2.2 + x1)), (2, .int x2), (3, .int x3)] 0 []
  refine pw_iconst (pc := 0) (v := 0 ) C dX11_watchersIn_0 (by decide) ?_
  refine pw_istore (pc := 1) C [(4, .int (0 : Int32)), (0, .ref (G.2.2 + x0)), (1, .ref (G.2.2 + x1)), (2, .int x2), (3, .int x3)] dX11_watchersIn_1 (by decide) rfl ?_
  refine pw_iconst (pc := 3) (v := 0 ) C dX11_watchersIn_3 (by decide) ?_
  refine pw_istore (pc := 4) C [(5, .int (0 : Int32)), (4, .int (0 : Int32)), (0, .ref (G.2.2 + x0)), (1, .ref (G.2.2 + x1)), (2, .int x2), (3, .int x3)] dX11_watchersIn_4 (by decide) rfl ?_
  refine pw_sub [2, 3, 4, 5, 1, 0] (LV2 := [(0, .ref (G.2.2 + x0)), (1, .ref (G.2.2 + x1)), (2, .int x2), (3, .int x3), (4, .int (0 : Int32)), (5, .int (0 : Int32))]) rfl ?_
  obtain ⟨n9, h⟩ := h
  exact cbX11_watchersIn_b6 C hr hin hZ  n9 _ _ _ _ _ _ _ h

abbrev rmX11_watchers : Room := { frames := 15, cells := 1, slots := 6, locals := 414 }
theorem iX11_watchers_X11 : ∀ w ∈ u_ws RX11 TX11 9, w ∈ wsX11_watchers := by decide +kernel
theorem iX11_watchers_X6 : ∀ w ∈ u_ws RX6 TX6 4, w ∈ wsX11_watchers := by decide +kernel
def wpX11_watchers_b40  (Q : Int32 → PS → Prop) (X : String → PS → Prop) : Nat → PS → Nat → Int32 → Int32 → Int32 → Int32 → Prop
  | 0 => fun _ _ _ _ _ _ => False
  | n + 1 => fun S x0 x1 x2 x3 x4 => (pK S x0 = 10 ∧ (∃ o2, pR S x0 6 = some o2 ∧ (pK S o2 = 5 ∧ (((pI S o2 2) ≤ x4 → (Q x3 S)) ∧ (¬ (pI S o2 2) ≤ x4 → (wpX6_constraintAt S o2 x4 (fun r4 S5 => ((r4 = none → (wpX11_watchers_b40 Q X n S5 x0 x1 x2 x3 (x4 + 1))) ∧ (∀ o6, r4 = some o6 → (pC4 S5 o6 ∧ (wpX1_hasVariable S5 o6 x1 (fun r8 S9 => ((r8 = 0 → (wpX11_watchers_b40 Q X n S9 x0 x1 x2 x3 (x4 + 1))) ∧ (¬ r8 = 0 → (pK S9 x0 = 10 ∧ (wpX11_watchersIn S9 x0 o6 x1 x2 (fun r11 S12 => (wpX11_watchers_b40 Q X n S12 x0 x1 x2 (x3 + r11) (x4 + 1)))))))))))))))))))
def wpX11_watchers (S : PS) (x0 : Nat) (x1 : Int32) (x2 : Int32) (Q : Int32 → PS → Prop) (X : String → PS → Prop) : Prop := (pK S x0 = 10 ∧ (wpX11_isVariable S x0 x1 (fun r14 S15 => ((¬ r14 = 0 → (wpX11_isValue S15 x2 (fun r16 S17 => ((¬ r16 = 0 → (∃ n9 : Nat, wpX11_watchers_b40 Q X n9 S17 x0 x1 x2 (0 : Int32) (0 : Int32))) ∧ (r16 = 0 → (∀ n, X "java/lang/IllegalArgumentException" (sSkip S17 n))))))) ∧ (r14 = 0 → (∀ n, X "java/lang/IndexOutOfBoundsException" (sSkip S15 n)))))))
set_option maxRecDepth 100000 in
set_option maxHeartbeats 4000000 in
theorem rnX11_watchers_71 {p : Program} {l : Launch} {e : Env} {s : State} {m : MethodId} {args : Array Value} {below : List Frame} {meth : Method} {c : Code} {G : PG} (C : pCx p s m args meth c G cX11_watchers 6 yX11_watchers.cls wsX11_watchers) (hZ : pZa G) (S : PS) (x : Nat) (a0 : Int32) (Q : Int32 → PS → Prop) (hk : pC4 S x) (h : wpX1_hasVariable S x a0 Q) {LV : List (Nat × Value)} {st : List Value} (hw : (st.map fun v => v.category).sum ≤ 8) : PRun p l e rmX11_watchers s m args below meth c G 6 S 0 0 0 0 LV 71 (.int a0 :: .ref (G.2.2 + x) :: st) st (va_Qi Q (pB G) (pFr G) (.ref (G.2.2 + x) :: [.int a0]).toArray) := by
  rcases hk with hk | hk | hk | hk
  · exact pRunU (pc := 71) (kc := 0) (kn := 0) C (ctX1_hasVariable l G hZ _ x a0 _ h) (va_cwU 1 C.2.2.2.2.1 gX11_watchers_X1_hasVariable_u178X0 rfl rfl rfl rfl (by decide +kernel) ⟨Nat.le_of_ble_eq_true rfl, Nat.le_of_ble_eq_true rfl⟩) pCl0 hk rfl rfl hw dX11_watchers_71 ⟨Nat.le_of_ble_eq_true rfl, Nat.le_of_ble_eq_true rfl⟩
  · exact pRunU (pc := 71) (kc := 0) (kn := 0) C (ctX1_hasVariable l G hZ _ x a0 _ h) (va_cwU 1 C.2.2.2.2.1 gX11_watchers_X1_hasVariable_u178X2 rfl rfl rfl rfl (by decide +kernel) ⟨Nat.le_of_ble_eq_true rfl, Nat.le_of_ble_eq_true rfl⟩) pCl1 hk rfl rfl hw dX11_watchers_71 ⟨Nat.le_of_ble_eq_true rfl, Nat.le_of_ble_eq_true rfl⟩
  · exact pRunU (pc := 71) (kc := 0) (kn := 0) C (ctX1_hasVariable l G hZ _ x a0 _ h) (va_cwU 1 C.2.2.2.2.1 gX11_watchers_X1_hasVariable_u178X4 rfl rfl rfl rfl (by decide +kernel) ⟨Nat.le_of_ble_eq_true rfl, Nat.le_of_ble_eq_true rfl⟩) pCl3 hk rfl rfl hw dX11_watchers_71 ⟨Nat.le_of_ble_eq_true rfl, Nat.le_of_ble_eq_true rfl⟩
  · exact pRunU (pc := 71) (kc := 0) (kn := 0) C (ctX1_hasVariable l G hZ _ x a0 _ h) (va_cwU 1 C.2.2.2.2.1 gX11_watchers_X1_hasVariable_u178X10 rfl rfl rfl rfl (by decide +kernel) ⟨Nat.le_of_ble_eq_true rfl, Nat.le_of_ble_eq_true rfl⟩) pCl8 hk rfl rfl hw dX11_watchers_71 ⟨Nat.le_of_ble_eq_true rfl, Nat.le_of_ble_eq_true rfl⟩
set_option maxRecDepth 100000 in
set_option maxHeartbeats 4000000 in
theorem cbX11_watchers_b40 {p : Program} {l : Launch} {e : Env} {s : State} {m : MethodId} {args : Array Value} {below : List Frame} {meth : Method} {c : Code} {G : PG} {Q : Int32 → PS → Prop} {X : String → PS → Prop} (C : pCx p s m args meth c G cX11_watchers 6 yX11_watchers.cls wsX11_watchers) (hr : meth.sig.returnType = (some .int)) (hin : meth.name = yX11_watchers.name) (hZ : pZa G) (hout : ∀ x ∈ c.exceptionTable.toList, False) (hl : l.stackTraces = false)  (n : Nat) : ∀ (S : PS) (x0 : Nat) (x1 : Int32) (x2 : Int32) (x3 : Int32) (x4 : Int32), wpX11_watchers_b40  Q X n S x0 x1 x2 x3 x4 → PW p l e rmX11_watchers s m args below meth c (vx_MQ below (va_Qi Q (pB G) (pFr G)) (pXC G X) args s rmX11_watchers.cells rmX11_watchers.slots (pFr G)) G 6 S 0 0 [(0, .ref (G.2.2 + x0)), (1, .int x1), (2, .int x2), (3, .int x3), (4, .int x4)] 40 ([]) := by
  induction n with
  | zero => intro S x0 x1 x2 x3 x4 h; exact h.elim
  | succ n ih =>
    intro S x0 x1 x2 x3 x4 h
    unfold wpX11_watchers_b40 at h
    refine pw_iload (pc := 40) C 4 dX11_watchers_40 rfl ?_
    refine pw_aload_n (pc := 42) C 0 dX11_watchers_42 rfl rfl ?_
    obtain ⟨hk1, h⟩ := h
    obtain ⟨o2, ho2, h⟩ := h
    refine pw_getR (pc := 43) (ref := "SupportSolver") (k := 6) (index := 47) C pCl9 iX11_watchers_X11 hk1 rfl (by decide +kernel) (Or.inl rfl) (o := o2) ho2 dX11_watchers_43 ?_
    obtain ⟨hk3, h⟩ := h
    refine pw_getI (pc := 46) (ref := "SupportSolver$Problem") (k := 2) (index := 120) C pCl4 iX11_watchers_X6 hk3 rfl (by decide +kernel) (Or.inl rfl) dX11_watchers_46 ?_
    refine pw_icmp_ge (pc := 49) (tgt := 94) C dX11_watchers_49 rfl ⟨fun hc => ?_, fun hc => ?_⟩
    · replace h := h.1 hc
      refine pw_iload_n (pc := 94) C 3 dX11_watchers_94 rfl rfl ?_
      refine pw_widen (k2 := 1) (n2 := 6) (Nat.le_of_ble_eq_true rfl) (Nat.le_of_ble_eq_true rfl) ?_
      refine pw_xret ?_
      exact pw_iret (pc := 95) C hr h dX11_watchers_95
    · replace h := h.2 hc
      refine pw_aload_n (pc := 52) C 0 dX11_watchers_52 rfl rfl ?_
      refine pw_getR (pc := 53) (ref := "SupportSolver") (k := 6) (index := 47) C pCl9 iX11_watchers_X11 hk1 rfl (by decide +kernel) (Or.inl rfl) (o := o2) ho2 dX11_watchers_53 ?_
      refine pw_iload (pc := 56) C 4 dX11_watchers_56 rfl ?_
      refine pw_callq (pc := 58) (kc2 := 0) (kn2 := 0) (pRunV (pc := 58) C (ctX6_constraintAt l G hZ  _ o2 x4 _ h) (cwV 1 C.2.2.2.2.1 gX11_watchers_X6_constraintAt rfl rfl rfl (by decide +kernel) ⟨Nat.le_of_ble_eq_true rfl, Nat.le_of_ble_eq_true rfl⟩) pCl4 hk3 rfl rfl (Nat.le_of_ble_eq_true rfl) dX11_watchers_58 ⟨Nat.le_of_ble_eq_true rfl, Nat.le_of_ble_eq_true rfl⟩) rfl rfl (fun r4 S5 h => ?_)
      cases hqr4 : r4 with
      | none =>
        replace h := h.1 hqr4
        show PW p l e _ s m args below meth c _ G _ S5 _ _ _ _ (.null :: [])
        refine pw_astoreN (pc := 61) C [(5, .null), (0, .ref (G.2.2 + x0)), (1, .int x1), (2, .int x2), (3, .int x3), (4, .int x4)] dX11_watchers_61 (by decide) rfl ?_
        refine pw_aloadN (pc := 63) C 0 dX11_watchers_63 rfl ?_
        refine pw_ifnull_n (pc := 65) (tgt := 88) C dX11_watchers_65 rfl ?_
        refine pw_iincK (pc := 88) (w := 1) C [(4, .int (x4 + 1)), (5, .null), (0, .ref (G.2.2 + x0)), (1, .int x1), (2, .int x2), (3, .int x3)] 5 dX11_watchers_88 (by decide) rfl (by decide) rfl ?_
        refine pw_goto (pc := 91) (tgt := 40) C dX11_watchers_91 rfl ?_
        refine pw_sub [2, 3, 4, 5, 0] (LV2 := [(0, .ref (G.2.2 + x0)), (1, .int x1), (2, .int x2), (3, .int x3), (4, .int (x4 + 1))]) rfl ?_
        exact ih _ _ _ _ _ _ h
      | some o6 =>
        replace h := h.2 o6 hqr4
        show PW p l e _ s m args below meth c _ G _ S5 _ _ _ _ (.ref (G.2.2 + o6) :: [])
        refine pw_astore (pc := 61) C [(5, .ref (G.2.2 + o6)), (0, .ref (G.2.2 + x0)), (1, .int x1), (2, .int x2), (3, .int x3), (4, .int x4)] dX11_watchers_61 (by decide) rfl ?_
        refine pw_aload (pc := 63) C 0 dX11_watchers_63 rfl ?_
        refine pw_ifnull_r (pc := 65) C dX11_watchers_65 ?_
        refine pw_aload (pc := 68) C 0 dX11_watchers_68 rfl ?_
        refine pw_iload_n (pc := 70) C 2 dX11_watchers_70 rfl rfl ?_
        obtain ⟨hk7, h⟩ := h
        refine pw_calli (pc := 71) (kc2 := 0) (kn2 := 0) (rnX11_watchers_71 C hZ _ o6 x1 _ hk7 h (Nat.le_of_ble_eq_true rfl)) rfl rfl (fun r8 S9 h => ?_)
        refine pw_if_eq (pc := 74) (tgt := 88) C dX11_watchers_74 rfl ⟨fun hc => ?_, fun hc => ?_⟩
        · replace h := h.1 hc
          refine pw_iincK (pc := 88) (w := 1) C [(4, .int (x4 + 1)), (5, .ref (G.2.2 + o6)), (0, .ref (G.2.2 + x0)), (1, .int x1), (2, .int x2), (3, .int x3)] 5 dX11_watchers_88 (by decide) rfl (by decide) rfl ?_
          refine pw_goto (pc := 91) (tgt := 40) C dX11_watchers_91 rfl ?_
          refine pw_sub [2, 3, 4, 5, 0] (LV2 := [(0, .ref (G.2.2 + x0)), (1, .int x1), (2, .int x2), (3, .int x3), (4, .int (x4 + 1))]) rfl ?_
          exact ih _ _ _ _ _ _ h
        · replace h := h.2 hc
          refine pw_iload_n (pc := 77) C 4 dX11_watchers_77 rfl rfl ?_
          refine pw_aload_n (pc := 78) C 1 dX11_watchers_78 rfl rfl ?_
          refine pw_aload (pc := 79) C 0 dX11_watchers_79 rfl ?_
          refine pw_iload_n (pc := 81) C 2 dX11_watchers_81 rfl rfl ?_
          refine pw_iload_n (pc := 82) C 3 dX11_watchers_82 rfl rfl ?_
          obtain ⟨hk10, h⟩ := h
          refine pw_calli (pc := 83) (kc2 := 0) (kn2 := 0) (pRunV (pc := 83) C (ctX11_watchersIn l G hZ  _ x0 o6 x1 x2 _ h) (cwV 3 C.2.2.2.2.1 gX11_watchers_X11_watchersIn rfl rfl rfl (by decide +kernel) ⟨Nat.le_of_ble_eq_true rfl, Nat.le_of_ble_eq_true rfl⟩) pCl9 hk10 rfl rfl (Nat.le_of_ble_eq_true rfl) dX11_watchers_83 ⟨Nat.le_of_ble_eq_true rfl, Nat.le_of_ble_eq_true rfl⟩) rfl rfl (fun r11 S12 h => ?_)
          refine pw_iadd (pc := 86) C dX11_watchers_86 ?_
          refine pw_istore_n (pc := 87) C [(3, .int (x3 + r11)), (5, .ref (G.2.2 + o6)), (0, .ref (G.2.2 + x0)), (1, .int x1), (2, .int x2), (4, .int x4)] dX11_watchers_87 rfl (by decide) rfl ?_
          refine pw_iincK (pc := 88) (w := 1) C [(4, .int (x4 + 1)), (3, .int (x3 + r11)), (5, .ref (G.2.2 + o6)), (0, .ref (G.2.2 + x0)), (1, .int x1), (2, .int x2)] 5 dX11_watchers_88 (by decide) rfl (by decide) rfl ?_
          refine pw_goto (pc := 91) (tgt := 40) C dX11_watchers_91 rfl ?_
          refine pw_sub [3, 4, 5, 1, 0] (LV2 := [(0, .ref (G.2.2 + x0)), (1, .int x1), (2, .int x2), (3, .int (x3 + r11)), (4, .int (x4 + 1))]) rfl ?_
          exact ih _ _ _ _ _ _ h
set_option maxRecDepth 100000 in
set_option maxHeartbeats 4000000 in
theorem ctX11_watchers (l : Launch) (G : PG) (hZ : pZa G) (hl : l.stackTraces = false) (S : PS) (x0 : Nat) (x1 : Int32) (x2 : Int32) (Q : Int32 → PS → Prop) (X : String → PS → Prop) (h : wpX11_watchers S x0 x1 x2 Q X) : mXI l yX11_watchers wsX11_watchers rmX11_watchers G S [.ref (G.2.2 + x0), .int x1, .int x2] Q X := by
  unfold mXI
  refine met_ofX (cc := cX11_watchers) (maxL := 6) (ret := (some .int)) (by decide) rfl (Nat.le_of_ble_eq_true rfl) ?_
  intro p e s m args below meth c C hout hr hin
  unfold wpX11_watchers at h
  show PW p l e _ s m args below meth c _ G 6 S 0 0 [(0, .ref (G.2.2 + x0)), (1, .int x1), (2, .int x2)] 0 []
  refine pw_aload_n (pc := 0) C 0 dX11_watchers_0 rfl rfl ?_
  refine pw_iload_n (pc := 1) C 1 dX11_watchers_1 rfl rfl ?_
  obtain ⟨hk13, h⟩ := h
  refine pw_calli (pc := 2) (kc2 := 0) (kn2 := 0) (pRunV (pc := 2) C (ctX11_isVariable l G hZ  _ x0 x1 _ h) (cwV 1 C.2.2.2.2.1 gX11_watchers_X11_isVariable rfl rfl rfl (by decide +kernel) ⟨Nat.le_of_ble_eq_true rfl, Nat.le_of_ble_eq_true rfl⟩) pCl9 hk13 rfl rfl (Nat.le_of_ble_eq_true rfl) dX11_watchers_2 ⟨Nat.le_of_ble_eq_true rfl, Nat.le_of_ble_eq_true rfl⟩) rfl rfl (fun r14 S15 h => ?_)
  refine pw_if_ne (pc := 5) (tgt := 18) C dX11_watchers_5 rfl ⟨fun hc => ?_, fun hc => ?_⟩
  · replace h := h.1 hc
    refine pw_iload_n (pc := 18) C 2 dX11_watchers_18 rfl rfl ?_
    refine pw_calli (pc := 19) (kc2 := 0) (kn2 := 0) (pRunS (pc := 19) C (ctX11_isValue l G hZ  _ x2 _ h) (va_cwS 1 C.2.2.2.2.1 gX11_watchers_X11_isValue rfl rfl rfl (by decide +kernel) ⟨Nat.le_of_ble_eq_true rfl, Nat.le_of_ble_eq_true rfl⟩) rfl rfl (Nat.le_of_ble_eq_true rfl) dX11_watchers_19 ⟨Nat.le_of_ble_eq_true rfl, Nat.le_of_ble_eq_true rfl⟩) rfl rfl (fun r16 S17 h => ?_)
    refine pw_if_ne (pc := 22) (tgt := 35) C dX11_watchers_22 rfl ⟨fun hc => ?_, fun hc => ?_⟩
    · replace h := h.1 hc
      refine pw_iconst (pc := 35) (v := 0 ) C dX11_watchers_35 (by decide) ?_
      refine pw_istore_n (pc := 36) C [(3, .int (0 : Int32)), (0, .ref (G.2.2 + x0)), (1, .int x1), (2, .int x2)] dX11_watchers_36 rfl (by decide) rfl ?_
      refine pw_iconst (pc := 37) (v := 0 ) C dX11_watchers_37 (by decide) ?_
      refine pw_istore (pc := 38) C [(4, .int (0 : Int32)), (3, .int (0 : Int32)), (0, .ref (G.2.2 + x0)), (1, .int x1), (2, .int x2)] dX11_watchers_38 (by decide) rfl ?_
      refine pw_sub [2, 3, 4, 1, 0] (LV2 := [(0, .ref (G.2.2 + x0)), (1, .int x1), (2, .int x2), (3, .int (0 : Int32)), (4, .int (0 : Int32))]) rfl ?_
      obtain ⟨n9, h⟩ := h
      exact cbX11_watchers_b40 C hr hin hZ hout hl  n9 _ _ _ _ _ _ h
    · replace h := h.2 hc
      exact pw_throwS (pc := 25) (mc := 1) (ms := 6) C hl (hZ.2.2.2.2.2.2.2.2.2.2.2.2.2.2.2.2.2.2.2.2.2.2.2.2.2.2.2.2.2.2.2.2.2.2.2.2.2.2.1) (by decide +kernel) (by decide +kernel) (by decide +kernel) hout dX11_watchers_25 dX11_watchers_28 dX11_watchers_29 dX11_watchers_31 dX11_watchers_34 (by decide) (Nat.le_of_ble_eq_true rfl) (Nat.le_of_ble_eq_true rfl) (Nat.le_of_ble_eq_true rfl) (Nat.le_of_ble_eq_true rfl) (Nat.le_of_ble_eq_true rfl) h
  · replace h := h.2 hc
    exact pw_throwS (pc := 8) (mc := 1) (ms := 6) C hl (hZ.2.2.2.2.2.2.2.2.2.2.2.2.2.2.2.2.2.2.2.2.2.2.2.2.2.2.2.2.2.2.2.2.2.2.2.1) (by decide +kernel) (by decide +kernel) (by decide +kernel) hout dX11_watchers_8 dX11_watchers_11 dX11_watchers_12 dX11_watchers_14 dX11_watchers_17 (by decide) (Nat.le_of_ble_eq_true rfl) (Nat.le_of_ble_eq_true rfl) (Nat.le_of_ble_eq_true rfl) (Nat.le_of_ble_eq_true rfl) (Nat.le_of_ble_eq_true rfl) h

abbrev rmX11_tuples : Room := { frames := 13, cells := 1, slots := 6, locals := 384 }
theorem iX11_tuples_X11 : ∀ w ∈ u_ws RX11 TX11 9, w ∈ wsX11_tuples := by decide +kernel
theorem iX11_tuples_X9 : ∀ w ∈ u_ws RX9 TX9 6, w ∈ wsX11_tuples := by decide +kernel
def wpX11_tuples (S : PS) (x0 : Nat) (x1 : Int32) (Q : Int32 → PS → Prop) (X : String → PS → Prop) : Prop := (pK S x0 = 10 ∧ (∃ o2, pR S x0 6 = some o2 ∧ (pK S o2 = 5 ∧ (wpX6_constraintAt S o2 x1 (fun r4 S5 => ((r4 = none → (∀ n, X "java/lang/IndexOutOfBoundsException" (sSkip S5 n))) ∧ (∀ o6, r4 = some o6 → (pK S5 x0 = 10 ∧ (∃ o8, pR S5 x0 1 = some o8 ∧ (pK S5 o8 = 8 ∧ (wpX1_countFrom 9 S5 o6 (pJ S5 o8 5) (0 : Int32) (fun r10 S11 => (Q r10 S11)))))))))))))
set_option maxRecDepth 100000 in
set_option maxHeartbeats 4000000 in
theorem ctX11_tuples (l : Launch) (G : PG) (hZ : pZa G) (hl : l.stackTraces = false) (S : PS) (x0 : Nat) (x1 : Int32) (Q : Int32 → PS → Prop) (X : String → PS → Prop) (h : wpX11_tuples S x0 x1 Q X) : mXI l yX11_tuples wsX11_tuples rmX11_tuples G S [.ref (G.2.2 + x0), .int x1] Q X := by
  unfold mXI
  refine met_ofX (cc := cX11_tuples) (maxL := 3) (ret := (some .int)) (by decide) rfl (Nat.le_of_ble_eq_true rfl) ?_
  intro p e s m args below meth c C hout hr hin
  unfold wpX11_tuples at h
  show PW p l e _ s m args below meth c _ G 3 S 0 0 [(0, .ref (G.2.2 + x0)), (1, .int x1)] 0 []
  refine pw_aload_n (pc := 0) C 0 dX11_tuples_0 rfl rfl ?_
  obtain ⟨hk1, h⟩ := h
  obtain ⟨o2, ho2, h⟩ := h
  refine pw_getR (pc := 1) (ref := "SupportSolver") (k := 6) (index := 47) C pCl9 iX11_tuples_X11 hk1 rfl (by decide +kernel) (Or.inl rfl) (o := o2) ho2 dX11_tuples_1 ?_
  refine pw_iload_n (pc := 4) C 1 dX11_tuples_4 rfl rfl ?_
  obtain ⟨hk3, h⟩ := h
  refine pw_callq (pc := 5) (kc2 := 0) (kn2 := 0) (pRunV (pc := 5) C (ctX6_constraintAt l G hZ  _ o2 x1 _ h) (cwV 1 C.2.2.2.2.1 gX11_tuples_X6_constraintAt rfl rfl rfl (by decide +kernel) ⟨Nat.le_of_ble_eq_true rfl, Nat.le_of_ble_eq_true rfl⟩) pCl4 hk3 rfl rfl (Nat.le_of_ble_eq_true rfl) dX11_tuples_5 ⟨Nat.le_of_ble_eq_true rfl, Nat.le_of_ble_eq_true rfl⟩) rfl rfl (fun r4 S5 h => ?_)
  cases hqr4 : r4 with
  | none =>
    replace h := h.1 hqr4
    show PW p l e _ s m args below meth c _ G _ S5 _ _ _ _ (.null :: [])
    refine pw_astore_nN (pc := 8) C [(2, .null), (0, .ref (G.2.2 + x0)), (1, .int x1)] dX11_tuples_8 rfl (by decide) rfl ?_
    refine pw_aload_nN (pc := 9) C 0 dX11_tuples_9 rfl rfl ?_
    refine pw_ifnonnull_n (pc := 10) C dX11_tuples_10 ?_
    exact pw_throwS (pc := 13) (mc := 1) (ms := 6) C hl (hZ.2.2.2.2.2.2.2.2.2.2.2.2.2.2.2.2.2.2.2.2.2.2.2.2.2.2.2.2.2.2.2.2.2.2.2.2.1) (by decide +kernel) (by decide +kernel) (by decide +kernel) hout dX11_tuples_13 dX11_tuples_16 dX11_tuples_17 dX11_tuples_19 dX11_tuples_22 (by decide) (Nat.le_of_ble_eq_true rfl) (Nat.le_of_ble_eq_true rfl) (Nat.le_of_ble_eq_true rfl) (Nat.le_of_ble_eq_true rfl) (Nat.le_of_ble_eq_true rfl) h
  | some o6 =>
    replace h := h.2 o6 hqr4
    show PW p l e _ s m args below meth c _ G _ S5 _ _ _ _ (.ref (G.2.2 + o6) :: [])
    refine pw_astore_n (pc := 8) C [(2, .ref (G.2.2 + o6)), (0, .ref (G.2.2 + x0)), (1, .int x1)] dX11_tuples_8 rfl (by decide) rfl ?_
    refine pw_aload_n (pc := 9) C 0 dX11_tuples_9 rfl rfl ?_
    refine pw_ifnonnull_r (pc := 10) (tgt := 23) C dX11_tuples_10 rfl ?_
    refine pw_aload_n (pc := 23) C 0 dX11_tuples_23 rfl rfl ?_
    refine pw_aload_n (pc := 24) C 1 dX11_tuples_24 rfl rfl ?_
    obtain ⟨hk7, h⟩ := h
    obtain ⟨o8, ho8, h⟩ := h
    refine pw_getR (pc := 25) (ref := "SupportSolver") (k := 1) (index := 19) C pCl9 iX11_tuples_X11 hk7 rfl (by decide +kernel) (Or.inl rfl) (o := o8) ho8 dX11_tuples_25 ?_
    obtain ⟨hk9, h⟩ := h
    refine pw_getJ (pc := 28) (ref := "SupportSolver$Trail") (k := 5) (index := 139) C pCl7 iX11_tuples_X9 hk9 rfl (by decide +kernel) (Or.inl rfl) dX11_tuples_28 ?_
    refine pw_iconst (pc := 31) (v := 0 ) C dX11_tuples_31 (by decide) ?_
    refine pw_calli (pc := 32) (kc2 := 0) (kn2 := 0) (pRunSN (pc := 32) C (ctX1_countFrom 9 l G hZ  _ o6 (pJ S5 o8 5) (0 : Int32) _ h) 3 gX11_tuples_X1_countFrom_n296 rfl (hZ.2.2.2.2.2.2.2.2.1) (by decide +kernel) (by decide +kernel) (by decide +kernel) ⟨Nat.le_of_ble_eq_true rfl, Nat.le_of_ble_eq_true rfl⟩ rfl rfl (Nat.le_of_ble_eq_true rfl) dX11_tuples_32 ⟨Nat.le_of_ble_eq_true rfl, Nat.le_of_ble_eq_true rfl⟩) rfl rfl (fun r10 S11 h => ?_)
    refine pw_widen (k2 := 1) (n2 := 6) (Nat.le_of_ble_eq_true rfl) (Nat.le_of_ble_eq_true rfl) ?_
    refine pw_xret ?_
    exact pw_iret (pc := 35) C hr h dX11_tuples_35

abbrev rmX11_tightness : Room := { frames := 13, cells := 1, slots := 6, locals := 384 }
theorem iX11_tightness_X0 : ∀ w ∈ u_ws RX0 TX0 4, w ∈ wsX11_tightness := by decide +kernel
theorem iX11_tightness_X10 : ∀ w ∈ u_ws RX10 TX10 8, w ∈ wsX11_tightness := by decide +kernel
theorem iX11_tightness_X11 : ∀ w ∈ u_ws RX11 TX11 9, w ∈ wsX11_tightness := by decide +kernel
theorem iX11_tightness_X2 : ∀ w ∈ u_ws RX2 TX2 7, w ∈ wsX11_tightness := by decide +kernel
theorem iX11_tightness_X4 : ∀ w ∈ u_ws RX4 TX4 5, w ∈ wsX11_tightness := by decide +kernel
theorem iX11_tightness_X9 : ∀ w ∈ u_ws RX9 TX9 6, w ∈ wsX11_tightness := by decide +kernel
def wpX11_tightness (S : PS) (x0 : Nat) (x1 : Int32) (Q : UInt64 → PS → Prop) (X : String → PS → Prop) : Prop := (pK S x0 = 10 ∧ (∃ o2, pR S x0 6 = some o2 ∧ (pK S o2 = 5 ∧ (wpX6_constraintAt S o2 x1 (fun r4 S5 => ((r4 = none → (∀ n, X "java/lang/IndexOutOfBoundsException" (sSkip S5 n))) ∧ (∀ o6, r4 = some o6 → (pK S5 x0 = 10 ∧ (∃ o8, pR S5 x0 1 = some o8 ∧ (pK S5 o8 = 8 ∧ (pC4 S5 o6 ∧ (wpX5_assignments S5 (pJ S5 o8 5) (pJ S5 o6 2) (fun r11 S12 => ((¬ r11 = 0 → (pK S12 x0 = 10 ∧ (∃ o14, pR S12 x0 1 = some o14 ∧ (pK S12 o14 = 8 ∧ (wpX1_countFrom 9 S12 o6 (pJ S12 o14 5) (0 : Int32) (fun r16 S17 => (vf_n64 (FP.ddiv (FP.i2d (r11 - r16)) (FP.i2d r11)) ∧ (Q (FP.ddiv (FP.i2d (r11 - r16)) (FP.i2d r11)) S17)))))))) ∧ (r11 = 0 → (∀ n, X "java/lang/IllegalStateException" (sSkip S12 n)))))))))))))))))
set_option maxRecDepth 100000 in
set_option maxHeartbeats 4000000 in
theorem ctX11_tightness (l : Launch) (G : PG) (hZ : pZa G) (hl : l.stackTraces = false) (S : PS) (x0 : Nat) (x1 : Int32) (Q : UInt64 → PS → Prop) (X : String → PS → Prop) (h : wpX11_tightness S x0 x1 Q X) : mXD l yX11_tightness wsX11_tightness rmX11_tightness G S [.ref (G.2.2 + x0), .int x1] Q X := by
  unfold mXD
  refine met_ofX (cc := cX11_tightness) (maxL := 5) (ret := (some .double)) (by decide) rfl (Nat.le_of_ble_eq_true rfl) ?_
  intro p e s m args below meth c C hout hr hin
  unfold wpX11_tightness at h
  show PW p l e _ s m args below meth c _ G 5 S 0 0 [(0, .ref (G.2.2 + x0)), (1, .int x1)] 0 []
  refine pw_aload_n (pc := 0) C 0 dX11_tightness_0 rfl rfl ?_
  obtain ⟨hk1, h⟩ := h
  obtain ⟨o2, ho2, h⟩ := h
  refine pw_getR (pc := 1) (ref := "SupportSolver") (k := 6) (index := 47) C pCl9 iX11_tightness_X11 hk1 rfl (by decide +kernel) (Or.inl rfl) (o := o2) ho2 dX11_tightness_1 ?_
  refine pw_iload_n (pc := 4) C 1 dX11_tightness_4 rfl rfl ?_
  obtain ⟨hk3, h⟩ := h
  refine pw_callq (pc := 5) (kc2 := 0) (kn2 := 0) (pRunV (pc := 5) C (ctX6_constraintAt l G hZ  _ o2 x1 _ h) (cwV 1 C.2.2.2.2.1 gX11_tightness_X6_constraintAt rfl rfl rfl (by decide +kernel) ⟨Nat.le_of_ble_eq_true rfl, Nat.le_of_ble_eq_true rfl⟩) pCl4 hk3 rfl rfl (Nat.le_of_ble_eq_true rfl) dX11_tightness_5 ⟨Nat.le_of_ble_eq_true rfl, Nat.le_of_ble_eq_true rfl⟩) rfl rfl (fun r4 S5 h => ?_)
  cases hqr4 : r4 with
  | none =>
    replace h := h.1 hqr4
    show PW p l e _ s m args below meth c _ G _ S5 _ _ _ _ (.null :: [])
    refine pw_astore_nN (pc := 8) C [(2, .null), (0, .ref (G.2.2 + x0)), (1, .int x1)] dX11_tightness_8 rfl (by decide) rfl ?_
    refine pw_aload_nN (pc := 9) C 0 dX11_tightness_9 rfl rfl ?_
    refine pw_ifnonnull_n (pc := 10) C dX11_tightness_10 ?_
    exact pw_throwS (pc := 13) (mc := 1) (ms := 6) C hl (hZ.2.2.2.2.2.2.2.2.2.2.2.2.2.2.2.2.2.2.2.2.2.2.2.2.2.2.2.2.2.2.2.2.2.2.2.2.1) (by decide +kernel) (by decide +kernel) (by decide +kernel) hout dX11_tightness_13 dX11_tightness_16 dX11_tightness_17 dX11_tightness_19 dX11_tightness_22 (by decide) (Nat.le_of_ble_eq_true rfl) (Nat.le_of_ble_eq_true rfl) (Nat.le_of_ble_eq_true rfl) (Nat.le_of_ble_eq_true rfl) (Nat.le_of_ble_eq_true rfl) h
  | some o6 =>
    replace h := h.2 o6 hqr4
    show PW p l e _ s m args below meth c _ G _ S5 _ _ _ _ (.ref (G.2.2 + o6) :: [])
    refine pw_astore_n (pc := 8) C [(2, .ref (G.2.2 + o6)), (0, .ref (G.2.2 + x0)), (1, .int x1)] dX11_tightness_8 rfl (by decide) rfl ?_
    refine pw_aload_n (pc := 9) C 0 dX11_tightness_9 rfl rfl ?_
    refine pw_ifnonnull_r (pc := 10) (tgt := 23) C dX11_tightness_10 rfl ?_
    refine pw_aload_n (pc := 23) C 1 dX11_tightness_23 rfl rfl ?_
    obtain ⟨hk7, h⟩ := h
    obtain ⟨o8, ho8, h⟩ := h
    refine pw_getR (pc := 24) (ref := "SupportSolver") (k := 1) (index := 19) C pCl9 iX11_tightness_X11 hk7 rfl (by decide +kernel) (Or.inl rfl) (o := o8) ho8 dX11_tightness_24 ?_
    obtain ⟨hk9, h⟩ := h
    refine pw_getJ (pc := 27) (ref := "SupportSolver$Trail") (k := 5) (index := 139) C pCl7 iX11_tightness_X9 hk9 rfl (by decide +kernel) (Or.inl rfl) dX11_tightness_27 ?_
    refine pw_aload_n (pc := 30) C 0 dX11_tightness_30 rfl rfl ?_
    obtain ⟨hk10, h⟩ := h
    refine pw_getCJ (pc := 31) (k := 2) (index := 263) C hk10 iX11_tightness_X0 iX11_tightness_X2 iX11_tightness_X4 iX11_tightness_X10 rfl (by decide +kernel) dX11_tightness_31 ?_
    refine pw_calli (pc := 34) (kc2 := 0) (kn2 := 0) (pRunS (pc := 34) C (ctX5_assignments l G hZ  _ (pJ S5 o8 5) (pJ S5 o6 2) _ h) (va_cwS 2 C.2.2.2.2.1 gX11_tightness_X5_assignments rfl rfl rfl (by decide +kernel) ⟨Nat.le_of_ble_eq_true rfl, Nat.le_of_ble_eq_true rfl⟩) rfl rfl (Nat.le_of_ble_eq_true rfl) dX11_tightness_34 ⟨Nat.le_of_ble_eq_true rfl, Nat.le_of_ble_eq_true rfl⟩) rfl rfl (fun r11 S12 h => ?_)
    refine pw_istore_n (pc := 37) C [(3, .int r11), (2, .ref (G.2.2 + o6)), (0, .ref (G.2.2 + x0)), (1, .int x1)] dX11_tightness_37 rfl (by decide) rfl ?_
    refine pw_iload_n (pc := 38) C 0 dX11_tightness_38 rfl rfl ?_
    refine pw_if_ne (pc := 39) (tgt := 53) C dX11_tightness_39 rfl ⟨fun hc => ?_, fun hc => ?_⟩
    · replace h := h.1 hc
      refine pw_aload_n (pc := 53) C 1 dX11_tightness_53 rfl rfl ?_
      refine pw_aload_n (pc := 54) C 2 dX11_tightness_54 rfl rfl ?_
      obtain ⟨hk13, h⟩ := h
      obtain ⟨o14, ho14, h⟩ := h
      refine pw_getR (pc := 55) (ref := "SupportSolver") (k := 1) (index := 19) C pCl9 iX11_tightness_X11 hk13 rfl (by decide +kernel) (Or.inl rfl) (o := o14) ho14 dX11_tightness_55 ?_
      obtain ⟨hk15, h⟩ := h
      refine pw_getJ (pc := 58) (ref := "SupportSolver$Trail") (k := 5) (index := 139) C pCl7 iX11_tightness_X9 hk15 rfl (by decide +kernel) (Or.inl rfl) dX11_tightness_58 ?_
      refine pw_iconst (pc := 61) (v := 0 ) C dX11_tightness_61 (by decide) ?_
      refine pw_calli (pc := 62) (kc2 := 0) (kn2 := 0) (pRunSN (pc := 62) C (ctX1_countFrom 9 l G hZ  _ o6 (pJ S12 o14 5) (0 : Int32) _ h) 3 gX11_tightness_X1_countFrom_n296 rfl (hZ.2.2.2.2.2.2.2.2.1) (by decide +kernel) (by decide +kernel) (by decide +kernel) ⟨Nat.le_of_ble_eq_true rfl, Nat.le_of_ble_eq_true rfl⟩ rfl rfl (Nat.le_of_ble_eq_true rfl) dX11_tightness_62 ⟨Nat.le_of_ble_eq_true rfl, Nat.le_of_ble_eq_true rfl⟩) rfl rfl (fun r16 S17 h => ?_)
      refine pw_istore (pc := 65) C [(4, .int r16), (3, .int r11), (2, .ref (G.2.2 + o6)), (0, .ref (G.2.2 + x0)), (1, .int x1)] dX11_tightness_65 (by decide) rfl ?_
      refine pw_iload_n (pc := 67) C 1 dX11_tightness_67 rfl rfl ?_
      refine pw_iload (pc := 68) C 0 dX11_tightness_68 rfl ?_
      refine pw_isub (pc := 70) C dX11_tightness_70 ?_
      refine pw_i2d (pc := 71) C dX11_tightness_71 ?_
      refine pw_iload_n (pc := 72) C 1 dX11_tightness_72 rfl rfl ?_
      refine pw_i2d (pc := 73) C dX11_tightness_73 ?_
      obtain ⟨hn18, h⟩ := h
      refine pw_ddiv (pc := 74) C dX11_tightness_74 hn18 ?_
      refine pw_widen (k2 := 1) (n2 := 6) (Nat.le_of_ble_eq_true rfl) (Nat.le_of_ble_eq_true rfl) ?_
      refine pw_xret ?_
      exact pw_dret (pc := 75) C hr h dX11_tightness_75
    · replace h := h.2 hc
      exact pw_throwSW (pc := 42) (mc := 1) (ms := 6) C hl (hZ.2.2.2.2.2.2.2.2.2.2.2.2.2.2.2.2.2.2.2.2.2.2.2.2.2.2.2.2.2.2.2.2.2.2.2.2.2.2.2.2.2.2.2.1) (by decide +kernel) (by decide +kernel) (by decide +kernel) hout dX11_tightness_42 dX11_tightness_45 dX11_tightness_46 dX11_tightness_49 dX11_tightness_52 (by decide) (Nat.le_of_ble_eq_true rfl) (Nat.le_of_ble_eq_true rfl) (Nat.le_of_ble_eq_true rfl) (Nat.le_of_ble_eq_true rfl) (Nat.le_of_ble_eq_true rfl) h

abbrev rmX11_solutions : Room := { frames := 15, cells := 0, slots := 0, locals := 404 }
theorem iX11_solutions_X11 : ∀ w ∈ u_ws RX11 TX11 9, w ∈ wsX11_solutions := by decide +kernel
theorem iX11_solutions_X7 : ∀ w ∈ u_ws RX7 TX7 5, w ∈ wsX11_solutions := by decide +kernel
theorem iX11_solutions_X9 : ∀ w ∈ u_ws RX9 TX9 6, w ∈ wsX11_solutions := by decide +kernel
def wpX11_solutions (S : PS) (x0 : Nat) (Q : Int32 → PS → Prop) : Prop := (pK S x0 = 10 ∧ (∃ o2, pR S x0 4 = some o2 ∧ (∃ o3, pR S x0 6 = some o3 ∧ (∃ o4, pR S x0 1 = some o4 ∧ (pK S o4 = 8 ∧ (pK S o2 = 6 ∧ (wpX7_find S o2 o3 (pJ S o4 5) (fun S8 => (pK S8 x0 = 10 ∧ (∃ o10, pR S8 x0 4 = some o10 ∧ (pK S8 o10 = 6 ∧ (Q (pI S8 o10 1) S8))))))))))))
set_option maxRecDepth 100000 in
set_option maxHeartbeats 4000000 in
theorem ctX11_solutions (l : Launch) (G : PG) (hZ : pZa G) (S : PS) (x0 : Nat) (Q : Int32 → PS → Prop) (h : wpX11_solutions S x0 Q) : mI l yX11_solutions wsX11_solutions rmX11_solutions G S [.ref (G.2.2 + x0)] Q := by
  unfold mI
  refine met_of (cc := cX11_solutions) (maxL := 1) (ret := (some .int)) (by decide) rfl (Nat.le_of_ble_eq_true rfl) ?_
  intro p e s m args below meth c C hr hin
  unfold wpX11_solutions at h
  show PW p l e _ s m args below meth c _ G 1 S 0 0 [(0, .ref (G.2.2 + x0))] 0 []
  refine pw_aload_n (pc := 0) C 0 dX11_solutions_0 rfl rfl ?_
  obtain ⟨hk1, h⟩ := h
  obtain ⟨o2, ho2, h⟩ := h
  refine pw_getR (pc := 1) (ref := "SupportSolver") (k := 4) (index := 36) C pCl9 iX11_solutions_X11 hk1 rfl (by decide +kernel) (Or.inl rfl) (o := o2) ho2 dX11_solutions_1 ?_
  refine pw_aload_n (pc := 4) C 0 dX11_solutions_4 rfl rfl ?_
  obtain ⟨o3, ho3, h⟩ := h
  refine pw_getR (pc := 5) (ref := "SupportSolver") (k := 6) (index := 47) C pCl9 iX11_solutions_X11 hk1 rfl (by decide +kernel) (Or.inl rfl) (o := o3) ho3 dX11_solutions_5 ?_
  refine pw_aload_n (pc := 8) C 0 dX11_solutions_8 rfl rfl ?_
  obtain ⟨o4, ho4, h⟩ := h
  refine pw_getR (pc := 9) (ref := "SupportSolver") (k := 1) (index := 19) C pCl9 iX11_solutions_X11 hk1 rfl (by decide +kernel) (Or.inl rfl) (o := o4) ho4 dX11_solutions_9 ?_
  obtain ⟨hk5, h⟩ := h
  refine pw_getJ (pc := 12) (ref := "SupportSolver$Trail") (k := 5) (index := 139) C pCl7 iX11_solutions_X9 hk5 rfl (by decide +kernel) (Or.inl rfl) dX11_solutions_12 ?_
  obtain ⟨hk6, h⟩ := h
  refine pw_callv (pc := 15) (kc2 := 0) (kn2 := 0) (pRunV (pc := 15) C (ctX7_find l G hZ  _ o2 o3 (pJ S o4 5) _ h) (cwV 2 C.2.2.2.2.1 gX11_solutions_X7_find rfl rfl rfl (by decide +kernel) ⟨Nat.le_of_ble_eq_true rfl, Nat.le_of_ble_eq_true rfl⟩) pCl5 hk6 rfl rfl (Nat.le_of_ble_eq_true rfl) dX11_solutions_15 ⟨Nat.le_of_ble_eq_true rfl, Nat.le_of_ble_eq_true rfl⟩) rfl rfl (fun S8 h => ?_)
  refine pw_aload_n (pc := 18) C 0 dX11_solutions_18 rfl rfl ?_
  obtain ⟨hk9, h⟩ := h
  obtain ⟨o10, ho10, h⟩ := h
  refine pw_getR (pc := 19) (ref := "SupportSolver") (k := 4) (index := 36) C pCl9 iX11_solutions_X11 hk9 rfl (by decide +kernel) (Or.inl rfl) (o := o10) ho10 dX11_solutions_19 ?_
  obtain ⟨hk11, h⟩ := h
  refine pw_getI (pc := 22) (ref := "SupportSolver$Solutions") (k := 1) (index := 310) C pCl5 iX11_solutions_X7 hk11 rfl (by decide +kernel) (Or.inl rfl) dX11_solutions_22 ?_
  exact pw_iret (pc := 25) C hr h dX11_solutions_25

abbrev rmX11_first : Room := { frames := 15, cells := 1, slots := 6, locals := 404 }
theorem iX11_first_X11 : ∀ w ∈ u_ws RX11 TX11 9, w ∈ wsQ_first := by decide +kernel
theorem iX11_first_X7 : ∀ w ∈ u_ws RX7 TX7 5, w ∈ wsQ_first := by decide +kernel
theorem iX11_first_X9 : ∀ w ∈ u_ws RX9 TX9 6, w ∈ wsQ_first := by decide +kernel
def wpX11_first (S : PS) (x0 : Nat) (x1 : Int32) (Q : Int32 → PS → Prop) (X : String → PS → Prop) : Prop := (pK S x0 = 10 ∧ (wpX11_isVariable S x0 x1 (fun r2 S3 => ((¬ r2 = 0 → (pK S3 x0 = 10 ∧ (∃ o5, pR S3 x0 4 = some o5 ∧ (∃ o6, pR S3 x0 6 = some o6 ∧ (∃ o7, pR S3 x0 1 = some o7 ∧ (pK S3 o7 = 8 ∧ (pK S3 o5 = 6 ∧ (wpX7_find S3 o5 o6 (pJ S3 o7 5) (fun S11 => (pK S11 x0 = 10 ∧ (∃ o13, pR S11 x0 4 = some o13 ∧ (pK S11 o13 = 6 ∧ ((¬ (pI S11 o13 1) = 0 → (wpX5_leastValueOf S11 (pJ S11 o13 2) x1 (fun r15 S16 => (Q r15 S16)))) ∧ ((pI S11 o13 1) = 0 → (∀ n, X "java/util/NoSuchElementException" (sSkip S11 n)))))))))))))))) ∧ (r2 = 0 → (∀ n, X "java/lang/IndexOutOfBoundsException" (sSkip S3 n)))))))
set_option maxRecDepth 100000 in
set_option maxHeartbeats 4000000 in
theorem ctX11_first (l : Launch) (G : PG) (hZ : pZa G) (hl : l.stackTraces = false) (S : PS) (x0 : Nat) (x1 : Int32) (Q : Int32 → PS → Prop) (X : String → PS → Prop) (h : wpX11_first S x0 x1 Q X) : mXI l yX11_first wsQ_first rmX11_first G S [.ref (G.2.2 + x0), .int x1] Q X := by
  unfold mXI
  refine met_ofX (cc := cX11_first) (maxL := 2) (ret := (some .int)) (by decide) rfl (Nat.le_of_ble_eq_true rfl) ?_
  intro p e s m args below meth c C hout hr hin
  unfold wpX11_first at h
  show PW p l e _ s m args below meth c _ G 2 S 0 0 [(0, .ref (G.2.2 + x0)), (1, .int x1)] 0 []
  refine pw_aload_n (pc := 0) C 0 dX11_first_0 rfl rfl ?_
  refine pw_iload_n (pc := 1) C 1 dX11_first_1 rfl rfl ?_
  obtain ⟨hk1, h⟩ := h
  refine pw_calli (pc := 2) (kc2 := 0) (kn2 := 0) (pRunV (pc := 2) C (ctX11_isVariable l G hZ  _ x0 x1 _ h) (cwV 1 C.2.2.2.2.1 qgX11_first_X11_isVariable rfl rfl rfl (by decide +kernel) ⟨Nat.le_of_ble_eq_true rfl, Nat.le_of_ble_eq_true rfl⟩) pCl9 hk1 rfl rfl (Nat.le_of_ble_eq_true rfl) dX11_first_2 ⟨Nat.le_of_ble_eq_true rfl, Nat.le_of_ble_eq_true rfl⟩) rfl rfl (fun r2 S3 h => ?_)
  refine pw_if_ne (pc := 5) (tgt := 18) C dX11_first_5 rfl ⟨fun hc => ?_, fun hc => ?_⟩
  · replace h := h.1 hc
    refine pw_aload_n (pc := 18) C 0 dX11_first_18 rfl rfl ?_
    obtain ⟨hk4, h⟩ := h
    obtain ⟨o5, ho5, h⟩ := h
    refine pw_getR (pc := 19) (ref := "SupportSolver") (k := 4) (index := 36) C pCl9 iX11_first_X11 hk4 rfl (by decide +kernel) (Or.inl rfl) (o := o5) ho5 dX11_first_19 ?_
    refine pw_aload_n (pc := 22) C 0 dX11_first_22 rfl rfl ?_
    obtain ⟨o6, ho6, h⟩ := h
    refine pw_getR (pc := 23) (ref := "SupportSolver") (k := 6) (index := 47) C pCl9 iX11_first_X11 hk4 rfl (by decide +kernel) (Or.inl rfl) (o := o6) ho6 dX11_first_23 ?_
    refine pw_aload_n (pc := 26) C 0 dX11_first_26 rfl rfl ?_
    obtain ⟨o7, ho7, h⟩ := h
    refine pw_getR (pc := 27) (ref := "SupportSolver") (k := 1) (index := 19) C pCl9 iX11_first_X11 hk4 rfl (by decide +kernel) (Or.inl rfl) (o := o7) ho7 dX11_first_27 ?_
    obtain ⟨hk8, h⟩ := h
    refine pw_getJ (pc := 30) (ref := "SupportSolver$Trail") (k := 5) (index := 139) C pCl7 iX11_first_X9 hk8 rfl (by decide +kernel) (Or.inl rfl) dX11_first_30 ?_
    obtain ⟨hk9, h⟩ := h
    refine pw_callv (pc := 33) (kc2 := 0) (kn2 := 0) (pRunV (pc := 33) C (ctX7_find l G hZ  _ o5 o6 (pJ S3 o7 5) _ h) (cwV 2 C.2.2.2.2.1 qgX11_first_X7_find rfl rfl rfl (by decide +kernel) ⟨Nat.le_of_ble_eq_true rfl, Nat.le_of_ble_eq_true rfl⟩) pCl5 hk9 rfl rfl (Nat.le_of_ble_eq_true rfl) dX11_first_33 ⟨Nat.le_of_ble_eq_true rfl, Nat.le_of_ble_eq_true rfl⟩) rfl rfl (fun S11 h => ?_)
    refine pw_aload_n (pc := 36) C 0 dX11_first_36 rfl rfl ?_
    obtain ⟨hk12, h⟩ := h
    obtain ⟨o13, ho13, h⟩ := h
    refine pw_getR (pc := 37) (ref := "SupportSolver") (k := 4) (index := 36) C pCl9 iX11_first_X11 hk12 rfl (by decide +kernel) (Or.inl rfl) (o := o13) ho13 dX11_first_37 ?_
    obtain ⟨hk14, h⟩ := h
    refine pw_getI (pc := 40) (ref := "SupportSolver$Solutions") (k := 1) (index := 310) C pCl5 iX11_first_X7 hk14 rfl (by decide +kernel) (Or.inl rfl) dX11_first_40 ?_
    refine pw_if_ne (pc := 43) (tgt := 57) C dX11_first_43 rfl ⟨fun hc => ?_, fun hc => ?_⟩
    · replace h := h.1 hc
      refine pw_aload_n (pc := 57) C 0 dX11_first_57 rfl rfl ?_
      refine pw_getR (pc := 58) (ref := "SupportSolver") (k := 4) (index := 36) C pCl9 iX11_first_X11 hk12 rfl (by decide +kernel) (Or.inl rfl) (o := o13) ho13 dX11_first_58 ?_
      refine pw_getJ (pc := 61) (ref := "SupportSolver$Solutions") (k := 2) (index := 315) C pCl5 iX11_first_X7 hk14 rfl (by decide +kernel) (Or.inl rfl) dX11_first_61 ?_
      refine pw_iload_n (pc := 64) C 1 dX11_first_64 rfl rfl ?_
      refine pw_calli (pc := 65) (kc2 := 0) (kn2 := 0) (pRunS (pc := 65) C (ctX5_leastValueOf l G hZ  _ (pJ S11 o13 2) x1 _ h) (va_cwS 2 C.2.2.2.2.1 qgX11_first_X5_leastValueOf rfl rfl rfl (by decide +kernel) ⟨Nat.le_of_ble_eq_true rfl, Nat.le_of_ble_eq_true rfl⟩) rfl rfl (Nat.le_of_ble_eq_true rfl) dX11_first_65 ⟨Nat.le_of_ble_eq_true rfl, Nat.le_of_ble_eq_true rfl⟩) rfl rfl (fun r15 S16 h => ?_)
      refine pw_widen (k2 := 1) (n2 := 6) (Nat.le_of_ble_eq_true rfl) (Nat.le_of_ble_eq_true rfl) ?_
      refine pw_xret ?_
      exact pw_iret (pc := 68) C hr h dX11_first_68
    · replace h := h.2 hc
      exact pw_throwX (pc := 46) (mc := 1) (ms := 6) (n := 3) C hl (hZ.2.2.2.2.2.2.2.2.2.2.2.2.2.2.2.2.2.2.2.2.2.2.2.2.2.2.2.2.2.2.2.2.2.2.2.2.2.2.2.2.2.2.2.2.1) (by decide +kernel) hout dX11_first_46 dX11_first_49 (Or.inr ⟨dX11_first_50, rfl⟩) dX11_first_53 dX11_first_56 (by decide) (Nat.le_of_ble_eq_true rfl) (Nat.le_of_ble_eq_true rfl) (Nat.le_of_ble_eq_true rfl) (Nat.le_of_ble_eq_true rfl) (Nat.le_of_ble_eq_true rfl) h
  · replace h := h.2 hc
    exact pw_throwS (pc := 8) (mc := 1) (ms := 6) C hl (hZ.2.2.2.2.2.2.2.2.2.2.2.2.2.2.2.2.2.2.2.2.2.2.2.2.2.2.2.2.2.2.2.2.2.2.2.1) (by decide +kernel) (by decide +kernel) (by decide +kernel) hout dX11_first_8 dX11_first_11 dX11_first_12 dX11_first_14 dX11_first_17 (by decide) (Nat.le_of_ble_eq_true rfl) (Nat.le_of_ble_eq_true rfl) (Nat.le_of_ble_eq_true rfl) (Nat.le_of_ble_eq_true rfl) (Nat.le_of_ble_eq_true rfl) h

abbrev rmX11_possible : Room := { frames := 15, cells := 1, slots := 6, locals := 404 }
theorem iX11_possible_X11 : ∀ w ∈ u_ws RX11 TX11 9, w ∈ wsX11_possible := by decide +kernel
theorem iX11_possible_X7 : ∀ w ∈ u_ws RX7 TX7 5, w ∈ wsX11_possible := by decide +kernel
theorem iX11_possible_X9 : ∀ w ∈ u_ws RX9 TX9 6, w ∈ wsX11_possible := by decide +kernel
def wpX11_possible (S : PS) (x0 : Nat) (x1 : Int32) (Q : Int32 → PS → Prop) (X : String → PS → Prop) : Prop := (pK S x0 = 10 ∧ (wpX11_isVariable S x0 x1 (fun r2 S3 => ((¬ r2 = 0 → (pK S3 x0 = 10 ∧ (∃ o5, pR S3 x0 4 = some o5 ∧ (∃ o6, pR S3 x0 6 = some o6 ∧ (∃ o7, pR S3 x0 1 = some o7 ∧ (pK S3 o7 = 8 ∧ (pK S3 o5 = 6 ∧ (wpX7_find S3 o5 o6 (pJ S3 o7 5) (fun S11 => (pK S11 x0 = 10 ∧ (∃ o13, pR S11 x0 4 = some o13 ∧ (pK S11 o13 = 6 ∧ (wpX5_valuesOf S11 (pJ S11 o13 3) x1 (fun r15 S16 => (Q r15 S16))))))))))))))) ∧ (r2 = 0 → (∀ n, X "java/lang/IndexOutOfBoundsException" (sSkip S3 n)))))))
set_option maxRecDepth 100000 in
set_option maxHeartbeats 4000000 in
theorem ctX11_possible (l : Launch) (G : PG) (hZ : pZa G) (hl : l.stackTraces = false) (S : PS) (x0 : Nat) (x1 : Int32) (Q : Int32 → PS → Prop) (X : String → PS → Prop) (h : wpX11_possible S x0 x1 Q X) : mXI l yX11_possible wsX11_possible rmX11_possible G S [.ref (G.2.2 + x0), .int x1] Q X := by
  unfold mXI
  refine met_ofX (cc := cX11_possible) (maxL := 2) (ret := (some .int)) (by decide) rfl (Nat.le_of_ble_eq_true rfl) ?_
  intro p e s m args below meth c C hout hr hin
  unfold wpX11_possible at h
  show PW p l e _ s m args below meth c _ G 2 S 0 0 [(0, .ref (G.2.2 + x0)), (1, .int x1)] 0 []
  refine pw_aload_n (pc := 0) C 0 dX11_possible_0 rfl rfl ?_
  refine pw_iload_n (pc := 1) C 1 dX11_possible_1 rfl rfl ?_
  obtain ⟨hk1, h⟩ := h
  refine pw_calli (pc := 2) (kc2 := 0) (kn2 := 0) (pRunV (pc := 2) C (ctX11_isVariable l G hZ  _ x0 x1 _ h) (cwV 1 C.2.2.2.2.1 gX11_possible_X11_isVariable rfl rfl rfl (by decide +kernel) ⟨Nat.le_of_ble_eq_true rfl, Nat.le_of_ble_eq_true rfl⟩) pCl9 hk1 rfl rfl (Nat.le_of_ble_eq_true rfl) dX11_possible_2 ⟨Nat.le_of_ble_eq_true rfl, Nat.le_of_ble_eq_true rfl⟩) rfl rfl (fun r2 S3 h => ?_)
  refine pw_if_ne (pc := 5) (tgt := 18) C dX11_possible_5 rfl ⟨fun hc => ?_, fun hc => ?_⟩
  · replace h := h.1 hc
    refine pw_aload_n (pc := 18) C 0 dX11_possible_18 rfl rfl ?_
    obtain ⟨hk4, h⟩ := h
    obtain ⟨o5, ho5, h⟩ := h
    refine pw_getR (pc := 19) (ref := "SupportSolver") (k := 4) (index := 36) C pCl9 iX11_possible_X11 hk4 rfl (by decide +kernel) (Or.inl rfl) (o := o5) ho5 dX11_possible_19 ?_
    refine pw_aload_n (pc := 22) C 0 dX11_possible_22 rfl rfl ?_
    obtain ⟨o6, ho6, h⟩ := h
    refine pw_getR (pc := 23) (ref := "SupportSolver") (k := 6) (index := 47) C pCl9 iX11_possible_X11 hk4 rfl (by decide +kernel) (Or.inl rfl) (o := o6) ho6 dX11_possible_23 ?_
    refine pw_aload_n (pc := 26) C 0 dX11_possible_26 rfl rfl ?_
    obtain ⟨o7, ho7, h⟩ := h
    refine pw_getR (pc := 27) (ref := "SupportSolver") (k := 1) (index := 19) C pCl9 iX11_possible_X11 hk4 rfl (by decide +kernel) (Or.inl rfl) (o := o7) ho7 dX11_possible_27 ?_
    obtain ⟨hk8, h⟩ := h
    refine pw_getJ (pc := 30) (ref := "SupportSolver$Trail") (k := 5) (index := 139) C pCl7 iX11_possible_X9 hk8 rfl (by decide +kernel) (Or.inl rfl) dX11_possible_30 ?_
    obtain ⟨hk9, h⟩ := h
    refine pw_callv (pc := 33) (kc2 := 0) (kn2 := 0) (pRunV (pc := 33) C (ctX7_find l G hZ  _ o5 o6 (pJ S3 o7 5) _ h) (cwV 2 C.2.2.2.2.1 gX11_possible_X7_find rfl rfl rfl (by decide +kernel) ⟨Nat.le_of_ble_eq_true rfl, Nat.le_of_ble_eq_true rfl⟩) pCl5 hk9 rfl rfl (Nat.le_of_ble_eq_true rfl) dX11_possible_33 ⟨Nat.le_of_ble_eq_true rfl, Nat.le_of_ble_eq_true rfl⟩) rfl rfl (fun S11 h => ?_)
    refine pw_aload_n (pc := 36) C 0 dX11_possible_36 rfl rfl ?_
    obtain ⟨hk12, h⟩ := h
    obtain ⟨o13, ho13, h⟩ := h
    refine pw_getR (pc := 37) (ref := "SupportSolver") (k := 4) (index := 36) C pCl9 iX11_possible_X11 hk12 rfl (by decide +kernel) (Or.inl rfl) (o := o13) ho13 dX11_possible_37 ?_
    obtain ⟨hk14, h⟩ := h
    refine pw_getJ (pc := 40) (ref := "SupportSolver$Solutions") (k := 3) (index := 318) C pCl5 iX11_possible_X7 hk14 rfl (by decide +kernel) (Or.inl rfl) dX11_possible_40 ?_
    refine pw_iload_n (pc := 43) C 1 dX11_possible_43 rfl rfl ?_
    refine pw_calli (pc := 44) (kc2 := 0) (kn2 := 0) (pRunS (pc := 44) C (ctX5_valuesOf l G hZ  _ (pJ S11 o13 3) x1 _ h) (va_cwS 2 C.2.2.2.2.1 gX11_possible_X5_valuesOf rfl rfl rfl (by decide +kernel) ⟨Nat.le_of_ble_eq_true rfl, Nat.le_of_ble_eq_true rfl⟩) rfl rfl (Nat.le_of_ble_eq_true rfl) dX11_possible_44 ⟨Nat.le_of_ble_eq_true rfl, Nat.le_of_ble_eq_true rfl⟩) rfl rfl (fun r15 S16 h => ?_)
    refine pw_widen (k2 := 1) (n2 := 6) (Nat.le_of_ble_eq_true rfl) (Nat.le_of_ble_eq_true rfl) ?_
    refine pw_xret ?_
    exact pw_iret (pc := 47) C hr h dX11_possible_47
  · replace h := h.2 hc
    exact pw_throwS (pc := 8) (mc := 1) (ms := 6) C hl (hZ.2.2.2.2.2.2.2.2.2.2.2.2.2.2.2.2.2.2.2.2.2.2.2.2.2.2.2.2.2.2.2.2.2.2.2.1) (by decide +kernel) (by decide +kernel) (by decide +kernel) hout dX11_possible_8 dX11_possible_11 dX11_possible_12 dX11_possible_14 dX11_possible_17 (by decide) (Nat.le_of_ble_eq_true rfl) (Nat.le_of_ble_eq_true rfl) (Nat.le_of_ble_eq_true rfl) (Nat.le_of_ble_eq_true rfl) (Nat.le_of_ble_eq_true rfl) h

abbrev rmX11_overlooked : Room := { frames := 15, cells := 0, slots := 0, locals := 404 }
theorem iX11_overlooked_X11 : ∀ w ∈ u_ws RX11 TX11 9, w ∈ wsX11_overlooked := by decide +kernel
theorem iX11_overlooked_X7 : ∀ w ∈ u_ws RX7 TX7 5, w ∈ wsX11_overlooked := by decide +kernel
theorem iX11_overlooked_X9 : ∀ w ∈ u_ws RX9 TX9 6, w ∈ wsX11_overlooked := by decide +kernel
def wpX11_overlooked (S : PS) (x0 : Nat) (Q : Int32 → PS → Prop) : Prop := (pK S x0 = 10 ∧ (∃ o2, pR S x0 4 = some o2 ∧ (∃ o3, pR S x0 6 = some o3 ∧ (∃ o4, pR S x0 1 = some o4 ∧ (pK S o4 = 8 ∧ (pK S o2 = 6 ∧ (wpX7_find S o2 o3 (pJ S o4 5) (fun S8 => (pK S8 x0 = 10 ∧ (∃ o10, pR S8 x0 1 = some o10 ∧ (pK S8 o10 = 8 ∧ (∃ o12, pR S8 x0 4 = some o12 ∧ (pK S8 o12 = 6 ∧ (wpJ13_bitCount_95d88 S8 ((pJ S8 o10 5) &&& ((pJ S8 o12 3) ^^^ (-1 : Int64))) (fun r14 S15 => (Q r14 S15))))))))))))))))
set_option maxRecDepth 100000 in
set_option maxHeartbeats 4000000 in
theorem ctX11_overlooked (l : Launch) (G : PG) (hZ : pZa G) (S : PS) (x0 : Nat) (Q : Int32 → PS → Prop) (h : wpX11_overlooked S x0 Q) : mI l yX11_overlooked wsX11_overlooked rmX11_overlooked G S [.ref (G.2.2 + x0)] Q := by
  unfold mI
  refine met_of (cc := cX11_overlooked) (maxL := 1) (ret := (some .int)) (by decide) rfl (Nat.le_of_ble_eq_true rfl) ?_
  intro p e s m args below meth c C hr hin
  unfold wpX11_overlooked at h
  show PW p l e _ s m args below meth c _ G 1 S 0 0 [(0, .ref (G.2.2 + x0))] 0 []
  refine pw_aload_n (pc := 0) C 0 dX11_overlooked_0 rfl rfl ?_
  obtain ⟨hk1, h⟩ := h
  obtain ⟨o2, ho2, h⟩ := h
  refine pw_getR (pc := 1) (ref := "SupportSolver") (k := 4) (index := 36) C pCl9 iX11_overlooked_X11 hk1 rfl (by decide +kernel) (Or.inl rfl) (o := o2) ho2 dX11_overlooked_1 ?_
  refine pw_aload_n (pc := 4) C 0 dX11_overlooked_4 rfl rfl ?_
  obtain ⟨o3, ho3, h⟩ := h
  refine pw_getR (pc := 5) (ref := "SupportSolver") (k := 6) (index := 47) C pCl9 iX11_overlooked_X11 hk1 rfl (by decide +kernel) (Or.inl rfl) (o := o3) ho3 dX11_overlooked_5 ?_
  refine pw_aload_n (pc := 8) C 0 dX11_overlooked_8 rfl rfl ?_
  obtain ⟨o4, ho4, h⟩ := h
  refine pw_getR (pc := 9) (ref := "SupportSolver") (k := 1) (index := 19) C pCl9 iX11_overlooked_X11 hk1 rfl (by decide +kernel) (Or.inl rfl) (o := o4) ho4 dX11_overlooked_9 ?_
  obtain ⟨hk5, h⟩ := h
  refine pw_getJ (pc := 12) (ref := "SupportSolver$Trail") (k := 5) (index := 139) C pCl7 iX11_overlooked_X9 hk5 rfl (by decide +kernel) (Or.inl rfl) dX11_overlooked_12 ?_
  obtain ⟨hk6, h⟩ := h
  refine pw_callv (pc := 15) (kc2 := 0) (kn2 := 0) (pRunV (pc := 15) C (ctX7_find l G hZ  _ o2 o3 (pJ S o4 5) _ h) (cwV 2 C.2.2.2.2.1 gX11_overlooked_X7_find rfl rfl rfl (by decide +kernel) ⟨Nat.le_of_ble_eq_true rfl, Nat.le_of_ble_eq_true rfl⟩) pCl5 hk6 rfl rfl (Nat.le_of_ble_eq_true rfl) dX11_overlooked_15 ⟨Nat.le_of_ble_eq_true rfl, Nat.le_of_ble_eq_true rfl⟩) rfl rfl (fun S8 h => ?_)
  refine pw_aload_n (pc := 18) C 0 dX11_overlooked_18 rfl rfl ?_
  obtain ⟨hk9, h⟩ := h
  obtain ⟨o10, ho10, h⟩ := h
  refine pw_getR (pc := 19) (ref := "SupportSolver") (k := 1) (index := 19) C pCl9 iX11_overlooked_X11 hk9 rfl (by decide +kernel) (Or.inl rfl) (o := o10) ho10 dX11_overlooked_19 ?_
  obtain ⟨hk11, h⟩ := h
  refine pw_getJ (pc := 22) (ref := "SupportSolver$Trail") (k := 5) (index := 139) C pCl7 iX11_overlooked_X9 hk11 rfl (by decide +kernel) (Or.inl rfl) dX11_overlooked_22 ?_
  refine pw_aload_n (pc := 25) C 0 dX11_overlooked_25 rfl rfl ?_
  obtain ⟨o12, ho12, h⟩ := h
  refine pw_getR (pc := 26) (ref := "SupportSolver") (k := 4) (index := 36) C pCl9 iX11_overlooked_X11 hk9 rfl (by decide +kernel) (Or.inl rfl) (o := o12) ho12 dX11_overlooked_26 ?_
  obtain ⟨hk13, h⟩ := h
  refine pw_getJ (pc := 29) (ref := "SupportSolver$Solutions") (k := 3) (index := 318) C pCl5 iX11_overlooked_X7 hk13 rfl (by decide +kernel) (Or.inl rfl) dX11_overlooked_29 ?_
  refine pw_ldc2 (pc := 32) (v := (-1)) C (by decide +kernel) dX11_overlooked_32 ?_
  refine pw_lxor (pc := 35) C dX11_overlooked_35 ?_
  refine pw_land (pc := 36) C dX11_overlooked_36 ?_
  refine pw_calli (pc := 37) (kc2 := 0) (kn2 := 0) (pRunS (pc := 37) C (ctJ13_bitCount_95d88 l G  _ ((pJ S8 o10 5) &&& ((pJ S8 o12 3) ^^^ (-1 : Int64))) _ h) (va_cwS 1 C.2.2.2.2.1 gX11_overlooked_J13_bitCount_95d88 rfl rfl rfl (by decide +kernel) ⟨Nat.le_of_ble_eq_true rfl, Nat.le_of_ble_eq_true rfl⟩) rfl rfl (Nat.le_of_ble_eq_true rfl) dX11_overlooked_37 ⟨Nat.le_of_ble_eq_true rfl, Nat.le_of_ble_eq_true rfl⟩) rfl rfl (fun r14 S15 h => ?_)
  exact pw_iret (pc := 40) C hr h dX11_overlooked_40

abbrev rmX11_forbid : Room := { frames := 15, cells := 1, slots := 6, locals := 419 }
theorem iX11_forbid_X11 : ∀ w ∈ u_ws RX11 TX11 9, w ∈ wsX11_forbid := by decide +kernel
theorem iX11_forbid_X9 : ∀ w ∈ u_ws RX9 TX9 6, w ∈ wsX11_forbid := by decide +kernel
def wpX11_forbid_b64  (Q : Int32 → PS → Prop) (X : String → PS → Prop) (S : PS) (x0 : Nat) (x1 : Int32) (x2 : Int32) : Prop := (∀ n, X "java/lang/IllegalStateException" (sSkip S n))
def wpX11_forbid (S : PS) (x0 : Nat) (x1 : Int32) (x2 : Int32) (Q : Int32 → PS → Prop) (X : String → PS → Prop) : Prop := (pK S x0 = 10 ∧ (wpX11_isVariable S x0 x1 (fun r2 S3 => ((¬ r2 = 0 → (pK S3 x0 = 10 ∧ (∃ o5, pR S3 x0 1 = some o5 ∧ (pK S3 o5 = 8 ∧ (wpX5_has S3 (pJ S3 o5 5) x1 x2 (fun r7 S8 => ((¬ r7 = 0 → (pK S8 x0 = 10 ∧ (∃ o10, pR S8 x0 1 = some o10 ∧ (pK S8 o10 = 8 ∧ ((0 < (pI S8 o10 4) → (wpX11_forbid_b64 Q X S8 x0 x1 x2)) ∧ (¬ 0 < (pI S8 o10 4) → (wpX9_hasFailed S8 o10 (fun r12 S13 => ((r12 = 0 → (pK S13 x0 = 10 ∧ (∃ o15, pR S13 x0 1 = some o15 ∧ (pK S13 o15 = 8 ∧ (wpX9_remove S13 o15 x1 x2 (-2 : Int32) (0 : Int64) (fun S18 => (pK S18 x0 = 10 ∧ (∃ o20, pR S18 x0 1 = some o20 ∧ (wpX11_propagate S18 x0 o20 (fun S22 => (pK S22 x0 = 10 ∧ (∃ o24, pR S22 x0 1 = some o24 ∧ (pK S22 o24 = 8 ∧ (Q ((pI S22 o24 3) - (pI S13 o15 3)) S22)))))))))))))) ∧ (¬ r12 = 0 → (wpX11_forbid_b64 Q X S13 x0 x1 x2))))))))))) ∧ (r7 = 0 → (∀ n, X "java/lang/IllegalArgumentException" (sSkip S8 n)))))))))) ∧ (r2 = 0 → (∀ n, X "java/lang/IndexOutOfBoundsException" (sSkip S3 n)))))))
set_option maxRecDepth 100000 in
set_option maxHeartbeats 4000000 in
theorem cbX11_forbid_b64 {p : Program} {l : Launch} {e : Env} {s : State} {m : MethodId} {args : Array Value} {below : List Frame} {meth : Method} {c : Code} {G : PG} {Q : Int32 → PS → Prop} {X : String → PS → Prop} (C : pCx p s m args meth c G cX11_forbid 4 yX11_forbid.cls wsX11_forbid) (hr : meth.sig.returnType = (some .int)) (hin : meth.name = yX11_forbid.name) (hZ : pZa G) (hout : ∀ x ∈ c.exceptionTable.toList, False) (hl : l.stackTraces = false)  : ∀ (S : PS) (x0 : Nat) (x1 : Int32) (x2 : Int32), wpX11_forbid_b64  Q X S x0 x1 x2 → PW p l e rmX11_forbid s m args below meth c (vx_MQ below (va_Qi Q (pB G) (pFr G)) (pXC G X) args s rmX11_forbid.cells rmX11_forbid.slots (pFr G)) G 4 S 0 0 [(0, .ref (G.2.2 + x0)), (1, .int x1), (2, .int x2)] 64 ([]) := by
  intro S x0 x1 x2 h
  unfold wpX11_forbid_b64 at h
  exact pw_throwSW (pc := 64) (mc := 1) (ms := 6) C hl (hZ.2.2.2.2.2.2.2.2.2.2.2.2.2.2.2.2.2.2.2.2.2.2.2.2.2.2.2.2.2.2.2.2.2.2.2.2.2.2.2.2.2.2.2.2.2.2.1) (by decide +kernel) (by decide +kernel) (by decide +kernel) hout dX11_forbid_64 dX11_forbid_67 dX11_forbid_68 dX11_forbid_71 dX11_forbid_74 (by decide) (Nat.le_of_ble_eq_true rfl) (Nat.le_of_ble_eq_true rfl) (Nat.le_of_ble_eq_true rfl) (Nat.le_of_ble_eq_true rfl) (Nat.le_of_ble_eq_true rfl) h
set_option maxRecDepth 100000 in
set_option maxHeartbeats 4000000 in
theorem ctX11_forbid (l : Launch) (G : PG) (hZ : pZa G) (hl : l.stackTraces = false) (S : PS) (x0 : Nat) (x1 : Int32) (x2 : Int32) (Q : Int32 → PS → Prop) (X : String → PS → Prop) (h : wpX11_forbid S x0 x1 x2 Q X) : mXI l yX11_forbid wsX11_forbid rmX11_forbid G S [.ref (G.2.2 + x0), .int x1, .int x2] Q X := by
  unfold mXI
  refine met_ofX (cc := cX11_forbid) (maxL := 4) (ret := (some .int)) (by decide) rfl (Nat.le_of_ble_eq_true rfl) ?_
  intro p e s m args below meth c C hout hr hin
  unfold wpX11_forbid at h
  show PW p l e _ s m args below meth c _ G 4 S 0 0 [(0, .ref (G.2.2 + x0)), (1, .int x1), (2, .int x2)] 0 []
  refine pw_aload_n (pc := 0) C 0 dX11_forbid_0 rfl rfl ?_
  refine pw_iload_n (pc := 1) C 1 dX11_forbid_1 rfl rfl ?_
  obtain ⟨hk1, h⟩ := h
  refine pw_calli (pc := 2) (kc2 := 0) (kn2 := 0) (pRunV (pc := 2) C (ctX11_isVariable l G hZ  _ x0 x1 _ h) (cwV 1 C.2.2.2.2.1 gX11_forbid_X11_isVariable rfl rfl rfl (by decide +kernel) ⟨Nat.le_of_ble_eq_true rfl, Nat.le_of_ble_eq_true rfl⟩) pCl9 hk1 rfl rfl (Nat.le_of_ble_eq_true rfl) dX11_forbid_2 ⟨Nat.le_of_ble_eq_true rfl, Nat.le_of_ble_eq_true rfl⟩) rfl rfl (fun r2 S3 h => ?_)
  refine pw_if_ne (pc := 5) (tgt := 18) C dX11_forbid_5 rfl ⟨fun hc => ?_, fun hc => ?_⟩
  · replace h := h.1 hc
    refine pw_aload_n (pc := 18) C 0 dX11_forbid_18 rfl rfl ?_
    obtain ⟨hk4, h⟩ := h
    obtain ⟨o5, ho5, h⟩ := h
    refine pw_getR (pc := 19) (ref := "SupportSolver") (k := 1) (index := 19) C pCl9 iX11_forbid_X11 hk4 rfl (by decide +kernel) (Or.inl rfl) (o := o5) ho5 dX11_forbid_19 ?_
    obtain ⟨hk6, h⟩ := h
    refine pw_getJ (pc := 22) (ref := "SupportSolver$Trail") (k := 5) (index := 139) C pCl7 iX11_forbid_X9 hk6 rfl (by decide +kernel) (Or.inl rfl) dX11_forbid_22 ?_
    refine pw_iload_n (pc := 25) C 1 dX11_forbid_25 rfl rfl ?_
    refine pw_iload_n (pc := 26) C 2 dX11_forbid_26 rfl rfl ?_
    refine pw_calli (pc := 27) (kc2 := 0) (kn2 := 0) (pRunS (pc := 27) C (ctX5_has l G hZ  _ (pJ S3 o5 5) x1 x2 _ h) (va_cwS 3 C.2.2.2.2.1 gX11_forbid_X5_has rfl rfl rfl (by decide +kernel) ⟨Nat.le_of_ble_eq_true rfl, Nat.le_of_ble_eq_true rfl⟩) rfl rfl (Nat.le_of_ble_eq_true rfl) dX11_forbid_27 ⟨Nat.le_of_ble_eq_true rfl, Nat.le_of_ble_eq_true rfl⟩) rfl rfl (fun r7 S8 h => ?_)
    refine pw_if_ne (pc := 30) (tgt := 44) C dX11_forbid_30 rfl ⟨fun hc => ?_, fun hc => ?_⟩
    · replace h := h.1 hc
      refine pw_aload_n (pc := 44) C 0 dX11_forbid_44 rfl rfl ?_
      obtain ⟨hk9, h⟩ := h
      obtain ⟨o10, ho10, h⟩ := h
      refine pw_getR (pc := 45) (ref := "SupportSolver") (k := 1) (index := 19) C pCl9 iX11_forbid_X11 hk9 rfl (by decide +kernel) (Or.inl rfl) (o := o10) ho10 dX11_forbid_45 ?_
      obtain ⟨hk11, h⟩ := h
      refine pw_getI (pc := 48) (ref := "SupportSolver$Trail") (k := 4) (index := 123) C pCl7 iX11_forbid_X9 hk11 rfl (by decide +kernel) (Or.inl rfl) dX11_forbid_48 ?_
      refine pw_if_gt (pc := 51) (tgt := 64) C dX11_forbid_51 rfl ⟨fun hc => ?_, fun hc => ?_⟩
      · replace h := h.1 hc
        exact cbX11_forbid_b64 C hr hin hZ hout hl  _ _ _ _ h
      · replace h := h.2 hc
        refine pw_aload_n (pc := 54) C 0 dX11_forbid_54 rfl rfl ?_
        refine pw_getR (pc := 55) (ref := "SupportSolver") (k := 1) (index := 19) C pCl9 iX11_forbid_X11 hk9 rfl (by decide +kernel) (Or.inl rfl) (o := o10) ho10 dX11_forbid_55 ?_
        refine pw_calli (pc := 58) (kc2 := 0) (kn2 := 0) (pRunV (pc := 58) C (ctX9_hasFailed l G hZ  _ o10 _ h) (cwV 0 C.2.2.2.2.1 gX11_forbid_X9_hasFailed rfl rfl rfl (by decide +kernel) ⟨Nat.le_of_ble_eq_true rfl, Nat.le_of_ble_eq_true rfl⟩) pCl7 hk11 rfl rfl (Nat.le_of_ble_eq_true rfl) dX11_forbid_58 ⟨Nat.le_of_ble_eq_true rfl, Nat.le_of_ble_eq_true rfl⟩) rfl rfl (fun r12 S13 h => ?_)
        refine pw_if_eq (pc := 61) (tgt := 75) C dX11_forbid_61 rfl ⟨fun hc => ?_, fun hc => ?_⟩
        · replace h := h.1 hc
          refine pw_aload_n (pc := 75) C 0 dX11_forbid_75 rfl rfl ?_
          obtain ⟨hk14, h⟩ := h
          obtain ⟨o15, ho15, h⟩ := h
          refine pw_getR (pc := 76) (ref := "SupportSolver") (k := 1) (index := 19) C pCl9 iX11_forbid_X11 hk14 rfl (by decide +kernel) (Or.inl rfl) (o := o15) ho15 dX11_forbid_76 ?_
          obtain ⟨hk16, h⟩ := h
          refine pw_getI (pc := 79) (ref := "SupportSolver$Trail") (k := 3) (index := 111) C pCl7 iX11_forbid_X9 hk16 rfl (by decide +kernel) (Or.inl rfl) dX11_forbid_79 ?_
          refine pw_istore_n (pc := 82) C [(3, .int (pI S13 o15 3)), (0, .ref (G.2.2 + x0)), (1, .int x1), (2, .int x2)] dX11_forbid_82 rfl (by decide) rfl ?_
          refine pw_aload_n (pc := 83) C 1 dX11_forbid_83 rfl rfl ?_
          refine pw_getR (pc := 84) (ref := "SupportSolver") (k := 1) (index := 19) C pCl9 iX11_forbid_X11 hk14 rfl (by decide +kernel) (Or.inl rfl) (o := o15) ho15 dX11_forbid_84 ?_
          refine pw_iload_n (pc := 87) C 2 dX11_forbid_87 rfl rfl ?_
          refine pw_iload_n (pc := 88) C 3 dX11_forbid_88 rfl rfl ?_
          refine pw_bipush (pc := 89) (v := (-2)) C dX11_forbid_89 (by decide) ?_
          refine pw_lconst (pc := 91) (v := 0) C dX11_forbid_91 (by decide) ?_
          refine pw_callv (pc := 92) (kc2 := 0) (kn2 := 0) (pRunV (pc := 92) C (ctX9_remove l G hZ  _ o15 x1 x2 (-2 : Int32) (0 : Int64) _ h) (cwV 4 C.2.2.2.2.1 gX11_forbid_X9_remove rfl rfl rfl (by decide +kernel) ⟨Nat.le_of_ble_eq_true rfl, Nat.le_of_ble_eq_true rfl⟩) pCl7 hk16 rfl rfl (Nat.le_of_ble_eq_true rfl) dX11_forbid_92 ⟨Nat.le_of_ble_eq_true rfl, Nat.le_of_ble_eq_true rfl⟩) rfl rfl (fun S18 h => ?_)
          refine pw_aload_n (pc := 95) C 1 dX11_forbid_95 rfl rfl ?_
          refine pw_aload_n (pc := 96) C 1 dX11_forbid_96 rfl rfl ?_
          obtain ⟨hk19, h⟩ := h
          obtain ⟨o20, ho20, h⟩ := h
          refine pw_getR (pc := 97) (ref := "SupportSolver") (k := 1) (index := 19) C pCl9 iX11_forbid_X11 hk19 rfl (by decide +kernel) (Or.inl rfl) (o := o20) ho20 dX11_forbid_97 ?_
          refine pw_callv (pc := 100) (kc2 := 0) (kn2 := 0) (pRunV (pc := 100) C (ctX11_propagate l G hZ  _ x0 o20 _ h) (cwV 1 C.2.2.2.2.1 gX11_forbid_X11_propagate rfl rfl rfl (by decide +kernel) ⟨Nat.le_of_ble_eq_true rfl, Nat.le_of_ble_eq_true rfl⟩) pCl9 hk19 rfl rfl (Nat.le_of_ble_eq_true rfl) dX11_forbid_100 ⟨Nat.le_of_ble_eq_true rfl, Nat.le_of_ble_eq_true rfl⟩) rfl rfl (fun S22 h => ?_)
          refine pw_aload_n (pc := 103) C 1 dX11_forbid_103 rfl rfl ?_
          obtain ⟨hk23, h⟩ := h
          obtain ⟨o24, ho24, h⟩ := h
          refine pw_getR (pc := 104) (ref := "SupportSolver") (k := 1) (index := 19) C pCl9 iX11_forbid_X11 hk23 rfl (by decide +kernel) (Or.inl rfl) (o := o24) ho24 dX11_forbid_104 ?_
          obtain ⟨hk25, h⟩ := h
          refine pw_getI (pc := 107) (ref := "SupportSolver$Trail") (k := 3) (index := 111) C pCl7 iX11_forbid_X9 hk25 rfl (by decide +kernel) (Or.inl rfl) dX11_forbid_107 ?_
          refine pw_iload_n (pc := 110) C 0 dX11_forbid_110 rfl rfl ?_
          refine pw_isub (pc := 111) C dX11_forbid_111 ?_
          refine pw_widen (k2 := 1) (n2 := 6) (Nat.le_of_ble_eq_true rfl) (Nat.le_of_ble_eq_true rfl) ?_
          refine pw_xret ?_
          exact pw_iret (pc := 112) C hr h dX11_forbid_112
        · replace h := h.2 hc
          exact cbX11_forbid_b64 C hr hin hZ hout hl  _ _ _ _ h
    · replace h := h.2 hc
      exact pw_throwSW (pc := 33) (mc := 1) (ms := 6) C hl (hZ.2.2.2.2.2.2.2.2.2.2.2.2.2.2.2.2.2.2.2.2.2.2.2.2.2.2.2.2.2.2.2.2.2.2.2.2.2.2.2.2.2.2.2.2.2.1) (by decide +kernel) (by decide +kernel) (by decide +kernel) hout dX11_forbid_33 dX11_forbid_36 dX11_forbid_37 dX11_forbid_40 dX11_forbid_43 (by decide) (Nat.le_of_ble_eq_true rfl) (Nat.le_of_ble_eq_true rfl) (Nat.le_of_ble_eq_true rfl) (Nat.le_of_ble_eq_true rfl) (Nat.le_of_ble_eq_true rfl) h
  · replace h := h.2 hc
    exact pw_throwS (pc := 8) (mc := 1) (ms := 6) C hl (hZ.2.2.2.2.2.2.2.2.2.2.2.2.2.2.2.2.2.2.2.2.2.2.2.2.2.2.2.2.2.2.2.2.2.2.2.1) (by decide +kernel) (by decide +kernel) (by decide +kernel) hout dX11_forbid_8 dX11_forbid_11 dX11_forbid_12 dX11_forbid_14 dX11_forbid_17 (by decide) (Nat.le_of_ble_eq_true rfl) (Nat.le_of_ble_eq_true rfl) (Nat.le_of_ble_eq_true rfl) (Nat.le_of_ble_eq_true rfl) (Nat.le_of_ble_eq_true rfl) h

abbrev rmX11_makeDecision : Room := { frames := 15, cells := 0, slots := 0, locals := 419 }
theorem iX11_makeDecision_X11 : ∀ w ∈ u_ws RX11 TX11 9, w ∈ wsX11_makeDecision := by decide +kernel
def wpX11_makeDecision (S : PS) (x0 : Nat) (x1 : Int32) (x2 : Int32) (Q : PS → Prop) : Prop := (pK S x0 = 10 ∧ (∃ o2, pR S x0 1 = some o2 ∧ (pK S o2 = 8 ∧ (wpX9_assume (sI S x0 8 ((pI S x0 8) + (1 : Int32))) o2 x1 x2 (fun S5 => (pK S5 x0 = 10 ∧ (∃ o7, pR S5 x0 1 = some o7 ∧ (wpX11_propagate S5 x0 o7 (fun S9 => (Q S9))))))))))
set_option maxRecDepth 100000 in
set_option maxHeartbeats 4000000 in
theorem ctX11_makeDecision (l : Launch) (G : PG) (hZ : pZa G) (S : PS) (x0 : Nat) (x1 : Int32) (x2 : Int32) (Q : PS → Prop) (h : wpX11_makeDecision S x0 x1 x2 Q) : mV l yX11_makeDecision wsX11_makeDecision rmX11_makeDecision G S [.ref (G.2.2 + x0), .int x1, .int x2] Q := by
  unfold mV
  refine met_of (cc := cX11_makeDecision) (maxL := 3) (ret := none) (by decide) rfl (Nat.le_of_ble_eq_true rfl) ?_
  intro p e s m args below meth c C hr hin
  unfold wpX11_makeDecision at h
  show PW p l e _ s m args below meth c _ G 3 S 0 0 [(0, .ref (G.2.2 + x0)), (1, .int x1), (2, .int x2)] 0 []
  refine pw_aload_n (pc := 0) C 0 dX11_makeDecision_0 rfl rfl ?_
  refine pw_dup (pc := 1) C dX11_makeDecision_1 rfl ?_
  obtain ⟨hk1, h⟩ := h
  refine pw_getI (pc := 2) (ref := "SupportSolver") (k := 8) (index := 55) C pCl9 iX11_makeDecision_X11 hk1 rfl (by decide +kernel) (Or.inl rfl) dX11_makeDecision_2 ?_
  refine pw_iconst (pc := 5) (v := 1 ) C dX11_makeDecision_5 (by decide) ?_
  refine pw_iadd (pc := 6) C dX11_makeDecision_6 ?_
  refine pw_putI (pc := 7) (ref := "SupportSolver") (k := 8) (index := 55) C pCl9 iX11_makeDecision_X11 hk1 rfl (by decide +kernel) (Or.inl rfl) (Or.inl rfl) rfl rfl dX11_makeDecision_7 ?_
  refine pw_aload_n (pc := 10) (S := (sI S x0 8 ((pI S x0 8) + (1 : Int32)))) C 0 dX11_makeDecision_10 rfl rfl ?_
  obtain ⟨o2, ho2, h⟩ := h
  refine pw_getR (pc := 11) (S := (sI S x0 8 ((pI S x0 8) + (1 : Int32)))) (ref := "SupportSolver") (k := 1) (index := 19) C pCl9 iX11_makeDecision_X11 hk1 rfl (by decide +kernel) (Or.inl rfl) (o := o2) ho2 dX11_makeDecision_11 ?_
  refine pw_iload_n (pc := 14) (S := (sI S x0 8 ((pI S x0 8) + (1 : Int32)))) C 1 dX11_makeDecision_14 rfl rfl ?_
  refine pw_iload_n (pc := 15) (S := (sI S x0 8 ((pI S x0 8) + (1 : Int32)))) C 2 dX11_makeDecision_15 rfl rfl ?_
  obtain ⟨hk3, h⟩ := h
  refine pw_callv (pc := 16) (S := (sI S x0 8 ((pI S x0 8) + (1 : Int32)))) (kc2 := 0) (kn2 := 0) (pRunV (pc := 16) (S := (sI S x0 8 ((pI S x0 8) + (1 : Int32)))) C (ctX9_assume l G hZ  _ o2 x1 x2 _ h) (cwV 2 C.2.2.2.2.1 gX11_makeDecision_X9_assume rfl rfl rfl (by decide +kernel) ⟨Nat.le_of_ble_eq_true rfl, Nat.le_of_ble_eq_true rfl⟩) pCl7 hk3 rfl rfl (Nat.le_of_ble_eq_true rfl) dX11_makeDecision_16 ⟨Nat.le_of_ble_eq_true rfl, Nat.le_of_ble_eq_true rfl⟩) rfl rfl (fun S5 h => ?_)
  refine pw_aload_n (pc := 19) C 0 dX11_makeDecision_19 rfl rfl ?_
  refine pw_aload_n (pc := 20) C 0 dX11_makeDecision_20 rfl rfl ?_
  obtain ⟨hk6, h⟩ := h
  obtain ⟨o7, ho7, h⟩ := h
  refine pw_getR (pc := 21) (ref := "SupportSolver") (k := 1) (index := 19) C pCl9 iX11_makeDecision_X11 hk6 rfl (by decide +kernel) (Or.inl rfl) (o := o7) ho7 dX11_makeDecision_21 ?_
  refine pw_callv (pc := 24) (kc2 := 0) (kn2 := 0) (pRunV (pc := 24) C (ctX11_propagate l G hZ  _ x0 o7 _ h) (cwV 1 C.2.2.2.2.1 gX11_makeDecision_X11_propagate rfl rfl rfl (by decide +kernel) ⟨Nat.le_of_ble_eq_true rfl, Nat.le_of_ble_eq_true rfl⟩) pCl9 hk6 rfl rfl (Nat.le_of_ble_eq_true rfl) dX11_makeDecision_24 ⟨Nat.le_of_ble_eq_true rfl, Nat.le_of_ble_eq_true rfl⟩) rfl rfl (fun S9 h => ?_)
  exact pw_vret (pc := 27) C hr h dX11_makeDecision_27

abbrev rmX11_decide : Room := { frames := 16, cells := 1, slots := 6, locals := 441 }
theorem iX11_decide_X11 : ∀ w ∈ u_ws RX11 TX11 9, w ∈ wsX11_decide := by decide +kernel
theorem iX11_decide_X9 : ∀ w ∈ u_ws RX9 TX9 6, w ∈ wsX11_decide := by decide +kernel
def wpX11_decide_b62  (Q : Int32 → PS → Prop) (X : String → PS → Prop) (S : PS) (x0 : Nat) (x1 : Int32) (x2 : Int32) : Prop := (∀ n, X "java/lang/IllegalStateException" (sSkip S n))
def wpX11_decide (S : PS) (x0 : Nat) (x1 : Int32) (x2 : Int32) (Q : Int32 → PS → Prop) (X : String → PS → Prop) : Prop := (pK S x0 = 10 ∧ (wpX11_isVariable S x0 x1 (fun r2 S3 => ((¬ r2 = 0 → (pK S3 x0 = 10 ∧ (∃ o5, pR S3 x0 1 = some o5 ∧ (pK S3 o5 = 8 ∧ (wpX5_has S3 (pJ S3 o5 5) x1 x2 (fun r7 S8 => ((¬ r7 = 0 → (pK S8 x0 = 10 ∧ (wpX11_isFixed S8 x0 x1 (fun r10 S11 => ((¬ r10 = 0 → (wpX11_decide_b62 Q X S11 x0 x1 x2)) ∧ (r10 = 0 → (pK S11 x0 = 10 ∧ (∃ o13, pR S11 x0 1 = some o13 ∧ (pK S11 o13 = 8 ∧ (wpX9_hasFailed S11 o13 (fun r15 S16 => ((r15 = 0 → (pK S16 x0 = 10 ∧ (∃ o18, pR S16 x0 1 = some o18 ∧ (pK S16 o18 = 8 ∧ (wpX11_makeDecision S16 x0 x1 x2 (fun S21 => (pK S21 x0 = 10 ∧ (∃ o23, pR S21 x0 1 = some o23 ∧ (pK S21 o23 = 8 ∧ (Q ((pI S21 o23 3) - (pI S16 o18 3)) S21)))))))))) ∧ (¬ r15 = 0 → (wpX11_decide_b62 Q X S16 x0 x1 x2)))))))))))))) ∧ (r7 = 0 → (∀ n, X "java/lang/IllegalArgumentException" (sSkip S8 n)))))))))) ∧ (r2 = 0 → (∀ n, X "java/lang/IndexOutOfBoundsException" (sSkip S3 n)))))))
set_option maxRecDepth 100000 in
set_option maxHeartbeats 4000000 in
theorem cbX11_decide_b62 {p : Program} {l : Launch} {e : Env} {s : State} {m : MethodId} {args : Array Value} {below : List Frame} {meth : Method} {c : Code} {G : PG} {Q : Int32 → PS → Prop} {X : String → PS → Prop} (C : pCx p s m args meth c G cX11_decide 4 yX11_decide.cls wsX11_decide) (hr : meth.sig.returnType = (some .int)) (hin : meth.name = yX11_decide.name) (hZ : pZa G) (hout : ∀ x ∈ c.exceptionTable.toList, False) (hl : l.stackTraces = false)  : ∀ (S : PS) (x0 : Nat) (x1 : Int32) (x2 : Int32), wpX11_decide_b62  Q X S x0 x1 x2 → PW p l e rmX11_decide s m args below meth c (vx_MQ below (va_Qi Q (pB G) (pFr G)) (pXC G X) args s rmX11_decide.cells rmX11_decide.slots (pFr G)) G 4 S 0 0 [(0, .ref (G.2.2 + x0)), (1, .int x1), (2, .int x2)] 62 ([]) := by
  intro S x0 x1 x2 h
  unfold wpX11_decide_b62 at h
  exact pw_throwSW (pc := 62) (mc := 1) (ms := 6) C hl (hZ.2.2.2.2.2.2.2.2.2.2.2.2.2.2.2.2.2.2.2.2.2.2.2.2.2.2.2.2.2.2.2.2.2.2.2.2.2.2.2.2.2.2.2.2.2.2.2.1) (by decide +kernel) (by decide +kernel) (by decide +kernel) hout dX11_decide_62 dX11_decide_65 dX11_decide_66 dX11_decide_69 dX11_decide_72 (by decide) (Nat.le_of_ble_eq_true rfl) (Nat.le_of_ble_eq_true rfl) (Nat.le_of_ble_eq_true rfl) (Nat.le_of_ble_eq_true rfl) (Nat.le_of_ble_eq_true rfl) h
set_option maxRecDepth 100000 in
set_option maxHeartbeats 4000000 in
theorem ctX11_decide (l : Launch) (G : PG) (hZ : pZa G) (hl : l.stackTraces = false) (S : PS) (x0 : Nat) (x1 : Int32) (x2 : Int32) (Q : Int32 → PS → Prop) (X : String → PS → Prop) (h : wpX11_decide S x0 x1 x2 Q X) : mXI l yX11_decide wsX11_decide rmX11_decide G S [.ref (G.2.2 + x0), .int x1, .int x2] Q X := by
  unfold mXI
  refine met_ofX (cc := cX11_decide) (maxL := 4) (ret := (some .int)) (by decide) rfl (Nat.le_of_ble_eq_true rfl) ?_
  intro p e s m args below meth c C hout hr hin
  unfold wpX11_decide at h
  show PW p l e _ s m args below meth c _ G 4 S 0 0 [(0, .ref (G.2.2 + x0)), (1, .int x1), (2, .int x2)] 0 []
  refine pw_aload_n (pc := 0) C 0 dX11_decide_0 rfl rfl ?_
  refine pw_iload_n (pc := 1) C 1 dX11_decide_1 rfl rfl ?_
  obtain ⟨hk1, h⟩ := h
  refine pw_calli (pc := 2) (kc2 := 0) (kn2 := 0) (pRunV (pc := 2) C (ctX11_isVariable l G hZ  _ x0 x1 _ h) (cwV 1 C.2.2.2.2.1 gX11_decide_X11_isVariable rfl rfl rfl (by decide +kernel) ⟨Nat.le_of_ble_eq_true rfl, Nat.le_of_ble_eq_true rfl⟩) pCl9 hk1 rfl rfl (Nat.le_of_ble_eq_true rfl) dX11_decide_2 ⟨Nat.le_of_ble_eq_true rfl, Nat.le_of_ble_eq_true rfl⟩) rfl rfl (fun r2 S3 h => ?_)
  refine pw_if_ne (pc := 5) (tgt := 18) C dX11_decide_5 rfl ⟨fun hc => ?_, fun hc => ?_⟩
  · replace h := h.1 hc
    refine pw_aload_n (pc := 18) C 0 dX11_decide_18 rfl rfl ?_
    obtain ⟨hk4, h⟩ := h
    obtain ⟨o5, ho5, h⟩ := h
    refine pw_getR (pc := 19) (ref := "SupportSolver") (k := 1) (index := 19) C pCl9 iX11_decide_X11 hk4 rfl (by decide +kernel) (Or.inl rfl) (o := o5) ho5 dX11_decide_19 ?_
    obtain ⟨hk6, h⟩ := h
    refine pw_getJ (pc := 22) (ref := "SupportSolver$Trail") (k := 5) (index := 139) C pCl7 iX11_decide_X9 hk6 rfl (by decide +kernel) (Or.inl rfl) dX11_decide_22 ?_
    refine pw_iload_n (pc := 25) C 1 dX11_decide_25 rfl rfl ?_
    refine pw_iload_n (pc := 26) C 2 dX11_decide_26 rfl rfl ?_
    refine pw_calli (pc := 27) (kc2 := 0) (kn2 := 0) (pRunS (pc := 27) C (ctX5_has l G hZ  _ (pJ S3 o5 5) x1 x2 _ h) (va_cwS 3 C.2.2.2.2.1 gX11_decide_X5_has rfl rfl rfl (by decide +kernel) ⟨Nat.le_of_ble_eq_true rfl, Nat.le_of_ble_eq_true rfl⟩) rfl rfl (Nat.le_of_ble_eq_true rfl) dX11_decide_27 ⟨Nat.le_of_ble_eq_true rfl, Nat.le_of_ble_eq_true rfl⟩) rfl rfl (fun r7 S8 h => ?_)
    refine pw_if_ne (pc := 30) (tgt := 44) C dX11_decide_30 rfl ⟨fun hc => ?_, fun hc => ?_⟩
    · replace h := h.1 hc
      refine pw_aload_n (pc := 44) C 0 dX11_decide_44 rfl rfl ?_
      refine pw_iload_n (pc := 45) C 1 dX11_decide_45 rfl rfl ?_
      obtain ⟨hk9, h⟩ := h
      refine pw_calli (pc := 46) (kc2 := 0) (kn2 := 0) (pRunV (pc := 46) C (ctX11_isFixed l G hZ  _ x0 x1 _ h) (cwV 1 C.2.2.2.2.1 gX11_decide_X11_isFixed rfl rfl rfl (by decide +kernel) ⟨Nat.le_of_ble_eq_true rfl, Nat.le_of_ble_eq_true rfl⟩) pCl9 hk9 rfl rfl (Nat.le_of_ble_eq_true rfl) dX11_decide_46 ⟨Nat.le_of_ble_eq_true rfl, Nat.le_of_ble_eq_true rfl⟩) rfl rfl (fun r10 S11 h => ?_)
      refine pw_if_ne (pc := 49) (tgt := 62) C dX11_decide_49 rfl ⟨fun hc => ?_, fun hc => ?_⟩
      · replace h := h.1 hc
        exact cbX11_decide_b62 C hr hin hZ hout hl  _ _ _ _ h
      · replace h := h.2 hc
        refine pw_aload_n (pc := 52) C 0 dX11_decide_52 rfl rfl ?_
        obtain ⟨hk12, h⟩ := h
        obtain ⟨o13, ho13, h⟩ := h
        refine pw_getR (pc := 53) (ref := "SupportSolver") (k := 1) (index := 19) C pCl9 iX11_decide_X11 hk12 rfl (by decide +kernel) (Or.inl rfl) (o := o13) ho13 dX11_decide_53 ?_
        obtain ⟨hk14, h⟩ := h
        refine pw_calli (pc := 56) (kc2 := 0) (kn2 := 0) (pRunV (pc := 56) C (ctX9_hasFailed l G hZ  _ o13 _ h) (cwV 0 C.2.2.2.2.1 gX11_decide_X9_hasFailed rfl rfl rfl (by decide +kernel) ⟨Nat.le_of_ble_eq_true rfl, Nat.le_of_ble_eq_true rfl⟩) pCl7 hk14 rfl rfl (Nat.le_of_ble_eq_true rfl) dX11_decide_56 ⟨Nat.le_of_ble_eq_true rfl, Nat.le_of_ble_eq_true rfl⟩) rfl rfl (fun r15 S16 h => ?_)
        refine pw_if_eq (pc := 59) (tgt := 73) C dX11_decide_59 rfl ⟨fun hc => ?_, fun hc => ?_⟩
        · replace h := h.1 hc
          refine pw_aload_n (pc := 73) C 0 dX11_decide_73 rfl rfl ?_
          obtain ⟨hk17, h⟩ := h
          obtain ⟨o18, ho18, h⟩ := h
          refine pw_getR (pc := 74) (ref := "SupportSolver") (k := 1) (index := 19) C pCl9 iX11_decide_X11 hk17 rfl (by decide +kernel) (Or.inl rfl) (o := o18) ho18 dX11_decide_74 ?_
          obtain ⟨hk19, h⟩ := h
          refine pw_getI (pc := 77) (ref := "SupportSolver$Trail") (k := 3) (index := 111) C pCl7 iX11_decide_X9 hk19 rfl (by decide +kernel) (Or.inl rfl) dX11_decide_77 ?_
          refine pw_istore_n (pc := 80) C [(3, .int (pI S16 o18 3)), (0, .ref (G.2.2 + x0)), (1, .int x1), (2, .int x2)] dX11_decide_80 rfl (by decide) rfl ?_
          refine pw_aload_n (pc := 81) C 1 dX11_decide_81 rfl rfl ?_
          refine pw_iload_n (pc := 82) C 2 dX11_decide_82 rfl rfl ?_
          refine pw_iload_n (pc := 83) C 3 dX11_decide_83 rfl rfl ?_
          refine pw_callv (pc := 84) (kc2 := 0) (kn2 := 0) (pRunV (pc := 84) C (ctX11_makeDecision l G hZ  _ x0 x1 x2 _ h) (cwV 2 C.2.2.2.2.1 gX11_decide_X11_makeDecision rfl rfl rfl (by decide +kernel) ⟨Nat.le_of_ble_eq_true rfl, Nat.le_of_ble_eq_true rfl⟩) pCl9 hk17 rfl rfl (Nat.le_of_ble_eq_true rfl) dX11_decide_84 ⟨Nat.le_of_ble_eq_true rfl, Nat.le_of_ble_eq_true rfl⟩) rfl rfl (fun S21 h => ?_)
          refine pw_aload_n (pc := 87) C 1 dX11_decide_87 rfl rfl ?_
          obtain ⟨hk22, h⟩ := h
          obtain ⟨o23, ho23, h⟩ := h
          refine pw_getR (pc := 88) (ref := "SupportSolver") (k := 1) (index := 19) C pCl9 iX11_decide_X11 hk22 rfl (by decide +kernel) (Or.inl rfl) (o := o23) ho23 dX11_decide_88 ?_
          obtain ⟨hk24, h⟩ := h
          refine pw_getI (pc := 91) (ref := "SupportSolver$Trail") (k := 3) (index := 111) C pCl7 iX11_decide_X9 hk24 rfl (by decide +kernel) (Or.inl rfl) dX11_decide_91 ?_
          refine pw_iload_n (pc := 94) C 0 dX11_decide_94 rfl rfl ?_
          refine pw_isub (pc := 95) C dX11_decide_95 ?_
          refine pw_widen (k2 := 1) (n2 := 6) (Nat.le_of_ble_eq_true rfl) (Nat.le_of_ble_eq_true rfl) ?_
          refine pw_xret ?_
          exact pw_iret (pc := 96) C hr h dX11_decide_96
        · replace h := h.2 hc
          exact cbX11_decide_b62 C hr hin hZ hout hl  _ _ _ _ h
    · replace h := h.2 hc
      exact pw_throwSW (pc := 33) (mc := 1) (ms := 6) C hl (hZ.2.2.2.2.2.2.2.2.2.2.2.2.2.2.2.2.2.2.2.2.2.2.2.2.2.2.2.2.2.2.2.2.2.2.2.2.2.2.2.2.2.2.2.2.2.1) (by decide +kernel) (by decide +kernel) (by decide +kernel) hout dX11_decide_33 dX11_decide_36 dX11_decide_37 dX11_decide_40 dX11_decide_43 (by decide) (Nat.le_of_ble_eq_true rfl) (Nat.le_of_ble_eq_true rfl) (Nat.le_of_ble_eq_true rfl) (Nat.le_of_ble_eq_true rfl) (Nat.le_of_ble_eq_true rfl) h
  · replace h := h.2 hc
    exact pw_throwS (pc := 8) (mc := 1) (ms := 6) C hl (hZ.2.2.2.2.2.2.2.2.2.2.2.2.2.2.2.2.2.2.2.2.2.2.2.2.2.2.2.2.2.2.2.2.2.2.2.1) (by decide +kernel) (by decide +kernel) (by decide +kernel) hout dX11_decide_8 dX11_decide_11 dX11_decide_12 dX11_decide_14 dX11_decide_17 (by decide) (Nat.le_of_ble_eq_true rfl) (Nat.le_of_ble_eq_true rfl) (Nat.le_of_ble_eq_true rfl) (Nat.le_of_ble_eq_true rfl) (Nat.le_of_ble_eq_true rfl) h

abbrev rmX11_back : Room := { frames := 6, cells := 1, slots := 6, locals := 90 }
theorem iX11_back_X11 : ∀ w ∈ u_ws RX11 TX11 9, w ∈ wsX11_back := by decide +kernel
theorem iX11_back_X9 : ∀ w ∈ u_ws RX9 TX9 6, w ∈ wsX11_back := by decide +kernel
def wpX11_back (S : PS) (x0 : Nat) (Q : Int32 → PS → Prop) (X : String → PS → Prop) : Prop := (pK S x0 = 10 ∧ (∃ o2, pR S x0 1 = some o2 ∧ (pK S o2 = 8 ∧ ((¬ (pI S o2 4) = 0 → (wpX9_takeBack S o2 (fun r4 S5 => (Q r4 S5)))) ∧ ((pI S o2 4) = 0 → (∀ n, X "java/lang/IllegalStateException" (sSkip S n)))))))
set_option maxRecDepth 100000 in
set_option maxHeartbeats 4000000 in
theorem ctX11_back (l : Launch) (G : PG) (hZ : pZa G) (hl : l.stackTraces = false) (S : PS) (x0 : Nat) (Q : Int32 → PS → Prop) (X : String → PS → Prop) (h : wpX11_back S x0 Q X) : mXI l yX11_back wsX11_back rmX11_back G S [.ref (G.2.2 + x0)] Q X := by
  unfold mXI
  refine met_ofX (cc := cX11_back) (maxL := 1) (ret := (some .int)) (by decide) rfl (Nat.le_of_ble_eq_true rfl) ?_
  intro p e s m args below meth c C hout hr hin
  unfold wpX11_back at h
  show PW p l e _ s m args below meth c _ G 1 S 0 0 [(0, .ref (G.2.2 + x0))] 0 []
  refine pw_aload_n (pc := 0) C 0 dX11_back_0 rfl rfl ?_
  obtain ⟨hk1, h⟩ := h
  obtain ⟨o2, ho2, h⟩ := h
  refine pw_getR (pc := 1) (ref := "SupportSolver") (k := 1) (index := 19) C pCl9 iX11_back_X11 hk1 rfl (by decide +kernel) (Or.inl rfl) (o := o2) ho2 dX11_back_1 ?_
  obtain ⟨hk3, h⟩ := h
  refine pw_getI (pc := 4) (ref := "SupportSolver$Trail") (k := 4) (index := 123) C pCl7 iX11_back_X9 hk3 rfl (by decide +kernel) (Or.inl rfl) dX11_back_4 ?_
  refine pw_if_ne (pc := 7) (tgt := 21) C dX11_back_7 rfl ⟨fun hc => ?_, fun hc => ?_⟩
  · replace h := h.1 hc
    refine pw_aload_n (pc := 21) C 0 dX11_back_21 rfl rfl ?_
    refine pw_getR (pc := 22) (ref := "SupportSolver") (k := 1) (index := 19) C pCl9 iX11_back_X11 hk1 rfl (by decide +kernel) (Or.inl rfl) (o := o2) ho2 dX11_back_22 ?_
    refine pw_calli (pc := 25) (kc2 := 0) (kn2 := 0) (pRunV (pc := 25) C (ctX9_takeBack l G hZ  _ o2 _ h) (cwV 0 C.2.2.2.2.1 gX11_back_X9_takeBack rfl rfl rfl (by decide +kernel) ⟨Nat.le_of_ble_eq_true rfl, Nat.le_of_ble_eq_true rfl⟩) pCl7 hk3 rfl rfl (Nat.le_of_ble_eq_true rfl) dX11_back_25 ⟨Nat.le_of_ble_eq_true rfl, Nat.le_of_ble_eq_true rfl⟩) rfl rfl (fun r4 S5 h => ?_)
    refine pw_widen (k2 := 1) (n2 := 6) (Nat.le_of_ble_eq_true rfl) (Nat.le_of_ble_eq_true rfl) ?_
    refine pw_xret ?_
    exact pw_iret (pc := 28) C hr h dX11_back_28
  · replace h := h.2 hc
    exact pw_throwSW (pc := 10) (mc := 1) (ms := 6) C hl (hZ.2.2.2.2.2.2.2.2.2.2.2.2.2.2.2.2.2.2.2.2.2.2.2.2.2.2.2.2.2.2.2.2.2.2.2.2.2.2.2.2.2.2.2.2.2.2.2.2.1) (by decide +kernel) (by decide +kernel) (by decide +kernel) hout dX11_back_10 dX11_back_13 dX11_back_14 dX11_back_17 dX11_back_20 (by decide) (Nat.le_of_ble_eq_true rfl) (Nat.le_of_ble_eq_true rfl) (Nat.le_of_ble_eq_true rfl) (Nat.le_of_ble_eq_true rfl) (Nat.le_of_ble_eq_true rfl) h

abbrev rmX11_decision : Room := { frames := 6, cells := 1, slots := 6, locals := 90 }
theorem iX11_decision_X11 : ∀ w ∈ u_ws RX11 TX11 9, w ∈ wsX11_decision := by decide +kernel
theorem iX11_decision_X9 : ∀ w ∈ u_ws RX9 TX9 6, w ∈ wsX11_decision := by decide +kernel
def wpX11_decision_b15  (Q : Int32 → PS → Prop) (X : String → PS → Prop) (S : PS) (x0 : Nat) (x1 : Int32) : Prop := (∀ n, X "java/lang/IndexOutOfBoundsException" (sSkip S n))
def wpX11_decision (S : PS) (x0 : Nat) (x1 : Int32) (Q : Int32 → PS → Prop) (X : String → PS → Prop) : Prop := ((x1 < 0 → (wpX11_decision_b15 Q X S x0 x1)) ∧ (¬ x1 < 0 → (pK S x0 = 10 ∧ (∃ o2, pR S x0 1 = some o2 ∧ (pK S o2 = 8 ∧ ((x1 < (pI S o2 4) → (wpX9_decisionAt S o2 x1 (fun r4 S5 => (wpX5_toldPair S5 r4 (0 : Int32) (fun r6 S7 => (Q r6 S7)))))) ∧ (¬ x1 < (pI S o2 4) → (wpX11_decision_b15 Q X S x0 x1))))))))
set_option maxRecDepth 100000 in
set_option maxHeartbeats 4000000 in
theorem cbX11_decision_b15 {p : Program} {l : Launch} {e : Env} {s : State} {m : MethodId} {args : Array Value} {below : List Frame} {meth : Method} {c : Code} {G : PG} {Q : Int32 → PS → Prop} {X : String → PS → Prop} (C : pCx p s m args meth c G cX11_decision 2 yX11_decision.cls wsX11_decision) (hr : meth.sig.returnType = (some .int)) (hin : meth.name = yX11_decision.name) (hZ : pZa G) (hout : ∀ x ∈ c.exceptionTable.toList, False) (hl : l.stackTraces = false)  : ∀ (S : PS) (x0 : Nat) (x1 : Int32), wpX11_decision_b15  Q X S x0 x1 → PW p l e rmX11_decision s m args below meth c (vx_MQ below (va_Qi Q (pB G) (pFr G)) (pXC G X) args s rmX11_decision.cells rmX11_decision.slots (pFr G)) G 2 S 0 0 [(0, .ref (G.2.2 + x0)), (1, .int x1)] 15 ([]) := by
  intro S x0 x1 h
  unfold wpX11_decision_b15 at h
  exact pw_throwSW (pc := 15) (mc := 1) (ms := 6) C hl (hZ.2.2.2.2.2.2.2.2.2.2.2.2.2.2.2.2.2.2.2.2.2.2.2.2.2.2.2.2.2.2.2.2.2.2.2.2.2.2.2.2.2.2.2.2.2.2.2.2.2.1) (by decide +kernel) (by decide +kernel) (by decide +kernel) hout dX11_decision_15 dX11_decision_18 dX11_decision_19 dX11_decision_22 dX11_decision_25 (by decide) (Nat.le_of_ble_eq_true rfl) (Nat.le_of_ble_eq_true rfl) (Nat.le_of_ble_eq_true rfl) (Nat.le_of_ble_eq_true rfl) (Nat.le_of_ble_eq_true rfl) h
set_option maxRecDepth 100000 in
set_option maxHeartbeats 4000000 in
theorem ctX11_decision (l : Launch) (G : PG) (hZ : pZa G) (hl : l.stackTraces = false) (S : PS) (x0 : Nat) (x1 : Int32) (Q : Int32 → PS → Prop) (X : String → PS → Prop) (h : wpX11_decision S x0 x1 Q X) : mXI l yX11_decision wsX11_decision rmX11_decision G S [.ref (G.2.2 + x0), .int x1] Q X := by
  unfold mXI
  refine met_ofX (cc := cX11_decision) (maxL := 2) (ret := (some .int)) (by decide) rfl (Nat.le_of_ble_eq_true rfl) ?_
  intro p e s m args below meth c C hout hr hin
  unfold wpX11_decision at h
  show PW p l e _ s m args below meth c _ G 2 S 0 0 [(0, .ref (G.2.2 + x0)), (1, .int x1)] 0 []
  refine pw_iload_n (pc := 0) C 1 dX11_decision_0 rfl rfl ?_
  refine pw_if_lt (pc := 1) (tgt := 15) C dX11_decision_1 rfl ⟨fun hc => ?_, fun hc => ?_⟩
  · replace h := h.1 hc
    exact cbX11_decision_b15 C hr hin hZ hout hl  _ _ _ h
  · replace h := h.2 hc
    refine pw_iload_n (pc := 4) C 1 dX11_decision_4 rfl rfl ?_
    refine pw_aload_n (pc := 5) C 0 dX11_decision_5 rfl rfl ?_
    obtain ⟨hk1, h⟩ := h
    obtain ⟨o2, ho2, h⟩ := h
    refine pw_getR (pc := 6) (ref := "SupportSolver") (k := 1) (index := 19) C pCl9 iX11_decision_X11 hk1 rfl (by decide +kernel) (Or.inl rfl) (o := o2) ho2 dX11_decision_6 ?_
    obtain ⟨hk3, h⟩ := h
    refine pw_getI (pc := 9) (ref := "SupportSolver$Trail") (k := 4) (index := 123) C pCl7 iX11_decision_X9 hk3 rfl (by decide +kernel) (Or.inl rfl) dX11_decision_9 ?_
    refine pw_icmp_lt (pc := 12) (tgt := 26) C dX11_decision_12 rfl ⟨fun hc => ?_, fun hc => ?_⟩
    · replace h := h.1 hc
      refine pw_aload_n (pc := 26) C 0 dX11_decision_26 rfl rfl ?_
      refine pw_getR (pc := 27) (ref := "SupportSolver") (k := 1) (index := 19) C pCl9 iX11_decision_X11 hk1 rfl (by decide +kernel) (Or.inl rfl) (o := o2) ho2 dX11_decision_27 ?_
      refine pw_iload_n (pc := 30) C 1 dX11_decision_30 rfl rfl ?_
      refine pw_calll (pc := 31) (kc2 := 0) (kn2 := 0) (pRunV (pc := 31) C (ctX9_decisionAt l G hZ  _ o2 x1 _ h) (cwV 1 C.2.2.2.2.1 gX11_decision_X9_decisionAt rfl rfl rfl (by decide +kernel) ⟨Nat.le_of_ble_eq_true rfl, Nat.le_of_ble_eq_true rfl⟩) pCl7 hk3 rfl rfl (Nat.le_of_ble_eq_true rfl) dX11_decision_31 ⟨Nat.le_of_ble_eq_true rfl, Nat.le_of_ble_eq_true rfl⟩) rfl rfl (fun r4 S5 h => ?_)
      refine pw_iconst (pc := 34) (v := 0 ) C dX11_decision_34 (by decide) ?_
      refine pw_calli (pc := 35) (kc2 := 0) (kn2 := 0) (pRunS (pc := 35) C (ctX5_toldPair l G hZ  _ r4 (0 : Int32) _ h) (va_cwS 2 C.2.2.2.2.1 gX11_decision_X5_toldPair rfl rfl rfl (by decide +kernel) ⟨Nat.le_of_ble_eq_true rfl, Nat.le_of_ble_eq_true rfl⟩) rfl rfl (Nat.le_of_ble_eq_true rfl) dX11_decision_35 ⟨Nat.le_of_ble_eq_true rfl, Nat.le_of_ble_eq_true rfl⟩) rfl rfl (fun r6 S7 h => ?_)
      refine pw_widen (k2 := 1) (n2 := 6) (Nat.le_of_ble_eq_true rfl) (Nat.le_of_ble_eq_true rfl) ?_
      refine pw_xret ?_
      exact pw_iret (pc := 38) C hr h dX11_decision_38
    · replace h := h.2 hc
      exact cbX11_decision_b15 C hr hin hZ hout hl  _ _ _ h

abbrev rmX11_probe : Room := { frames := 15, cells := 1, slots := 6, locals := 419 }
theorem iX11_probe_X11 : ∀ w ∈ u_ws RX11 TX11 9, w ∈ wsX11_probe := by decide +kernel
theorem iX11_probe_X6 : ∀ w ∈ u_ws RX6 TX6 4, w ∈ wsX11_probe := by decide +kernel
theorem iX11_probe_X9 : ∀ w ∈ u_ws RX9 TX9 6, w ∈ wsX11_probe := by decide +kernel
def wpX11_probe_b62  (Q : Int32 → PS → Prop) (X : String → PS → Prop) (S : PS) (x0 : Nat) (x1 : Int32) (x2 : Int32) : Prop := (∀ n, X "java/lang/IllegalStateException" (sSkip S n))
def wpX11_probe (S : PS) (x0 : Nat) (x1 : Int32) (x2 : Int32) (Q : Int32 → PS → Prop) (X : String → PS → Prop) : Prop := (pK S x0 = 10 ∧ (wpX11_isVariable S x0 x1 (fun r2 S3 => ((¬ r2 = 0 → (pK S3 x0 = 10 ∧ (∃ o5, pR S3 x0 1 = some o5 ∧ (pK S3 o5 = 8 ∧ (wpX5_has S3 (pJ S3 o5 5) x1 x2 (fun r7 S8 => ((¬ r7 = 0 → (pK S8 x0 = 10 ∧ (wpX11_isFixed S8 x0 x1 (fun r10 S11 => ((¬ r10 = 0 → (wpX11_probe_b62 Q X S11 x0 x1 x2)) ∧ (r10 = 0 → (pK S11 x0 = 10 ∧ (∃ o13, pR S11 x0 1 = some o13 ∧ (pK S11 o13 = 8 ∧ (wpX9_hasFailed S11 o13 (fun r15 S16 => ((r15 = 0 → (pK S16 x0 = 10 ∧ (∃ o18, pR S16 x0 2 = some o18 ∧ (∃ o19, pR S16 x0 6 = some o19 ∧ (pK S16 o19 = 5 ∧ (∃ o21, pR S16 x0 1 = some o21 ∧ (pK S16 o21 = 8 ∧ (pK S16 o18 = 8 ∧ (wpX9_begin S16 o18 (pI S16 o19 1) (pJ S16 o21 5) (fun S25 => (pK S25 x0 = 10 ∧ (∃ o27, pR S25 x0 2 = some o27 ∧ (pK S25 o27 = 8 ∧ (wpX9_assume S25 o27 x1 x2 (fun S30 => (pK S30 x0 = 10 ∧ (∃ o32, pR S30 x0 2 = some o32 ∧ (wpX11_propagate S30 x0 o32 (fun S34 => (pK S34 x0 = 10 ∧ (∃ o36, pR S34 x0 2 = some o36 ∧ (pK S34 o36 = 8 ∧ (wpX9_hasFailed S34 o36 (fun r38 S39 => ((r38 = 0 → (pK S39 x0 = 10 ∧ (∃ o41, pR S39 x0 2 = some o41 ∧ (pK S39 o41 = 8 ∧ (Q (pI S39 o41 3) S39))))) ∧ (¬ r38 = 0 → (Q (-1 : Int32) S39))))))))))))))))))))))))))) ∧ (¬ r15 = 0 → (wpX11_probe_b62 Q X S16 x0 x1 x2)))))))))))))) ∧ (r7 = 0 → (∀ n, X "java/lang/IllegalArgumentException" (sSkip S8 n)))))))))) ∧ (r2 = 0 → (∀ n, X "java/lang/IndexOutOfBoundsException" (sSkip S3 n)))))))
set_option maxRecDepth 100000 in
set_option maxHeartbeats 4000000 in
theorem cbX11_probe_b62 {p : Program} {l : Launch} {e : Env} {s : State} {m : MethodId} {args : Array Value} {below : List Frame} {meth : Method} {c : Code} {G : PG} {Q : Int32 → PS → Prop} {X : String → PS → Prop} (C : pCx p s m args meth c G cX11_probe 3 yX11_probe.cls wsX11_probe) (hr : meth.sig.returnType = (some .int)) (hin : meth.name = yX11_probe.name) (hZ : pZa G) (hout : ∀ x ∈ c.exceptionTable.toList, False) (hl : l.stackTraces = false)  : ∀ (S : PS) (x0 : Nat) (x1 : Int32) (x2 : Int32), wpX11_probe_b62  Q X S x0 x1 x2 → PW p l e rmX11_probe s m args below meth c (vx_MQ below (va_Qi Q (pB G) (pFr G)) (pXC G X) args s rmX11_probe.cells rmX11_probe.slots (pFr G)) G 3 S 0 0 [(0, .ref (G.2.2 + x0)), (1, .int x1), (2, .int x2)] 62 ([]) := by
  intro S x0 x1 x2 h
  unfold wpX11_probe_b62 at h
  exact pw_throwSW (pc := 62) (mc := 1) (ms := 6) C hl (hZ.2.2.2.2.2.2.2.2.2.2.2.2.2.2.2.2.2.2.2.2.2.2.2.2.2.2.2.2.2.2.2.2.2.2.2.2.2.2.2.2.2.2.2.2.2.2.2.1) (by decide +kernel) (by decide +kernel) (by decide +kernel) hout dX11_probe_62 dX11_probe_65 dX11_probe_66 dX11_probe_69 dX11_probe_72 (by decide) (Nat.le_of_ble_eq_true rfl) (Nat.le_of_ble_eq_true rfl) (Nat.le_of_ble_eq_true rfl) (Nat.le_of_ble_eq_true rfl) (Nat.le_of_ble_eq_true rfl) h
set_option maxRecDepth 100000 in
set_option maxHeartbeats 4000000 in
theorem ctX11_probe (l : Launch) (G : PG) (hZ : pZa G) (hl : l.stackTraces = false) (S : PS) (x0 : Nat) (x1 : Int32) (x2 : Int32) (Q : Int32 → PS → Prop) (X : String → PS → Prop) (h : wpX11_probe S x0 x1 x2 Q X) : mXI l yX11_probe wsX11_probe rmX11_probe G S [.ref (G.2.2 + x0), .int x1, .int x2] Q X := by
  unfold mXI
  refine met_ofX (cc := cX11_probe) (maxL := 3) (ret := (some .int)) (by decide) rfl (Nat.le_of_ble_eq_true rfl) ?_
  intro p e s m args below meth c C hout hr hin
  unfold wpX11_probe at h
  show PW p l e _ s m args below meth c _ G 3 S 0 0 [(0, .ref (G.2.2 + x0)), (1, .int x1), (2, .int x2)] 0 []
  refine pw_aload_n (pc := 0) C 0 dX11_probe_0 rfl rfl ?_
  refine pw_iload_n (pc := 1) C 1 dX11_probe_1 rfl rfl ?_
  obtain ⟨hk1, h⟩ := h
  refine pw_calli (pc := 2) (kc2 := 0) (kn2 := 0) (pRunV (pc := 2) C (ctX11_isVariable l G hZ  _ x0 x1 _ h) (cwV 1 C.2.2.2.2.1 gX11_probe_X11_isVariable rfl rfl rfl (by decide +kernel) ⟨Nat.le_of_ble_eq_true rfl, Nat.le_of_ble_eq_true rfl⟩) pCl9 hk1 rfl rfl (Nat.le_of_ble_eq_true rfl) dX11_probe_2 ⟨Nat.le_of_ble_eq_true rfl, Nat.le_of_ble_eq_true rfl⟩) rfl rfl (fun r2 S3 h => ?_)
  refine pw_if_ne (pc := 5) (tgt := 18) C dX11_probe_5 rfl ⟨fun hc => ?_, fun hc => ?_⟩
  · replace h := h.1 hc
    refine pw_aload_n (pc := 18) C 0 dX11_probe_18 rfl rfl ?_
    obtain ⟨hk4, h⟩ := h
    obtain ⟨o5, ho5, h⟩ := h
    refine pw_getR (pc := 19) (ref := "SupportSolver") (k := 1) (index := 19) C pCl9 iX11_probe_X11 hk4 rfl (by decide +kernel) (Or.inl rfl) (o := o5) ho5 dX11_probe_19 ?_
    obtain ⟨hk6, h⟩ := h
    refine pw_getJ (pc := 22) (ref := "SupportSolver$Trail") (k := 5) (index := 139) C pCl7 iX11_probe_X9 hk6 rfl (by decide +kernel) (Or.inl rfl) dX11_probe_22 ?_
    refine pw_iload_n (pc := 25) C 1 dX11_probe_25 rfl rfl ?_
    refine pw_iload_n (pc := 26) C 2 dX11_probe_26 rfl rfl ?_
    refine pw_calli (pc := 27) (kc2 := 0) (kn2 := 0) (pRunS (pc := 27) C (ctX5_has l G hZ  _ (pJ S3 o5 5) x1 x2 _ h) (va_cwS 3 C.2.2.2.2.1 gX11_probe_X5_has rfl rfl rfl (by decide +kernel) ⟨Nat.le_of_ble_eq_true rfl, Nat.le_of_ble_eq_true rfl⟩) rfl rfl (Nat.le_of_ble_eq_true rfl) dX11_probe_27 ⟨Nat.le_of_ble_eq_true rfl, Nat.le_of_ble_eq_true rfl⟩) rfl rfl (fun r7 S8 h => ?_)
    refine pw_if_ne (pc := 30) (tgt := 44) C dX11_probe_30 rfl ⟨fun hc => ?_, fun hc => ?_⟩
    · replace h := h.1 hc
      refine pw_aload_n (pc := 44) C 0 dX11_probe_44 rfl rfl ?_
      refine pw_iload_n (pc := 45) C 1 dX11_probe_45 rfl rfl ?_
      obtain ⟨hk9, h⟩ := h
      refine pw_calli (pc := 46) (kc2 := 0) (kn2 := 0) (pRunV (pc := 46) C (ctX11_isFixed l G hZ  _ x0 x1 _ h) (cwV 1 C.2.2.2.2.1 gX11_probe_X11_isFixed rfl rfl rfl (by decide +kernel) ⟨Nat.le_of_ble_eq_true rfl, Nat.le_of_ble_eq_true rfl⟩) pCl9 hk9 rfl rfl (Nat.le_of_ble_eq_true rfl) dX11_probe_46 ⟨Nat.le_of_ble_eq_true rfl, Nat.le_of_ble_eq_true rfl⟩) rfl rfl (fun r10 S11 h => ?_)
      refine pw_if_ne (pc := 49) (tgt := 62) C dX11_probe_49 rfl ⟨fun hc => ?_, fun hc => ?_⟩
      · replace h := h.1 hc
        exact cbX11_probe_b62 C hr hin hZ hout hl  _ _ _ _ h
      · replace h := h.2 hc
        refine pw_aload_n (pc := 52) C 0 dX11_probe_52 rfl rfl ?_
        obtain ⟨hk12, h⟩ := h
        obtain ⟨o13, ho13, h⟩ := h
        refine pw_getR (pc := 53) (ref := "SupportSolver") (k := 1) (index := 19) C pCl9 iX11_probe_X11 hk12 rfl (by decide +kernel) (Or.inl rfl) (o := o13) ho13 dX11_probe_53 ?_
        obtain ⟨hk14, h⟩ := h
        refine pw_calli (pc := 56) (kc2 := 0) (kn2 := 0) (pRunV (pc := 56) C (ctX9_hasFailed l G hZ  _ o13 _ h) (cwV 0 C.2.2.2.2.1 gX11_probe_X9_hasFailed rfl rfl rfl (by decide +kernel) ⟨Nat.le_of_ble_eq_true rfl, Nat.le_of_ble_eq_true rfl⟩) pCl7 hk14 rfl rfl (Nat.le_of_ble_eq_true rfl) dX11_probe_56 ⟨Nat.le_of_ble_eq_true rfl, Nat.le_of_ble_eq_true rfl⟩) rfl rfl (fun r15 S16 h => ?_)
        refine pw_if_eq (pc := 59) (tgt := 73) C dX11_probe_59 rfl ⟨fun hc => ?_, fun hc => ?_⟩
        · replace h := h.1 hc
          refine pw_aload_n (pc := 73) C 0 dX11_probe_73 rfl rfl ?_
          obtain ⟨hk17, h⟩ := h
          obtain ⟨o18, ho18, h⟩ := h
          refine pw_getR (pc := 74) (ref := "SupportSolver") (k := 2) (index := 23) C pCl9 iX11_probe_X11 hk17 rfl (by decide +kernel) (Or.inl rfl) (o := o18) ho18 dX11_probe_74 ?_
          refine pw_aload_n (pc := 77) C 0 dX11_probe_77 rfl rfl ?_
          obtain ⟨o19, ho19, h⟩ := h
          refine pw_getR (pc := 78) (ref := "SupportSolver") (k := 6) (index := 47) C pCl9 iX11_probe_X11 hk17 rfl (by decide +kernel) (Or.inl rfl) (o := o19) ho19 dX11_probe_78 ?_
          obtain ⟨hk20, h⟩ := h
          refine pw_getI (pc := 81) (ref := "SupportSolver$Problem") (k := 1) (index := 93) C pCl4 iX11_probe_X6 hk20 rfl (by decide +kernel) (Or.inl rfl) dX11_probe_81 ?_
          refine pw_aload_n (pc := 84) C 0 dX11_probe_84 rfl rfl ?_
          obtain ⟨o21, ho21, h⟩ := h
          refine pw_getR (pc := 85) (ref := "SupportSolver") (k := 1) (index := 19) C pCl9 iX11_probe_X11 hk17 rfl (by decide +kernel) (Or.inl rfl) (o := o21) ho21 dX11_probe_85 ?_
          obtain ⟨hk22, h⟩ := h
          refine pw_getJ (pc := 88) (ref := "SupportSolver$Trail") (k := 5) (index := 139) C pCl7 iX11_probe_X9 hk22 rfl (by decide +kernel) (Or.inl rfl) dX11_probe_88 ?_
          obtain ⟨hk23, h⟩ := h
          refine pw_callv (pc := 91) (kc2 := 0) (kn2 := 0) (pRunV (pc := 91) C (ctX9_begin l G hZ  _ o18 (pI S16 o19 1) (pJ S16 o21 5) _ h) (cwV 2 C.2.2.2.2.1 gX11_probe_X9_begin rfl rfl rfl (by decide +kernel) ⟨Nat.le_of_ble_eq_true rfl, Nat.le_of_ble_eq_true rfl⟩) pCl7 hk23 rfl rfl (Nat.le_of_ble_eq_true rfl) dX11_probe_91 ⟨Nat.le_of_ble_eq_true rfl, Nat.le_of_ble_eq_true rfl⟩) rfl rfl (fun S25 h => ?_)
          refine pw_aload_n (pc := 94) C 0 dX11_probe_94 rfl rfl ?_
          obtain ⟨hk26, h⟩ := h
          obtain ⟨o27, ho27, h⟩ := h
          refine pw_getR (pc := 95) (ref := "SupportSolver") (k := 2) (index := 23) C pCl9 iX11_probe_X11 hk26 rfl (by decide +kernel) (Or.inl rfl) (o := o27) ho27 dX11_probe_95 ?_
          refine pw_iload_n (pc := 98) C 1 dX11_probe_98 rfl rfl ?_
          refine pw_iload_n (pc := 99) C 2 dX11_probe_99 rfl rfl ?_
          obtain ⟨hk28, h⟩ := h
          refine pw_callv (pc := 100) (kc2 := 0) (kn2 := 0) (pRunV (pc := 100) C (ctX9_assume l G hZ  _ o27 x1 x2 _ h) (cwV 2 C.2.2.2.2.1 gX11_probe_X9_assume rfl rfl rfl (by decide +kernel) ⟨Nat.le_of_ble_eq_true rfl, Nat.le_of_ble_eq_true rfl⟩) pCl7 hk28 rfl rfl (Nat.le_of_ble_eq_true rfl) dX11_probe_100 ⟨Nat.le_of_ble_eq_true rfl, Nat.le_of_ble_eq_true rfl⟩) rfl rfl (fun S30 h => ?_)
          refine pw_aload_n (pc := 103) C 0 dX11_probe_103 rfl rfl ?_
          refine pw_aload_n (pc := 104) C 0 dX11_probe_104 rfl rfl ?_
          obtain ⟨hk31, h⟩ := h
          obtain ⟨o32, ho32, h⟩ := h
          refine pw_getR (pc := 105) (ref := "SupportSolver") (k := 2) (index := 23) C pCl9 iX11_probe_X11 hk31 rfl (by decide +kernel) (Or.inl rfl) (o := o32) ho32 dX11_probe_105 ?_
          refine pw_callv (pc := 108) (kc2 := 0) (kn2 := 0) (pRunV (pc := 108) C (ctX11_propagate l G hZ  _ x0 o32 _ h) (cwV 1 C.2.2.2.2.1 gX11_probe_X11_propagate rfl rfl rfl (by decide +kernel) ⟨Nat.le_of_ble_eq_true rfl, Nat.le_of_ble_eq_true rfl⟩) pCl9 hk31 rfl rfl (Nat.le_of_ble_eq_true rfl) dX11_probe_108 ⟨Nat.le_of_ble_eq_true rfl, Nat.le_of_ble_eq_true rfl⟩) rfl rfl (fun S34 h => ?_)
          refine pw_aload_n (pc := 111) C 0 dX11_probe_111 rfl rfl ?_
          obtain ⟨hk35, h⟩ := h
          obtain ⟨o36, ho36, h⟩ := h
          refine pw_getR (pc := 112) (ref := "SupportSolver") (k := 2) (index := 23) C pCl9 iX11_probe_X11 hk35 rfl (by decide +kernel) (Or.inl rfl) (o := o36) ho36 dX11_probe_112 ?_
          obtain ⟨hk37, h⟩ := h
          refine pw_calli (pc := 115) (kc2 := 0) (kn2 := 0) (pRunV (pc := 115) C (ctX9_hasFailed l G hZ  _ o36 _ h) (cwV 0 C.2.2.2.2.1 gX11_probe_X9_hasFailed rfl rfl rfl (by decide +kernel) ⟨Nat.le_of_ble_eq_true rfl, Nat.le_of_ble_eq_true rfl⟩) pCl7 hk37 rfl rfl (Nat.le_of_ble_eq_true rfl) dX11_probe_115 ⟨Nat.le_of_ble_eq_true rfl, Nat.le_of_ble_eq_true rfl⟩) rfl rfl (fun r38 S39 h => ?_)
          refine pw_if_eq (pc := 118) (tgt := 125) C dX11_probe_118 rfl ⟨fun hc => ?_, fun hc => ?_⟩
          · replace h := h.1 hc
            refine pw_aload_n (pc := 125) C 0 dX11_probe_125 rfl rfl ?_
            obtain ⟨hk40, h⟩ := h
            obtain ⟨o41, ho41, h⟩ := h
            refine pw_getR (pc := 126) (ref := "SupportSolver") (k := 2) (index := 23) C pCl9 iX11_probe_X11 hk40 rfl (by decide +kernel) (Or.inl rfl) (o := o41) ho41 dX11_probe_126 ?_
            obtain ⟨hk42, h⟩ := h
            refine pw_getI (pc := 129) (ref := "SupportSolver$Trail") (k := 3) (index := 111) C pCl7 iX11_probe_X9 hk42 rfl (by decide +kernel) (Or.inl rfl) dX11_probe_129 ?_
            refine pw_widen (k2 := 1) (n2 := 6) (Nat.le_of_ble_eq_true rfl) (Nat.le_of_ble_eq_true rfl) ?_
            refine pw_xret ?_
            exact pw_iret (pc := 132) C hr h dX11_probe_132
          · replace h := h.2 hc
            refine pw_iconst (pc := 121) (v := (-1)) C dX11_probe_121 (by decide) ?_
            refine pw_goto (pc := 122) (tgt := 132) C dX11_probe_122 rfl ?_
            refine pw_widen (k2 := 1) (n2 := 6) (Nat.le_of_ble_eq_true rfl) (Nat.le_of_ble_eq_true rfl) ?_
            refine pw_xret ?_
            exact pw_iret (pc := 132) C hr h dX11_probe_132
        · replace h := h.2 hc
          exact cbX11_probe_b62 C hr hin hZ hout hl  _ _ _ _ h
    · replace h := h.2 hc
      exact pw_throwSW (pc := 33) (mc := 1) (ms := 6) C hl (hZ.2.2.2.2.2.2.2.2.2.2.2.2.2.2.2.2.2.2.2.2.2.2.2.2.2.2.2.2.2.2.2.2.2.2.2.2.2.2.2.2.2.2.2.2.2.1) (by decide +kernel) (by decide +kernel) (by decide +kernel) hout dX11_probe_33 dX11_probe_36 dX11_probe_37 dX11_probe_40 dX11_probe_43 (by decide) (Nat.le_of_ble_eq_true rfl) (Nat.le_of_ble_eq_true rfl) (Nat.le_of_ble_eq_true rfl) (Nat.le_of_ble_eq_true rfl) (Nat.le_of_ble_eq_true rfl) h
  · replace h := h.2 hc
    exact pw_throwS (pc := 8) (mc := 1) (ms := 6) C hl (hZ.2.2.2.2.2.2.2.2.2.2.2.2.2.2.2.2.2.2.2.2.2.2.2.2.2.2.2.2.2.2.2.2.2.2.2.1) (by decide +kernel) (by decide +kernel) (by decide +kernel) hout dX11_probe_8 dX11_probe_11 dX11_probe_12 dX11_probe_14 dX11_probe_17 (by decide) (Nat.le_of_ble_eq_true rfl) (Nat.le_of_ble_eq_true rfl) (Nat.le_of_ble_eq_true rfl) (Nat.le_of_ble_eq_true rfl) (Nat.le_of_ble_eq_true rfl) h

abbrev rmX11_keepSet : Room := { frames := 1, cells := 0, slots := 0, locals := 60 }
theorem iX11_keepSet_X11 : ∀ w ∈ u_ws RX11 TX11 9, w ∈ wsX11_keepSet := fun _ h => List.mem_cons_of_mem _ (List.mem_append_right _ h)
def wpX11_keepSet_b30  (Q : PS → Prop) (S : PS) (x0 : Nat) (x1 : Int64) : Prop := (pK S x0 = 10 ∧ (((pI S x0 7) < 0 → (Q S)) ∧ (¬ (pI S x0 7) < 0 → (∃ o2, pR S x0 5 = some o2 ∧ (pK S o2 = 14 ∧ (((nI (pL S o2)) ≤ (pI S x0 7) → (Q S)) ∧ (¬ (nI (pL S o2)) ≤ (pI S x0 7) → (vp_in (pI S x0 7) (pL S o2) ∧ (Q (sI (sJ S o2 ((pI S x0 7)).toNatClampNeg x1) x0 7 ((pI (sJ S o2 ((pI S x0 7)).toNatClampNeg x1) x0 7) + (1 : Int32))))))))))))
def wpX11_keepSet (S : PS) (x0 : Nat) (x1 : Int64) (Q : PS → Prop) : Prop := (pK S x0 = 10 ∧ (((pI S x0 7) < (12 : Int32) → (wpX11_keepSet_b30 Q S x0 x1)) ∧ (¬ (pI S x0 7) < (12 : Int32) → (∃ o6, pR S x0 5 = some o6 ∧ (pK S o6 = 14 ∧ (((1 : Int32)).toNatClampNeg + ((11 : Int32)).toNatClampNeg ≤ pL S o6 ∧ (((0 : Int32)).toNatClampNeg + ((11 : Int32)).toNatClampNeg ≤ pL S o6 ∧ (∀ d9, (wpX11_keepSet_b30 Q (sI (sSkip (sJs S o6 (va_cpy (pJ S o6) (pJ S o6) ((1 : Int32)).toNatClampNeg ((0 : Int32)).toNatClampNeg ((11 : Int32)).toNatClampNeg)) d9) x0 7 (11 : Int32)) x0 x1)))))))))
set_option maxRecDepth 100000 in
set_option maxHeartbeats 4000000 in
theorem cbX11_keepSet_b30 {p : Program} {l : Launch} {e : Env} {s : State} {m : MethodId} {args : Array Value} {below : List Frame} {meth : Method} {c : Code} {G : PG} {Q : PS → Prop} (C : pCx p s m args meth c G cX11_keepSet 3 yX11_keepSet.cls wsX11_keepSet) (hr : meth.sig.returnType = none) (hin : meth.name = yX11_keepSet.name) (hZ : pZa G)  : ∀ (S : PS) (x0 : Nat) (x1 : Int64), wpX11_keepSet_b30  Q S x0 x1 → PW p l e rmX11_keepSet s m args below meth c (MQ below (va_Qv Q (pB G) (pFr G)) args s rmX11_keepSet.cells rmX11_keepSet.slots (pFr G)) G 3 S 0 0 [(0, .ref (G.2.2 + x0)), (1, .long x1)] 30 ([]) := by
  intro S x0 x1 h
  unfold wpX11_keepSet_b30 at h
  refine pw_aload_n (pc := 30) C 0 dX11_keepSet_30 rfl rfl ?_
  obtain ⟨hk1, h⟩ := h
  refine pw_getI (pc := 31) (ref := "SupportSolver") (k := 7) (index := 51) C pCl9 iX11_keepSet_X11 hk1 rfl (by decide +kernel) (Or.inl rfl) dX11_keepSet_31 ?_
  refine pw_if_lt (pc := 34) (tgt := 69) C dX11_keepSet_34 rfl ⟨fun hc => ?_, fun hc => ?_⟩
  · replace h := h.1 hc
    exact pw_vret (pc := 69) C hr h dX11_keepSet_69
  · replace h := h.2 hc
    refine pw_aload_n (pc := 37) C 0 dX11_keepSet_37 rfl rfl ?_
    refine pw_getI (pc := 38) (ref := "SupportSolver") (k := 7) (index := 51) C pCl9 iX11_keepSet_X11 hk1 rfl (by decide +kernel) (Or.inl rfl) dX11_keepSet_38 ?_
    refine pw_aload_n (pc := 41) C 0 dX11_keepSet_41 rfl rfl ?_
    obtain ⟨o2, ho2, h⟩ := h
    refine pw_getR (pc := 42) (ref := "SupportSolver") (k := 5) (index := 40) C pCl9 iX11_keepSet_X11 hk1 rfl (by decide +kernel) (Or.inl rfl) (o := o2) ho2 dX11_keepSet_42 ?_
    obtain ⟨hk3, h⟩ := h
    refine pw_alen (pc := 45) C (κ := 14) hk3 (by decide) dX11_keepSet_45 ?_
    refine pw_icmp_ge (pc := 46) (tgt := 69) C dX11_keepSet_46 rfl ⟨fun hc => ?_, fun hc => ?_⟩
    · replace h := h.1 hc
      exact pw_vret (pc := 69) C hr h dX11_keepSet_69
    · replace h := h.2 hc
      refine pw_aload_n (pc := 49) C 0 dX11_keepSet_49 rfl rfl ?_
      refine pw_getR (pc := 50) (ref := "SupportSolver") (k := 5) (index := 40) C pCl9 iX11_keepSet_X11 hk1 rfl (by decide +kernel) (Or.inl rfl) (o := o2) ho2 dX11_keepSet_50 ?_
      refine pw_aload_n (pc := 53) C 0 dX11_keepSet_53 rfl rfl ?_
      refine pw_getI (pc := 54) (ref := "SupportSolver") (k := 7) (index := 51) C pCl9 iX11_keepSet_X11 hk1 rfl (by decide +kernel) (Or.inl rfl) dX11_keepSet_54 ?_
      refine pw_lload_n (pc := 57) C 1 dX11_keepSet_57 rfl rfl ?_
      obtain ⟨hi4, h⟩ := h
      refine pw_last (pc := 58) C hk3 hi4 dX11_keepSet_58 ?_
      refine pw_aload_n (pc := 59) (S := (sJ S o2 ((pI S x0 7)).toNatClampNeg x1)) C 0 dX11_keepSet_59 rfl rfl ?_
      refine pw_dup (pc := 60) (S := (sJ S o2 ((pI S x0 7)).toNatClampNeg x1)) C dX11_keepSet_60 rfl ?_
      refine pw_getI (pc := 61) (S := (sJ S o2 ((pI S x0 7)).toNatClampNeg x1)) (ref := "SupportSolver") (k := 7) (index := 51) C pCl9 iX11_keepSet_X11 hk1 rfl (by decide +kernel) (Or.inl rfl) dX11_keepSet_61 ?_
      refine pw_iconst (pc := 64) (S := (sJ S o2 ((pI S x0 7)).toNatClampNeg x1)) (v := 1 ) C dX11_keepSet_64 (by decide) ?_
      refine pw_iadd (pc := 65) (S := (sJ S o2 ((pI S x0 7)).toNatClampNeg x1)) C dX11_keepSet_65 ?_
      refine pw_putI (pc := 66) (S := (sJ S o2 ((pI S x0 7)).toNatClampNeg x1)) (ref := "SupportSolver") (k := 7) (index := 51) C pCl9 iX11_keepSet_X11 hk1 rfl (by decide +kernel) (Or.inl rfl) (Or.inl rfl) rfl rfl dX11_keepSet_66 ?_
      exact pw_vret (pc := 69) (S := (sI (sJ S o2 ((pI S x0 7)).toNatClampNeg x1) x0 7 ((pI (sJ S o2 ((pI S x0 7)).toNatClampNeg x1) x0 7) + (1 : Int32)))) C hr h dX11_keepSet_69
set_option maxRecDepth 100000 in
set_option maxHeartbeats 4000000 in
theorem ctX11_keepSet (l : Launch) (G : PG) (hZ : pZa G) (S : PS) (x0 : Nat) (x1 : Int64) (Q : PS → Prop) (h : wpX11_keepSet S x0 x1 Q) : mV l yX11_keepSet wsX11_keepSet rmX11_keepSet G S [.ref (G.2.2 + x0), .long x1] Q := by
  unfold mV
  refine met_of (cc := cX11_keepSet) (maxL := 3) (ret := none) (by decide) rfl (Nat.le_of_ble_eq_true rfl) ?_
  intro p e s m args below meth c C hr hin
  unfold wpX11_keepSet at h
  show PW p l e _ s m args below meth c _ G 3 S 0 0 [(0, .ref (G.2.2 + x0)), (1, .long x1)] 0 []
  refine pw_aload_n (pc := 0) C 0 dX11_keepSet_0 rfl rfl ?_
  obtain ⟨hk5, h⟩ := h
  refine pw_getI (pc := 1) (ref := "SupportSolver") (k := 7) (index := 51) C pCl9 iX11_keepSet_X11 hk5 rfl (by decide +kernel) (Or.inl rfl) dX11_keepSet_1 ?_
  refine pw_bipush (pc := 4) (v := 12 ) C dX11_keepSet_4 (by decide) ?_
  refine pw_icmp_lt (pc := 6) (tgt := 30) C dX11_keepSet_6 rfl ⟨fun hc => ?_, fun hc => ?_⟩
  · replace h := h.1 hc
    exact cbX11_keepSet_b30 C hr hin hZ  _ _ _ h
  · replace h := h.2 hc
    refine pw_aload_n (pc := 9) C 0 dX11_keepSet_9 rfl rfl ?_
    obtain ⟨o6, ho6, h⟩ := h
    refine pw_getR (pc := 10) (ref := "SupportSolver") (k := 5) (index := 40) C pCl9 iX11_keepSet_X11 hk5 rfl (by decide +kernel) (Or.inl rfl) (o := o6) ho6 dX11_keepSet_10 ?_
    refine pw_iconst (pc := 13) (v := 1 ) C dX11_keepSet_13 (by decide) ?_
    refine pw_aload_n (pc := 14) C 0 dX11_keepSet_14 rfl rfl ?_
    refine pw_getR (pc := 15) (ref := "SupportSolver") (k := 5) (index := 40) C pCl9 iX11_keepSet_X11 hk5 rfl (by decide +kernel) (Or.inl rfl) (o := o6) ho6 dX11_keepSet_15 ?_
    refine pw_iconst (pc := 18) (v := 0 ) C dX11_keepSet_18 (by decide) ?_
    refine pw_bipush (pc := 19) (v := 11 ) C dX11_keepSet_19 (by decide) ?_
    obtain ⟨hk7, h⟩ := h
    obtain ⟨hi8, h⟩ := h
    obtain ⟨hi9, h⟩ := h
    refine pw_copyJ (pc := 21) (index := 374) C (by decide +kernel) (by decide +kernel) (by decide +kernel) (by decide +kernel) hk7 (by decide) (by decide) (by decide) hi8 hi9 (Nat.le_of_ble_eq_true rfl) (Nat.le_of_ble_eq_true rfl) dX11_keepSet_21 (fun d9 => ?_)
    replace h := h d9
    refine pw_aload_n (pc := 24) (S := (sSkip (sJs S o6 (va_cpy (pJ S o6) (pJ S o6) ((1 : Int32)).toNatClampNeg ((0 : Int32)).toNatClampNeg ((11 : Int32)).toNatClampNeg)) d9)) C 0 dX11_keepSet_24 rfl rfl ?_
    refine pw_bipush (pc := 25) (S := (sSkip (sJs S o6 (va_cpy (pJ S o6) (pJ S o6) ((1 : Int32)).toNatClampNeg ((0 : Int32)).toNatClampNeg ((11 : Int32)).toNatClampNeg)) d9)) (v := 11 ) C dX11_keepSet_25 (by decide) ?_
    refine pw_putI (pc := 27) (S := (sSkip (sJs S o6 (va_cpy (pJ S o6) (pJ S o6) ((1 : Int32)).toNatClampNeg ((0 : Int32)).toNatClampNeg ((11 : Int32)).toNatClampNeg)) d9)) (ref := "SupportSolver") (k := 7) (index := 51) C pCl9 iX11_keepSet_X11 hk5 rfl (by decide +kernel) (Or.inl rfl) (Or.inl rfl) rfl rfl dX11_keepSet_27 ?_
    exact cbX11_keepSet_b30 C hr hin hZ  _ _ _ h

abbrev rmX11_learnFromFailure : Room := { frames := 15, cells := 0, slots := 0, locals := 419 }
theorem iX11_learnFromFailure_X11 : ∀ w ∈ u_ws RX11 TX11 9, w ∈ wsX11_learnFromFailure := by decide +kernel
theorem iX11_learnFromFailure_X6 : ∀ w ∈ u_ws RX6 TX6 4, w ∈ wsX11_learnFromFailure := by decide +kernel
theorem iX11_learnFromFailure_X9 : ∀ w ∈ u_ws RX9 TX9 6, w ∈ wsX11_learnFromFailure := by decide +kernel
def wpX11_learnFromFailure_b50  (Q : Int32 → PS → Prop) : Nat → PS → Nat → Int64 → Int64 → Int32 → Prop
  | 0 => fun _ _ _ _ _ => False
  | n + 1 => fun S x0 x1 x3 x5 => (pK S x0 = 10 ∧ (∃ o2, pR S x0 1 = some o2 ∧ (pK S o2 = 8 ∧ (((pI S o2 4) ≤ x5 → (wpX11_keepSet S x0 x1 (fun S5 => (pK S5 x0 = 10 ∧ (∃ o7, pR S5 x0 1 = some o7 ∧ (pK S5 o7 = 8 ∧ (wpX9_takeBack S5 o7 (fun r9 S10 => (pK S10 x0 = 10 ∧ (∃ o12, pR S10 x0 1 = some o12 ∧ (wpX11_propagate S10 x0 o12 (fun S14 => (wpJ13_bitCount_95d88 S14 x1 (fun r15 S16 => (Q r15 S16))))))))))))))) ∧ (¬ (pI S o2 4) ≤ x5 → (wpX9_decisionAt S o2 x5 (fun r17 S18 => (pK S18 x0 = 10 ∧ (∃ o20, pR S18 x0 2 = some o20 ∧ (∃ o21, pR S18 x0 6 = some o21 ∧ (pK S18 o21 = 5 ∧ (wpX5_assigned S18 x3 (x1 &&& (r17 ^^^ (-1 : Int64))) (fun r23 S24 => (pK S24 o20 = 8 ∧ (wpX9_begin S24 o20 (pI S18 o21 1) r23 (fun S27 => (pK S27 x0 = 10 ∧ (∃ o29, pR S27 x0 2 = some o29 ∧ (wpX11_propagate S27 x0 o29 (fun S31 => (pK S31 x0 = 10 ∧ (∃ o33, pR S31 x0 2 = some o33 ∧ (pK S31 o33 = 8 ∧ (wpX9_hasFailed S31 o33 (fun r35 S36 => ((r35 = 0 → (wpX11_learnFromFailure_b50 Q n S36 x0 x1 x3 (x5 + 1))) ∧ (¬ r35 = 0 → (wpX11_learnFromFailure_b50 Q n S36 x0 (x1 &&& (r17 ^^^ (-1 : Int64))) x3 (x5 + 1)))))))))))))))))))))))))))))
def wpX11_learnFromFailure_b4  (Q : Int32 → PS → Prop) : Nat → PS → Nat → Int64 → Int32 → Prop
  | 0 => fun _ _ _ _ => False
  | n + 1 => fun S x0 x1 x3 => (pK S x0 = 10 ∧ (∃ o38, pR S x0 1 = some o38 ∧ (pK S o38 = 8 ∧ (((pI S o38 4) ≤ x3 → (∃ o40, pR S x0 6 = some o40 ∧ (pK S o40 = 5 ∧ (wpX9_groundDomains S o38 (pJ S o40 3) (fun r42 S43 => (∃ n9 : Nat, wpX11_learnFromFailure_b50 Q n9 S43 x0 x1 r42 (0 : Int32))))))) ∧ (¬ (pI S o38 4) ≤ x3 → (wpX9_decisionAt S o38 x3 (fun r44 S45 => (wpX11_learnFromFailure_b4 Q n S45 x0 (x1 ||| r44) (x3 + 1)))))))))
def wpX11_learnFromFailure (S : PS) (x0 : Nat) (Q : Int32 → PS → Prop) : Prop := (∃ n9 : Nat, wpX11_learnFromFailure_b4 Q n9 S x0 (0 : Int64) (0 : Int32))
set_option maxRecDepth 100000 in
set_option maxHeartbeats 4000000 in
theorem cbX11_learnFromFailure_b50 {p : Program} {l : Launch} {e : Env} {s : State} {m : MethodId} {args : Array Value} {below : List Frame} {meth : Method} {c : Code} {G : PG} {Q : Int32 → PS → Prop} (C : pCx p s m args meth c G cX11_learnFromFailure 8 yX11_learnFromFailure.cls wsX11_learnFromFailure) (hr : meth.sig.returnType = (some .int)) (hin : meth.name = yX11_learnFromFailure.name) (hZ : pZa G)  (n : Nat) : ∀ (S : PS) (x0 : Nat) (x1 : Int64) (x3 : Int64) (x5 : Int32), wpX11_learnFromFailure_b50  Q n S x0 x1 x3 x5 → PW p l e rmX11_learnFromFailure s m args below meth c (MQ below (va_Qi Q (pB G) (pFr G)) args s rmX11_learnFromFailure.cells rmX11_learnFromFailure.slots (pFr G)) G 8 S 0 0 [(0, .ref (G.2.2 + x0)), (1, .long x1), (3, .long x3), (5, .int x5)] 50 ([]) := by
  induction n with
  | zero => intro S x0 x1 x3 x5 h; exact h.elim
  | succ n ih =>
    intro S x0 x1 x3 x5 h
    unfold wpX11_learnFromFailure_b50 at h
    refine pw_iload (pc := 50) C 3 dX11_learnFromFailure_50 rfl ?_
    refine pw_aload_n (pc := 52) C 0 dX11_learnFromFailure_52 rfl rfl ?_
    obtain ⟨hk1, h⟩ := h
    obtain ⟨o2, ho2, h⟩ := h
    refine pw_getR (pc := 53) (ref := "SupportSolver") (k := 1) (index := 19) C pCl9 iX11_learnFromFailure_X11 hk1 rfl (by decide +kernel) (Or.inl rfl) (o := o2) ho2 dX11_learnFromFailure_53 ?_
    obtain ⟨hk3, h⟩ := h
    refine pw_getI (pc := 56) (ref := "SupportSolver$Trail") (k := 4) (index := 123) C pCl7 iX11_learnFromFailure_X9 hk3 rfl (by decide +kernel) (Or.inl rfl) dX11_learnFromFailure_56 ?_
    refine pw_icmp_ge (pc := 59) (tgt := 126) C dX11_learnFromFailure_59 rfl ⟨fun hc => ?_, fun hc => ?_⟩
    · replace h := h.1 hc
      refine pw_aload_n (pc := 126) C 0 dX11_learnFromFailure_126 rfl rfl ?_
      refine pw_lload_n (pc := 127) C 1 dX11_learnFromFailure_127 rfl rfl ?_
      refine pw_callv (pc := 128) (kc2 := 0) (kn2 := 0) (pRunV (pc := 128) C (ctX11_keepSet l G hZ  _ x0 x1 _ h) (cwV 1 C.2.2.2.2.1 gX11_learnFromFailure_X11_keepSet rfl rfl rfl (by decide +kernel) ⟨Nat.le_of_ble_eq_true rfl, Nat.le_of_ble_eq_true rfl⟩) pCl9 hk1 rfl rfl (Nat.le_of_ble_eq_true rfl) dX11_learnFromFailure_128 ⟨Nat.le_of_ble_eq_true rfl, Nat.le_of_ble_eq_true rfl⟩) rfl rfl (fun S5 h => ?_)
      refine pw_aload_n (pc := 131) C 0 dX11_learnFromFailure_131 rfl rfl ?_
      obtain ⟨hk6, h⟩ := h
      obtain ⟨o7, ho7, h⟩ := h
      refine pw_getR (pc := 132) (ref := "SupportSolver") (k := 1) (index := 19) C pCl9 iX11_learnFromFailure_X11 hk6 rfl (by decide +kernel) (Or.inl rfl) (o := o7) ho7 dX11_learnFromFailure_132 ?_
      obtain ⟨hk8, h⟩ := h
      refine pw_calli (pc := 135) (kc2 := 0) (kn2 := 0) (pRunV (pc := 135) C (ctX9_takeBack l G hZ  _ o7 _ h) (cwV 0 C.2.2.2.2.1 gX11_learnFromFailure_X9_takeBack rfl rfl rfl (by decide +kernel) ⟨Nat.le_of_ble_eq_true rfl, Nat.le_of_ble_eq_true rfl⟩) pCl7 hk8 rfl rfl (Nat.le_of_ble_eq_true rfl) dX11_learnFromFailure_135 ⟨Nat.le_of_ble_eq_true rfl, Nat.le_of_ble_eq_true rfl⟩) rfl rfl (fun r9 S10 h => ?_)
      refine pw_pop (pc := 138) C dX11_learnFromFailure_138 rfl ?_
      refine pw_aload_n (pc := 139) C 0 dX11_learnFromFailure_139 rfl rfl ?_
      refine pw_aload_n (pc := 140) C 0 dX11_learnFromFailure_140 rfl rfl ?_
      obtain ⟨hk11, h⟩ := h
      obtain ⟨o12, ho12, h⟩ := h
      refine pw_getR (pc := 141) (ref := "SupportSolver") (k := 1) (index := 19) C pCl9 iX11_learnFromFailure_X11 hk11 rfl (by decide +kernel) (Or.inl rfl) (o := o12) ho12 dX11_learnFromFailure_141 ?_
      refine pw_callv (pc := 144) (kc2 := 0) (kn2 := 0) (pRunV (pc := 144) C (ctX11_propagate l G hZ  _ x0 o12 _ h) (cwV 1 C.2.2.2.2.1 gX11_learnFromFailure_X11_propagate rfl rfl rfl (by decide +kernel) ⟨Nat.le_of_ble_eq_true rfl, Nat.le_of_ble_eq_true rfl⟩) pCl9 hk11 rfl rfl (Nat.le_of_ble_eq_true rfl) dX11_learnFromFailure_144 ⟨Nat.le_of_ble_eq_true rfl, Nat.le_of_ble_eq_true rfl⟩) rfl rfl (fun S14 h => ?_)
      refine pw_lload_n (pc := 147) C 1 dX11_learnFromFailure_147 rfl rfl ?_
      refine pw_calli (pc := 148) (kc2 := 0) (kn2 := 0) (pRunS (pc := 148) C (ctJ13_bitCount_95d88 l G  _ x1 _ h) (va_cwS 1 C.2.2.2.2.1 gX11_learnFromFailure_J13_bitCount_95d88 rfl rfl rfl (by decide +kernel) ⟨Nat.le_of_ble_eq_true rfl, Nat.le_of_ble_eq_true rfl⟩) rfl rfl (Nat.le_of_ble_eq_true rfl) dX11_learnFromFailure_148 ⟨Nat.le_of_ble_eq_true rfl, Nat.le_of_ble_eq_true rfl⟩) rfl rfl (fun r15 S16 h => ?_)
      exact pw_iret (pc := 151) C hr h dX11_learnFromFailure_151
    · replace h := h.2 hc
      refine pw_lload_n (pc := 62) C 1 dX11_learnFromFailure_62 rfl rfl ?_
      refine pw_aload_n (pc := 63) C 0 dX11_learnFromFailure_63 rfl rfl ?_
      refine pw_getR (pc := 64) (ref := "SupportSolver") (k := 1) (index := 19) C pCl9 iX11_learnFromFailure_X11 hk1 rfl (by decide +kernel) (Or.inl rfl) (o := o2) ho2 dX11_learnFromFailure_64 ?_
      refine pw_iload (pc := 67) C 3 dX11_learnFromFailure_67 rfl ?_
      refine pw_calll (pc := 69) (kc2 := 0) (kn2 := 0) (pRunV (pc := 69) C (ctX9_decisionAt l G hZ  _ o2 x5 _ h) (cwV 1 C.2.2.2.2.1 gX11_learnFromFailure_X9_decisionAt rfl rfl rfl (by decide +kernel) ⟨Nat.le_of_ble_eq_true rfl, Nat.le_of_ble_eq_true rfl⟩) pCl7 hk3 rfl rfl (Nat.le_of_ble_eq_true rfl) dX11_learnFromFailure_69 ⟨Nat.le_of_ble_eq_true rfl, Nat.le_of_ble_eq_true rfl⟩) rfl rfl (fun r17 S18 h => ?_)
      refine pw_ldc2 (pc := 72) (v := (-1)) C (by decide +kernel) dX11_learnFromFailure_72 ?_
      refine pw_lxor (pc := 75) C dX11_learnFromFailure_75 ?_
      refine pw_land (pc := 76) C dX11_learnFromFailure_76 ?_
      refine pw_lstore (pc := 77) C [(6, .long (x1 &&& (r17 ^^^ (-1 : Int64)))), (0, .ref (G.2.2 + x0)), (1, .long x1), (3, .long x3), (5, .int x5)] dX11_learnFromFailure_77 (by decide) rfl ?_
      refine pw_aload_n (pc := 79) C 1 dX11_learnFromFailure_79 rfl rfl ?_
      obtain ⟨hk19, h⟩ := h
      obtain ⟨o20, ho20, h⟩ := h
      refine pw_getR (pc := 80) (ref := "SupportSolver") (k := 2) (index := 23) C pCl9 iX11_learnFromFailure_X11 hk19 rfl (by decide +kernel) (Or.inl rfl) (o := o20) ho20 dX11_learnFromFailure_80 ?_
      refine pw_aload_n (pc := 83) C 1 dX11_learnFromFailure_83 rfl rfl ?_
      obtain ⟨o21, ho21, h⟩ := h
      refine pw_getR (pc := 84) (ref := "SupportSolver") (k := 6) (index := 47) C pCl9 iX11_learnFromFailure_X11 hk19 rfl (by decide +kernel) (Or.inl rfl) (o := o21) ho21 dX11_learnFromFailure_84 ?_
      obtain ⟨hk22, h⟩ := h
      refine pw_getI (pc := 87) (ref := "SupportSolver$Problem") (k := 1) (index := 93) C pCl4 iX11_learnFromFailure_X6 hk22 rfl (by decide +kernel) (Or.inl rfl) dX11_learnFromFailure_87 ?_
      refine pw_lload_n (pc := 90) C 3 dX11_learnFromFailure_90 rfl rfl ?_
      refine pw_lload (pc := 91) C 0 dX11_learnFromFailure_91 rfl ?_
      refine pw_calll (pc := 93) (kc2 := 0) (kn2 := 0) (pRunS (pc := 93) C (ctX5_assigned l G hZ  _ x3 (x1 &&& (r17 ^^^ (-1 : Int64))) _ h) (va_cwS 2 C.2.2.2.2.1 gX11_learnFromFailure_X5_assigned rfl rfl rfl (by decide +kernel) ⟨Nat.le_of_ble_eq_true rfl, Nat.le_of_ble_eq_true rfl⟩) rfl rfl (Nat.le_of_ble_eq_true rfl) dX11_learnFromFailure_93 ⟨Nat.le_of_ble_eq_true rfl, Nat.le_of_ble_eq_true rfl⟩) rfl rfl (fun r23 S24 h => ?_)
      obtain ⟨hk25, h⟩ := h
      refine pw_callv (pc := 96) (kc2 := 0) (kn2 := 0) (pRunV (pc := 96) C (ctX9_begin l G hZ  _ o20 (pI S18 o21 1) r23 _ h) (cwV 2 C.2.2.2.2.1 gX11_learnFromFailure_X9_begin rfl rfl rfl (by decide +kernel) ⟨Nat.le_of_ble_eq_true rfl, Nat.le_of_ble_eq_true rfl⟩) pCl7 hk25 rfl rfl (Nat.le_of_ble_eq_true rfl) dX11_learnFromFailure_96 ⟨Nat.le_of_ble_eq_true rfl, Nat.le_of_ble_eq_true rfl⟩) rfl rfl (fun S27 h => ?_)
      refine pw_aload_n (pc := 99) C 1 dX11_learnFromFailure_99 rfl rfl ?_
      refine pw_aload_n (pc := 100) C 1 dX11_learnFromFailure_100 rfl rfl ?_
      obtain ⟨hk28, h⟩ := h
      obtain ⟨o29, ho29, h⟩ := h
      refine pw_getR (pc := 101) (ref := "SupportSolver") (k := 2) (index := 23) C pCl9 iX11_learnFromFailure_X11 hk28 rfl (by decide +kernel) (Or.inl rfl) (o := o29) ho29 dX11_learnFromFailure_101 ?_
      refine pw_callv (pc := 104) (kc2 := 0) (kn2 := 0) (pRunV (pc := 104) C (ctX11_propagate l G hZ  _ x0 o29 _ h) (cwV 1 C.2.2.2.2.1 gX11_learnFromFailure_X11_propagate rfl rfl rfl (by decide +kernel) ⟨Nat.le_of_ble_eq_true rfl, Nat.le_of_ble_eq_true rfl⟩) pCl9 hk28 rfl rfl (Nat.le_of_ble_eq_true rfl) dX11_learnFromFailure_104 ⟨Nat.le_of_ble_eq_true rfl, Nat.le_of_ble_eq_true rfl⟩) rfl rfl (fun S31 h => ?_)
      refine pw_aload_n (pc := 107) C 1 dX11_learnFromFailure_107 rfl rfl ?_
      obtain ⟨hk32, h⟩ := h
      obtain ⟨o33, ho33, h⟩ := h
      refine pw_getR (pc := 108) (ref := "SupportSolver") (k := 2) (index := 23) C pCl9 iX11_learnFromFailure_X11 hk32 rfl (by decide +kernel) (Or.inl rfl) (o := o33) ho33 dX11_learnFromFailure_108 ?_
      obtain ⟨hk34, h⟩ := h
      refine pw_calli (pc := 111) (kc2 := 0) (kn2 := 0) (pRunV (pc := 111) C (ctX9_hasFailed l G hZ  _ o33 _ h) (cwV 0 C.2.2.2.2.1 gX11_learnFromFailure_X9_hasFailed rfl rfl rfl (by decide +kernel) ⟨Nat.le_of_ble_eq_true rfl, Nat.le_of_ble_eq_true rfl⟩) pCl7 hk34 rfl rfl (Nat.le_of_ble_eq_true rfl) dX11_learnFromFailure_111 ⟨Nat.le_of_ble_eq_true rfl, Nat.le_of_ble_eq_true rfl⟩) rfl rfl (fun r35 S36 h => ?_)
      refine pw_if_eq (pc := 114) (tgt := 120) C dX11_learnFromFailure_114 rfl ⟨fun hc => ?_, fun hc => ?_⟩
      · replace h := h.1 hc
        refine pw_iincK (pc := 120) (w := 1) C [(5, .int (x5 + 1)), (6, .long (x1 &&& (r17 ^^^ (-1 : Int64)))), (0, .ref (G.2.2 + x0)), (1, .long x1), (3, .long x3)] 4 dX11_learnFromFailure_120 (by decide) rfl (by decide) rfl ?_
        refine pw_goto (pc := 123) (tgt := 50) C dX11_learnFromFailure_123 rfl ?_
        refine pw_sub [2, 3, 4, 0] (LV2 := [(0, .ref (G.2.2 + x0)), (1, .long x1), (3, .long x3), (5, .int (x5 + 1))]) rfl ?_
        exact ih _ _ _ _ _ h
      · replace h := h.2 hc
        refine pw_lload (pc := 117) C 0 dX11_learnFromFailure_117 rfl ?_
        refine pw_lstore_n (pc := 119) C [(1, .long (x1 &&& (r17 ^^^ (-1 : Int64)))), (6, .long (x1 &&& (r17 ^^^ (-1 : Int64)))), (0, .ref (G.2.2 + x0)), (3, .long x3), (5, .int x5)] dX11_learnFromFailure_119 rfl (by decide) rfl ?_
        refine pw_iincK (pc := 120) (w := 1) C [(5, .int (x5 + 1)), (1, .long (x1 &&& (r17 ^^^ (-1 : Int64)))), (6, .long (x1 &&& (r17 ^^^ (-1 : Int64)))), (0, .ref (G.2.2 + x0)), (3, .long x3)] 4 dX11_learnFromFailure_120 (by decide) rfl (by decide) rfl ?_
        refine pw_goto (pc := 123) (tgt := 50) C dX11_learnFromFailure_123 rfl ?_
        refine pw_sub [3, 1, 4, 0] (LV2 := [(0, .ref (G.2.2 + x0)), (1, .long (x1 &&& (r17 ^^^ (-1 : Int64)))), (3, .long x3), (5, .int (x5 + 1))]) rfl ?_
        exact ih _ _ _ _ _ h
set_option maxRecDepth 100000 in
set_option maxHeartbeats 4000000 in
theorem cbX11_learnFromFailure_b4 {p : Program} {l : Launch} {e : Env} {s : State} {m : MethodId} {args : Array Value} {below : List Frame} {meth : Method} {c : Code} {G : PG} {Q : Int32 → PS → Prop} (C : pCx p s m args meth c G cX11_learnFromFailure 8 yX11_learnFromFailure.cls wsX11_learnFromFailure) (hr : meth.sig.returnType = (some .int)) (hin : meth.name = yX11_learnFromFailure.name) (hZ : pZa G)  (n : Nat) : ∀ (S : PS) (x0 : Nat) (x1 : Int64) (x3 : Int32), wpX11_learnFromFailure_b4  Q n S x0 x1 x3 → PW p l e rmX11_learnFromFailure s m args below meth c (MQ below (va_Qi Q (pB G) (pFr G)) args s rmX11_learnFromFailure.cells rmX11_learnFromFailure.slots (pFr G)) G 8 S 0 0 [(0, .ref (G.2.2 + x0)), (1, .long x1), (3, .int x3)] 4 ([]) := by
  induction n with
  | zero => intro S x0 x1 x3 h; exact h.elim
  | succ n ih =>
    intro S x0 x1 x3 h
    unfold wpX11_learnFromFailure_b4 at h
    refine pw_iload_n (pc := 4) C 2 dX11_learnFromFailure_4 rfl rfl ?_
    refine pw_aload_n (pc := 5) C 0 dX11_learnFromFailure_5 rfl rfl ?_
    obtain ⟨hk37, h⟩ := h
    obtain ⟨o38, ho38, h⟩ := h
    refine pw_getR (pc := 6) (ref := "SupportSolver") (k := 1) (index := 19) C pCl9 iX11_learnFromFailure_X11 hk37 rfl (by decide +kernel) (Or.inl rfl) (o := o38) ho38 dX11_learnFromFailure_6 ?_
    obtain ⟨hk39, h⟩ := h
    refine pw_getI (pc := 9) (ref := "SupportSolver$Trail") (k := 4) (index := 123) C pCl7 iX11_learnFromFailure_X9 hk39 rfl (by decide +kernel) (Or.inl rfl) dX11_learnFromFailure_9 ?_
    refine pw_icmp_ge (pc := 12) (tgt := 32) C dX11_learnFromFailure_12 rfl ⟨fun hc => ?_, fun hc => ?_⟩
    · replace h := h.1 hc
      refine pw_aload_n (pc := 32) C 0 dX11_learnFromFailure_32 rfl rfl ?_
      refine pw_getR (pc := 33) (ref := "SupportSolver") (k := 1) (index := 19) C pCl9 iX11_learnFromFailure_X11 hk37 rfl (by decide +kernel) (Or.inl rfl) (o := o38) ho38 dX11_learnFromFailure_33 ?_
      refine pw_aload_n (pc := 36) C 0 dX11_learnFromFailure_36 rfl rfl ?_
      obtain ⟨o40, ho40, h⟩ := h
      refine pw_getR (pc := 37) (ref := "SupportSolver") (k := 6) (index := 47) C pCl9 iX11_learnFromFailure_X11 hk37 rfl (by decide +kernel) (Or.inl rfl) (o := o40) ho40 dX11_learnFromFailure_37 ?_
      obtain ⟨hk41, h⟩ := h
      refine pw_getJ (pc := 40) (ref := "SupportSolver$Problem") (k := 3) (index := 96) C pCl4 iX11_learnFromFailure_X6 hk41 rfl (by decide +kernel) (Or.inl rfl) dX11_learnFromFailure_40 ?_
      refine pw_calll (pc := 43) (kc2 := 0) (kn2 := 0) (pRunV (pc := 43) C (ctX9_groundDomains l G hZ  _ o38 (pJ S o40 3) _ h) (cwV 1 C.2.2.2.2.1 gX11_learnFromFailure_X9_groundDomains rfl rfl rfl (by decide +kernel) ⟨Nat.le_of_ble_eq_true rfl, Nat.le_of_ble_eq_true rfl⟩) pCl7 hk39 rfl rfl (Nat.le_of_ble_eq_true rfl) dX11_learnFromFailure_43 ⟨Nat.le_of_ble_eq_true rfl, Nat.le_of_ble_eq_true rfl⟩) rfl rfl (fun r42 S43 h => ?_)
      refine pw_lstore_n (pc := 46) C [(3, .long r42), (0, .ref (G.2.2 + x0)), (1, .long x1)] dX11_learnFromFailure_46 rfl (by decide) rfl ?_
      refine pw_iconst (pc := 47) (v := 0 ) C dX11_learnFromFailure_47 (by decide) ?_
      refine pw_istore (pc := 48) C [(5, .int (0 : Int32)), (3, .long r42), (0, .ref (G.2.2 + x0)), (1, .long x1)] dX11_learnFromFailure_48 (by decide) rfl ?_
      refine pw_sub [2, 3, 1, 0] (LV2 := [(0, .ref (G.2.2 + x0)), (1, .long x1), (3, .long r42), (5, .int (0 : Int32))]) rfl ?_
      obtain ⟨n9, h⟩ := h
      exact cbX11_learnFromFailure_b50 C hr hin hZ  n9 _ _ _ _ _ h
    · replace h := h.2 hc
      refine pw_lload_n (pc := 15) C 1 dX11_learnFromFailure_15 rfl rfl ?_
      refine pw_aload_n (pc := 16) C 0 dX11_learnFromFailure_16 rfl rfl ?_
      refine pw_getR (pc := 17) (ref := "SupportSolver") (k := 1) (index := 19) C pCl9 iX11_learnFromFailure_X11 hk37 rfl (by decide +kernel) (Or.inl rfl) (o := o38) ho38 dX11_learnFromFailure_17 ?_
      refine pw_iload_n (pc := 20) C 2 dX11_learnFromFailure_20 rfl rfl ?_
      refine pw_calll (pc := 21) (kc2 := 0) (kn2 := 0) (pRunV (pc := 21) C (ctX9_decisionAt l G hZ  _ o38 x3 _ h) (cwV 1 C.2.2.2.2.1 gX11_learnFromFailure_X9_decisionAt rfl rfl rfl (by decide +kernel) ⟨Nat.le_of_ble_eq_true rfl, Nat.le_of_ble_eq_true rfl⟩) pCl7 hk39 rfl rfl (Nat.le_of_ble_eq_true rfl) dX11_learnFromFailure_21 ⟨Nat.le_of_ble_eq_true rfl, Nat.le_of_ble_eq_true rfl⟩) rfl rfl (fun r44 S45 h => ?_)
      refine pw_lor (pc := 24) C dX11_learnFromFailure_24 ?_
      refine pw_lstore_n (pc := 25) C [(1, .long (x1 ||| r44)), (0, .ref (G.2.2 + x0)), (3, .int x3)] dX11_learnFromFailure_25 rfl (by decide) rfl ?_
      refine pw_iincK (pc := 26) (w := 1) C [(3, .int (x3 + 1)), (1, .long (x1 ||| r44)), (0, .ref (G.2.2 + x0))] 2 dX11_learnFromFailure_26 (by decide) rfl (by decide) rfl ?_
      refine pw_goto (pc := 29) (tgt := 4) C dX11_learnFromFailure_29 rfl ?_
      refine pw_sub [2, 1, 0] (LV2 := [(0, .ref (G.2.2 + x0)), (1, .long (x1 ||| r44)), (3, .int (x3 + 1))]) rfl ?_
      exact ih _ _ _ _ h
set_option maxRecDepth 100000 in
set_option maxHeartbeats 4000000 in
theorem ctX11_learnFromFailure (l : Launch) (G : PG) (hZ : pZa G) (S : PS) (x0 : Nat) (Q : Int32 → PS → Prop) (h : wpX11_learnFromFailure S x0 Q) : mI l yX11_learnFromFailure wsX11_learnFromFailure rmX11_learnFromFailure G S [.ref (G.2.2 + x0)] Q := by
  unfold mI
  refine met_of (cc := cX11_learnFromFailure) (maxL := 8) (ret := (some .int)) (by decide) rfl (Nat.le_of_ble_eq_true rfl) ?_
  intro p e s m args below meth c C hr hin
  unfold wpX11_learnFromFailure at h
  show PW p l e _ s m args below meth c _ G 8 S 0 0 [(0, .ref (G.2.2 + x0))] 0 []
  refine pw_lconst (pc := 0) (v := 0) C dX11_learnFromFailure_0 (by decide) ?_
  refine pw_lstore_n (pc := 1) C [(1, .long (0 : Int64)), (0, .ref (G.2.2 + x0))] dX11_learnFromFailure_1 rfl (by decide) rfl ?_
  refine pw_iconst (pc := 2) (v := 0 ) C dX11_learnFromFailure_2 (by decide) ?_
  refine pw_istore_n (pc := 3) C [(3, .int (0 : Int32)), (1, .long (0 : Int64)), (0, .ref (G.2.2 + x0))] dX11_learnFromFailure_3 rfl (by decide) rfl ?_
  refine pw_sub [2, 1, 0] (LV2 := [(0, .ref (G.2.2 + x0)), (1, .long (0 : Int64)), (3, .int (0 : Int32))]) rfl ?_
  obtain ⟨n9, h⟩ := h
  exact cbX11_learnFromFailure_b4 C hr hin hZ  n9 _ _ _ _ h

abbrev rmX11_learn : Room := { frames := 16, cells := 1, slots := 6, locals := 446 }
theorem iX11_learn_X11 : ∀ w ∈ u_ws RX11 TX11 9, w ∈ wsX11_learn := by decide +kernel
theorem iX11_learn_X9 : ∀ w ∈ u_ws RX9 TX9 6, w ∈ wsX11_learn := by decide +kernel
def wpX11_learn_b20  (Q : Int32 → PS → Prop) (X : String → PS → Prop) (S : PS) (x0 : Nat) : Prop := (∀ n, X "java/lang/IllegalStateException" (sSkip S n))
def wpX11_learn (S : PS) (x0 : Nat) (Q : Int32 → PS → Prop) (X : String → PS → Prop) : Prop := (pK S x0 = 10 ∧ (∃ o2, pR S x0 1 = some o2 ∧ (pK S o2 = 8 ∧ (wpX9_hasFailed S o2 (fun r4 S5 => ((r4 = 0 → (wpX11_learn_b20 Q X S5 x0)) ∧ (¬ r4 = 0 → (pK S5 x0 = 10 ∧ (∃ o7, pR S5 x0 1 = some o7 ∧ (pK S5 o7 = 8 ∧ ((¬ (pI S5 o7 4) = 0 → (wpX11_learnFromFailure S5 x0 (fun r9 S10 => (Q r9 S10)))) ∧ ((pI S5 o7 4) = 0 → (wpX11_learn_b20 Q X S5 x0)))))))))))))
set_option maxRecDepth 100000 in
set_option maxHeartbeats 4000000 in
theorem cbX11_learn_b20 {p : Program} {l : Launch} {e : Env} {s : State} {m : MethodId} {args : Array Value} {below : List Frame} {meth : Method} {c : Code} {G : PG} {Q : Int32 → PS → Prop} {X : String → PS → Prop} (C : pCx p s m args meth c G cX11_learn 1 yX11_learn.cls wsX11_learn) (hr : meth.sig.returnType = (some .int)) (hin : meth.name = yX11_learn.name) (hZ : pZa G) (hout : ∀ x ∈ c.exceptionTable.toList, False) (hl : l.stackTraces = false)  : ∀ (S : PS) (x0 : Nat), wpX11_learn_b20  Q X S x0 → PW p l e rmX11_learn s m args below meth c (vx_MQ below (va_Qi Q (pB G) (pFr G)) (pXC G X) args s rmX11_learn.cells rmX11_learn.slots (pFr G)) G 1 S 0 0 [(0, .ref (G.2.2 + x0))] 20 ([]) := by
  intro S x0 h
  unfold wpX11_learn_b20 at h
  exact pw_throwSW (pc := 20) (mc := 1) (ms := 6) C hl (hZ.2.2.2.2.2.2.2.2.2.2.2.2.2.2.2.2.2.2.2.2.2.2.2.2.2.2.2.2.2.2.2.2.2.2.2.2.2.2.2.2.2.2.2.2.2.2.2.2.2.2.1) (by decide +kernel) (by decide +kernel) (by decide +kernel) hout dX11_learn_20 dX11_learn_23 dX11_learn_24 dX11_learn_27 dX11_learn_30 (by decide) (Nat.le_of_ble_eq_true rfl) (Nat.le_of_ble_eq_true rfl) (Nat.le_of_ble_eq_true rfl) (Nat.le_of_ble_eq_true rfl) (Nat.le_of_ble_eq_true rfl) h
set_option maxRecDepth 100000 in
set_option maxHeartbeats 4000000 in
theorem ctX11_learn (l : Launch) (G : PG) (hZ : pZa G) (hl : l.stackTraces = false) (S : PS) (x0 : Nat) (Q : Int32 → PS → Prop) (X : String → PS → Prop) (h : wpX11_learn S x0 Q X) : mXI l yX11_learn wsX11_learn rmX11_learn G S [.ref (G.2.2 + x0)] Q X := by
  unfold mXI
  refine met_ofX (cc := cX11_learn) (maxL := 1) (ret := (some .int)) (by decide) rfl (Nat.le_of_ble_eq_true rfl) ?_
  intro p e s m args below meth c C hout hr hin
  unfold wpX11_learn at h
  show PW p l e _ s m args below meth c _ G 1 S 0 0 [(0, .ref (G.2.2 + x0))] 0 []
  refine pw_aload_n (pc := 0) C 0 dX11_learn_0 rfl rfl ?_
  obtain ⟨hk1, h⟩ := h
  obtain ⟨o2, ho2, h⟩ := h
  refine pw_getR (pc := 1) (ref := "SupportSolver") (k := 1) (index := 19) C pCl9 iX11_learn_X11 hk1 rfl (by decide +kernel) (Or.inl rfl) (o := o2) ho2 dX11_learn_1 ?_
  obtain ⟨hk3, h⟩ := h
  refine pw_calli (pc := 4) (kc2 := 0) (kn2 := 0) (pRunV (pc := 4) C (ctX9_hasFailed l G hZ  _ o2 _ h) (cwV 0 C.2.2.2.2.1 gX11_learn_X9_hasFailed rfl rfl rfl (by decide +kernel) ⟨Nat.le_of_ble_eq_true rfl, Nat.le_of_ble_eq_true rfl⟩) pCl7 hk3 rfl rfl (Nat.le_of_ble_eq_true rfl) dX11_learn_4 ⟨Nat.le_of_ble_eq_true rfl, Nat.le_of_ble_eq_true rfl⟩) rfl rfl (fun r4 S5 h => ?_)
  refine pw_if_eq (pc := 7) (tgt := 20) C dX11_learn_7 rfl ⟨fun hc => ?_, fun hc => ?_⟩
  · replace h := h.1 hc
    exact cbX11_learn_b20 C hr hin hZ hout hl  _ _ h
  · replace h := h.2 hc
    refine pw_aload_n (pc := 10) C 0 dX11_learn_10 rfl rfl ?_
    obtain ⟨hk6, h⟩ := h
    obtain ⟨o7, ho7, h⟩ := h
    refine pw_getR (pc := 11) (ref := "SupportSolver") (k := 1) (index := 19) C pCl9 iX11_learn_X11 hk6 rfl (by decide +kernel) (Or.inl rfl) (o := o7) ho7 dX11_learn_11 ?_
    obtain ⟨hk8, h⟩ := h
    refine pw_getI (pc := 14) (ref := "SupportSolver$Trail") (k := 4) (index := 123) C pCl7 iX11_learn_X9 hk8 rfl (by decide +kernel) (Or.inl rfl) dX11_learn_14 ?_
    refine pw_if_ne (pc := 17) (tgt := 31) C dX11_learn_17 rfl ⟨fun hc => ?_, fun hc => ?_⟩
    · replace h := h.1 hc
      refine pw_aload_n (pc := 31) C 0 dX11_learn_31 rfl rfl ?_
      refine pw_calli (pc := 32) (kc2 := 0) (kn2 := 0) (pRunV (pc := 32) C (ctX11_learnFromFailure l G hZ  _ x0 _ h) (cwV 0 C.2.2.2.2.1 gX11_learn_X11_learnFromFailure rfl rfl rfl (by decide +kernel) ⟨Nat.le_of_ble_eq_true rfl, Nat.le_of_ble_eq_true rfl⟩) pCl9 hk6 rfl rfl (Nat.le_of_ble_eq_true rfl) dX11_learn_32 ⟨Nat.le_of_ble_eq_true rfl, Nat.le_of_ble_eq_true rfl⟩) rfl rfl (fun r9 S10 h => ?_)
      refine pw_widen (k2 := 1) (n2 := 6) (Nat.le_of_ble_eq_true rfl) (Nat.le_of_ble_eq_true rfl) ?_
      refine pw_xret ?_
      exact pw_iret (pc := 35) C hr h dX11_learn_35
    · replace h := h.2 hc
      exact cbX11_learn_b20 C hr hin hZ hout hl  _ _ h

abbrev rmX11_learnt : Room := { frames := 6, cells := 1, slots := 6, locals := 90 }
theorem iX11_learnt_X11 : ∀ w ∈ u_ws RX11 TX11 9, w ∈ wsX11_learnt := by decide +kernel
def wpX11_learnt_b28  (Q : Int32 → PS → Prop) (X : String → PS → Prop) (S : PS) (x0 : Nat) (x1 : Int32) (x2 : Int32) : Prop := (∀ n, X "java/lang/IndexOutOfBoundsException" (sSkip S n))
def wpX11_learnt (S : PS) (x0 : Nat) (x1 : Int32) (x2 : Int32) (Q : Int32 → PS → Prop) (X : String → PS → Prop) : Prop := ((x1 < 0 → (wpX11_learnt_b28 Q X S x0 x1 x2)) ∧ (¬ x1 < 0 → (pK S x0 = 10 ∧ (((pI S x0 7) ≤ x1 → (wpX11_learnt_b28 Q X S x0 x1 x2)) ∧ (¬ (pI S x0 7) ≤ x1 → ((x2 < 0 → (wpX11_learnt_b28 Q X S x0 x1 x2)) ∧ (¬ x2 < 0 → (wpX11_setAt S x0 x1 (fun r2 S3 => (wpJ13_bitCount_95d88 S3 r2 (fun r4 S5 => ((x2 < r4 → (pK S5 x0 = 10 ∧ (wpX11_setAt S5 x0 x1 (fun r7 S8 => (wpX5_toldPair S8 r7 x2 (fun r9 S10 => (Q r9 S10))))))) ∧ (¬ x2 < r4 → (wpX11_learnt_b28 Q X S5 x0 x1 x2))))))))))))))
set_option maxRecDepth 100000 in
set_option maxHeartbeats 4000000 in
theorem cbX11_learnt_b28 {p : Program} {l : Launch} {e : Env} {s : State} {m : MethodId} {args : Array Value} {below : List Frame} {meth : Method} {c : Code} {G : PG} {Q : Int32 → PS → Prop} {X : String → PS → Prop} (C : pCx p s m args meth c G cX11_learnt 3 yX11_learnt.cls wsX11_learnt) (hr : meth.sig.returnType = (some .int)) (hin : meth.name = yX11_learnt.name) (hZ : pZa G) (hout : ∀ x ∈ c.exceptionTable.toList, False) (hl : l.stackTraces = false)  : ∀ (S : PS) (x0 : Nat) (x1 : Int32) (x2 : Int32), wpX11_learnt_b28  Q X S x0 x1 x2 → PW p l e rmX11_learnt s m args below meth c (vx_MQ below (va_Qi Q (pB G) (pFr G)) (pXC G X) args s rmX11_learnt.cells rmX11_learnt.slots (pFr G)) G 3 S 0 0 [(0, .ref (G.2.2 + x0)), (1, .int x1), (2, .int x2)] 28 ([]) := by
  intro S x0 x1 x2 h
  unfold wpX11_learnt_b28 at h
  exact pw_throwSW (pc := 28) (mc := 1) (ms := 6) C hl (hZ.2.2.2.2.2.2.2.2.2.2.2.2.2.2.2.2.2.2.2.2.2.2.2.2.2.2.2.2.2.2.2.2.2.2.2.2.2.2.2.2.2.2.2.2.2.2.2.2.2.2.2.1) (by decide +kernel) (by decide +kernel) (by decide +kernel) hout dX11_learnt_28 dX11_learnt_31 dX11_learnt_32 dX11_learnt_35 dX11_learnt_38 (by decide) (Nat.le_of_ble_eq_true rfl) (Nat.le_of_ble_eq_true rfl) (Nat.le_of_ble_eq_true rfl) (Nat.le_of_ble_eq_true rfl) (Nat.le_of_ble_eq_true rfl) h
set_option maxRecDepth 100000 in
set_option maxHeartbeats 4000000 in
theorem ctX11_learnt (l : Launch) (G : PG) (hZ : pZa G) (hl : l.stackTraces = false) (S : PS) (x0 : Nat) (x1 : Int32) (x2 : Int32) (Q : Int32 → PS → Prop) (X : String → PS → Prop) (h : wpX11_learnt S x0 x1 x2 Q X) : mXI l yX11_learnt wsX11_learnt rmX11_learnt G S [.ref (G.2.2 + x0), .int x1, .int x2] Q X := by
  unfold mXI
  refine met_ofX (cc := cX11_learnt) (maxL := 3) (ret := (some .int)) (by decide) rfl (Nat.le_of_ble_eq_true rfl) ?_
  intro p e s m args below meth c C hout hr hin
  unfold wpX11_learnt at h
  show PW p l e _ s m args below meth c _ G 3 S 0 0 [(0, .ref (G.2.2 + x0)), (1, .int x1), (2, .int x2)] 0 []
  refine pw_iload_n (pc := 0) C 1 dX11_learnt_0 rfl rfl ?_
  refine pw_if_lt (pc := 1) (tgt := 28) C dX11_learnt_1 rfl ⟨fun hc => ?_, fun hc => ?_⟩
  · replace h := h.1 hc
    exact cbX11_learnt_b28 C hr hin hZ hout hl  _ _ _ _ h
  · replace h := h.2 hc
    refine pw_iload_n (pc := 4) C 1 dX11_learnt_4 rfl rfl ?_
    refine pw_aload_n (pc := 5) C 0 dX11_learnt_5 rfl rfl ?_
    obtain ⟨hk1, h⟩ := h
    refine pw_getI (pc := 6) (ref := "SupportSolver") (k := 7) (index := 51) C pCl9 iX11_learnt_X11 hk1 rfl (by decide +kernel) (Or.inl rfl) dX11_learnt_6 ?_
    refine pw_icmp_ge (pc := 9) (tgt := 28) C dX11_learnt_9 rfl ⟨fun hc => ?_, fun hc => ?_⟩
    · replace h := h.1 hc
      exact cbX11_learnt_b28 C hr hin hZ hout hl  _ _ _ _ h
    · replace h := h.2 hc
      refine pw_iload_n (pc := 12) C 2 dX11_learnt_12 rfl rfl ?_
      refine pw_if_lt (pc := 13) (tgt := 28) C dX11_learnt_13 rfl ⟨fun hc => ?_, fun hc => ?_⟩
      · replace h := h.1 hc
        exact cbX11_learnt_b28 C hr hin hZ hout hl  _ _ _ _ h
      · replace h := h.2 hc
        refine pw_iload_n (pc := 16) C 2 dX11_learnt_16 rfl rfl ?_
        refine pw_aload_n (pc := 17) C 0 dX11_learnt_17 rfl rfl ?_
        refine pw_iload_n (pc := 18) C 1 dX11_learnt_18 rfl rfl ?_
        refine pw_calll (pc := 19) (kc2 := 0) (kn2 := 0) (pRunV (pc := 19) C (ctX11_setAt l G hZ  _ x0 x1 _ h) (cwV 1 C.2.2.2.2.1 gX11_learnt_X11_setAt rfl rfl rfl (by decide +kernel) ⟨Nat.le_of_ble_eq_true rfl, Nat.le_of_ble_eq_true rfl⟩) pCl9 hk1 rfl rfl (Nat.le_of_ble_eq_true rfl) dX11_learnt_19 ⟨Nat.le_of_ble_eq_true rfl, Nat.le_of_ble_eq_true rfl⟩) rfl rfl (fun r2 S3 h => ?_)
        refine pw_calli (pc := 22) (kc2 := 0) (kn2 := 0) (pRunS (pc := 22) C (ctJ13_bitCount_95d88 l G  _ r2 _ h) (va_cwS 1 C.2.2.2.2.1 gX11_learnt_J13_bitCount_95d88 rfl rfl rfl (by decide +kernel) ⟨Nat.le_of_ble_eq_true rfl, Nat.le_of_ble_eq_true rfl⟩) rfl rfl (Nat.le_of_ble_eq_true rfl) dX11_learnt_22 ⟨Nat.le_of_ble_eq_true rfl, Nat.le_of_ble_eq_true rfl⟩) rfl rfl (fun r4 S5 h => ?_)
        refine pw_icmp_lt (pc := 25) (tgt := 39) C dX11_learnt_25 rfl ⟨fun hc => ?_, fun hc => ?_⟩
        · replace h := h.1 hc
          refine pw_aload_n (pc := 39) C 0 dX11_learnt_39 rfl rfl ?_
          refine pw_iload_n (pc := 40) C 1 dX11_learnt_40 rfl rfl ?_
          obtain ⟨hk6, h⟩ := h
          refine pw_calll (pc := 41) (kc2 := 0) (kn2 := 0) (pRunV (pc := 41) C (ctX11_setAt l G hZ  _ x0 x1 _ h) (cwV 1 C.2.2.2.2.1 gX11_learnt_X11_setAt rfl rfl rfl (by decide +kernel) ⟨Nat.le_of_ble_eq_true rfl, Nat.le_of_ble_eq_true rfl⟩) pCl9 hk6 rfl rfl (Nat.le_of_ble_eq_true rfl) dX11_learnt_41 ⟨Nat.le_of_ble_eq_true rfl, Nat.le_of_ble_eq_true rfl⟩) rfl rfl (fun r7 S8 h => ?_)
          refine pw_iload_n (pc := 44) C 2 dX11_learnt_44 rfl rfl ?_
          refine pw_calli (pc := 45) (kc2 := 0) (kn2 := 0) (pRunS (pc := 45) C (ctX5_toldPair l G hZ  _ r7 x2 _ h) (va_cwS 2 C.2.2.2.2.1 gX11_learnt_X5_toldPair rfl rfl rfl (by decide +kernel) ⟨Nat.le_of_ble_eq_true rfl, Nat.le_of_ble_eq_true rfl⟩) rfl rfl (Nat.le_of_ble_eq_true rfl) dX11_learnt_45 ⟨Nat.le_of_ble_eq_true rfl, Nat.le_of_ble_eq_true rfl⟩) rfl rfl (fun r9 S10 h => ?_)
          refine pw_widen (k2 := 1) (n2 := 6) (Nat.le_of_ble_eq_true rfl) (Nat.le_of_ble_eq_true rfl) ?_
          refine pw_xret ?_
          exact pw_iret (pc := 48) C hr h dX11_learnt_48
        · replace h := h.2 hc
          exact cbX11_learnt_b28 C hr hin hZ hout hl  _ _ _ _ h

abbrev rmX11_variableToDecide : Room := { frames := 1, cells := 0, slots := 0, locals := 22 }
theorem iX11_variableToDecide_X11 : ∀ w ∈ u_ws RX11 TX11 9, w ∈ wsX11_variableToDecide := by decide +kernel
theorem iX11_variableToDecide_X6 : ∀ w ∈ u_ws RX6 TX6 4, w ∈ wsX11_variableToDecide := by decide +kernel
theorem iX11_variableToDecide_X9 : ∀ w ∈ u_ws RX9 TX9 6, w ∈ wsX11_variableToDecide := fun _ h => List.mem_cons_of_mem _ (List.mem_append_right _ h)
def wpX11_variableToDecide_b7  (Q : Int32 → PS → Prop) : Nat → PS → Nat → Int32 → Int32 → Int32 → Prop
  | 0 => fun _ _ _ _ _ => False
  | n + 1 => fun S x0 x1 x2 x3 => (pK S x0 = 10 ∧ (∃ o2, pR S x0 6 = some o2 ∧ (pK S o2 = 5 ∧ (((pI S o2 1) ≤ x3 → (Q x1 S)) ∧ (¬ (pI S o2 1) ≤ x3 → (∃ o4, pR S x0 1 = some o4 ∧ (pK S o4 = 8 ∧ (wpX5_valuesOf S (pJ S o4 5) x3 (fun r6 S7 => (wpJ6_bitCount_0f7a4 S7 r6 (fun r8 S9 => ((r8 ≤ (1 : Int32) → (wpX11_variableToDecide_b7 Q n S9 x0 x1 x2 (x3 + 1))) ∧ (¬ r8 ≤ (1 : Int32) → ((x2 ≤ r8 → (wpX11_variableToDecide_b7 Q n S9 x0 x1 x2 (x3 + 1))) ∧ (¬ x2 ≤ r8 → (wpX11_variableToDecide_b7 Q n S9 x0 x3 r8 (x3 + 1)))))))))))))))))
def wpX11_variableToDecide (S : PS) (x0 : Nat) (Q : Int32 → PS → Prop) : Prop := (∃ n9 : Nat, wpX11_variableToDecide_b7 Q n9 S x0 (-1 : Int32) (6 : Int32) (0 : Int32))
set_option maxRecDepth 100000 in
set_option maxHeartbeats 4000000 in
theorem cbX11_variableToDecide_b7 {p : Program} {l : Launch} {e : Env} {s : State} {m : MethodId} {args : Array Value} {below : List Frame} {meth : Method} {c : Code} {G : PG} {Q : Int32 → PS → Prop} (C : pCx p s m args meth c G cX11_variableToDecide 5 yX11_variableToDecide.cls wsX11_variableToDecide) (hr : meth.sig.returnType = (some .int)) (hin : meth.name = yX11_variableToDecide.name) (hZ : pZa G)  (n : Nat) : ∀ (S : PS) (x0 : Nat) (x1 : Int32) (x2 : Int32) (x3 : Int32), wpX11_variableToDecide_b7  Q n S x0 x1 x2 x3 → PW p l e rmX11_variableToDecide s m args below meth c (MQ below (va_Qi Q (pB G) (pFr G)) args s rmX11_variableToDecide.cells rmX11_variableToDecide.slots (pFr G)) G 5 S 0 0 [(0, .ref (G.2.2 + x0)), (1, .int x1), (2, .int x2), (3, .int x3)] 7 ([]) := by
  induction n with
  | zero => intro S x0 x1 x2 x3 h; exact h.elim
  | succ n ih =>
    intro S x0 x1 x2 x3 h
    unfold wpX11_variableToDecide_b7 at h
    refine pw_iload_n (pc := 7) C 3 dX11_variableToDecide_7 rfl rfl ?_
    refine pw_aload_n (pc := 8) C 0 dX11_variableToDecide_8 rfl rfl ?_
    obtain ⟨hk1, h⟩ := h
    obtain ⟨o2, ho2, h⟩ := h
    refine pw_getR (pc := 9) (ref := "SupportSolver") (k := 6) (index := 47) C pCl9 iX11_variableToDecide_X11 hk1 rfl (by decide +kernel) (Or.inl rfl) (o := o2) ho2 dX11_variableToDecide_9 ?_
    obtain ⟨hk3, h⟩ := h
    refine pw_getI (pc := 12) (ref := "SupportSolver$Problem") (k := 1) (index := 93) C pCl4 iX11_variableToDecide_X6 hk3 rfl (by decide +kernel) (Or.inl rfl) dX11_variableToDecide_12 ?_
    refine pw_icmp_ge (pc := 15) (tgt := 57) C dX11_variableToDecide_15 rfl ⟨fun hc => ?_, fun hc => ?_⟩
    · replace h := h.1 hc
      refine pw_iload_n (pc := 57) C 1 dX11_variableToDecide_57 rfl rfl ?_
      exact pw_iret (pc := 58) C hr h dX11_variableToDecide_58
    · replace h := h.2 hc
      refine pw_aload_n (pc := 18) C 0 dX11_variableToDecide_18 rfl rfl ?_
      obtain ⟨o4, ho4, h⟩ := h
      refine pw_getR (pc := 19) (ref := "SupportSolver") (k := 1) (index := 19) C pCl9 iX11_variableToDecide_X11 hk1 rfl (by decide +kernel) (Or.inl rfl) (o := o4) ho4 dX11_variableToDecide_19 ?_
      obtain ⟨hk5, h⟩ := h
      refine pw_getJ (pc := 22) (ref := "SupportSolver$Trail") (k := 5) (index := 139) C pCl7 iX11_variableToDecide_X9 hk5 rfl (by decide +kernel) (Or.inl rfl) dX11_variableToDecide_22 ?_
      refine pw_iload_n (pc := 25) C 3 dX11_variableToDecide_25 rfl rfl ?_
      refine pw_calli (pc := 26) (kc2 := 0) (kn2 := 0) (pRunS (pc := 26) C (ctX5_valuesOf l G hZ  _ (pJ S o4 5) x3 _ h) (va_cwS 2 C.2.2.2.2.1 gX11_variableToDecide_X5_valuesOf rfl rfl rfl (by decide +kernel) ⟨Nat.le_of_ble_eq_true rfl, Nat.le_of_ble_eq_true rfl⟩) rfl rfl (Nat.le_of_ble_eq_true rfl) dX11_variableToDecide_26 ⟨Nat.le_of_ble_eq_true rfl, Nat.le_of_ble_eq_true rfl⟩) rfl rfl (fun r6 S7 h => ?_)
      refine pw_calli (pc := 29) (kc2 := 0) (kn2 := 0) (pRunS (pc := 29) C (ctJ6_bitCount_0f7a4 l G  _ r6 _ h) (va_cwS 1 C.2.2.2.2.1 gX11_variableToDecide_J6_bitCount_0f7a4 rfl rfl rfl (by decide +kernel) ⟨Nat.le_of_ble_eq_true rfl, Nat.le_of_ble_eq_true rfl⟩) rfl rfl (Nat.le_of_ble_eq_true rfl) dX11_variableToDecide_29 ⟨Nat.le_of_ble_eq_true rfl, Nat.le_of_ble_eq_true rfl⟩) rfl rfl (fun r8 S9 h => ?_)
      refine pw_istore (pc := 32) C [(4, .int r8), (0, .ref (G.2.2 + x0)), (1, .int x1), (2, .int x2), (3, .int x3)] dX11_variableToDecide_32 (by decide) rfl ?_
      refine pw_iload (pc := 34) C 0 dX11_variableToDecide_34 rfl ?_
      refine pw_iconst (pc := 36) (v := 1 ) C dX11_variableToDecide_36 (by decide) ?_
      refine pw_icmp_le (pc := 37) (tgt := 51) C dX11_variableToDecide_37 rfl ⟨fun hc => ?_, fun hc => ?_⟩
      · replace h := h.1 hc
        refine pw_iincK (pc := 51) (w := 1) C [(3, .int (x3 + 1)), (4, .int r8), (0, .ref (G.2.2 + x0)), (1, .int x1), (2, .int x2)] 4 dX11_variableToDecide_51 (by decide) rfl (by decide) rfl ?_
        refine pw_goto (pc := 54) (tgt := 7) C dX11_variableToDecide_54 rfl ?_
        refine pw_sub [2, 3, 4, 0] (LV2 := [(0, .ref (G.2.2 + x0)), (1, .int x1), (2, .int x2), (3, .int (x3 + 1))]) rfl ?_
        exact ih _ _ _ _ _ h
      · replace h := h.2 hc
        refine pw_iload (pc := 40) C 0 dX11_variableToDecide_40 rfl ?_
        refine pw_iload_n (pc := 42) C 3 dX11_variableToDecide_42 rfl rfl ?_
        refine pw_icmp_ge (pc := 43) (tgt := 51) C dX11_variableToDecide_43 rfl ⟨fun hc => ?_, fun hc => ?_⟩
        · replace h := h.1 hc
          refine pw_iincK (pc := 51) (w := 1) C [(3, .int (x3 + 1)), (4, .int r8), (0, .ref (G.2.2 + x0)), (1, .int x1), (2, .int x2)] 4 dX11_variableToDecide_51 (by decide) rfl (by decide) rfl ?_
          refine pw_goto (pc := 54) (tgt := 7) C dX11_variableToDecide_54 rfl ?_
          refine pw_sub [2, 3, 4, 0] (LV2 := [(0, .ref (G.2.2 + x0)), (1, .int x1), (2, .int x2), (3, .int (x3 + 1))]) rfl ?_
          exact ih _ _ _ _ _ h
        · replace h := h.2 hc
          refine pw_iload_n (pc := 46) C 4 dX11_variableToDecide_46 rfl rfl ?_
          refine pw_istore_n (pc := 47) C [(1, .int x3), (4, .int r8), (0, .ref (G.2.2 + x0)), (2, .int x2), (3, .int x3)] dX11_variableToDecide_47 rfl (by decide) rfl ?_
          refine pw_iload (pc := 48) C 1 dX11_variableToDecide_48 rfl ?_
          refine pw_istore_n (pc := 50) C [(2, .int r8), (1, .int x3), (4, .int r8), (0, .ref (G.2.2 + x0)), (3, .int x3)] dX11_variableToDecide_50 rfl (by decide) rfl ?_
          refine pw_iincK (pc := 51) (w := 1) C [(3, .int (x3 + 1)), (2, .int r8), (1, .int x3), (4, .int r8), (0, .ref (G.2.2 + x0))] 4 dX11_variableToDecide_51 (by decide) rfl (by decide) rfl ?_
          refine pw_goto (pc := 54) (tgt := 7) C dX11_variableToDecide_54 rfl ?_
          refine pw_sub [4, 2, 1, 0] (LV2 := [(0, .ref (G.2.2 + x0)), (1, .int x3), (2, .int r8), (3, .int (x3 + 1))]) rfl ?_
          exact ih _ _ _ _ _ h
set_option maxRecDepth 100000 in
set_option maxHeartbeats 4000000 in
theorem ctX11_variableToDecide (l : Launch) (G : PG) (hZ : pZa G) (S : PS) (x0 : Nat) (Q : Int32 → PS → Prop) (h : wpX11_variableToDecide S x0 Q) : mI l yX11_variableToDecide wsX11_variableToDecide rmX11_variableToDecide G S [.ref (G.2.2 + x0)] Q := by
  unfold mI
  refine met_of (cc := cX11_variableToDecide) (maxL := 5) (ret := (some .int)) (by decide) rfl (Nat.le_of_ble_eq_true rfl) ?_
  intro p e s m args below meth c C hr hin
  unfold wpX11_variableToDecide at h
  show PW p l e _ s m args below meth c _ G 5 S 0 0 [(0, .ref (G.2.2 + x0))] 0 []
  refine pw_iconst (pc := 0) (v := (-1)) C dX11_variableToDecide_0 (by decide) ?_
  refine pw_istore_n (pc := 1) C [(1, .int (-1 : Int32)), (0, .ref (G.2.2 + x0))] dX11_variableToDecide_1 rfl (by decide) rfl ?_
  refine pw_bipush (pc := 2) (v := 6 ) C dX11_variableToDecide_2 (by decide) ?_
  refine pw_istore_n (pc := 4) C [(2, .int (6 : Int32)), (1, .int (-1 : Int32)), (0, .ref (G.2.2 + x0))] dX11_variableToDecide_4 rfl (by decide) rfl ?_
  refine pw_iconst (pc := 5) (v := 0 ) C dX11_variableToDecide_5 (by decide) ?_
  refine pw_istore_n (pc := 6) C [(3, .int (0 : Int32)), (2, .int (6 : Int32)), (1, .int (-1 : Int32)), (0, .ref (G.2.2 + x0))] dX11_variableToDecide_6 rfl (by decide) rfl ?_
  refine pw_sub [3, 2, 1, 0] (LV2 := [(0, .ref (G.2.2 + x0)), (1, .int (-1 : Int32)), (2, .int (6 : Int32)), (3, .int (0 : Int32))]) rfl ?_
  obtain ⟨n9, h⟩ := h
  exact cbX11_variableToDecide_b7 C hr hin hZ  n9 _ _ _ _ _ h

abbrev rmX11_search : Room := { frames := 16, cells := 1, slots := 6, locals := 446 }
theorem iX11_search_X11 : ∀ w ∈ u_ws RX11 TX11 9, w ∈ wsX11_search := by decide +kernel
theorem iX11_search_X9 : ∀ w ∈ u_ws RX9 TX9 6, w ∈ wsX11_search := by decide +kernel
def wpX11_search_b11  (Q : Int32 → PS → Prop) (X : String → PS → Prop) (S : PS) (x0 : Nat) (x1 : Int32) : Prop := (∀ n, X "java/lang/IllegalArgumentException" (sSkip S n))
def wpX11_search_b26  (Q : Int32 → PS → Prop) (X : String → PS → Prop) : Nat → PS → Nat → Int32 → Int32 → Int32 → Prop
  | 0 => fun _ _ _ _ _ => False
  | n + 1 => fun S x0 x1 x2 x3 => (((1000 : Int32) ≤ x3 → (Q (0 : Int32) S)) ∧ (¬ (1000 : Int32) ≤ x3 → (pK S x0 = 10 ∧ (∃ o2, pR S x0 1 = some o2 ∧ (pK S o2 = 8 ∧ (wpX9_hasFailed S o2 (fun r4 S5 => ((r4 = 0 → (pK S5 x0 = 10 ∧ (wpX11_variableToDecide S5 x0 (fun r7 S8 => ((¬ r7 = (-1 : Int32) → ((¬ x2 = x1 → (pK S8 x0 = 10 ∧ (∃ o10, pR S8 x0 1 = some o10 ∧ (pK S8 o10 = 8 ∧ (wpX5_leastValueOf S8 (pJ S8 o10 5) r7 (fun r12 S13 => (pK S13 x0 = 10 ∧ (wpX11_makeDecision S13 x0 r7 r12 (fun S16 => (wpX11_search_b26 Q X n S16 x0 x1 (x2 + 1) (x3 + 1))))))))))) ∧ (x2 = x1 → (Q (0 : Int32) S8)))) ∧ (r7 = (-1 : Int32) → (Q (1 : Int32) S8))))))) ∧ (¬ r4 = 0 → (pK S5 x0 = 10 ∧ (∃ o18, pR S5 x0 1 = some o18 ∧ (pK S5 o18 = 8 ∧ ((¬ (pI S5 o18 4) = 0 → (wpX11_learnFromFailure S5 x0 (fun r20 S21 => (wpX11_search_b26 Q X n S21 x0 x1 x2 (x3 + 1))))) ∧ ((pI S5 o18 4) = 0 → (Q (-1 : Int32) S5)))))))))))))))
def wpX11_search (S : PS) (x0 : Nat) (x1 : Int32) (Q : Int32 → PS → Prop) (X : String → PS → Prop) : Prop := ((x1 < (1 : Int32) → (wpX11_search_b11 Q X S x0 x1)) ∧ (¬ x1 < (1 : Int32) → ((x1 ≤ (100 : Int32) → (∃ n9 : Nat, wpX11_search_b26 Q X n9 S x0 x1 (0 : Int32) (0 : Int32))) ∧ (¬ x1 ≤ (100 : Int32) → (wpX11_search_b11 Q X S x0 x1)))))
set_option maxRecDepth 100000 in
set_option maxHeartbeats 4000000 in
theorem cbX11_search_b11 {p : Program} {l : Launch} {e : Env} {s : State} {m : MethodId} {args : Array Value} {below : List Frame} {meth : Method} {c : Code} {G : PG} {Q : Int32 → PS → Prop} {X : String → PS → Prop} (C : pCx p s m args meth c G cX11_search 5 yX11_search.cls wsX11_search) (hr : meth.sig.returnType = (some .int)) (hin : meth.name = yX11_search.name) (hZ : pZa G) (hout : ∀ x ∈ c.exceptionTable.toList, False) (hl : l.stackTraces = false)  : ∀ (S : PS) (x0 : Nat) (x1 : Int32), wpX11_search_b11  Q X S x0 x1 → PW p l e rmX11_search s m args below meth c (vx_MQ below (va_Qi Q (pB G) (pFr G)) (pXC G X) args s rmX11_search.cells rmX11_search.slots (pFr G)) G 5 S 0 0 [(0, .ref (G.2.2 + x0)), (1, .int x1)] 11 ([]) := by
  intro S x0 x1 h
  unfold wpX11_search_b11 at h
  exact pw_throwSW (pc := 11) (mc := 1) (ms := 6) C hl (hZ.2.2.2.2.2.2.2.2.2.2.2.2.2.2.2.2.2.2.2.2.2.2.2.2.2.2.2.2.2.2.2.2.2.2.2.2.2.2.2.2.2.2.2.2.2.2.2.2.2.2.2.2.1) (by decide +kernel) (by decide +kernel) (by decide +kernel) hout dX11_search_11 dX11_search_14 dX11_search_15 dX11_search_18 dX11_search_21 (by decide) (Nat.le_of_ble_eq_true rfl) (Nat.le_of_ble_eq_true rfl) (Nat.le_of_ble_eq_true rfl) (Nat.le_of_ble_eq_true rfl) (Nat.le_of_ble_eq_true rfl) h
set_option maxRecDepth 100000 in
set_option maxHeartbeats 4000000 in
theorem cbX11_search_b26 {p : Program} {l : Launch} {e : Env} {s : State} {m : MethodId} {args : Array Value} {below : List Frame} {meth : Method} {c : Code} {G : PG} {Q : Int32 → PS → Prop} {X : String → PS → Prop} (C : pCx p s m args meth c G cX11_search 5 yX11_search.cls wsX11_search) (hr : meth.sig.returnType = (some .int)) (hin : meth.name = yX11_search.name) (hZ : pZa G) (hout : ∀ x ∈ c.exceptionTable.toList, False) (hl : l.stackTraces = false)  (n : Nat) : ∀ (S : PS) (x0 : Nat) (x1 : Int32) (x2 : Int32) (x3 : Int32), wpX11_search_b26  Q X n S x0 x1 x2 x3 → PW p l e rmX11_search s m args below meth c (vx_MQ below (va_Qi Q (pB G) (pFr G)) (pXC G X) args s rmX11_search.cells rmX11_search.slots (pFr G)) G 5 S 0 0 [(0, .ref (G.2.2 + x0)), (1, .int x1), (2, .int x2), (3, .int x3)] 26 ([]) := by
  induction n with
  | zero => intro S x0 x1 x2 x3 h; exact h.elim
  | succ n ih =>
    intro S x0 x1 x2 x3 h
    unfold wpX11_search_b26 at h
    refine pw_iload_n (pc := 26) C 3 dX11_search_26 rfl rfl ?_
    refine pw_sipush (pc := 27) (v := 1000 ) C dX11_search_27 (by decide) ?_
    refine pw_icmp_ge (pc := 30) (tgt := 111) C dX11_search_30 rfl ⟨fun hc => ?_, fun hc => ?_⟩
    · replace h := h.1 hc
      refine pw_iconst (pc := 111) (v := 0 ) C dX11_search_111 (by decide) ?_
      refine pw_widen (k2 := 1) (n2 := 6) (Nat.le_of_ble_eq_true rfl) (Nat.le_of_ble_eq_true rfl) ?_
      refine pw_xret ?_
      exact pw_iret (pc := 112) C hr h dX11_search_112
    · replace h := h.2 hc
      refine pw_aload_n (pc := 33) C 0 dX11_search_33 rfl rfl ?_
      obtain ⟨hk1, h⟩ := h
      obtain ⟨o2, ho2, h⟩ := h
      refine pw_getR (pc := 34) (ref := "SupportSolver") (k := 1) (index := 19) C pCl9 iX11_search_X11 hk1 rfl (by decide +kernel) (Or.inl rfl) (o := o2) ho2 dX11_search_34 ?_
      obtain ⟨hk3, h⟩ := h
      refine pw_calli (pc := 37) (kc2 := 0) (kn2 := 0) (pRunV (pc := 37) C (ctX9_hasFailed l G hZ  _ o2 _ h) (cwV 0 C.2.2.2.2.1 gX11_search_X9_hasFailed rfl rfl rfl (by decide +kernel) ⟨Nat.le_of_ble_eq_true rfl, Nat.le_of_ble_eq_true rfl⟩) pCl7 hk3 rfl rfl (Nat.le_of_ble_eq_true rfl) dX11_search_37 ⟨Nat.le_of_ble_eq_true rfl, Nat.le_of_ble_eq_true rfl⟩) rfl rfl (fun r4 S5 h => ?_)
      refine pw_if_eq (pc := 40) (tgt := 63) C dX11_search_40 rfl ⟨fun hc => ?_, fun hc => ?_⟩
      · replace h := h.1 hc
        refine pw_aload_n (pc := 63) C 0 dX11_search_63 rfl rfl ?_
        obtain ⟨hk6, h⟩ := h
        refine pw_calli (pc := 64) (kc2 := 0) (kn2 := 0) (pRunV (pc := 64) C (ctX11_variableToDecide l G hZ  _ x0 _ h) (cwV 0 C.2.2.2.2.1 gX11_search_X11_variableToDecide rfl rfl rfl (by decide +kernel) ⟨Nat.le_of_ble_eq_true rfl, Nat.le_of_ble_eq_true rfl⟩) pCl9 hk6 rfl rfl (Nat.le_of_ble_eq_true rfl) dX11_search_64 ⟨Nat.le_of_ble_eq_true rfl, Nat.le_of_ble_eq_true rfl⟩) rfl rfl (fun r7 S8 h => ?_)
        refine pw_istore (pc := 67) C [(4, .int r7), (0, .ref (G.2.2 + x0)), (1, .int x1), (2, .int x2), (3, .int x3)] dX11_search_67 (by decide) rfl ?_
        refine pw_iload (pc := 69) C 0 dX11_search_69 rfl ?_
        refine pw_iconst (pc := 71) (v := (-1)) C dX11_search_71 (by decide) ?_
        refine pw_icmp_ne (pc := 72) (tgt := 77) C dX11_search_72 rfl ⟨fun hc => ?_, fun hc => ?_⟩
        · replace h := h.1 hc
          refine pw_iload_n (pc := 77) C 3 dX11_search_77 rfl rfl ?_
          refine pw_iload_n (pc := 78) C 2 dX11_search_78 rfl rfl ?_
          refine pw_icmp_ne (pc := 79) (tgt := 84) C dX11_search_79 rfl ⟨fun hc => ?_, fun hc => ?_⟩
          · replace h := h.1 hc
            refine pw_iincK (pc := 84) (w := 1) C [(2, .int (x2 + 1)), (4, .int r7), (0, .ref (G.2.2 + x0)), (1, .int x1), (3, .int x3)] 3 dX11_search_84 (by decide) rfl (by decide) rfl ?_
            refine pw_aload_n (pc := 87) C 2 dX11_search_87 rfl rfl ?_
            refine pw_iload (pc := 88) C 1 dX11_search_88 rfl ?_
            refine pw_aload_n (pc := 90) C 2 dX11_search_90 rfl rfl ?_
            obtain ⟨hk9, h⟩ := h
            obtain ⟨o10, ho10, h⟩ := h
            refine pw_getR (pc := 91) (ref := "SupportSolver") (k := 1) (index := 19) C pCl9 iX11_search_X11 hk9 rfl (by decide +kernel) (Or.inl rfl) (o := o10) ho10 dX11_search_91 ?_
            obtain ⟨hk11, h⟩ := h
            refine pw_getJ (pc := 94) (ref := "SupportSolver$Trail") (k := 5) (index := 139) C pCl7 iX11_search_X9 hk11 rfl (by decide +kernel) (Or.inl rfl) dX11_search_94 ?_
            refine pw_iload (pc := 97) C 1 dX11_search_97 rfl ?_
            refine pw_calli (pc := 99) (kc2 := 0) (kn2 := 0) (pRunS (pc := 99) C (ctX5_leastValueOf l G hZ  _ (pJ S8 o10 5) r7 _ h) (va_cwS 2 C.2.2.2.2.1 gX11_search_X5_leastValueOf rfl rfl rfl (by decide +kernel) ⟨Nat.le_of_ble_eq_true rfl, Nat.le_of_ble_eq_true rfl⟩) rfl rfl (Nat.le_of_ble_eq_true rfl) dX11_search_99 ⟨Nat.le_of_ble_eq_true rfl, Nat.le_of_ble_eq_true rfl⟩) rfl rfl (fun r12 S13 h => ?_)
            obtain ⟨hk14, h⟩ := h
            refine pw_callv (pc := 102) (kc2 := 0) (kn2 := 0) (pRunV (pc := 102) C (ctX11_makeDecision l G hZ  _ x0 r7 r12 _ h) (cwV 2 C.2.2.2.2.1 gX11_search_X11_makeDecision rfl rfl rfl (by decide +kernel) ⟨Nat.le_of_ble_eq_true rfl, Nat.le_of_ble_eq_true rfl⟩) pCl9 hk14 rfl rfl (Nat.le_of_ble_eq_true rfl) dX11_search_102 ⟨Nat.le_of_ble_eq_true rfl, Nat.le_of_ble_eq_true rfl⟩) rfl rfl (fun S16 h => ?_)
            refine pw_iincK (pc := 105) (w := 1) C [(3, .int (x3 + 1)), (2, .int (x2 + 1)), (4, .int r7), (0, .ref (G.2.2 + x0)), (1, .int x1)] 4 dX11_search_105 (by decide) rfl (by decide) rfl ?_
            refine pw_goto (pc := 108) (tgt := 26) C dX11_search_108 rfl ?_
            refine pw_sub [3, 4, 1, 0] (LV2 := [(0, .ref (G.2.2 + x0)), (1, .int x1), (2, .int (x2 + 1)), (3, .int (x3 + 1))]) rfl ?_
            exact ih _ _ _ _ _ h
          · replace h := h.2 hc
            refine pw_iconst (pc := 82) (v := 0 ) C dX11_search_82 (by decide) ?_
            refine pw_widen (k2 := 1) (n2 := 6) (Nat.le_of_ble_eq_true rfl) (Nat.le_of_ble_eq_true rfl) ?_
            refine pw_xret ?_
            exact pw_iret (pc := 83) C hr h dX11_search_83
        · replace h := h.2 hc
          refine pw_iconst (pc := 75) (v := 1 ) C dX11_search_75 (by decide) ?_
          refine pw_widen (k2 := 1) (n2 := 6) (Nat.le_of_ble_eq_true rfl) (Nat.le_of_ble_eq_true rfl) ?_
          refine pw_xret ?_
          exact pw_iret (pc := 76) C hr h dX11_search_76
      · replace h := h.2 hc
        refine pw_aload_n (pc := 43) C 0 dX11_search_43 rfl rfl ?_
        obtain ⟨hk17, h⟩ := h
        obtain ⟨o18, ho18, h⟩ := h
        refine pw_getR (pc := 44) (ref := "SupportSolver") (k := 1) (index := 19) C pCl9 iX11_search_X11 hk17 rfl (by decide +kernel) (Or.inl rfl) (o := o18) ho18 dX11_search_44 ?_
        obtain ⟨hk19, h⟩ := h
        refine pw_getI (pc := 47) (ref := "SupportSolver$Trail") (k := 4) (index := 123) C pCl7 iX11_search_X9 hk19 rfl (by decide +kernel) (Or.inl rfl) dX11_search_47 ?_
        refine pw_if_ne (pc := 50) (tgt := 55) C dX11_search_50 rfl ⟨fun hc => ?_, fun hc => ?_⟩
        · replace h := h.1 hc
          refine pw_aload_n (pc := 55) C 0 dX11_search_55 rfl rfl ?_
          refine pw_calli (pc := 56) (kc2 := 0) (kn2 := 0) (pRunV (pc := 56) C (ctX11_learnFromFailure l G hZ  _ x0 _ h) (cwV 0 C.2.2.2.2.1 gX11_search_X11_learnFromFailure rfl rfl rfl (by decide +kernel) ⟨Nat.le_of_ble_eq_true rfl, Nat.le_of_ble_eq_true rfl⟩) pCl9 hk17 rfl rfl (Nat.le_of_ble_eq_true rfl) dX11_search_56 ⟨Nat.le_of_ble_eq_true rfl, Nat.le_of_ble_eq_true rfl⟩) rfl rfl (fun r20 S21 h => ?_)
          refine pw_pop (pc := 59) C dX11_search_59 rfl ?_
          refine pw_goto (pc := 60) (tgt := 105) C dX11_search_60 rfl ?_
          refine pw_iincK (pc := 105) (w := 1) C [(3, .int (x3 + 1)), (0, .ref (G.2.2 + x0)), (1, .int x1), (2, .int x2)] 3 dX11_search_105 (by decide) rfl (by decide) rfl ?_
          refine pw_goto (pc := 108) (tgt := 26) C dX11_search_108 rfl ?_
          refine pw_sub [1, 2, 3, 0] (LV2 := [(0, .ref (G.2.2 + x0)), (1, .int x1), (2, .int x2), (3, .int (x3 + 1))]) rfl ?_
          exact ih _ _ _ _ _ h
        · replace h := h.2 hc
          refine pw_iconst (pc := 53) (v := (-1)) C dX11_search_53 (by decide) ?_
          refine pw_widen (k2 := 1) (n2 := 6) (Nat.le_of_ble_eq_true rfl) (Nat.le_of_ble_eq_true rfl) ?_
          refine pw_xret ?_
          exact pw_iret (pc := 54) C hr h dX11_search_54
set_option maxRecDepth 100000 in
set_option maxHeartbeats 4000000 in
theorem ctX11_search (l : Launch) (G : PG) (hZ : pZa G) (hl : l.stackTraces = false) (S : PS) (x0 : Nat) (x1 : Int32) (Q : Int32 → PS → Prop) (X : String → PS → Prop) (h : wpX11_search S x0 x1 Q X) : mXI l yX11_search wsX11_search rmX11_search G S [.ref (G.2.2 + x0), .int x1] Q X := by
  unfold mXI
  refine met_ofX (cc := cX11_search) (maxL := 5) (ret := (some .int)) (by decide) rfl (Nat.le_of_ble_eq_true rfl) ?_
  intro p e s m args below meth c C hout hr hin
  unfold wpX11_search at h
  show PW p l e _ s m args below meth c _ G 5 S 0 0 [(0, .ref (G.2.2 + x0)), (1, .int x1)] 0 []
  refine pw_iload_n (pc := 0) C 1 dX11_search_0 rfl rfl ?_
  refine pw_iconst (pc := 1) (v := 1 ) C dX11_search_1 (by decide) ?_
  refine pw_icmp_lt (pc := 2) (tgt := 11) C dX11_search_2 rfl ⟨fun hc => ?_, fun hc => ?_⟩
  · replace h := h.1 hc
    exact cbX11_search_b11 C hr hin hZ hout hl  _ _ _ h
  · replace h := h.2 hc
    refine pw_iload_n (pc := 5) C 1 dX11_search_5 rfl rfl ?_
    refine pw_bipush (pc := 6) (v := 100 ) C dX11_search_6 (by decide) ?_
    refine pw_icmp_le (pc := 8) (tgt := 22) C dX11_search_8 rfl ⟨fun hc => ?_, fun hc => ?_⟩
    · replace h := h.1 hc
      refine pw_iconst (pc := 22) (v := 0 ) C dX11_search_22 (by decide) ?_
      refine pw_istore_n (pc := 23) C [(2, .int (0 : Int32)), (0, .ref (G.2.2 + x0)), (1, .int x1)] dX11_search_23 rfl (by decide) rfl ?_
      refine pw_iconst (pc := 24) (v := 0 ) C dX11_search_24 (by decide) ?_
      refine pw_istore_n (pc := 25) C [(3, .int (0 : Int32)), (2, .int (0 : Int32)), (0, .ref (G.2.2 + x0)), (1, .int x1)] dX11_search_25 rfl (by decide) rfl ?_
      refine pw_sub [2, 3, 1, 0] (LV2 := [(0, .ref (G.2.2 + x0)), (1, .int x1), (2, .int (0 : Int32)), (3, .int (0 : Int32))]) rfl ?_
      obtain ⟨n9, h⟩ := h
      exact cbX11_search_b26 C hr hin hZ hout hl  n9 _ _ _ _ _ h
    · replace h := h.2 hc
      exact cbX11_search_b11 C hr hin hZ hout hl  _ _ _ h

abbrev rmX11_restart : Room := { frames := 3, cells := 0, slots := 0, locals := 64 }
theorem iX11_restart_X11 : ∀ w ∈ u_ws RX11 TX11 9, w ∈ wsX11_restart := by decide +kernel
theorem iX11_restart_X9 : ∀ w ∈ u_ws RX9 TX9 6, w ∈ wsX11_restart := by decide +kernel
def wpX11_restart_b10  (Q : Int32 → PS → Prop) : Nat → PS → Nat → Int32 → Int32 → Prop
  | 0 => fun _ _ _ _ => False
  | n + 1 => fun S x0 x1 x2 => ((x1 ≤ x2 → (pK S x0 = 10 ∧ (Q x1 (sI S x0 7 (0 : Int32))))) ∧ (¬ x1 ≤ x2 → (pK S x0 = 10 ∧ (∃ o3, pR S x0 1 = some o3 ∧ (pK S o3 = 8 ∧ (wpX9_takeBack S o3 (fun r5 S6 => (wpX11_restart_b10 Q n S6 x0 x1 (x2 + 1)))))))))
def wpX11_restart (S : PS) (x0 : Nat) (Q : Int32 → PS → Prop) : Prop := (pK S x0 = 10 ∧ (∃ o8, pR S x0 1 = some o8 ∧ (pK S o8 = 8 ∧ (∃ n9 : Nat, wpX11_restart_b10 Q n9 S x0 (pI S o8 4) (0 : Int32)))))
set_option maxRecDepth 100000 in
set_option maxHeartbeats 4000000 in
theorem cbX11_restart_b10 {p : Program} {l : Launch} {e : Env} {s : State} {m : MethodId} {args : Array Value} {below : List Frame} {meth : Method} {c : Code} {G : PG} {Q : Int32 → PS → Prop} (C : pCx p s m args meth c G cX11_restart 3 yX11_restart.cls wsX11_restart) (hr : meth.sig.returnType = (some .int)) (hin : meth.name = yX11_restart.name) (hZ : pZa G)  (n : Nat) : ∀ (S : PS) (x0 : Nat) (x1 : Int32) (x2 : Int32), wpX11_restart_b10  Q n S x0 x1 x2 → PW p l e rmX11_restart s m args below meth c (MQ below (va_Qi Q (pB G) (pFr G)) args s rmX11_restart.cells rmX11_restart.slots (pFr G)) G 3 S 0 0 [(0, .ref (G.2.2 + x0)), (1, .int x1), (2, .int x2)] 10 ([]) := by
  induction n with
  | zero => intro S x0 x1 x2 h; exact h.elim
  | succ n ih =>
    intro S x0 x1 x2 h
    unfold wpX11_restart_b10 at h
    refine pw_iload_n (pc := 10) C 2 dX11_restart_10 rfl rfl ?_
    refine pw_iload_n (pc := 11) C 1 dX11_restart_11 rfl rfl ?_
    refine pw_icmp_ge (pc := 12) (tgt := 29) C dX11_restart_12 rfl ⟨fun hc => ?_, fun hc => ?_⟩
    · replace h := h.1 hc
      refine pw_aload_n (pc := 29) C 0 dX11_restart_29 rfl rfl ?_
      refine pw_iconst (pc := 30) (v := 0 ) C dX11_restart_30 (by decide) ?_
      obtain ⟨hk1, h⟩ := h
      refine pw_putI (pc := 31) (ref := "SupportSolver") (k := 7) (index := 51) C pCl9 iX11_restart_X11 hk1 rfl (by decide +kernel) (Or.inl rfl) (Or.inl rfl) rfl rfl dX11_restart_31 ?_
      refine pw_iload_n (pc := 34) (S := (sI S x0 7 (0 : Int32))) C 1 dX11_restart_34 rfl rfl ?_
      exact pw_iret (pc := 35) (S := (sI S x0 7 (0 : Int32))) C hr h dX11_restart_35
    · replace h := h.2 hc
      refine pw_aload_n (pc := 15) C 0 dX11_restart_15 rfl rfl ?_
      obtain ⟨hk2, h⟩ := h
      obtain ⟨o3, ho3, h⟩ := h
      refine pw_getR (pc := 16) (ref := "SupportSolver") (k := 1) (index := 19) C pCl9 iX11_restart_X11 hk2 rfl (by decide +kernel) (Or.inl rfl) (o := o3) ho3 dX11_restart_16 ?_
      obtain ⟨hk4, h⟩ := h
      refine pw_calli (pc := 19) (kc2 := 0) (kn2 := 0) (pRunV (pc := 19) C (ctX9_takeBack l G hZ  _ o3 _ h) (cwV 0 C.2.2.2.2.1 gX11_restart_X9_takeBack rfl rfl rfl (by decide +kernel) ⟨Nat.le_of_ble_eq_true rfl, Nat.le_of_ble_eq_true rfl⟩) pCl7 hk4 rfl rfl (Nat.le_of_ble_eq_true rfl) dX11_restart_19 ⟨Nat.le_of_ble_eq_true rfl, Nat.le_of_ble_eq_true rfl⟩) rfl rfl (fun r5 S6 h => ?_)
      refine pw_pop (pc := 22) C dX11_restart_22 rfl ?_
      refine pw_iincK (pc := 23) (w := 1) C [(2, .int (x2 + 1)), (0, .ref (G.2.2 + x0)), (1, .int x1)] 2 dX11_restart_23 (by decide) rfl (by decide) rfl ?_
      refine pw_goto (pc := 26) (tgt := 10) C dX11_restart_26 rfl ?_
      refine pw_sub [1, 2, 0] (LV2 := [(0, .ref (G.2.2 + x0)), (1, .int x1), (2, .int (x2 + 1))]) rfl ?_
      exact ih _ _ _ _ h
set_option maxRecDepth 100000 in
set_option maxHeartbeats 4000000 in
theorem ctX11_restart (l : Launch) (G : PG) (hZ : pZa G) (S : PS) (x0 : Nat) (Q : Int32 → PS → Prop) (h : wpX11_restart S x0 Q) : mI l yX11_restart wsX11_restart rmX11_restart G S [.ref (G.2.2 + x0)] Q := by
  unfold mI
  refine met_of (cc := cX11_restart) (maxL := 3) (ret := (some .int)) (by decide) rfl (Nat.le_of_ble_eq_true rfl) ?_
  intro p e s m args below meth c C hr hin
  unfold wpX11_restart at h
  show PW p l e _ s m args below meth c _ G 3 S 0 0 [(0, .ref (G.2.2 + x0))] 0 []
  refine pw_aload_n (pc := 0) C 0 dX11_restart_0 rfl rfl ?_
  obtain ⟨hk7, h⟩ := h
  obtain ⟨o8, ho8, h⟩ := h
  refine pw_getR (pc := 1) (ref := "SupportSolver") (k := 1) (index := 19) C pCl9 iX11_restart_X11 hk7 rfl (by decide +kernel) (Or.inl rfl) (o := o8) ho8 dX11_restart_1 ?_
  obtain ⟨hk9, h⟩ := h
  refine pw_getI (pc := 4) (ref := "SupportSolver$Trail") (k := 4) (index := 123) C pCl7 iX11_restart_X9 hk9 rfl (by decide +kernel) (Or.inl rfl) dX11_restart_4 ?_
  refine pw_istore_n (pc := 7) C [(1, .int (pI S o8 4)), (0, .ref (G.2.2 + x0))] dX11_restart_7 rfl (by decide) rfl ?_
  refine pw_iconst (pc := 8) (v := 0 ) C dX11_restart_8 (by decide) ?_
  refine pw_istore_n (pc := 9) C [(2, .int (0 : Int32)), (1, .int (pI S o8 4)), (0, .ref (G.2.2 + x0))] dX11_restart_9 rfl (by decide) rfl ?_
  refine pw_sub [2, 1, 0] (LV2 := [(0, .ref (G.2.2 + x0)), (1, .int (pI S o8 4)), (2, .int (0 : Int32))]) rfl ?_
  obtain ⟨n9, h⟩ := h
  exact cbX11_restart_b10 C hr hin hZ  n9 _ _ _ _ h

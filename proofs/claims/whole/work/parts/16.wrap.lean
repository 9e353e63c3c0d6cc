theorem px_pass1 {q : Nat × Nat × Nat × Nat} {P : ExceptionTableEntry → Prop} (h : P ⟨q.1, q.2.1, q.2.2.1, q.2.2.2⟩) : ∀ z ∈ tableOf [q], P z := by
  intro z hz
  rcases List.mem_cons.mp hz with rfl | hz
  · exact h
  · cases hz
theorem px_pass2 {q r : Nat × Nat × Nat × Nat} {P : ExceptionTableEntry → Prop} (h : P ⟨q.1, q.2.1, q.2.2.1, q.2.2.2⟩) (h2 : P ⟨r.1, r.2.1, r.2.2.1, r.2.2.2⟩) : ∀ z ∈ tableOf [q, r], P z := by
  intro z hz
  rcases List.mem_cons.mp hz with rfl | hz
  · exact h
  · exact px_pass1 h2 z hz
abbrev rmL_append : Room := { frames := 7, cells := 1, slots := 6, locals := 115 }
def wpL_append (S : PS) (x0 : Nat) (x1 : Int32) (x2 : Int32) (x3 : Int32) (x4 : Int32) (x5 : Int32) (x6 : Nat) (Q : Int32 → PS → Prop) : Prop := (pK S x0 = 10 ∧ (wpX11_append S x0 x1 x2 x3 x4 x5 (fun r3 S2 => (pK S2 x6 = 14 ∧ (vp_in (0 : Int32) (pL S2 x6) ∧ (Q (0 : Int32) (sJ S2 x6 ((0 : Int32)).toNatClampNeg (r3.toInt64)))))) (fun E9 S2 => (E9 = "java/lang/IllegalStateException" ∧ (Q (1 : Int32) S2)))))
set_option maxRecDepth 100000 in
set_option maxHeartbeats 4000000 in
theorem ctL_append (l : Launch) (G : PG) (hZ : pZa G) (hl : l.stackTraces = false) (S : PS) (x0 : Nat) (x1 : Int32) (x2 : Int32) (x3 : Int32) (x4 : Int32) (x5 : Int32) (x6 : Nat) (Q : Int32 → PS → Prop) (h : wpL_append S x0 x1 x2 x3 x4 x5 x6 Q) : mI l yL_append wsW_append rmL_append G S [.ref (G.2.2 + x0), .int x1, .int x2, .int x3, .int x4, .int x5, .ref (G.2.2 + x6)] Q := by
  unfold mI
  refine met_ofH (cc := cL_append) (maxL := 8) (ret := (some .int)) (by decide) rfl (Nat.le_of_ble_eq_true rfl) ?_
  intro p e s m args below meth c C hT hr hin
  unfold wpL_append at h
  show PW p l e _ s m args below meth c _ G 8 S 0 0 [(0, .ref (G.2.2 + x0)), (1, .int x1), (2, .int x2), (3, .int x3), (4, .int x4), (5, .int x5), (6, .ref (G.2.2 + x6))] 0 []
  refine pw_aload (pc := 0) C 6 dL_append_0 rfl ?_
  refine pw_iconst (pc := 2) (v := 0 ) C dL_append_2 (by decide) ?_
  refine pw_aload_n (pc := 3) C 0 dL_append_3 rfl rfl ?_
  refine pw_iload_n (pc := 4) C 1 dL_append_4 rfl rfl ?_
  refine pw_iload_n (pc := 5) C 2 dL_append_5 rfl rfl ?_
  refine pw_iload_n (pc := 6) C 3 dL_append_6 rfl rfl ?_
  refine pw_iload (pc := 7) C 4 dL_append_7 rfl ?_
  refine pw_iload (pc := 9) C 5 dL_append_9 rfl ?_
  obtain ⟨hk1, h⟩ := h
  refine pw_callxi (pc := 11) (kc2 := 1) (kn2 := 6) (pRunXV (pc := 11) C (ctX11_append l G hZ hl _ x0 x1 x2 x3 x4 x5 _ _ h) (cwV 5 C.2.2.2.2.1 qgL_append_X11_append rfl rfl rfl (by decide +kernel) ⟨Nat.le_of_ble_eq_true rfl, Nat.le_of_ble_eq_true rfl⟩) pCl9 hk1 rfl rfl (Nat.le_of_ble_eq_true rfl) dL_append_11 ⟨Nat.le_of_ble_eq_true rfl, Nat.le_of_ble_eq_true rfl⟩) rfl rfl (fun E9 S2 h => ?_) (fun r3 S2 h => ?_)
  · obtain ⟨rfl, h⟩ := h
    refine px_catch (name := "java/lang/IllegalStateException") C (tableOf []) ⟨0, 16, 19, 13⟩ (tableOf []) hT (fun z hz => by cases hz) (by decide) (by decide) (by decide +kernel) (((hZ.2.2.2.2.2.2.2.2.2.2.2.2.2.2.2.2.2.1) s s.heap C.2.2.2.2.2.2.2.2.1).1.1) (fun q9 => ?_)
    refine pw_astore (pc := 19) C [(7, .ref q9), (0, .ref (G.2.2 + x0)), (1, .int x1), (2, .int x2), (3, .int x3), (4, .int x4), (5, .int x5), (6, .ref (G.2.2 + x6))] dL_append_19 (by decide) rfl ?_
    refine pw_iconst (pc := 21) (v := 1 ) C dL_append_21 (by decide) ?_
    refine pw_xret ?_
    exact pw_iret (pc := 22) C hr h dL_append_22
  · refine pw_i2l (pc := 14) C dL_append_14 ?_
    obtain ⟨hk4, h⟩ := h
    obtain ⟨hi5, h⟩ := h
    refine pw_last (pc := 15) C hk4 hi5 dL_append_15 ?_
    refine pw_goto (pc := 16) (S := (sJ S2 x6 ((0 : Int32)).toNatClampNeg (r3.toInt64))) (tgt := 23) C dL_append_16 rfl ?_
    refine pw_iconst (pc := 23) (S := (sJ S2 x6 ((0 : Int32)).toNatClampNeg (r3.toInt64))) (v := 0 ) C dL_append_23 (by decide) ?_
    refine pw_xret ?_
    exact pw_iret (pc := 24) (S := (sJ S2 x6 ((0 : Int32)).toNatClampNeg (r3.toInt64))) C hr h dL_append_24

abbrev rmL_truncate : Room := { frames := 7, cells := 1, slots := 6, locals := 111 }
def wpL_truncate (S : PS) (x0 : Nat) (x1 : Int32) (x2 : Nat) (Q : Int32 → PS → Prop) : Prop := (pK S x0 = 10 ∧ (wpX11_truncate S x0 x1 (fun r3 S2 => (pK S2 x2 = 14 ∧ (vp_in (0 : Int32) (pL S2 x2) ∧ (Q (0 : Int32) (sJ S2 x2 ((0 : Int32)).toNatClampNeg (r3.toInt64)))))) (fun E9 S2 => (E9 = "java/lang/IndexOutOfBoundsException" ∧ (Q (1 : Int32) S2)))))
set_option maxRecDepth 100000 in
set_option maxHeartbeats 4000000 in
theorem ctL_truncate (l : Launch) (G : PG) (hZ : pZa G) (hl : l.stackTraces = false) (S : PS) (x0 : Nat) (x1 : Int32) (x2 : Nat) (Q : Int32 → PS → Prop) (h : wpL_truncate S x0 x1 x2 Q) : mI l yL_truncate wsW_truncate rmL_truncate G S [.ref (G.2.2 + x0), .int x1, .ref (G.2.2 + x2)] Q := by
  unfold mI
  refine met_ofH (cc := cL_truncate) (maxL := 4) (ret := (some .int)) (by decide) rfl (Nat.le_of_ble_eq_true rfl) ?_
  intro p e s m args below meth c C hT hr hin
  unfold wpL_truncate at h
  show PW p l e _ s m args below meth c _ G 4 S 0 0 [(0, .ref (G.2.2 + x0)), (1, .int x1), (2, .ref (G.2.2 + x2))] 0 []
  refine pw_aload_n (pc := 0) C 2 dL_truncate_0 rfl rfl ?_
  refine pw_iconst (pc := 1) (v := 0 ) C dL_truncate_1 (by decide) ?_
  refine pw_aload_n (pc := 2) C 0 dL_truncate_2 rfl rfl ?_
  refine pw_iload_n (pc := 3) C 1 dL_truncate_3 rfl rfl ?_
  obtain ⟨hk1, h⟩ := h
  refine pw_callxi (pc := 4) (kc2 := 1) (kn2 := 6) (pRunXV (pc := 4) C (ctX11_truncate l G hZ hl _ x0 x1 _ _ h) (cwV 1 C.2.2.2.2.1 qgL_truncate_X11_truncate rfl rfl rfl (by decide +kernel) ⟨Nat.le_of_ble_eq_true rfl, Nat.le_of_ble_eq_true rfl⟩) pCl9 hk1 rfl rfl (Nat.le_of_ble_eq_true rfl) dL_truncate_4 ⟨Nat.le_of_ble_eq_true rfl, Nat.le_of_ble_eq_true rfl⟩) rfl rfl (fun E9 S2 h => ?_) (fun r3 S2 h => ?_)
  · obtain ⟨rfl, h⟩ := h
    refine px_catch (name := "java/lang/IndexOutOfBoundsException") C (tableOf []) ⟨0, 9, 12, 19⟩ (tableOf []) hT (fun z hz => by cases hz) (by decide) (by decide) (by decide +kernel) (((hZ.2.2.2.2.2.2.2.2.2.2.2.2.2.2.2.2.2.1) s s.heap C.2.2.2.2.2.2.2.2.1).1.2.1) (fun q9 => ?_)
    refine pw_astore_n (pc := 12) C [(3, .ref q9), (0, .ref (G.2.2 + x0)), (1, .int x1), (2, .ref (G.2.2 + x2))] dL_truncate_12 rfl (by decide) rfl ?_
    refine pw_iconst (pc := 13) (v := 1 ) C dL_truncate_13 (by decide) ?_
    refine pw_xret ?_
    exact pw_iret (pc := 14) C hr h dL_truncate_14
  · refine pw_i2l (pc := 7) C dL_truncate_7 ?_
    obtain ⟨hk4, h⟩ := h
    obtain ⟨hi5, h⟩ := h
    refine pw_last (pc := 8) C hk4 hi5 dL_truncate_8 ?_
    refine pw_goto (pc := 9) (S := (sJ S2 x2 ((0 : Int32)).toNatClampNeg (r3.toInt64))) (tgt := 15) C dL_truncate_9 rfl ?_
    refine pw_iconst (pc := 15) (S := (sJ S2 x2 ((0 : Int32)).toNatClampNeg (r3.toInt64))) (v := 0 ) C dL_truncate_15 (by decide) ?_
    refine pw_xret ?_
    exact pw_iret (pc := 16) (S := (sJ S2 x2 ((0 : Int32)).toNatClampNeg (r3.toInt64))) C hr h dL_truncate_16

abbrev rmL_load : Room := { frames := 16, cells := 22, slots := 170, locals := 440 }
def wpL_load (S : PS) (x0 : Nat) (x1 : Nat) (Q : Int32 → PS → Prop) : Prop := (pK S x0 = 10 ∧ (wpX11_load S x0 (fun r3 S2 => (pK S2 x1 = 14 ∧ (vp_in (0 : Int32) (pL S2 x1) ∧ (Q (0 : Int32) (sJ S2 x1 ((0 : Int32)).toNatClampNeg (r3.toInt64)))))) (fun E9 S2 => (E9 = "java/lang/IllegalArgumentException" ∧ (Q (1 : Int32) S2)))))
set_option maxRecDepth 100000 in
set_option maxHeartbeats 4000000 in
theorem ctL_load (l : Launch) (G : PG) (hZ : pZa G) (hl : l.stackTraces = false) (S : PS) (x0 : Nat) (x1 : Nat) (Q : Int32 → PS → Prop) (h : wpL_load S x0 x1 Q) : mI l yL_load wsW_load rmL_load G S [.ref (G.2.2 + x0), .ref (G.2.2 + x1)] Q := by
  unfold mI
  refine met_ofH (cc := cL_load) (maxL := 3) (ret := (some .int)) (by decide) rfl (Nat.le_of_ble_eq_true rfl) ?_
  intro p e s m args below meth c C hT hr hin
  unfold wpL_load at h
  show PW p l e _ s m args below meth c _ G 3 S 0 0 [(0, .ref (G.2.2 + x0)), (1, .ref (G.2.2 + x1))] 0 []
  refine pw_aload_n (pc := 0) C 1 dL_load_0 rfl rfl ?_
  refine pw_iconst (pc := 1) (v := 0 ) C dL_load_1 (by decide) ?_
  refine pw_aload_n (pc := 2) C 0 dL_load_2 rfl rfl ?_
  obtain ⟨hk1, h⟩ := h
  refine pw_callxi (pc := 3) (kc2 := 22) (kn2 := 170) (pRunXV (pc := 3) C (ctX11_load l G hZ hl _ x0 _ _ h) (cwV 0 C.2.2.2.2.1 qgL_load_X11_load rfl rfl rfl (by decide +kernel) ⟨Nat.le_of_ble_eq_true rfl, Nat.le_of_ble_eq_true rfl⟩) pCl9 hk1 rfl rfl (Nat.le_of_ble_eq_true rfl) dL_load_3 ⟨Nat.le_of_ble_eq_true rfl, Nat.le_of_ble_eq_true rfl⟩) rfl rfl (fun E9 S2 h => ?_) (fun r3 S2 h => ?_)
  · obtain ⟨rfl, h⟩ := h
    refine px_catch (name := "java/lang/IllegalArgumentException") C (tableOf []) ⟨0, 8, 11, 25⟩ (tableOf []) hT (fun z hz => by cases hz) (by decide) (by decide) (by decide +kernel) (((hZ.2.2.2.2.2.2.2.2.2.2.2.2.2.2.2.2.2.1) s s.heap C.2.2.2.2.2.2.2.2.1).1.2.2.1) (fun q9 => ?_)
    refine pw_astore_n (pc := 11) C [(2, .ref q9), (0, .ref (G.2.2 + x0)), (1, .ref (G.2.2 + x1))] dL_load_11 rfl (by decide) rfl ?_
    refine pw_iconst (pc := 12) (v := 1 ) C dL_load_12 (by decide) ?_
    refine pw_xret ?_
    exact pw_iret (pc := 13) C hr h dL_load_13
  · refine pw_i2l (pc := 6) C dL_load_6 ?_
    obtain ⟨hk4, h⟩ := h
    obtain ⟨hi5, h⟩ := h
    refine pw_last (pc := 7) C hk4 hi5 dL_load_7 ?_
    refine pw_goto (pc := 8) (S := (sJ S2 x1 ((0 : Int32)).toNatClampNeg (r3.toInt64))) (tgt := 14) C dL_load_8 rfl ?_
    refine pw_iconst (pc := 14) (S := (sJ S2 x1 ((0 : Int32)).toNatClampNeg (r3.toInt64))) (v := 0 ) C dL_load_14 (by decide) ?_
    refine pw_xret ?_
    exact pw_iret (pc := 15) (S := (sJ S2 x1 ((0 : Int32)).toNatClampNeg (r3.toInt64))) C hr h dL_load_15

abbrev rmL_report : Room := { frames := 7, cells := 1, slots := 6, locals := 111 }
def wpL_report (S : PS) (x0 : Nat) (x1 : Int32) (x2 : Nat) (Q : Int32 → PS → Prop) : Prop := (pK S x0 = 10 ∧ (wpX11_report S x0 x1 (fun r3 S2 => (pK S2 x2 = 14 ∧ (vp_in (0 : Int32) (pL S2 x2) ∧ (Q (0 : Int32) (sJ S2 x2 ((0 : Int32)).toNatClampNeg (r3.toInt64)))))) (fun E9 S2 => (E9 = "java/lang/IllegalArgumentException" ∧ (Q (1 : Int32) S2)))))
set_option maxRecDepth 100000 in
set_option maxHeartbeats 4000000 in
theorem ctL_report (l : Launch) (G : PG) (hZ : pZa G) (hl : l.stackTraces = false) (S : PS) (x0 : Nat) (x1 : Int32) (x2 : Nat) (Q : Int32 → PS → Prop) (h : wpL_report S x0 x1 x2 Q) : mI l yL_report wsW_report rmL_report G S [.ref (G.2.2 + x0), .int x1, .ref (G.2.2 + x2)] Q := by
  unfold mI
  refine met_ofH (cc := cL_report) (maxL := 4) (ret := (some .int)) (by decide) rfl (Nat.le_of_ble_eq_true rfl) ?_
  intro p e s m args below meth c C hT hr hin
  unfold wpL_report at h
  show PW p l e _ s m args below meth c _ G 4 S 0 0 [(0, .ref (G.2.2 + x0)), (1, .int x1), (2, .ref (G.2.2 + x2))] 0 []
  refine pw_aload_n (pc := 0) C 2 dL_report_0 rfl rfl ?_
  refine pw_iconst (pc := 1) (v := 0 ) C dL_report_1 (by decide) ?_
  refine pw_aload_n (pc := 2) C 0 dL_report_2 rfl rfl ?_
  refine pw_iload_n (pc := 3) C 1 dL_report_3 rfl rfl ?_
  obtain ⟨hk1, h⟩ := h
  refine pw_callxi (pc := 4) (kc2 := 1) (kn2 := 6) (pRunXV (pc := 4) C (ctX11_report l G hZ hl _ x0 x1 _ _ h) (cwV 1 C.2.2.2.2.1 qgL_report_X11_report rfl rfl rfl (by decide +kernel) ⟨Nat.le_of_ble_eq_true rfl, Nat.le_of_ble_eq_true rfl⟩) pCl9 hk1 rfl rfl (Nat.le_of_ble_eq_true rfl) dL_report_4 ⟨Nat.le_of_ble_eq_true rfl, Nat.le_of_ble_eq_true rfl⟩) rfl rfl (fun E9 S2 h => ?_) (fun r3 S2 h => ?_)
  · obtain ⟨rfl, h⟩ := h
    refine px_catch (name := "java/lang/IllegalArgumentException") C (tableOf []) ⟨0, 9, 12, 25⟩ (tableOf []) hT (fun z hz => by cases hz) (by decide) (by decide) (by decide +kernel) (((hZ.2.2.2.2.2.2.2.2.2.2.2.2.2.2.2.2.2.1) s s.heap C.2.2.2.2.2.2.2.2.1).1.2.2.1) (fun q9 => ?_)
    refine pw_astore_n (pc := 12) C [(3, .ref q9), (0, .ref (G.2.2 + x0)), (1, .int x1), (2, .ref (G.2.2 + x2))] dL_report_12 rfl (by decide) rfl ?_
    refine pw_iconst (pc := 13) (v := 1 ) C dL_report_13 (by decide) ?_
    refine pw_xret ?_
    exact pw_iret (pc := 14) C hr h dL_report_14
  · refine pw_i2l (pc := 7) C dL_report_7 ?_
    obtain ⟨hk4, h⟩ := h
    obtain ⟨hi5, h⟩ := h
    refine pw_last (pc := 8) C hk4 hi5 dL_report_8 ?_
    refine pw_goto (pc := 9) (S := (sJ S2 x2 ((0 : Int32)).toNatClampNeg (r3.toInt64))) (tgt := 15) C dL_report_9 rfl ?_
    refine pw_iconst (pc := 15) (S := (sJ S2 x2 ((0 : Int32)).toNatClampNeg (r3.toInt64))) (v := 0 ) C dL_report_15 (by decide) ?_
    refine pw_xret ?_
    exact pw_iret (pc := 16) (S := (sJ S2 x2 ((0 : Int32)).toNatClampNeg (r3.toInt64))) C hr h dL_report_16

abbrev rmL_domain : Room := { frames := 7, cells := 1, slots := 6, locals := 111 }
def wpL_domain (S : PS) (x0 : Nat) (x1 : Int32) (x2 : Nat) (Q : Int32 → PS → Prop) : Prop := (pK S x0 = 10 ∧ (wpX11_domain S x0 x1 (fun r3 S2 => (pK S2 x2 = 14 ∧ (vp_in (0 : Int32) (pL S2 x2) ∧ (Q (0 : Int32) (sJ S2 x2 ((0 : Int32)).toNatClampNeg (r3.toInt64)))))) (fun E9 S2 => (E9 = "java/lang/IndexOutOfBoundsException" ∧ (Q (1 : Int32) S2)))))
set_option maxRecDepth 100000 in
set_option maxHeartbeats 4000000 in
theorem ctL_domain (l : Launch) (G : PG) (hZ : pZa G) (hl : l.stackTraces = false) (S : PS) (x0 : Nat) (x1 : Int32) (x2 : Nat) (Q : Int32 → PS → Prop) (h : wpL_domain S x0 x1 x2 Q) : mI l yL_domain wsW_domain rmL_domain G S [.ref (G.2.2 + x0), .int x1, .ref (G.2.2 + x2)] Q := by
  unfold mI
  refine met_ofH (cc := cL_domain) (maxL := 4) (ret := (some .int)) (by decide) rfl (Nat.le_of_ble_eq_true rfl) ?_
  intro p e s m args below meth c C hT hr hin
  unfold wpL_domain at h
  show PW p l e _ s m args below meth c _ G 4 S 0 0 [(0, .ref (G.2.2 + x0)), (1, .int x1), (2, .ref (G.2.2 + x2))] 0 []
  refine pw_aload_n (pc := 0) C 2 dL_domain_0 rfl rfl ?_
  refine pw_iconst (pc := 1) (v := 0 ) C dL_domain_1 (by decide) ?_
  refine pw_aload_n (pc := 2) C 0 dL_domain_2 rfl rfl ?_
  refine pw_iload_n (pc := 3) C 1 dL_domain_3 rfl rfl ?_
  obtain ⟨hk1, h⟩ := h
  refine pw_callxi (pc := 4) (kc2 := 1) (kn2 := 6) (pRunXV (pc := 4) C (ctX11_domain l G hZ hl _ x0 x1 _ _ h) (cwV 1 C.2.2.2.2.1 qgL_domain_X11_domain rfl rfl rfl (by decide +kernel) ⟨Nat.le_of_ble_eq_true rfl, Nat.le_of_ble_eq_true rfl⟩) pCl9 hk1 rfl rfl (Nat.le_of_ble_eq_true rfl) dL_domain_4 ⟨Nat.le_of_ble_eq_true rfl, Nat.le_of_ble_eq_true rfl⟩) rfl rfl (fun E9 S2 h => ?_) (fun r3 S2 h => ?_)
  · obtain ⟨rfl, h⟩ := h
    refine px_catch (name := "java/lang/IndexOutOfBoundsException") C (tableOf []) ⟨0, 9, 12, 19⟩ (tableOf []) hT (fun z hz => by cases hz) (by decide) (by decide) (by decide +kernel) (((hZ.2.2.2.2.2.2.2.2.2.2.2.2.2.2.2.2.2.1) s s.heap C.2.2.2.2.2.2.2.2.1).1.2.1) (fun q9 => ?_)
    refine pw_astore_n (pc := 12) C [(3, .ref q9), (0, .ref (G.2.2 + x0)), (1, .int x1), (2, .ref (G.2.2 + x2))] dL_domain_12 rfl (by decide) rfl ?_
    refine pw_iconst (pc := 13) (v := 1 ) C dL_domain_13 (by decide) ?_
    refine pw_xret ?_
    exact pw_iret (pc := 14) C hr h dL_domain_14
  · refine pw_i2l (pc := 7) C dL_domain_7 ?_
    obtain ⟨hk4, h⟩ := h
    obtain ⟨hi5, h⟩ := h
    refine pw_last (pc := 8) C hk4 hi5 dL_domain_8 ?_
    refine pw_goto (pc := 9) (S := (sJ S2 x2 ((0 : Int32)).toNatClampNeg (r3.toInt64))) (tgt := 15) C dL_domain_9 rfl ?_
    refine pw_iconst (pc := 15) (S := (sJ S2 x2 ((0 : Int32)).toNatClampNeg (r3.toInt64))) (v := 0 ) C dL_domain_15 (by decide) ?_
    refine pw_xret ?_
    exact pw_iret (pc := 16) (S := (sJ S2 x2 ((0 : Int32)).toNatClampNeg (r3.toInt64))) C hr h dL_domain_16

abbrev rmL_constraint : Room := { frames := 7, cells := 1, slots := 6, locals := 113 }
def wpL_constraint (S : PS) (x0 : Nat) (x1 : Int32) (x2 : Int32) (x3 : Nat) (Q : Int32 → PS → Prop) : Prop := (pK S x0 = 10 ∧ (wpX11_constraint S x0 x1 x2 (fun r3 S2 => (pK S2 x3 = 14 ∧ (vp_in (0 : Int32) (pL S2 x3) ∧ (Q (0 : Int32) (sJ S2 x3 ((0 : Int32)).toNatClampNeg (r3.toInt64)))))) (fun E9 S2 => (E9 = "java/lang/IndexOutOfBoundsException" ∧ (Q (1 : Int32) S2)) ∨ (E9 = "java/lang/IllegalArgumentException" ∧ (Q (2 : Int32) S2)))))
set_option maxRecDepth 100000 in
set_option maxHeartbeats 4000000 in
theorem ctL_constraint (l : Launch) (G : PG) (hZ : pZa G) (hl : l.stackTraces = false) (S : PS) (x0 : Nat) (x1 : Int32) (x2 : Int32) (x3 : Nat) (Q : Int32 → PS → Prop) (h : wpL_constraint S x0 x1 x2 x3 Q) : mI l yL_constraint wsW_constraint rmL_constraint G S [.ref (G.2.2 + x0), .int x1, .int x2, .ref (G.2.2 + x3)] Q := by
  unfold mI
  refine met_ofH (cc := cL_constraint) (maxL := 5) (ret := (some .int)) (by decide) rfl (Nat.le_of_ble_eq_true rfl) ?_
  intro p e s m args below meth c C hT hr hin
  unfold wpL_constraint at h
  show PW p l e _ s m args below meth c _ G 5 S 0 0 [(0, .ref (G.2.2 + x0)), (1, .int x1), (2, .int x2), (3, .ref (G.2.2 + x3))] 0 []
  refine pw_aload_n (pc := 0) C 3 dL_constraint_0 rfl rfl ?_
  refine pw_iconst (pc := 1) (v := 0 ) C dL_constraint_1 (by decide) ?_
  refine pw_aload_n (pc := 2) C 0 dL_constraint_2 rfl rfl ?_
  refine pw_iload_n (pc := 3) C 1 dL_constraint_3 rfl rfl ?_
  refine pw_iload_n (pc := 4) C 2 dL_constraint_4 rfl rfl ?_
  obtain ⟨hk1, h⟩ := h
  refine pw_callxi (pc := 5) (kc2 := 1) (kn2 := 6) (pRunXV (pc := 5) C (ctX11_constraint l G hZ hl _ x0 x1 x2 _ _ h) (cwV 2 C.2.2.2.2.1 qgL_constraint_X11_constraint rfl rfl rfl (by decide +kernel) ⟨Nat.le_of_ble_eq_true rfl, Nat.le_of_ble_eq_true rfl⟩) pCl9 hk1 rfl rfl (Nat.le_of_ble_eq_true rfl) dL_constraint_5 ⟨Nat.le_of_ble_eq_true rfl, Nat.le_of_ble_eq_true rfl⟩) rfl rfl (fun E9 S2 h => ?_) (fun r3 S2 h => ?_)
  · rcases h with ⟨rfl, h⟩ | ⟨rfl, h⟩
    · refine px_catch (name := "java/lang/IndexOutOfBoundsException") C (tableOf []) ⟨0, 10, 13, 19⟩ (tableOf [(0, 10, 17, 25)]) hT (fun z hz => by cases hz) (by decide) (by decide) (by decide +kernel) (((hZ.2.2.2.2.2.2.2.2.2.2.2.2.2.2.2.2.2.1) s s.heap C.2.2.2.2.2.2.2.2.1).1.2.1) (fun q9 => ?_)
      refine pw_astore (pc := 13) C [(4, .ref q9), (0, .ref (G.2.2 + x0)), (1, .int x1), (2, .int x2), (3, .ref (G.2.2 + x3))] dL_constraint_13 (by decide) rfl ?_
      refine pw_iconst (pc := 15) (v := 1 ) C dL_constraint_15 (by decide) ?_
      refine pw_xret ?_
      exact pw_iret (pc := 16) C hr h dL_constraint_16
    · refine px_catch (name := "java/lang/IllegalArgumentException") C (tableOf [(0, 10, 13, 19)]) ⟨0, 10, 17, 25⟩ (tableOf []) hT (px_pass1 (Or.inr ⟨by decide, "java/lang/IndexOutOfBoundsException", C.2.2.2.2.1 (.classLink RL 19 "java/lang/IndexOutOfBoundsException") (by decide +kernel), ((hZ.2.2.2.2.2.2.2.2.2.2.2.2.2.2.2.2.2.1) s s.heap C.2.2.2.2.2.2.2.2.1).2.1⟩)) (by decide) (by decide) (by decide +kernel) (((hZ.2.2.2.2.2.2.2.2.2.2.2.2.2.2.2.2.2.1) s s.heap C.2.2.2.2.2.2.2.2.1).1.2.2.1) (fun q9 => ?_)
      refine pw_astore (pc := 17) C [(4, .ref q9), (0, .ref (G.2.2 + x0)), (1, .int x1), (2, .int x2), (3, .ref (G.2.2 + x3))] dL_constraint_17 (by decide) rfl ?_
      refine pw_iconst (pc := 19) (v := 2 ) C dL_constraint_19 (by decide) ?_
      refine pw_xret ?_
      exact pw_iret (pc := 20) C hr h dL_constraint_20
  · refine pw_i2l (pc := 8) C dL_constraint_8 ?_
    obtain ⟨hk4, h⟩ := h
    obtain ⟨hi5, h⟩ := h
    refine pw_last (pc := 9) C hk4 hi5 dL_constraint_9 ?_
    refine pw_goto (pc := 10) (S := (sJ S2 x3 ((0 : Int32)).toNatClampNeg (r3.toInt64))) (tgt := 21) C dL_constraint_10 rfl ?_
    refine pw_iconst (pc := 21) (S := (sJ S2 x3 ((0 : Int32)).toNatClampNeg (r3.toInt64))) (v := 0 ) C dL_constraint_21 (by decide) ?_
    refine pw_xret ?_
    exact pw_iret (pc := 22) (S := (sJ S2 x3 ((0 : Int32)).toNatClampNeg (r3.toInt64))) C hr h dL_constraint_22

abbrev rmL_fact : Room := { frames := 7, cells := 1, slots := 6, locals := 113 }
def wpL_fact (S : PS) (x0 : Nat) (x1 : Int32) (x2 : Int32) (x3 : Nat) (Q : Int32 → PS → Prop) : Prop := (pK S x0 = 10 ∧ (wpX11_fact S x0 x1 x2 (fun r3 S2 => (pK S2 x3 = 14 ∧ (vp_in (0 : Int32) (pL S2 x3) ∧ (Q (0 : Int32) (sJ S2 x3 ((0 : Int32)).toNatClampNeg (r3.toInt64)))))) (fun E9 S2 => (E9 = "java/lang/IndexOutOfBoundsException" ∧ (Q (1 : Int32) S2)) ∨ (E9 = "java/lang/IllegalArgumentException" ∧ (Q (2 : Int32) S2)))))
set_option maxRecDepth 100000 in
set_option maxHeartbeats 4000000 in
theorem ctL_fact (l : Launch) (G : PG) (hZ : pZa G) (hl : l.stackTraces = false) (S : PS) (x0 : Nat) (x1 : Int32) (x2 : Int32) (x3 : Nat) (Q : Int32 → PS → Prop) (h : wpL_fact S x0 x1 x2 x3 Q) : mI l yL_fact wsW_fact rmL_fact G S [.ref (G.2.2 + x0), .int x1, .int x2, .ref (G.2.2 + x3)] Q := by
  unfold mI
  refine met_ofH (cc := cL_fact) (maxL := 5) (ret := (some .int)) (by decide) rfl (Nat.le_of_ble_eq_true rfl) ?_
  intro p e s m args below meth c C hT hr hin
  unfold wpL_fact at h
  show PW p l e _ s m args below meth c _ G 5 S 0 0 [(0, .ref (G.2.2 + x0)), (1, .int x1), (2, .int x2), (3, .ref (G.2.2 + x3))] 0 []
  refine pw_aload_n (pc := 0) C 3 dL_fact_0 rfl rfl ?_
  refine pw_iconst (pc := 1) (v := 0 ) C dL_fact_1 (by decide) ?_
  refine pw_aload_n (pc := 2) C 0 dL_fact_2 rfl rfl ?_
  refine pw_iload_n (pc := 3) C 1 dL_fact_3 rfl rfl ?_
  refine pw_iload_n (pc := 4) C 2 dL_fact_4 rfl rfl ?_
  obtain ⟨hk1, h⟩ := h
  refine pw_callxi (pc := 5) (kc2 := 1) (kn2 := 6) (pRunXV (pc := 5) C (ctX11_fact l G hZ hl _ x0 x1 x2 _ _ h) (cwV 2 C.2.2.2.2.1 qgL_fact_X11_fact rfl rfl rfl (by decide +kernel) ⟨Nat.le_of_ble_eq_true rfl, Nat.le_of_ble_eq_true rfl⟩) pCl9 hk1 rfl rfl (Nat.le_of_ble_eq_true rfl) dL_fact_5 ⟨Nat.le_of_ble_eq_true rfl, Nat.le_of_ble_eq_true rfl⟩) rfl rfl (fun E9 S2 h => ?_) (fun r3 S2 h => ?_)
  · rcases h with ⟨rfl, h⟩ | ⟨rfl, h⟩
    · refine px_catch (name := "java/lang/IndexOutOfBoundsException") C (tableOf []) ⟨0, 10, 13, 19⟩ (tableOf [(0, 10, 17, 25)]) hT (fun z hz => by cases hz) (by decide) (by decide) (by decide +kernel) (((hZ.2.2.2.2.2.2.2.2.2.2.2.2.2.2.2.2.2.1) s s.heap C.2.2.2.2.2.2.2.2.1).1.2.1) (fun q9 => ?_)
      refine pw_astore (pc := 13) C [(4, .ref q9), (0, .ref (G.2.2 + x0)), (1, .int x1), (2, .int x2), (3, .ref (G.2.2 + x3))] dL_fact_13 (by decide) rfl ?_
      refine pw_iconst (pc := 15) (v := 1 ) C dL_fact_15 (by decide) ?_
      refine pw_xret ?_
      exact pw_iret (pc := 16) C hr h dL_fact_16
    · refine px_catch (name := "java/lang/IllegalArgumentException") C (tableOf [(0, 10, 13, 19)]) ⟨0, 10, 17, 25⟩ (tableOf []) hT (px_pass1 (Or.inr ⟨by decide, "java/lang/IndexOutOfBoundsException", C.2.2.2.2.1 (.classLink RL 19 "java/lang/IndexOutOfBoundsException") (by decide +kernel), ((hZ.2.2.2.2.2.2.2.2.2.2.2.2.2.2.2.2.2.1) s s.heap C.2.2.2.2.2.2.2.2.1).2.1⟩)) (by decide) (by decide) (by decide +kernel) (((hZ.2.2.2.2.2.2.2.2.2.2.2.2.2.2.2.2.2.1) s s.heap C.2.2.2.2.2.2.2.2.1).1.2.2.1) (fun q9 => ?_)
      refine pw_astore (pc := 17) C [(4, .ref q9), (0, .ref (G.2.2 + x0)), (1, .int x1), (2, .int x2), (3, .ref (G.2.2 + x3))] dL_fact_17 (by decide) rfl ?_
      refine pw_iconst (pc := 19) (v := 2 ) C dL_fact_19 (by decide) ?_
      refine pw_xret ?_
      exact pw_iret (pc := 20) C hr h dL_fact_20
  · refine pw_i2l (pc := 8) C dL_fact_8 ?_
    obtain ⟨hk4, h⟩ := h
    obtain ⟨hi5, h⟩ := h
    refine pw_last (pc := 9) C hk4 hi5 dL_fact_9 ?_
    refine pw_goto (pc := 10) (S := (sJ S2 x3 ((0 : Int32)).toNatClampNeg (r3.toInt64))) (tgt := 21) C dL_fact_10 rfl ?_
    refine pw_iconst (pc := 21) (S := (sJ S2 x3 ((0 : Int32)).toNatClampNeg (r3.toInt64))) (v := 0 ) C dL_fact_21 (by decide) ?_
    refine pw_xret ?_
    exact pw_iret (pc := 22) (S := (sJ S2 x3 ((0 : Int32)).toNatClampNeg (r3.toInt64))) C hr h dL_fact_22

abbrev rmL_factOf : Room := { frames := 7, cells := 1, slots := 6, locals := 115 }
def wpL_factOf (S : PS) (x0 : Nat) (x1 : Int32) (x2 : Int32) (x3 : Nat) (Q : Int32 → PS → Prop) : Prop := (pK S x0 = 10 ∧ (wpX11_factOf S x0 x1 x2 (fun r3 S2 => (pK S2 x3 = 14 ∧ (vp_in (0 : Int32) (pL S2 x3) ∧ (Q (0 : Int32) (sJ S2 x3 ((0 : Int32)).toNatClampNeg (r3.toInt64)))))) (fun E9 S2 => (E9 = "java/lang/IndexOutOfBoundsException" ∧ (Q (1 : Int32) S2)) ∨ (E9 = "java/lang/IllegalArgumentException" ∧ (Q (2 : Int32) S2)) ∨ (E9 = "java/util/NoSuchElementException" ∧ (Q (3 : Int32) S2)))))
set_option maxRecDepth 100000 in
set_option maxHeartbeats 4000000 in
theorem ctL_factOf (l : Launch) (G : PG) (hZ : pZa G) (hl : l.stackTraces = false) (S : PS) (x0 : Nat) (x1 : Int32) (x2 : Int32) (x3 : Nat) (Q : Int32 → PS → Prop) (h : wpL_factOf S x0 x1 x2 x3 Q) : mI l yL_factOf wsW_factOf rmL_factOf G S [.ref (G.2.2 + x0), .int x1, .int x2, .ref (G.2.2 + x3)] Q := by
  unfold mI
  refine met_ofH (cc := cL_factOf) (maxL := 5) (ret := (some .int)) (by decide) rfl (Nat.le_of_ble_eq_true rfl) ?_
  intro p e s m args below meth c C hT hr hin
  unfold wpL_factOf at h
  show PW p l e _ s m args below meth c _ G 5 S 0 0 [(0, .ref (G.2.2 + x0)), (1, .int x1), (2, .int x2), (3, .ref (G.2.2 + x3))] 0 []
  refine pw_aload_n (pc := 0) C 3 dL_factOf_0 rfl rfl ?_
  refine pw_iconst (pc := 1) (v := 0 ) C dL_factOf_1 (by decide) ?_
  refine pw_aload_n (pc := 2) C 0 dL_factOf_2 rfl rfl ?_
  refine pw_iload_n (pc := 3) C 1 dL_factOf_3 rfl rfl ?_
  refine pw_iload_n (pc := 4) C 2 dL_factOf_4 rfl rfl ?_
  obtain ⟨hk1, h⟩ := h
  refine pw_callxi (pc := 5) (kc2 := 1) (kn2 := 6) (pRunXV (pc := 5) C (ctX11_factOf l G hZ hl _ x0 x1 x2 _ _ h) (cwV 2 C.2.2.2.2.1 qgL_factOf_X11_factOf rfl rfl rfl (by decide +kernel) ⟨Nat.le_of_ble_eq_true rfl, Nat.le_of_ble_eq_true rfl⟩) pCl9 hk1 rfl rfl (Nat.le_of_ble_eq_true rfl) dL_factOf_5 ⟨Nat.le_of_ble_eq_true rfl, Nat.le_of_ble_eq_true rfl⟩) rfl rfl (fun E9 S2 h => ?_) (fun r3 S2 h => ?_)
  · rcases h with ⟨rfl, h⟩ | ⟨rfl, h⟩ | ⟨rfl, h⟩
    · refine px_catch (name := "java/lang/IndexOutOfBoundsException") C (tableOf []) ⟨0, 10, 13, 19⟩ (tableOf [(0, 10, 17, 25), (0, 10, 21, 43)]) hT (fun z hz => by cases hz) (by decide) (by decide) (by decide +kernel) (((hZ.2.2.2.2.2.2.2.2.2.2.2.2.2.2.2.2.2.1) s s.heap C.2.2.2.2.2.2.2.2.1).1.2.1) (fun q9 => ?_)
      refine pw_astore (pc := 13) C [(4, .ref q9), (0, .ref (G.2.2 + x0)), (1, .int x1), (2, .int x2), (3, .ref (G.2.2 + x3))] dL_factOf_13 (by decide) rfl ?_
      refine pw_iconst (pc := 15) (v := 1 ) C dL_factOf_15 (by decide) ?_
      refine pw_xret ?_
      exact pw_iret (pc := 16) C hr h dL_factOf_16
    · refine px_catch (name := "java/lang/IllegalArgumentException") C (tableOf [(0, 10, 13, 19)]) ⟨0, 10, 17, 25⟩ (tableOf [(0, 10, 21, 43)]) hT (px_pass1 (Or.inr ⟨by decide, "java/lang/IndexOutOfBoundsException", C.2.2.2.2.1 (.classLink RL 19 "java/lang/IndexOutOfBoundsException") (by decide +kernel), ((hZ.2.2.2.2.2.2.2.2.2.2.2.2.2.2.2.2.2.1) s s.heap C.2.2.2.2.2.2.2.2.1).2.1⟩)) (by decide) (by decide) (by decide +kernel) (((hZ.2.2.2.2.2.2.2.2.2.2.2.2.2.2.2.2.2.1) s s.heap C.2.2.2.2.2.2.2.2.1).1.2.2.1) (fun q9 => ?_)
      refine pw_astore (pc := 17) C [(4, .ref q9), (0, .ref (G.2.2 + x0)), (1, .int x1), (2, .int x2), (3, .ref (G.2.2 + x3))] dL_factOf_17 (by decide) rfl ?_
      refine pw_iconst (pc := 19) (v := 2 ) C dL_factOf_19 (by decide) ?_
      refine pw_xret ?_
      exact pw_iret (pc := 20) C hr h dL_factOf_20
    · refine px_catch (name := "java/util/NoSuchElementException") C (tableOf [(0, 10, 13, 19), (0, 10, 17, 25)]) ⟨0, 10, 21, 43⟩ (tableOf []) hT (px_pass2 (Or.inr ⟨by decide, "java/lang/IndexOutOfBoundsException", C.2.2.2.2.1 (.classLink RL 19 "java/lang/IndexOutOfBoundsException") (by decide +kernel), ((hZ.2.2.2.2.2.2.2.2.2.2.2.2.2.2.2.2.2.1) s s.heap C.2.2.2.2.2.2.2.2.1).2.2.1⟩) (Or.inr ⟨by decide, "java/lang/IllegalArgumentException", C.2.2.2.2.1 (.classLink RL 25 "java/lang/IllegalArgumentException") (by decide +kernel), ((hZ.2.2.2.2.2.2.2.2.2.2.2.2.2.2.2.2.2.1) s s.heap C.2.2.2.2.2.2.2.2.1).2.2.2.1⟩)) (by decide) (by decide) (by decide +kernel) (((hZ.2.2.2.2.2.2.2.2.2.2.2.2.2.2.2.2.2.1) s s.heap C.2.2.2.2.2.2.2.2.1).1.2.2.2) (fun q9 => ?_)
      refine pw_astore (pc := 21) C [(4, .ref q9), (0, .ref (G.2.2 + x0)), (1, .int x1), (2, .int x2), (3, .ref (G.2.2 + x3))] dL_factOf_21 (by decide) rfl ?_
      refine pw_iconst (pc := 23) (v := 3 ) C dL_factOf_23 (by decide) ?_
      refine pw_xret ?_
      exact pw_iret (pc := 24) C hr h dL_factOf_24
  · refine pw_i2l (pc := 8) C dL_factOf_8 ?_
    obtain ⟨hk4, h⟩ := h
    obtain ⟨hi5, h⟩ := h
    refine pw_last (pc := 9) C hk4 hi5 dL_factOf_9 ?_
    refine pw_goto (pc := 10) (S := (sJ S2 x3 ((0 : Int32)).toNatClampNeg (r3.toInt64))) (tgt := 25) C dL_factOf_10 rfl ?_
    refine pw_iconst (pc := 25) (S := (sJ S2 x3 ((0 : Int32)).toNatClampNeg (r3.toInt64))) (v := 0 ) C dL_factOf_25 (by decide) ?_
    refine pw_xret ?_
    exact pw_iret (pc := 26) (S := (sJ S2 x3 ((0 : Int32)).toNatClampNeg (r3.toInt64))) C hr h dL_factOf_26

abbrev rmL_explanationSize : Room := { frames := 16, cells := 1, slots := 6, locals := 439 }
def wpL_explanationSize (S : PS) (x0 : Nat) (x1 : Int32) (x2 : Nat) (Q : Int32 → PS → Prop) : Prop := (pK S x0 = 10 ∧ (wpX11_explanationSize S x0 x1 (fun r3 S2 => (pK S2 x2 = 14 ∧ (vp_in (0 : Int32) (pL S2 x2) ∧ (Q (0 : Int32) (sJ S2 x2 ((0 : Int32)).toNatClampNeg (r3.toInt64)))))) (fun E9 S2 => (E9 = "java/lang/IndexOutOfBoundsException" ∧ (Q (1 : Int32) S2)))))
set_option maxRecDepth 100000 in
set_option maxHeartbeats 4000000 in
theorem ctL_explanationSize (l : Launch) (G : PG) (hZ : pZa G) (hl : l.stackTraces = false) (S : PS) (x0 : Nat) (x1 : Int32) (x2 : Nat) (Q : Int32 → PS → Prop) (h : wpL_explanationSize S x0 x1 x2 Q) : mI l yL_explanationSize wsW_explanationSize rmL_explanationSize G S [.ref (G.2.2 + x0), .int x1, .ref (G.2.2 + x2)] Q := by
  unfold mI
  refine met_ofH (cc := cL_explanationSize) (maxL := 4) (ret := (some .int)) (by decide) rfl (Nat.le_of_ble_eq_true rfl) ?_
  intro p e s m args below meth c C hT hr hin
  unfold wpL_explanationSize at h
  show PW p l e _ s m args below meth c _ G 4 S 0 0 [(0, .ref (G.2.2 + x0)), (1, .int x1), (2, .ref (G.2.2 + x2))] 0 []
  refine pw_aload_n (pc := 0) C 2 dL_explanationSize_0 rfl rfl ?_
  refine pw_iconst (pc := 1) (v := 0 ) C dL_explanationSize_1 (by decide) ?_
  refine pw_aload_n (pc := 2) C 0 dL_explanationSize_2 rfl rfl ?_
  refine pw_iload_n (pc := 3) C 1 dL_explanationSize_3 rfl rfl ?_
  obtain ⟨hk1, h⟩ := h
  refine pw_callxi (pc := 4) (kc2 := 1) (kn2 := 6) (pRunXV (pc := 4) C (ctX11_explanationSize l G hZ hl _ x0 x1 _ _ h) (cwV 1 C.2.2.2.2.1 qgL_explanationSize_X11_explanationSize rfl rfl rfl (by decide +kernel) ⟨Nat.le_of_ble_eq_true rfl, Nat.le_of_ble_eq_true rfl⟩) pCl9 hk1 rfl rfl (Nat.le_of_ble_eq_true rfl) dL_explanationSize_4 ⟨Nat.le_of_ble_eq_true rfl, Nat.le_of_ble_eq_true rfl⟩) rfl rfl (fun E9 S2 h => ?_) (fun r3 S2 h => ?_)
  · obtain ⟨rfl, h⟩ := h
    refine px_catch (name := "java/lang/IndexOutOfBoundsException") C (tableOf []) ⟨0, 9, 12, 19⟩ (tableOf []) hT (fun z hz => by cases hz) (by decide) (by decide) (by decide +kernel) (((hZ.2.2.2.2.2.2.2.2.2.2.2.2.2.2.2.2.2.1) s s.heap C.2.2.2.2.2.2.2.2.1).1.2.1) (fun q9 => ?_)
    refine pw_astore_n (pc := 12) C [(3, .ref q9), (0, .ref (G.2.2 + x0)), (1, .int x1), (2, .ref (G.2.2 + x2))] dL_explanationSize_12 rfl (by decide) rfl ?_
    refine pw_iconst (pc := 13) (v := 1 ) C dL_explanationSize_13 (by decide) ?_
    refine pw_xret ?_
    exact pw_iret (pc := 14) C hr h dL_explanationSize_14
  · refine pw_i2l (pc := 7) C dL_explanationSize_7 ?_
    obtain ⟨hk4, h⟩ := h
    obtain ⟨hi5, h⟩ := h
    refine pw_last (pc := 8) C hk4 hi5 dL_explanationSize_8 ?_
    refine pw_goto (pc := 9) (S := (sJ S2 x2 ((0 : Int32)).toNatClampNeg (r3.toInt64))) (tgt := 15) C dL_explanationSize_9 rfl ?_
    refine pw_iconst (pc := 15) (S := (sJ S2 x2 ((0 : Int32)).toNatClampNeg (r3.toInt64))) (v := 0 ) C dL_explanationSize_15 (by decide) ?_
    refine pw_xret ?_
    exact pw_iret (pc := 16) (S := (sJ S2 x2 ((0 : Int32)).toNatClampNeg (r3.toInt64))) C hr h dL_explanationSize_16

abbrev rmL_explained : Room := { frames := 16, cells := 1, slots := 6, locals := 444 }
def wpL_explained (S : PS) (x0 : Nat) (x1 : Int32) (x2 : Int32) (x3 : Nat) (Q : Int32 → PS → Prop) : Prop := (pK S x0 = 10 ∧ (wpX11_explained S x0 x1 x2 (fun r3 S2 => (pK S2 x3 = 14 ∧ (vp_in (0 : Int32) (pL S2 x3) ∧ (Q (0 : Int32) (sJ S2 x3 ((0 : Int32)).toNatClampNeg (r3.toInt64)))))) (fun E9 S2 => (E9 = "java/lang/IndexOutOfBoundsException" ∧ (Q (1 : Int32) S2)))))
set_option maxRecDepth 100000 in
set_option maxHeartbeats 4000000 in
theorem ctL_explained (l : Launch) (G : PG) (hZ : pZa G) (hl : l.stackTraces = false) (S : PS) (x0 : Nat) (x1 : Int32) (x2 : Int32) (x3 : Nat) (Q : Int32 → PS → Prop) (h : wpL_explained S x0 x1 x2 x3 Q) : mI l yL_explained wsW_explained rmL_explained G S [.ref (G.2.2 + x0), .int x1, .int x2, .ref (G.2.2 + x3)] Q := by
  unfold mI
  refine met_ofH (cc := cL_explained) (maxL := 5) (ret := (some .int)) (by decide) rfl (Nat.le_of_ble_eq_true rfl) ?_
  intro p e s m args below meth c C hT hr hin
  unfold wpL_explained at h
  show PW p l e _ s m args below meth c _ G 5 S 0 0 [(0, .ref (G.2.2 + x0)), (1, .int x1), (2, .int x2), (3, .ref (G.2.2 + x3))] 0 []
  refine pw_aload_n (pc := 0) C 3 dL_explained_0 rfl rfl ?_
  refine pw_iconst (pc := 1) (v := 0 ) C dL_explained_1 (by decide) ?_
  refine pw_aload_n (pc := 2) C 0 dL_explained_2 rfl rfl ?_
  refine pw_iload_n (pc := 3) C 1 dL_explained_3 rfl rfl ?_
  refine pw_iload_n (pc := 4) C 2 dL_explained_4 rfl rfl ?_
  obtain ⟨hk1, h⟩ := h
  refine pw_callxi (pc := 5) (kc2 := 1) (kn2 := 6) (pRunXV (pc := 5) C (ctX11_explained l G hZ hl _ x0 x1 x2 _ _ h) (cwV 2 C.2.2.2.2.1 qgL_explained_X11_explained rfl rfl rfl (by decide +kernel) ⟨Nat.le_of_ble_eq_true rfl, Nat.le_of_ble_eq_true rfl⟩) pCl9 hk1 rfl rfl (Nat.le_of_ble_eq_true rfl) dL_explained_5 ⟨Nat.le_of_ble_eq_true rfl, Nat.le_of_ble_eq_true rfl⟩) rfl rfl (fun E9 S2 h => ?_) (fun r3 S2 h => ?_)
  · obtain ⟨rfl, h⟩ := h
    refine px_catch (name := "java/lang/IndexOutOfBoundsException") C (tableOf []) ⟨0, 10, 13, 19⟩ (tableOf []) hT (fun z hz => by cases hz) (by decide) (by decide) (by decide +kernel) (((hZ.2.2.2.2.2.2.2.2.2.2.2.2.2.2.2.2.2.1) s s.heap C.2.2.2.2.2.2.2.2.1).1.2.1) (fun q9 => ?_)
    refine pw_astore (pc := 13) C [(4, .ref q9), (0, .ref (G.2.2 + x0)), (1, .int x1), (2, .int x2), (3, .ref (G.2.2 + x3))] dL_explained_13 (by decide) rfl ?_
    refine pw_iconst (pc := 15) (v := 1 ) C dL_explained_15 (by decide) ?_
    refine pw_xret ?_
    exact pw_iret (pc := 16) C hr h dL_explained_16
  · refine pw_i2l (pc := 8) C dL_explained_8 ?_
    obtain ⟨hk4, h⟩ := h
    obtain ⟨hi5, h⟩ := h
    refine pw_last (pc := 9) C hk4 hi5 dL_explained_9 ?_
    refine pw_goto (pc := 10) (S := (sJ S2 x3 ((0 : Int32)).toNatClampNeg (r3.toInt64))) (tgt := 17) C dL_explained_10 rfl ?_
    refine pw_iconst (pc := 17) (S := (sJ S2 x3 ((0 : Int32)).toNatClampNeg (r3.toInt64))) (v := 0 ) C dL_explained_17 (by decide) ?_
    refine pw_xret ?_
    exact pw_iret (pc := 18) (S := (sJ S2 x3 ((0 : Int32)).toNatClampNeg (r3.toInt64))) C hr h dL_explained_18

abbrev rmL_depth : Room := { frames := 16, cells := 1, slots := 6, locals := 441 }
def wpL_depth (S : PS) (x0 : Nat) (x1 : Int32) (x2 : Nat) (Q : Int32 → PS → Prop) : Prop := (pK S x0 = 10 ∧ (wpX11_depth S x0 x1 (fun r3 S2 => (pK S2 x2 = 14 ∧ (vp_in (0 : Int32) (pL S2 x2) ∧ (Q (0 : Int32) (sJ S2 x2 ((0 : Int32)).toNatClampNeg (r3.toInt64)))))) (fun E9 S2 => (E9 = "java/lang/IndexOutOfBoundsException" ∧ (Q (1 : Int32) S2)))))
set_option maxRecDepth 100000 in
set_option maxHeartbeats 4000000 in
theorem ctL_depth (l : Launch) (G : PG) (hZ : pZa G) (hl : l.stackTraces = false) (S : PS) (x0 : Nat) (x1 : Int32) (x2 : Nat) (Q : Int32 → PS → Prop) (h : wpL_depth S x0 x1 x2 Q) : mI l yL_depth wsW_depth rmL_depth G S [.ref (G.2.2 + x0), .int x1, .ref (G.2.2 + x2)] Q := by
  unfold mI
  refine met_ofH (cc := cL_depth) (maxL := 4) (ret := (some .int)) (by decide) rfl (Nat.le_of_ble_eq_true rfl) ?_
  intro p e s m args below meth c C hT hr hin
  unfold wpL_depth at h
  show PW p l e _ s m args below meth c _ G 4 S 0 0 [(0, .ref (G.2.2 + x0)), (1, .int x1), (2, .ref (G.2.2 + x2))] 0 []
  refine pw_aload_n (pc := 0) C 2 dL_depth_0 rfl rfl ?_
  refine pw_iconst (pc := 1) (v := 0 ) C dL_depth_1 (by decide) ?_
  refine pw_aload_n (pc := 2) C 0 dL_depth_2 rfl rfl ?_
  refine pw_iload_n (pc := 3) C 1 dL_depth_3 rfl rfl ?_
  obtain ⟨hk1, h⟩ := h
  refine pw_callxi (pc := 4) (kc2 := 1) (kn2 := 6) (pRunXV (pc := 4) C (ctX11_depth l G hZ hl _ x0 x1 _ _ h) (cwV 1 C.2.2.2.2.1 qgL_depth_X11_depth rfl rfl rfl (by decide +kernel) ⟨Nat.le_of_ble_eq_true rfl, Nat.le_of_ble_eq_true rfl⟩) pCl9 hk1 rfl rfl (Nat.le_of_ble_eq_true rfl) dL_depth_4 ⟨Nat.le_of_ble_eq_true rfl, Nat.le_of_ble_eq_true rfl⟩) rfl rfl (fun E9 S2 h => ?_) (fun r3 S2 h => ?_)
  · obtain ⟨rfl, h⟩ := h
    refine px_catch (name := "java/lang/IndexOutOfBoundsException") C (tableOf []) ⟨0, 9, 12, 19⟩ (tableOf []) hT (fun z hz => by cases hz) (by decide) (by decide) (by decide +kernel) (((hZ.2.2.2.2.2.2.2.2.2.2.2.2.2.2.2.2.2.1) s s.heap C.2.2.2.2.2.2.2.2.1).1.2.1) (fun q9 => ?_)
    refine pw_astore_n (pc := 12) C [(3, .ref q9), (0, .ref (G.2.2 + x0)), (1, .int x1), (2, .ref (G.2.2 + x2))] dL_depth_12 rfl (by decide) rfl ?_
    refine pw_iconst (pc := 13) (v := 1 ) C dL_depth_13 (by decide) ?_
    refine pw_xret ?_
    exact pw_iret (pc := 14) C hr h dL_depth_14
  · refine pw_i2l (pc := 7) C dL_depth_7 ?_
    obtain ⟨hk4, h⟩ := h
    obtain ⟨hi5, h⟩ := h
    refine pw_last (pc := 8) C hk4 hi5 dL_depth_8 ?_
    refine pw_goto (pc := 9) (S := (sJ S2 x2 ((0 : Int32)).toNatClampNeg (r3.toInt64))) (tgt := 15) C dL_depth_9 rfl ?_
    refine pw_iconst (pc := 15) (S := (sJ S2 x2 ((0 : Int32)).toNatClampNeg (r3.toInt64))) (v := 0 ) C dL_depth_15 (by decide) ?_
    refine pw_xret ?_
    exact pw_iret (pc := 16) (S := (sJ S2 x2 ((0 : Int32)).toNatClampNeg (r3.toInt64))) C hr h dL_depth_16

abbrev rmL_isSupported : Room := { frames := 15, cells := 1, slots := 6, locals := 411 }
def wpL_isSupported (S : PS) (x0 : Nat) (x1 : Int32) (x2 : Int32) (x3 : Int32) (x4 : Nat) (Q : Int32 → PS → Prop) : Prop := (pK S x0 = 10 ∧ (wpX11_isSupported S x0 x1 x2 x3 (fun r3 S2 => ((r3 = 0 → (pK S2 x4 = 14 ∧ (vp_in (0 : Int32) (pL S2 x4) ∧ (Q (0 : Int32) (sJ S2 x4 ((0 : Int32)).toNatClampNeg (0 : Int64)))))) ∧ (¬ r3 = 0 → (pK S2 x4 = 14 ∧ (vp_in (0 : Int32) (pL S2 x4) ∧ (Q (0 : Int32) (sJ S2 x4 ((0 : Int32)).toNatClampNeg (1 : Int64)))))))) (fun E9 S2 => (E9 = "java/lang/IndexOutOfBoundsException" ∧ (Q (1 : Int32) S2)) ∨ (E9 = "java/lang/IllegalArgumentException" ∧ (Q (2 : Int32) S2)))))
set_option maxRecDepth 100000 in
set_option maxHeartbeats 4000000 in
theorem ctL_isSupported (l : Launch) (G : PG) (hZ : pZa G) (hl : l.stackTraces = false) (S : PS) (x0 : Nat) (x1 : Int32) (x2 : Int32) (x3 : Int32) (x4 : Nat) (Q : Int32 → PS → Prop) (h : wpL_isSupported S x0 x1 x2 x3 x4 Q) : mI l yL_isSupported wsW_isSupported rmL_isSupported G S [.ref (G.2.2 + x0), .int x1, .int x2, .int x3, .ref (G.2.2 + x4)] Q := by
  unfold mI
  refine met_ofH (cc := cL_isSupported) (maxL := 6) (ret := (some .int)) (by decide) rfl (Nat.le_of_ble_eq_true rfl) ?_
  intro p e s m args below meth c C hT hr hin
  unfold wpL_isSupported at h
  show PW p l e _ s m args below meth c _ G 6 S 0 0 [(0, .ref (G.2.2 + x0)), (1, .int x1), (2, .int x2), (3, .int x3), (4, .ref (G.2.2 + x4))] 0 []
  refine pw_aload (pc := 0) C 4 dL_isSupported_0 rfl ?_
  refine pw_iconst (pc := 2) (v := 0 ) C dL_isSupported_2 (by decide) ?_
  refine pw_aload_n (pc := 3) C 0 dL_isSupported_3 rfl rfl ?_
  refine pw_iload_n (pc := 4) C 1 dL_isSupported_4 rfl rfl ?_
  refine pw_iload_n (pc := 5) C 2 dL_isSupported_5 rfl rfl ?_
  refine pw_iload_n (pc := 6) C 3 dL_isSupported_6 rfl rfl ?_
  obtain ⟨hk1, h⟩ := h
  refine pw_callxi (pc := 7) (kc2 := 1) (kn2 := 6) (pRunXV (pc := 7) C (ctX11_isSupported l G hZ hl _ x0 x1 x2 x3 _ _ h) (cwV 3 C.2.2.2.2.1 qgL_isSupported_X11_isSupported rfl rfl rfl (by decide +kernel) ⟨Nat.le_of_ble_eq_true rfl, Nat.le_of_ble_eq_true rfl⟩) pCl9 hk1 rfl rfl (Nat.le_of_ble_eq_true rfl) dL_isSupported_7 ⟨Nat.le_of_ble_eq_true rfl, Nat.le_of_ble_eq_true rfl⟩) rfl rfl (fun E9 S2 h => ?_) (fun r3 S2 h => ?_)
  · rcases h with ⟨rfl, h⟩ | ⟨rfl, h⟩
    · refine px_catch (name := "java/lang/IndexOutOfBoundsException") C (tableOf []) ⟨0, 19, 22, 19⟩ (tableOf [(0, 19, 26, 25)]) hT (fun z hz => by cases hz) (by decide) (by decide) (by decide +kernel) (((hZ.2.2.2.2.2.2.2.2.2.2.2.2.2.2.2.2.2.1) s s.heap C.2.2.2.2.2.2.2.2.1).1.2.1) (fun q9 => ?_)
      refine pw_astore (pc := 22) C [(5, .ref q9), (0, .ref (G.2.2 + x0)), (1, .int x1), (2, .int x2), (3, .int x3), (4, .ref (G.2.2 + x4))] dL_isSupported_22 (by decide) rfl ?_
      refine pw_iconst (pc := 24) (v := 1 ) C dL_isSupported_24 (by decide) ?_
      refine pw_xret ?_
      exact pw_iret (pc := 25) C hr h dL_isSupported_25
    · refine px_catch (name := "java/lang/IllegalArgumentException") C (tableOf [(0, 19, 22, 19)]) ⟨0, 19, 26, 25⟩ (tableOf []) hT (px_pass1 (Or.inr ⟨by decide, "java/lang/IndexOutOfBoundsException", C.2.2.2.2.1 (.classLink RL 19 "java/lang/IndexOutOfBoundsException") (by decide +kernel), ((hZ.2.2.2.2.2.2.2.2.2.2.2.2.2.2.2.2.2.1) s s.heap C.2.2.2.2.2.2.2.2.1).2.1⟩)) (by decide) (by decide) (by decide +kernel) (((hZ.2.2.2.2.2.2.2.2.2.2.2.2.2.2.2.2.2.1) s s.heap C.2.2.2.2.2.2.2.2.1).1.2.2.1) (fun q9 => ?_)
      refine pw_astore (pc := 26) C [(5, .ref q9), (0, .ref (G.2.2 + x0)), (1, .int x1), (2, .int x2), (3, .int x3), (4, .ref (G.2.2 + x4))] dL_isSupported_26 (by decide) rfl ?_
      refine pw_iconst (pc := 28) (v := 2 ) C dL_isSupported_28 (by decide) ?_
      refine pw_xret ?_
      exact pw_iret (pc := 29) C hr h dL_isSupported_29
  · refine pw_if_eq (pc := 10) (tgt := 17) C dL_isSupported_10 rfl ⟨fun hc => ?_, fun hc => ?_⟩
    · replace h := h.1 hc
      refine pw_lconst (pc := 17) (v := 0) C dL_isSupported_17 (by decide) ?_
      obtain ⟨hk4, h⟩ := h
      obtain ⟨hi5, h⟩ := h
      refine pw_last (pc := 18) C hk4 hi5 dL_isSupported_18 ?_
      refine pw_goto (pc := 19) (S := (sJ S2 x4 ((0 : Int32)).toNatClampNeg (0 : Int64))) (tgt := 30) C dL_isSupported_19 rfl ?_
      refine pw_iconst (pc := 30) (S := (sJ S2 x4 ((0 : Int32)).toNatClampNeg (0 : Int64))) (v := 0 ) C dL_isSupported_30 (by decide) ?_
      refine pw_xret ?_
      exact pw_iret (pc := 31) (S := (sJ S2 x4 ((0 : Int32)).toNatClampNeg (0 : Int64))) C hr h dL_isSupported_31
    · replace h := h.2 hc
      refine pw_lconst (pc := 13) (v := 1) C dL_isSupported_13 (by decide) ?_
      refine pw_goto (pc := 14) (tgt := 18) C dL_isSupported_14 rfl ?_
      obtain ⟨hk6, h⟩ := h
      obtain ⟨hi7, h⟩ := h
      refine pw_last (pc := 18) C hk6 hi7 dL_isSupported_18 ?_
      refine pw_goto (pc := 19) (S := (sJ S2 x4 ((0 : Int32)).toNatClampNeg (1 : Int64))) (tgt := 30) C dL_isSupported_19 rfl ?_
      refine pw_iconst (pc := 30) (S := (sJ S2 x4 ((0 : Int32)).toNatClampNeg (1 : Int64))) (v := 0 ) C dL_isSupported_30 (by decide) ?_
      refine pw_xret ?_
      exact pw_iret (pc := 31) (S := (sJ S2 x4 ((0 : Int32)).toNatClampNeg (1 : Int64))) C hr h dL_isSupported_31

abbrev rmL_support : Room := { frames := 15, cells := 1, slots := 6, locals := 414 }
def wpL_support (S : PS) (x0 : Nat) (x1 : Int32) (x2 : Int32) (x3 : Int32) (x4 : Int32) (x5 : Nat) (Q : Int32 → PS → Prop) : Prop := (pK S x0 = 10 ∧ (wpX11_support S x0 x1 x2 x3 x4 (fun r3 S2 => (pK S2 x5 = 14 ∧ (vp_in (0 : Int32) (pL S2 x5) ∧ (Q (0 : Int32) (sJ S2 x5 ((0 : Int32)).toNatClampNeg (r3.toInt64)))))) (fun E9 S2 => (E9 = "java/lang/IndexOutOfBoundsException" ∧ (Q (1 : Int32) S2)) ∨ (E9 = "java/lang/IllegalArgumentException" ∧ (Q (2 : Int32) S2)) ∨ (E9 = "java/util/NoSuchElementException" ∧ (Q (3 : Int32) S2)))))
set_option maxRecDepth 100000 in
set_option maxHeartbeats 4000000 in
theorem ctL_support (l : Launch) (G : PG) (hZ : pZa G) (hl : l.stackTraces = false) (S : PS) (x0 : Nat) (x1 : Int32) (x2 : Int32) (x3 : Int32) (x4 : Int32) (x5 : Nat) (Q : Int32 → PS → Prop) (h : wpL_support S x0 x1 x2 x3 x4 x5 Q) : mI l yL_support wsW_support rmL_support G S [.ref (G.2.2 + x0), .int x1, .int x2, .int x3, .int x4, .ref (G.2.2 + x5)] Q := by
  unfold mI
  refine met_ofH (cc := cL_support) (maxL := 7) (ret := (some .int)) (by decide) rfl (Nat.le_of_ble_eq_true rfl) ?_
  intro p e s m args below meth c C hT hr hin
  unfold wpL_support at h
  show PW p l e _ s m args below meth c _ G 7 S 0 0 [(0, .ref (G.2.2 + x0)), (1, .int x1), (2, .int x2), (3, .int x3), (4, .int x4), (5, .ref (G.2.2 + x5))] 0 []
  refine pw_aload (pc := 0) C 5 dL_support_0 rfl ?_
  refine pw_iconst (pc := 2) (v := 0 ) C dL_support_2 (by decide) ?_
  refine pw_aload_n (pc := 3) C 0 dL_support_3 rfl rfl ?_
  refine pw_iload_n (pc := 4) C 1 dL_support_4 rfl rfl ?_
  refine pw_iload_n (pc := 5) C 2 dL_support_5 rfl rfl ?_
  refine pw_iload_n (pc := 6) C 3 dL_support_6 rfl rfl ?_
  refine pw_iload (pc := 7) C 4 dL_support_7 rfl ?_
  obtain ⟨hk1, h⟩ := h
  refine pw_callxi (pc := 9) (kc2 := 1) (kn2 := 6) (pRunXV (pc := 9) C (ctX11_support l G hZ hl _ x0 x1 x2 x3 x4 _ _ h) (cwV 4 C.2.2.2.2.1 qgL_support_X11_support rfl rfl rfl (by decide +kernel) ⟨Nat.le_of_ble_eq_true rfl, Nat.le_of_ble_eq_true rfl⟩) pCl9 hk1 rfl rfl (Nat.le_of_ble_eq_true rfl) dL_support_9 ⟨Nat.le_of_ble_eq_true rfl, Nat.le_of_ble_eq_true rfl⟩) rfl rfl (fun E9 S2 h => ?_) (fun r3 S2 h => ?_)
  · rcases h with ⟨rfl, h⟩ | ⟨rfl, h⟩ | ⟨rfl, h⟩
    · refine px_catch (name := "java/lang/IndexOutOfBoundsException") C (tableOf []) ⟨0, 14, 17, 19⟩ (tableOf [(0, 14, 21, 25), (0, 14, 25, 43)]) hT (fun z hz => by cases hz) (by decide) (by decide) (by decide +kernel) (((hZ.2.2.2.2.2.2.2.2.2.2.2.2.2.2.2.2.2.1) s s.heap C.2.2.2.2.2.2.2.2.1).1.2.1) (fun q9 => ?_)
      refine pw_astore (pc := 17) C [(6, .ref q9), (0, .ref (G.2.2 + x0)), (1, .int x1), (2, .int x2), (3, .int x3), (4, .int x4), (5, .ref (G.2.2 + x5))] dL_support_17 (by decide) rfl ?_
      refine pw_iconst (pc := 19) (v := 1 ) C dL_support_19 (by decide) ?_
      refine pw_xret ?_
      exact pw_iret (pc := 20) C hr h dL_support_20
    · refine px_catch (name := "java/lang/IllegalArgumentException") C (tableOf [(0, 14, 17, 19)]) ⟨0, 14, 21, 25⟩ (tableOf [(0, 14, 25, 43)]) hT (px_pass1 (Or.inr ⟨by decide, "java/lang/IndexOutOfBoundsException", C.2.2.2.2.1 (.classLink RL 19 "java/lang/IndexOutOfBoundsException") (by decide +kernel), ((hZ.2.2.2.2.2.2.2.2.2.2.2.2.2.2.2.2.2.1) s s.heap C.2.2.2.2.2.2.2.2.1).2.1⟩)) (by decide) (by decide) (by decide +kernel) (((hZ.2.2.2.2.2.2.2.2.2.2.2.2.2.2.2.2.2.1) s s.heap C.2.2.2.2.2.2.2.2.1).1.2.2.1) (fun q9 => ?_)
      refine pw_astore (pc := 21) C [(6, .ref q9), (0, .ref (G.2.2 + x0)), (1, .int x1), (2, .int x2), (3, .int x3), (4, .int x4), (5, .ref (G.2.2 + x5))] dL_support_21 (by decide) rfl ?_
      refine pw_iconst (pc := 23) (v := 2 ) C dL_support_23 (by decide) ?_
      refine pw_xret ?_
      exact pw_iret (pc := 24) C hr h dL_support_24
    · refine px_catch (name := "java/util/NoSuchElementException") C (tableOf [(0, 14, 17, 19), (0, 14, 21, 25)]) ⟨0, 14, 25, 43⟩ (tableOf []) hT (px_pass2 (Or.inr ⟨by decide, "java/lang/IndexOutOfBoundsException", C.2.2.2.2.1 (.classLink RL 19 "java/lang/IndexOutOfBoundsException") (by decide +kernel), ((hZ.2.2.2.2.2.2.2.2.2.2.2.2.2.2.2.2.2.1) s s.heap C.2.2.2.2.2.2.2.2.1).2.2.1⟩) (Or.inr ⟨by decide, "java/lang/IllegalArgumentException", C.2.2.2.2.1 (.classLink RL 25 "java/lang/IllegalArgumentException") (by decide +kernel), ((hZ.2.2.2.2.2.2.2.2.2.2.2.2.2.2.2.2.2.1) s s.heap C.2.2.2.2.2.2.2.2.1).2.2.2.1⟩)) (by decide) (by decide) (by decide +kernel) (((hZ.2.2.2.2.2.2.2.2.2.2.2.2.2.2.2.2.2.1) s s.heap C.2.2.2.2.2.2.2.2.1).1.2.2.2) (fun q9 => ?_)
      refine pw_astore (pc := 25) C [(6, .ref q9), (0, .ref (G.2.2 + x0)), (1, .int x1), (2, .int x2), (3, .int x3), (4, .int x4), (5, .ref (G.2.2 + x5))] dL_support_25 (by decide) rfl ?_
      refine pw_iconst (pc := 27) (v := 3 ) C dL_support_27 (by decide) ?_
      refine pw_xret ?_
      exact pw_iret (pc := 28) C hr h dL_support_28
  · refine pw_i2l (pc := 12) C dL_support_12 ?_
    obtain ⟨hk4, h⟩ := h
    obtain ⟨hi5, h⟩ := h
    refine pw_last (pc := 13) C hk4 hi5 dL_support_13 ?_
    refine pw_goto (pc := 14) (S := (sJ S2 x5 ((0 : Int32)).toNatClampNeg (r3.toInt64))) (tgt := 29) C dL_support_14 rfl ?_
    refine pw_iconst (pc := 29) (S := (sJ S2 x5 ((0 : Int32)).toNatClampNeg (r3.toInt64))) (v := 0 ) C dL_support_29 (by decide) ?_
    refine pw_xret ?_
    exact pw_iret (pc := 30) (S := (sJ S2 x5 ((0 : Int32)).toNatClampNeg (r3.toInt64))) C hr h dL_support_30

abbrev rmL_watchers : Room := { frames := 16, cells := 1, slots := 6, locals := 439 }
def wpL_watchers (S : PS) (x0 : Nat) (x1 : Int32) (x2 : Int32) (x3 : Nat) (Q : Int32 → PS → Prop) : Prop := (pK S x0 = 10 ∧ (wpX11_watchers S x0 x1 x2 (fun r3 S2 => (pK S2 x3 = 14 ∧ (vp_in (0 : Int32) (pL S2 x3) ∧ (Q (0 : Int32) (sJ S2 x3 ((0 : Int32)).toNatClampNeg (r3.toInt64)))))) (fun E9 S2 => (E9 = "java/lang/IndexOutOfBoundsException" ∧ (Q (1 : Int32) S2)) ∨ (E9 = "java/lang/IllegalArgumentException" ∧ (Q (2 : Int32) S2)))))
set_option maxRecDepth 100000 in
set_option maxHeartbeats 4000000 in
theorem ctL_watchers (l : Launch) (G : PG) (hZ : pZa G) (hl : l.stackTraces = false) (S : PS) (x0 : Nat) (x1 : Int32) (x2 : Int32) (x3 : Nat) (Q : Int32 → PS → Prop) (h : wpL_watchers S x0 x1 x2 x3 Q) : mI l yL_watchers wsW_watchers rmL_watchers G S [.ref (G.2.2 + x0), .int x1, .int x2, .ref (G.2.2 + x3)] Q := by
  unfold mI
  refine met_ofH (cc := cL_watchers) (maxL := 5) (ret := (some .int)) (by decide) rfl (Nat.le_of_ble_eq_true rfl) ?_
  intro p e s m args below meth c C hT hr hin
  unfold wpL_watchers at h
  show PW p l e _ s m args below meth c _ G 5 S 0 0 [(0, .ref (G.2.2 + x0)), (1, .int x1), (2, .int x2), (3, .ref (G.2.2 + x3))] 0 []
  refine pw_aload_n (pc := 0) C 3 dL_watchers_0 rfl rfl ?_
  refine pw_iconst (pc := 1) (v := 0 ) C dL_watchers_1 (by decide) ?_
  refine pw_aload_n (pc := 2) C 0 dL_watchers_2 rfl rfl ?_
  refine pw_iload_n (pc := 3) C 1 dL_watchers_3 rfl rfl ?_
  refine pw_iload_n (pc := 4) C 2 dL_watchers_4 rfl rfl ?_
  obtain ⟨hk1, h⟩ := h
  refine pw_callxi (pc := 5) (kc2 := 1) (kn2 := 6) (pRunXV (pc := 5) C (ctX11_watchers l G hZ hl _ x0 x1 x2 _ _ h) (cwV 2 C.2.2.2.2.1 qgL_watchers_X11_watchers rfl rfl rfl (by decide +kernel) ⟨Nat.le_of_ble_eq_true rfl, Nat.le_of_ble_eq_true rfl⟩) pCl9 hk1 rfl rfl (Nat.le_of_ble_eq_true rfl) dL_watchers_5 ⟨Nat.le_of_ble_eq_true rfl, Nat.le_of_ble_eq_true rfl⟩) rfl rfl (fun E9 S2 h => ?_) (fun r3 S2 h => ?_)
  · rcases h with ⟨rfl, h⟩ | ⟨rfl, h⟩
    · refine px_catch (name := "java/lang/IndexOutOfBoundsException") C (tableOf []) ⟨0, 10, 13, 19⟩ (tableOf [(0, 10, 17, 25)]) hT (fun z hz => by cases hz) (by decide) (by decide) (by decide +kernel) (((hZ.2.2.2.2.2.2.2.2.2.2.2.2.2.2.2.2.2.1) s s.heap C.2.2.2.2.2.2.2.2.1).1.2.1) (fun q9 => ?_)
      refine pw_astore (pc := 13) C [(4, .ref q9), (0, .ref (G.2.2 + x0)), (1, .int x1), (2, .int x2), (3, .ref (G.2.2 + x3))] dL_watchers_13 (by decide) rfl ?_
      refine pw_iconst (pc := 15) (v := 1 ) C dL_watchers_15 (by decide) ?_
      refine pw_xret ?_
      exact pw_iret (pc := 16) C hr h dL_watchers_16
    · refine px_catch (name := "java/lang/IllegalArgumentException") C (tableOf [(0, 10, 13, 19)]) ⟨0, 10, 17, 25⟩ (tableOf []) hT (px_pass1 (Or.inr ⟨by decide, "java/lang/IndexOutOfBoundsException", C.2.2.2.2.1 (.classLink RL 19 "java/lang/IndexOutOfBoundsException") (by decide +kernel), ((hZ.2.2.2.2.2.2.2.2.2.2.2.2.2.2.2.2.2.1) s s.heap C.2.2.2.2.2.2.2.2.1).2.1⟩)) (by decide) (by decide) (by decide +kernel) (((hZ.2.2.2.2.2.2.2.2.2.2.2.2.2.2.2.2.2.1) s s.heap C.2.2.2.2.2.2.2.2.1).1.2.2.1) (fun q9 => ?_)
      refine pw_astore (pc := 17) C [(4, .ref q9), (0, .ref (G.2.2 + x0)), (1, .int x1), (2, .int x2), (3, .ref (G.2.2 + x3))] dL_watchers_17 (by decide) rfl ?_
      refine pw_iconst (pc := 19) (v := 2 ) C dL_watchers_19 (by decide) ?_
      refine pw_xret ?_
      exact pw_iret (pc := 20) C hr h dL_watchers_20
  · refine pw_i2l (pc := 8) C dL_watchers_8 ?_
    obtain ⟨hk4, h⟩ := h
    obtain ⟨hi5, h⟩ := h
    refine pw_last (pc := 9) C hk4 hi5 dL_watchers_9 ?_
    refine pw_goto (pc := 10) (S := (sJ S2 x3 ((0 : Int32)).toNatClampNeg (r3.toInt64))) (tgt := 21) C dL_watchers_10 rfl ?_
    refine pw_iconst (pc := 21) (S := (sJ S2 x3 ((0 : Int32)).toNatClampNeg (r3.toInt64))) (v := 0 ) C dL_watchers_21 (by decide) ?_
    refine pw_xret ?_
    exact pw_iret (pc := 22) (S := (sJ S2 x3 ((0 : Int32)).toNatClampNeg (r3.toInt64))) C hr h dL_watchers_22

abbrev rmL_tuples : Room := { frames := 14, cells := 1, slots := 6, locals := 406 }
def wpL_tuples (S : PS) (x0 : Nat) (x1 : Int32) (x2 : Nat) (Q : Int32 → PS → Prop) : Prop := (pK S x0 = 10 ∧ (wpX11_tuples S x0 x1 (fun r3 S2 => (pK S2 x2 = 14 ∧ (vp_in (0 : Int32) (pL S2 x2) ∧ (Q (0 : Int32) (sJ S2 x2 ((0 : Int32)).toNatClampNeg (r3.toInt64)))))) (fun E9 S2 => (E9 = "java/lang/IndexOutOfBoundsException" ∧ (Q (1 : Int32) S2)))))
set_option maxRecDepth 100000 in
set_option maxHeartbeats 4000000 in
theorem ctL_tuples (l : Launch) (G : PG) (hZ : pZa G) (hl : l.stackTraces = false) (S : PS) (x0 : Nat) (x1 : Int32) (x2 : Nat) (Q : Int32 → PS → Prop) (h : wpL_tuples S x0 x1 x2 Q) : mI l yL_tuples wsW_tuples rmL_tuples G S [.ref (G.2.2 + x0), .int x1, .ref (G.2.2 + x2)] Q := by
  unfold mI
  refine met_ofH (cc := cL_tuples) (maxL := 4) (ret := (some .int)) (by decide) rfl (Nat.le_of_ble_eq_true rfl) ?_
  intro p e s m args below meth c C hT hr hin
  unfold wpL_tuples at h
  show PW p l e _ s m args below meth c _ G 4 S 0 0 [(0, .ref (G.2.2 + x0)), (1, .int x1), (2, .ref (G.2.2 + x2))] 0 []
  refine pw_aload_n (pc := 0) C 2 dL_tuples_0 rfl rfl ?_
  refine pw_iconst (pc := 1) (v := 0 ) C dL_tuples_1 (by decide) ?_
  refine pw_aload_n (pc := 2) C 0 dL_tuples_2 rfl rfl ?_
  refine pw_iload_n (pc := 3) C 1 dL_tuples_3 rfl rfl ?_
  obtain ⟨hk1, h⟩ := h
  refine pw_callxi (pc := 4) (kc2 := 1) (kn2 := 6) (pRunXV (pc := 4) C (ctX11_tuples l G hZ hl _ x0 x1 _ _ h) (cwV 1 C.2.2.2.2.1 qgL_tuples_X11_tuples rfl rfl rfl (by decide +kernel) ⟨Nat.le_of_ble_eq_true rfl, Nat.le_of_ble_eq_true rfl⟩) pCl9 hk1 rfl rfl (Nat.le_of_ble_eq_true rfl) dL_tuples_4 ⟨Nat.le_of_ble_eq_true rfl, Nat.le_of_ble_eq_true rfl⟩) rfl rfl (fun E9 S2 h => ?_) (fun r3 S2 h => ?_)
  · obtain ⟨rfl, h⟩ := h
    refine px_catch (name := "java/lang/IndexOutOfBoundsException") C (tableOf []) ⟨0, 9, 12, 19⟩ (tableOf []) hT (fun z hz => by cases hz) (by decide) (by decide) (by decide +kernel) (((hZ.2.2.2.2.2.2.2.2.2.2.2.2.2.2.2.2.2.1) s s.heap C.2.2.2.2.2.2.2.2.1).1.2.1) (fun q9 => ?_)
    refine pw_astore_n (pc := 12) C [(3, .ref q9), (0, .ref (G.2.2 + x0)), (1, .int x1), (2, .ref (G.2.2 + x2))] dL_tuples_12 rfl (by decide) rfl ?_
    refine pw_iconst (pc := 13) (v := 1 ) C dL_tuples_13 (by decide) ?_
    refine pw_xret ?_
    exact pw_iret (pc := 14) C hr h dL_tuples_14
  · refine pw_i2l (pc := 7) C dL_tuples_7 ?_
    obtain ⟨hk4, h⟩ := h
    obtain ⟨hi5, h⟩ := h
    refine pw_last (pc := 8) C hk4 hi5 dL_tuples_8 ?_
    refine pw_goto (pc := 9) (S := (sJ S2 x2 ((0 : Int32)).toNatClampNeg (r3.toInt64))) (tgt := 15) C dL_tuples_9 rfl ?_
    refine pw_iconst (pc := 15) (S := (sJ S2 x2 ((0 : Int32)).toNatClampNeg (r3.toInt64))) (v := 0 ) C dL_tuples_15 (by decide) ?_
    refine pw_xret ?_
    exact pw_iret (pc := 16) (S := (sJ S2 x2 ((0 : Int32)).toNatClampNeg (r3.toInt64))) C hr h dL_tuples_16

abbrev rmL_tightness : Room := { frames := 14, cells := 1, slots := 6, locals := 408 }
def wpL_tightness (S : PS) (x0 : Nat) (x1 : Int32) (x2 : Nat) (Q : Int32 → PS → Prop) : Prop := (pK S x0 = 10 ∧ (wpX11_tightness S x0 x1 (fun r3 S2 => (pK S2 x2 = 18 ∧ (vp_in (0 : Int32) (pL S2 x2) ∧ (Q (0 : Int32) (sJ S2 x2 ((0 : Int32)).toNatClampNeg (r3).toInt64))))) (fun E9 S2 => (E9 = "java/lang/IndexOutOfBoundsException" ∧ (Q (1 : Int32) S2)) ∨ (E9 = "java/lang/IllegalStateException" ∧ (Q (2 : Int32) S2)))))
set_option maxRecDepth 100000 in
set_option maxHeartbeats 4000000 in
theorem ctL_tightness (l : Launch) (G : PG) (hZ : pZa G) (hl : l.stackTraces = false) (S : PS) (x0 : Nat) (x1 : Int32) (x2 : Nat) (Q : Int32 → PS → Prop) (h : wpL_tightness S x0 x1 x2 Q) : mI l yL_tightness wsW_tightness rmL_tightness G S [.ref (G.2.2 + x0), .int x1, .ref (G.2.2 + x2)] Q := by
  unfold mI
  refine met_ofH (cc := cL_tightness) (maxL := 4) (ret := (some .int)) (by decide) rfl (Nat.le_of_ble_eq_true rfl) ?_
  intro p e s m args below meth c C hT hr hin
  unfold wpL_tightness at h
  show PW p l e _ s m args below meth c _ G 4 S 0 0 [(0, .ref (G.2.2 + x0)), (1, .int x1), (2, .ref (G.2.2 + x2))] 0 []
  refine pw_aload_n (pc := 0) C 2 dL_tightness_0 rfl rfl ?_
  refine pw_iconst (pc := 1) (v := 0 ) C dL_tightness_1 (by decide) ?_
  refine pw_aload_n (pc := 2) C 0 dL_tightness_2 rfl rfl ?_
  refine pw_iload_n (pc := 3) C 1 dL_tightness_3 rfl rfl ?_
  obtain ⟨hk1, h⟩ := h
  refine pw_callxd (pc := 4) (kc2 := 1) (kn2 := 6) (pRunXV (pc := 4) C (ctX11_tightness l G hZ hl _ x0 x1 _ _ h) (cwV 1 C.2.2.2.2.1 qgL_tightness_X11_tightness rfl rfl rfl (by decide +kernel) ⟨Nat.le_of_ble_eq_true rfl, Nat.le_of_ble_eq_true rfl⟩) pCl9 hk1 rfl rfl (Nat.le_of_ble_eq_true rfl) dL_tightness_4 ⟨Nat.le_of_ble_eq_true rfl, Nat.le_of_ble_eq_true rfl⟩) rfl rfl (fun E9 S2 h => ?_) (fun r3 S2 h => ?_)
  · rcases h with ⟨rfl, h⟩ | ⟨rfl, h⟩
    · refine px_catch (name := "java/lang/IndexOutOfBoundsException") C (tableOf []) ⟨0, 8, 11, 19⟩ (tableOf [(0, 8, 14, 13)]) hT (fun z hz => by cases hz) (by decide) (by decide) (by decide +kernel) (((hZ.2.2.2.2.2.2.2.2.2.2.2.2.2.2.2.2.2.1) s s.heap C.2.2.2.2.2.2.2.2.1).1.2.1) (fun q9 => ?_)
      refine pw_astore_n (pc := 11) C [(3, .ref q9), (0, .ref (G.2.2 + x0)), (1, .int x1), (2, .ref (G.2.2 + x2))] dL_tightness_11 rfl (by decide) rfl ?_
      refine pw_iconst (pc := 12) (v := 1 ) C dL_tightness_12 (by decide) ?_
      refine pw_xret ?_
      exact pw_iret (pc := 13) C hr h dL_tightness_13
    · refine px_catch (name := "java/lang/IllegalStateException") C (tableOf [(0, 8, 11, 19)]) ⟨0, 8, 14, 13⟩ (tableOf []) hT (px_pass1 (Or.inr ⟨by decide, "java/lang/IndexOutOfBoundsException", C.2.2.2.2.1 (.classLink RL 19 "java/lang/IndexOutOfBoundsException") (by decide +kernel), ((hZ.2.2.2.2.2.2.2.2.2.2.2.2.2.2.2.2.2.1) s s.heap C.2.2.2.2.2.2.2.2.1).2.2.2.2.1⟩)) (by decide) (by decide) (by decide +kernel) (((hZ.2.2.2.2.2.2.2.2.2.2.2.2.2.2.2.2.2.1) s s.heap C.2.2.2.2.2.2.2.2.1).1.1) (fun q9 => ?_)
      refine pw_astore_n (pc := 14) C [(3, .ref q9), (0, .ref (G.2.2 + x0)), (1, .int x1), (2, .ref (G.2.2 + x2))] dL_tightness_14 rfl (by decide) rfl ?_
      refine pw_iconst (pc := 15) (v := 2 ) C dL_tightness_15 (by decide) ?_
      refine pw_xret ?_
      exact pw_iret (pc := 16) C hr h dL_tightness_16
  · obtain ⟨hk4, h⟩ := h
    obtain ⟨hi5, h⟩ := h
    refine pw_dast (pc := 7) C hk4 hi5 dL_tightness_7 ?_
    refine pw_goto (pc := 8) (S := (sJ S2 x2 ((0 : Int32)).toNatClampNeg (r3).toInt64)) (tgt := 17) C dL_tightness_8 rfl ?_
    refine pw_iconst (pc := 17) (S := (sJ S2 x2 ((0 : Int32)).toNatClampNeg (r3).toInt64)) (v := 0 ) C dL_tightness_17 (by decide) ?_
    refine pw_xret ?_
    exact pw_iret (pc := 18) (S := (sJ S2 x2 ((0 : Int32)).toNatClampNeg (r3).toInt64)) C hr h dL_tightness_18

abbrev rmL_first : Room := { frames := 16, cells := 1, slots := 6, locals := 425 }
def wpL_first (S : PS) (x0 : Nat) (x1 : Int32) (x2 : Nat) (Q : Int32 → PS → Prop) : Prop := (pK S x0 = 10 ∧ (wpX11_first S x0 x1 (fun r3 S2 => (pK S2 x2 = 14 ∧ (vp_in (0 : Int32) (pL S2 x2) ∧ (Q (0 : Int32) (sJ S2 x2 ((0 : Int32)).toNatClampNeg (r3.toInt64)))))) (fun E9 S2 => (E9 = "java/lang/IndexOutOfBoundsException" ∧ (Q (1 : Int32) S2)) ∨ (E9 = "java/util/NoSuchElementException" ∧ (Q (2 : Int32) S2)))))
set_option maxRecDepth 100000 in
set_option maxHeartbeats 4000000 in
theorem ctL_first (l : Launch) (G : PG) (hZ : pZa G) (hl : l.stackTraces = false) (S : PS) (x0 : Nat) (x1 : Int32) (x2 : Nat) (Q : Int32 → PS → Prop) (h : wpL_first S x0 x1 x2 Q) : mI l yL_first wsW_first rmL_first G S [.ref (G.2.2 + x0), .int x1, .ref (G.2.2 + x2)] Q := by
  unfold mI
  refine met_ofH (cc := cL_first) (maxL := 4) (ret := (some .int)) (by decide) rfl (Nat.le_of_ble_eq_true rfl) ?_
  intro p e s m args below meth c C hT hr hin
  unfold wpL_first at h
  show PW p l e _ s m args below meth c _ G 4 S 0 0 [(0, .ref (G.2.2 + x0)), (1, .int x1), (2, .ref (G.2.2 + x2))] 0 []
  refine pw_aload_n (pc := 0) C 2 dL_first_0 rfl rfl ?_
  refine pw_iconst (pc := 1) (v := 0 ) C dL_first_1 (by decide) ?_
  refine pw_aload_n (pc := 2) C 0 dL_first_2 rfl rfl ?_
  refine pw_iload_n (pc := 3) C 1 dL_first_3 rfl rfl ?_
  obtain ⟨hk1, h⟩ := h
  refine pw_callxi (pc := 4) (kc2 := 1) (kn2 := 6) (pRunXV (pc := 4) C (ctX11_first l G hZ hl _ x0 x1 _ _ h) (cwV 1 C.2.2.2.2.1 qgL_first_X11_first rfl rfl rfl (by decide +kernel) ⟨Nat.le_of_ble_eq_true rfl, Nat.le_of_ble_eq_true rfl⟩) pCl9 hk1 rfl rfl (Nat.le_of_ble_eq_true rfl) dL_first_4 ⟨Nat.le_of_ble_eq_true rfl, Nat.le_of_ble_eq_true rfl⟩) rfl rfl (fun E9 S2 h => ?_) (fun r3 S2 h => ?_)
  · rcases h with ⟨rfl, h⟩ | ⟨rfl, h⟩
    · refine px_catch (name := "java/lang/IndexOutOfBoundsException") C (tableOf []) ⟨0, 9, 12, 19⟩ (tableOf [(0, 9, 15, 43)]) hT (fun z hz => by cases hz) (by decide) (by decide) (by decide +kernel) (((hZ.2.2.2.2.2.2.2.2.2.2.2.2.2.2.2.2.2.1) s s.heap C.2.2.2.2.2.2.2.2.1).1.2.1) (fun q9 => ?_)
      refine pw_astore_n (pc := 12) C [(3, .ref q9), (0, .ref (G.2.2 + x0)), (1, .int x1), (2, .ref (G.2.2 + x2))] dL_first_12 rfl (by decide) rfl ?_
      refine pw_iconst (pc := 13) (v := 1 ) C dL_first_13 (by decide) ?_
      refine pw_xret ?_
      exact pw_iret (pc := 14) C hr h dL_first_14
    · refine px_catch (name := "java/util/NoSuchElementException") C (tableOf [(0, 9, 12, 19)]) ⟨0, 9, 15, 43⟩ (tableOf []) hT (px_pass1 (Or.inr ⟨by decide, "java/lang/IndexOutOfBoundsException", C.2.2.2.2.1 (.classLink RL 19 "java/lang/IndexOutOfBoundsException") (by decide +kernel), ((hZ.2.2.2.2.2.2.2.2.2.2.2.2.2.2.2.2.2.1) s s.heap C.2.2.2.2.2.2.2.2.1).2.2.1⟩)) (by decide) (by decide) (by decide +kernel) (((hZ.2.2.2.2.2.2.2.2.2.2.2.2.2.2.2.2.2.1) s s.heap C.2.2.2.2.2.2.2.2.1).1.2.2.2) (fun q9 => ?_)
      refine pw_astore_n (pc := 15) C [(3, .ref q9), (0, .ref (G.2.2 + x0)), (1, .int x1), (2, .ref (G.2.2 + x2))] dL_first_15 rfl (by decide) rfl ?_
      refine pw_iconst (pc := 16) (v := 2 ) C dL_first_16 (by decide) ?_
      refine pw_xret ?_
      exact pw_iret (pc := 17) C hr h dL_first_17
  · refine pw_i2l (pc := 7) C dL_first_7 ?_
    obtain ⟨hk4, h⟩ := h
    obtain ⟨hi5, h⟩ := h
    refine pw_last (pc := 8) C hk4 hi5 dL_first_8 ?_
    refine pw_goto (pc := 9) (S := (sJ S2 x2 ((0 : Int32)).toNatClampNeg (r3.toInt64))) (tgt := 18) C dL_first_9 rfl ?_
    refine pw_iconst (pc := 18) (S := (sJ S2 x2 ((0 : Int32)).toNatClampNeg (r3.toInt64))) (v := 0 ) C dL_first_18 (by decide) ?_
    refine pw_xret ?_
    exact pw_iret (pc := 19) (S := (sJ S2 x2 ((0 : Int32)).toNatClampNeg (r3.toInt64))) C hr h dL_first_19

abbrev rmL_possible : Room := { frames := 16, cells := 1, slots := 6, locals := 425 }
def wpL_possible (S : PS) (x0 : Nat) (x1 : Int32) (x2 : Nat) (Q : Int32 → PS → Prop) : Prop := (pK S x0 = 10 ∧ (wpX11_possible S x0 x1 (fun r3 S2 => (pK S2 x2 = 14 ∧ (vp_in (0 : Int32) (pL S2 x2) ∧ (Q (0 : Int32) (sJ S2 x2 ((0 : Int32)).toNatClampNeg (r3.toInt64)))))) (fun E9 S2 => (E9 = "java/lang/IndexOutOfBoundsException" ∧ (Q (1 : Int32) S2)))))
set_option maxRecDepth 100000 in
set_option maxHeartbeats 4000000 in
theorem ctL_possible (l : Launch) (G : PG) (hZ : pZa G) (hl : l.stackTraces = false) (S : PS) (x0 : Nat) (x1 : Int32) (x2 : Nat) (Q : Int32 → PS → Prop) (h : wpL_possible S x0 x1 x2 Q) : mI l yL_possible wsW_possible rmL_possible G S [.ref (G.2.2 + x0), .int x1, .ref (G.2.2 + x2)] Q := by
  unfold mI
  refine met_ofH (cc := cL_possible) (maxL := 4) (ret := (some .int)) (by decide) rfl (Nat.le_of_ble_eq_true rfl) ?_
  intro p e s m args below meth c C hT hr hin
  unfold wpL_possible at h
  show PW p l e _ s m args below meth c _ G 4 S 0 0 [(0, .ref (G.2.2 + x0)), (1, .int x1), (2, .ref (G.2.2 + x2))] 0 []
  refine pw_aload_n (pc := 0) C 2 dL_possible_0 rfl rfl ?_
  refine pw_iconst (pc := 1) (v := 0 ) C dL_possible_1 (by decide) ?_
  refine pw_aload_n (pc := 2) C 0 dL_possible_2 rfl rfl ?_
  refine pw_iload_n (pc := 3) C 1 dL_possible_3 rfl rfl ?_
  obtain ⟨hk1, h⟩ := h
  refine pw_callxi (pc := 4) (kc2 := 1) (kn2 := 6) (pRunXV (pc := 4) C (ctX11_possible l G hZ hl _ x0 x1 _ _ h) (cwV 1 C.2.2.2.2.1 qgL_possible_X11_possible rfl rfl rfl (by decide +kernel) ⟨Nat.le_of_ble_eq_true rfl, Nat.le_of_ble_eq_true rfl⟩) pCl9 hk1 rfl rfl (Nat.le_of_ble_eq_true rfl) dL_possible_4 ⟨Nat.le_of_ble_eq_true rfl, Nat.le_of_ble_eq_true rfl⟩) rfl rfl (fun E9 S2 h => ?_) (fun r3 S2 h => ?_)
  · obtain ⟨rfl, h⟩ := h
    refine px_catch (name := "java/lang/IndexOutOfBoundsException") C (tableOf []) ⟨0, 9, 12, 19⟩ (tableOf []) hT (fun z hz => by cases hz) (by decide) (by decide) (by decide +kernel) (((hZ.2.2.2.2.2.2.2.2.2.2.2.2.2.2.2.2.2.1) s s.heap C.2.2.2.2.2.2.2.2.1).1.2.1) (fun q9 => ?_)
    refine pw_astore_n (pc := 12) C [(3, .ref q9), (0, .ref (G.2.2 + x0)), (1, .int x1), (2, .ref (G.2.2 + x2))] dL_possible_12 rfl (by decide) rfl ?_
    refine pw_iconst (pc := 13) (v := 1 ) C dL_possible_13 (by decide) ?_
    refine pw_xret ?_
    exact pw_iret (pc := 14) C hr h dL_possible_14
  · refine pw_i2l (pc := 7) C dL_possible_7 ?_
    obtain ⟨hk4, h⟩ := h
    obtain ⟨hi5, h⟩ := h
    refine pw_last (pc := 8) C hk4 hi5 dL_possible_8 ?_
    refine pw_goto (pc := 9) (S := (sJ S2 x2 ((0 : Int32)).toNatClampNeg (r3.toInt64))) (tgt := 15) C dL_possible_9 rfl ?_
    refine pw_iconst (pc := 15) (S := (sJ S2 x2 ((0 : Int32)).toNatClampNeg (r3.toInt64))) (v := 0 ) C dL_possible_15 (by decide) ?_
    refine pw_xret ?_
    exact pw_iret (pc := 16) (S := (sJ S2 x2 ((0 : Int32)).toNatClampNeg (r3.toInt64))) C hr h dL_possible_16

abbrev rmL_forbid : Room := { frames := 16, cells := 1, slots := 6, locals := 442 }
def wpL_forbid (S : PS) (x0 : Nat) (x1 : Int32) (x2 : Int32) (x3 : Nat) (Q : Int32 → PS → Prop) : Prop := (pK S x0 = 10 ∧ (wpX11_forbid S x0 x1 x2 (fun r3 S2 => (pK S2 x3 = 14 ∧ (vp_in (0 : Int32) (pL S2 x3) ∧ (Q (0 : Int32) (sJ S2 x3 ((0 : Int32)).toNatClampNeg (r3.toInt64)))))) (fun E9 S2 => (E9 = "java/lang/IndexOutOfBoundsException" ∧ (Q (1 : Int32) S2)) ∨ (E9 = "java/lang/IllegalArgumentException" ∧ (Q (2 : Int32) S2)) ∨ (E9 = "java/lang/IllegalStateException" ∧ (Q (3 : Int32) S2)))))
set_option maxRecDepth 100000 in
set_option maxHeartbeats 4000000 in
theorem ctL_forbid (l : Launch) (G : PG) (hZ : pZa G) (hl : l.stackTraces = false) (S : PS) (x0 : Nat) (x1 : Int32) (x2 : Int32) (x3 : Nat) (Q : Int32 → PS → Prop) (h : wpL_forbid S x0 x1 x2 x3 Q) : mI l yL_forbid wsW_forbid rmL_forbid G S [.ref (G.2.2 + x0), .int x1, .int x2, .ref (G.2.2 + x3)] Q := by
  unfold mI
  refine met_ofH (cc := cL_forbid) (maxL := 5) (ret := (some .int)) (by decide) rfl (Nat.le_of_ble_eq_true rfl) ?_
  intro p e s m args below meth c C hT hr hin
  unfold wpL_forbid at h
  show PW p l e _ s m args below meth c _ G 5 S 0 0 [(0, .ref (G.2.2 + x0)), (1, .int x1), (2, .int x2), (3, .ref (G.2.2 + x3))] 0 []
  refine pw_aload_n (pc := 0) C 3 dL_forbid_0 rfl rfl ?_
  refine pw_iconst (pc := 1) (v := 0 ) C dL_forbid_1 (by decide) ?_
  refine pw_aload_n (pc := 2) C 0 dL_forbid_2 rfl rfl ?_
  refine pw_iload_n (pc := 3) C 1 dL_forbid_3 rfl rfl ?_
  refine pw_iload_n (pc := 4) C 2 dL_forbid_4 rfl rfl ?_
  obtain ⟨hk1, h⟩ := h
  refine pw_callxi (pc := 5) (kc2 := 1) (kn2 := 6) (pRunXV (pc := 5) C (ctX11_forbid l G hZ hl _ x0 x1 x2 _ _ h) (cwV 2 C.2.2.2.2.1 qgL_forbid_X11_forbid rfl rfl rfl (by decide +kernel) ⟨Nat.le_of_ble_eq_true rfl, Nat.le_of_ble_eq_true rfl⟩) pCl9 hk1 rfl rfl (Nat.le_of_ble_eq_true rfl) dL_forbid_5 ⟨Nat.le_of_ble_eq_true rfl, Nat.le_of_ble_eq_true rfl⟩) rfl rfl (fun E9 S2 h => ?_) (fun r3 S2 h => ?_)
  · rcases h with ⟨rfl, h⟩ | ⟨rfl, h⟩ | ⟨rfl, h⟩
    · refine px_catch (name := "java/lang/IndexOutOfBoundsException") C (tableOf []) ⟨0, 10, 13, 19⟩ (tableOf [(0, 10, 17, 25), (0, 10, 21, 13)]) hT (fun z hz => by cases hz) (by decide) (by decide) (by decide +kernel) (((hZ.2.2.2.2.2.2.2.2.2.2.2.2.2.2.2.2.2.1) s s.heap C.2.2.2.2.2.2.2.2.1).1.2.1) (fun q9 => ?_)
      refine pw_astore (pc := 13) C [(4, .ref q9), (0, .ref (G.2.2 + x0)), (1, .int x1), (2, .int x2), (3, .ref (G.2.2 + x3))] dL_forbid_13 (by decide) rfl ?_
      refine pw_iconst (pc := 15) (v := 1 ) C dL_forbid_15 (by decide) ?_
      refine pw_xret ?_
      exact pw_iret (pc := 16) C hr h dL_forbid_16
    · refine px_catch (name := "java/lang/IllegalArgumentException") C (tableOf [(0, 10, 13, 19)]) ⟨0, 10, 17, 25⟩ (tableOf [(0, 10, 21, 13)]) hT (px_pass1 (Or.inr ⟨by decide, "java/lang/IndexOutOfBoundsException", C.2.2.2.2.1 (.classLink RL 19 "java/lang/IndexOutOfBoundsException") (by decide +kernel), ((hZ.2.2.2.2.2.2.2.2.2.2.2.2.2.2.2.2.2.1) s s.heap C.2.2.2.2.2.2.2.2.1).2.1⟩)) (by decide) (by decide) (by decide +kernel) (((hZ.2.2.2.2.2.2.2.2.2.2.2.2.2.2.2.2.2.1) s s.heap C.2.2.2.2.2.2.2.2.1).1.2.2.1) (fun q9 => ?_)
      refine pw_astore (pc := 17) C [(4, .ref q9), (0, .ref (G.2.2 + x0)), (1, .int x1), (2, .int x2), (3, .ref (G.2.2 + x3))] dL_forbid_17 (by decide) rfl ?_
      refine pw_iconst (pc := 19) (v := 2 ) C dL_forbid_19 (by decide) ?_
      refine pw_xret ?_
      exact pw_iret (pc := 20) C hr h dL_forbid_20
    · refine px_catch (name := "java/lang/IllegalStateException") C (tableOf [(0, 10, 13, 19), (0, 10, 17, 25)]) ⟨0, 10, 21, 13⟩ (tableOf []) hT (px_pass2 (Or.inr ⟨by decide, "java/lang/IndexOutOfBoundsException", C.2.2.2.2.1 (.classLink RL 19 "java/lang/IndexOutOfBoundsException") (by decide +kernel), ((hZ.2.2.2.2.2.2.2.2.2.2.2.2.2.2.2.2.2.1) s s.heap C.2.2.2.2.2.2.2.2.1).2.2.2.2.1⟩) (Or.inr ⟨by decide, "java/lang/IllegalArgumentException", C.2.2.2.2.1 (.classLink RL 25 "java/lang/IllegalArgumentException") (by decide +kernel), ((hZ.2.2.2.2.2.2.2.2.2.2.2.2.2.2.2.2.2.1) s s.heap C.2.2.2.2.2.2.2.2.1).2.2.2.2.2⟩)) (by decide) (by decide) (by decide +kernel) (((hZ.2.2.2.2.2.2.2.2.2.2.2.2.2.2.2.2.2.1) s s.heap C.2.2.2.2.2.2.2.2.1).1.1) (fun q9 => ?_)
      refine pw_astore (pc := 21) C [(4, .ref q9), (0, .ref (G.2.2 + x0)), (1, .int x1), (2, .int x2), (3, .ref (G.2.2 + x3))] dL_forbid_21 (by decide) rfl ?_
      refine pw_iconst (pc := 23) (v := 3 ) C dL_forbid_23 (by decide) ?_
      refine pw_xret ?_
      exact pw_iret (pc := 24) C hr h dL_forbid_24
  · refine pw_i2l (pc := 8) C dL_forbid_8 ?_
    obtain ⟨hk4, h⟩ := h
    obtain ⟨hi5, h⟩ := h
    refine pw_last (pc := 9) C hk4 hi5 dL_forbid_9 ?_
    refine pw_goto (pc := 10) (S := (sJ S2 x3 ((0 : Int32)).toNatClampNeg (r3.toInt64))) (tgt := 25) C dL_forbid_10 rfl ?_
    refine pw_iconst (pc := 25) (S := (sJ S2 x3 ((0 : Int32)).toNatClampNeg (r3.toInt64))) (v := 0 ) C dL_forbid_25 (by decide) ?_
    refine pw_xret ?_
    exact pw_iret (pc := 26) (S := (sJ S2 x3 ((0 : Int32)).toNatClampNeg (r3.toInt64))) C hr h dL_forbid_26

abbrev rmL_decide : Room := { frames := 17, cells := 1, slots := 6, locals := 464 }
def wpL_decide (S : PS) (x0 : Nat) (x1 : Int32) (x2 : Int32) (x3 : Nat) (Q : Int32 → PS → Prop) : Prop := (pK S x0 = 10 ∧ (wpX11_decide S x0 x1 x2 (fun r3 S2 => (pK S2 x3 = 14 ∧ (vp_in (0 : Int32) (pL S2 x3) ∧ (Q (0 : Int32) (sJ S2 x3 ((0 : Int32)).toNatClampNeg (r3.toInt64)))))) (fun E9 S2 => (E9 = "java/lang/IndexOutOfBoundsException" ∧ (Q (1 : Int32) S2)) ∨ (E9 = "java/lang/IllegalArgumentException" ∧ (Q (2 : Int32) S2)) ∨ (E9 = "java/lang/IllegalStateException" ∧ (Q (3 : Int32) S2)))))
set_option maxRecDepth 100000 in
set_option maxHeartbeats 4000000 in
theorem ctL_decide (l : Launch) (G : PG) (hZ : pZa G) (hl : l.stackTraces = false) (S : PS) (x0 : Nat) (x1 : Int32) (x2 : Int32) (x3 : Nat) (Q : Int32 → PS → Prop) (h : wpL_decide S x0 x1 x2 x3 Q) : mI l yL_decide wsW_decide rmL_decide G S [.ref (G.2.2 + x0), .int x1, .int x2, .ref (G.2.2 + x3)] Q := by
  unfold mI
  refine met_ofH (cc := cL_decide) (maxL := 5) (ret := (some .int)) (by decide) rfl (Nat.le_of_ble_eq_true rfl) ?_
  intro p e s m args below meth c C hT hr hin
  unfold wpL_decide at h
  show PW p l e _ s m args below meth c _ G 5 S 0 0 [(0, .ref (G.2.2 + x0)), (1, .int x1), (2, .int x2), (3, .ref (G.2.2 + x3))] 0 []
  refine pw_aload_n (pc := 0) C 3 dL_decide_0 rfl rfl ?_
  refine pw_iconst (pc := 1) (v := 0 ) C dL_decide_1 (by decide) ?_
  refine pw_aload_n (pc := 2) C 0 dL_decide_2 rfl rfl ?_
  refine pw_iload_n (pc := 3) C 1 dL_decide_3 rfl rfl ?_
  refine pw_iload_n (pc := 4) C 2 dL_decide_4 rfl rfl ?_
  obtain ⟨hk1, h⟩ := h
  refine pw_callxi (pc := 5) (kc2 := 1) (kn2 := 6) (pRunXV (pc := 5) C (ctX11_decide l G hZ hl _ x0 x1 x2 _ _ h) (cwV 2 C.2.2.2.2.1 qgL_decide_X11_decide rfl rfl rfl (by decide +kernel) ⟨Nat.le_of_ble_eq_true rfl, Nat.le_of_ble_eq_true rfl⟩) pCl9 hk1 rfl rfl (Nat.le_of_ble_eq_true rfl) dL_decide_5 ⟨Nat.le_of_ble_eq_true rfl, Nat.le_of_ble_eq_true rfl⟩) rfl rfl (fun E9 S2 h => ?_) (fun r3 S2 h => ?_)
  · rcases h with ⟨rfl, h⟩ | ⟨rfl, h⟩ | ⟨rfl, h⟩
    · refine px_catch (name := "java/lang/IndexOutOfBoundsException") C (tableOf []) ⟨0, 10, 13, 19⟩ (tableOf [(0, 10, 17, 25), (0, 10, 21, 13)]) hT (fun z hz => by cases hz) (by decide) (by decide) (by decide +kernel) (((hZ.2.2.2.2.2.2.2.2.2.2.2.2.2.2.2.2.2.1) s s.heap C.2.2.2.2.2.2.2.2.1).1.2.1) (fun q9 => ?_)
      refine pw_astore (pc := 13) C [(4, .ref q9), (0, .ref (G.2.2 + x0)), (1, .int x1), (2, .int x2), (3, .ref (G.2.2 + x3))] dL_decide_13 (by decide) rfl ?_
      refine pw_iconst (pc := 15) (v := 1 ) C dL_decide_15 (by decide) ?_
      refine pw_xret ?_
      exact pw_iret (pc := 16) C hr h dL_decide_16
    · refine px_catch (name := "java/lang/IllegalArgumentException") C (tableOf [(0, 10, 13, 19)]) ⟨0, 10, 17, 25⟩ (tableOf [(0, 10, 21, 13)]) hT (px_pass1 (Or.inr ⟨by decide, "java/lang/IndexOutOfBoundsException", C.2.2.2.2.1 (.classLink RL 19 "java/lang/IndexOutOfBoundsException") (by decide +kernel), ((hZ.2.2.2.2.2.2.2.2.2.2.2.2.2.2.2.2.2.1) s s.heap C.2.2.2.2.2.2.2.2.1).2.1⟩)) (by decide) (by decide) (by decide +kernel) (((hZ.2.2.2.2.2.2.2.2.2.2.2.2.2.2.2.2.2.1) s s.heap C.2.2.2.2.2.2.2.2.1).1.2.2.1) (fun q9 => ?_)
      refine pw_astore (pc := 17) C [(4, .ref q9), (0, .ref (G.2.2 + x0)), (1, .int x1), (2, .int x2), (3, .ref (G.2.2 + x3))] dL_decide_17 (by decide) rfl ?_
      refine pw_iconst (pc := 19) (v := 2 ) C dL_decide_19 (by decide) ?_
      refine pw_xret ?_
      exact pw_iret (pc := 20) C hr h dL_decide_20
    · refine px_catch (name := "java/lang/IllegalStateException") C (tableOf [(0, 10, 13, 19), (0, 10, 17, 25)]) ⟨0, 10, 21, 13⟩ (tableOf []) hT (px_pass2 (Or.inr ⟨by decide, "java/lang/IndexOutOfBoundsException", C.2.2.2.2.1 (.classLink RL 19 "java/lang/IndexOutOfBoundsException") (by decide +kernel), ((hZ.2.2.2.2.2.2.2.2.2.2.2.2.2.2.2.2.2.1) s s.heap C.2.2.2.2.2.2.2.2.1).2.2.2.2.1⟩) (Or.inr ⟨by decide, "java/lang/IllegalArgumentException", C.2.2.2.2.1 (.classLink RL 25 "java/lang/IllegalArgumentException") (by decide +kernel), ((hZ.2.2.2.2.2.2.2.2.2.2.2.2.2.2.2.2.2.1) s s.heap C.2.2.2.2.2.2.2.2.1).2.2.2.2.2⟩)) (by decide) (by decide) (by decide +kernel) (((hZ.2.2.2.2.2.2.2.2.2.2.2.2.2.2.2.2.2.1) s s.heap C.2.2.2.2.2.2.2.2.1).1.1) (fun q9 => ?_)
      refine pw_astore (pc := 21) C [(4, .ref q9), (0, .ref (G.2.2 + x0)), (1, .int x1), (2, .int x2), (3, .ref (G.2.2 + x3))] dL_decide_21 (by decide) rfl ?_
      refine pw_iconst (pc := 23) (v := 3 ) C dL_decide_23 (by decide) ?_
      refine pw_xret ?_
      exact pw_iret (pc := 24) C hr h dL_decide_24
  · refine pw_i2l (pc := 8) C dL_decide_8 ?_
    obtain ⟨hk4, h⟩ := h
    obtain ⟨hi5, h⟩ := h
    refine pw_last (pc := 9) C hk4 hi5 dL_decide_9 ?_
    refine pw_goto (pc := 10) (S := (sJ S2 x3 ((0 : Int32)).toNatClampNeg (r3.toInt64))) (tgt := 25) C dL_decide_10 rfl ?_
    refine pw_iconst (pc := 25) (S := (sJ S2 x3 ((0 : Int32)).toNatClampNeg (r3.toInt64))) (v := 0 ) C dL_decide_25 (by decide) ?_
    refine pw_xret ?_
    exact pw_iret (pc := 26) (S := (sJ S2 x3 ((0 : Int32)).toNatClampNeg (r3.toInt64))) C hr h dL_decide_26

abbrev rmL_back : Room := { frames := 7, cells := 1, slots := 6, locals := 110 }
def wpL_back (S : PS) (x0 : Nat) (x1 : Nat) (Q : Int32 → PS → Prop) : Prop := (pK S x0 = 10 ∧ (wpX11_back S x0 (fun r3 S2 => (pK S2 x1 = 14 ∧ (vp_in (0 : Int32) (pL S2 x1) ∧ (Q (0 : Int32) (sJ S2 x1 ((0 : Int32)).toNatClampNeg (r3.toInt64)))))) (fun E9 S2 => (E9 = "java/lang/IllegalStateException" ∧ (Q (1 : Int32) S2)))))
set_option maxRecDepth 100000 in
set_option maxHeartbeats 4000000 in
theorem ctL_back (l : Launch) (G : PG) (hZ : pZa G) (hl : l.stackTraces = false) (S : PS) (x0 : Nat) (x1 : Nat) (Q : Int32 → PS → Prop) (h : wpL_back S x0 x1 Q) : mI l yL_back wsW_back rmL_back G S [.ref (G.2.2 + x0), .ref (G.2.2 + x1)] Q := by
  unfold mI
  refine met_ofH (cc := cL_back) (maxL := 3) (ret := (some .int)) (by decide) rfl (Nat.le_of_ble_eq_true rfl) ?_
  intro p e s m args below meth c C hT hr hin
  unfold wpL_back at h
  show PW p l e _ s m args below meth c _ G 3 S 0 0 [(0, .ref (G.2.2 + x0)), (1, .ref (G.2.2 + x1))] 0 []
  refine pw_aload_n (pc := 0) C 1 dL_back_0 rfl rfl ?_
  refine pw_iconst (pc := 1) (v := 0 ) C dL_back_1 (by decide) ?_
  refine pw_aload_n (pc := 2) C 0 dL_back_2 rfl rfl ?_
  obtain ⟨hk1, h⟩ := h
  refine pw_callxi (pc := 3) (kc2 := 1) (kn2 := 6) (pRunXV (pc := 3) C (ctX11_back l G hZ hl _ x0 _ _ h) (cwV 0 C.2.2.2.2.1 qgL_back_X11_back rfl rfl rfl (by decide +kernel) ⟨Nat.le_of_ble_eq_true rfl, Nat.le_of_ble_eq_true rfl⟩) pCl9 hk1 rfl rfl (Nat.le_of_ble_eq_true rfl) dL_back_3 ⟨Nat.le_of_ble_eq_true rfl, Nat.le_of_ble_eq_true rfl⟩) rfl rfl (fun E9 S2 h => ?_) (fun r3 S2 h => ?_)
  · obtain ⟨rfl, h⟩ := h
    refine px_catch (name := "java/lang/IllegalStateException") C (tableOf []) ⟨0, 8, 11, 13⟩ (tableOf []) hT (fun z hz => by cases hz) (by decide) (by decide) (by decide +kernel) (((hZ.2.2.2.2.2.2.2.2.2.2.2.2.2.2.2.2.2.1) s s.heap C.2.2.2.2.2.2.2.2.1).1.1) (fun q9 => ?_)
    refine pw_astore_n (pc := 11) C [(2, .ref q9), (0, .ref (G.2.2 + x0)), (1, .ref (G.2.2 + x1))] dL_back_11 rfl (by decide) rfl ?_
    refine pw_iconst (pc := 12) (v := 1 ) C dL_back_12 (by decide) ?_
    refine pw_xret ?_
    exact pw_iret (pc := 13) C hr h dL_back_13
  · refine pw_i2l (pc := 6) C dL_back_6 ?_
    obtain ⟨hk4, h⟩ := h
    obtain ⟨hi5, h⟩ := h
    refine pw_last (pc := 7) C hk4 hi5 dL_back_7 ?_
    refine pw_goto (pc := 8) (S := (sJ S2 x1 ((0 : Int32)).toNatClampNeg (r3.toInt64))) (tgt := 14) C dL_back_8 rfl ?_
    refine pw_iconst (pc := 14) (S := (sJ S2 x1 ((0 : Int32)).toNatClampNeg (r3.toInt64))) (v := 0 ) C dL_back_14 (by decide) ?_
    refine pw_xret ?_
    exact pw_iret (pc := 15) (S := (sJ S2 x1 ((0 : Int32)).toNatClampNeg (r3.toInt64))) C hr h dL_back_15

abbrev rmL_decision : Room := { frames := 7, cells := 1, slots := 6, locals := 111 }
def wpL_decision (S : PS) (x0 : Nat) (x1 : Int32) (x2 : Nat) (Q : Int32 → PS → Prop) : Prop := (pK S x0 = 10 ∧ (wpX11_decision S x0 x1 (fun r3 S2 => (pK S2 x2 = 14 ∧ (vp_in (0 : Int32) (pL S2 x2) ∧ (Q (0 : Int32) (sJ S2 x2 ((0 : Int32)).toNatClampNeg (r3.toInt64)))))) (fun E9 S2 => (E9 = "java/lang/IndexOutOfBoundsException" ∧ (Q (1 : Int32) S2)))))
set_option maxRecDepth 100000 in
set_option maxHeartbeats 4000000 in
theorem ctL_decision (l : Launch) (G : PG) (hZ : pZa G) (hl : l.stackTraces = false) (S : PS) (x0 : Nat) (x1 : Int32) (x2 : Nat) (Q : Int32 → PS → Prop) (h : wpL_decision S x0 x1 x2 Q) : mI l yL_decision wsW_decision rmL_decision G S [.ref (G.2.2 + x0), .int x1, .ref (G.2.2 + x2)] Q := by
  unfold mI
  refine met_ofH (cc := cL_decision) (maxL := 4) (ret := (some .int)) (by decide) rfl (Nat.le_of_ble_eq_true rfl) ?_
  intro p e s m args below meth c C hT hr hin
  unfold wpL_decision at h
  show PW p l e _ s m args below meth c _ G 4 S 0 0 [(0, .ref (G.2.2 + x0)), (1, .int x1), (2, .ref (G.2.2 + x2))] 0 []
  refine pw_aload_n (pc := 0) C 2 dL_decision_0 rfl rfl ?_
  refine pw_iconst (pc := 1) (v := 0 ) C dL_decision_1 (by decide) ?_
  refine pw_aload_n (pc := 2) C 0 dL_decision_2 rfl rfl ?_
  refine pw_iload_n (pc := 3) C 1 dL_decision_3 rfl rfl ?_
  obtain ⟨hk1, h⟩ := h
  refine pw_callxi (pc := 4) (kc2 := 1) (kn2 := 6) (pRunXV (pc := 4) C (ctX11_decision l G hZ hl _ x0 x1 _ _ h) (cwV 1 C.2.2.2.2.1 qgL_decision_X11_decision rfl rfl rfl (by decide +kernel) ⟨Nat.le_of_ble_eq_true rfl, Nat.le_of_ble_eq_true rfl⟩) pCl9 hk1 rfl rfl (Nat.le_of_ble_eq_true rfl) dL_decision_4 ⟨Nat.le_of_ble_eq_true rfl, Nat.le_of_ble_eq_true rfl⟩) rfl rfl (fun E9 S2 h => ?_) (fun r3 S2 h => ?_)
  · obtain ⟨rfl, h⟩ := h
    refine px_catch (name := "java/lang/IndexOutOfBoundsException") C (tableOf []) ⟨0, 9, 12, 19⟩ (tableOf []) hT (fun z hz => by cases hz) (by decide) (by decide) (by decide +kernel) (((hZ.2.2.2.2.2.2.2.2.2.2.2.2.2.2.2.2.2.1) s s.heap C.2.2.2.2.2.2.2.2.1).1.2.1) (fun q9 => ?_)
    refine pw_astore_n (pc := 12) C [(3, .ref q9), (0, .ref (G.2.2 + x0)), (1, .int x1), (2, .ref (G.2.2 + x2))] dL_decision_12 rfl (by decide) rfl ?_
    refine pw_iconst (pc := 13) (v := 1 ) C dL_decision_13 (by decide) ?_
    refine pw_xret ?_
    exact pw_iret (pc := 14) C hr h dL_decision_14
  · refine pw_i2l (pc := 7) C dL_decision_7 ?_
    obtain ⟨hk4, h⟩ := h
    obtain ⟨hi5, h⟩ := h
    refine pw_last (pc := 8) C hk4 hi5 dL_decision_8 ?_
    refine pw_goto (pc := 9) (S := (sJ S2 x2 ((0 : Int32)).toNatClampNeg (r3.toInt64))) (tgt := 15) C dL_decision_9 rfl ?_
    refine pw_iconst (pc := 15) (S := (sJ S2 x2 ((0 : Int32)).toNatClampNeg (r3.toInt64))) (v := 0 ) C dL_decision_15 (by decide) ?_
    refine pw_xret ?_
    exact pw_iret (pc := 16) (S := (sJ S2 x2 ((0 : Int32)).toNatClampNeg (r3.toInt64))) C hr h dL_decision_16

abbrev rmL_probe : Room := { frames := 16, cells := 1, slots := 6, locals := 441 }
def wpL_probe (S : PS) (x0 : Nat) (x1 : Int32) (x2 : Int32) (x3 : Nat) (Q : Int32 → PS → Prop) : Prop := (pK S x0 = 10 ∧ (wpX11_probe S x0 x1 x2 (fun r3 S2 => (pK S2 x3 = 14 ∧ (vp_in (0 : Int32) (pL S2 x3) ∧ (Q (0 : Int32) (sJ S2 x3 ((0 : Int32)).toNatClampNeg (r3.toInt64)))))) (fun E9 S2 => (E9 = "java/lang/IndexOutOfBoundsException" ∧ (Q (1 : Int32) S2)) ∨ (E9 = "java/lang/IllegalArgumentException" ∧ (Q (2 : Int32) S2)) ∨ (E9 = "java/lang/IllegalStateException" ∧ (Q (3 : Int32) S2)))))
set_option maxRecDepth 100000 in
set_option maxHeartbeats 4000000 in
theorem ctL_probe (l : Launch) (G : PG) (hZ : pZa G) (hl : l.stackTraces = false) (S : PS) (x0 : Nat) (x1 : Int32) (x2 : Int32) (x3 : Nat) (Q : Int32 → PS → Prop) (h : wpL_probe S x0 x1 x2 x3 Q) : mI l yL_probe wsW_probe rmL_probe G S [.ref (G.2.2 + x0), .int x1, .int x2, .ref (G.2.2 + x3)] Q := by
  unfold mI
  refine met_ofH (cc := cL_probe) (maxL := 5) (ret := (some .int)) (by decide) rfl (Nat.le_of_ble_eq_true rfl) ?_
  intro p e s m args below meth c C hT hr hin
  unfold wpL_probe at h
  show PW p l e _ s m args below meth c _ G 5 S 0 0 [(0, .ref (G.2.2 + x0)), (1, .int x1), (2, .int x2), (3, .ref (G.2.2 + x3))] 0 []
  refine pw_aload_n (pc := 0) C 3 dL_probe_0 rfl rfl ?_
  refine pw_iconst (pc := 1) (v := 0 ) C dL_probe_1 (by decide) ?_
  refine pw_aload_n (pc := 2) C 0 dL_probe_2 rfl rfl ?_
  refine pw_iload_n (pc := 3) C 1 dL_probe_3 rfl rfl ?_
  refine pw_iload_n (pc := 4) C 2 dL_probe_4 rfl rfl ?_
  obtain ⟨hk1, h⟩ := h
  refine pw_callxi (pc := 5) (kc2 := 1) (kn2 := 6) (pRunXV (pc := 5) C (ctX11_probe l G hZ hl _ x0 x1 x2 _ _ h) (cwV 2 C.2.2.2.2.1 qgL_probe_X11_probe rfl rfl rfl (by decide +kernel) ⟨Nat.le_of_ble_eq_true rfl, Nat.le_of_ble_eq_true rfl⟩) pCl9 hk1 rfl rfl (Nat.le_of_ble_eq_true rfl) dL_probe_5 ⟨Nat.le_of_ble_eq_true rfl, Nat.le_of_ble_eq_true rfl⟩) rfl rfl (fun E9 S2 h => ?_) (fun r3 S2 h => ?_)
  · rcases h with ⟨rfl, h⟩ | ⟨rfl, h⟩ | ⟨rfl, h⟩
    · refine px_catch (name := "java/lang/IndexOutOfBoundsException") C (tableOf []) ⟨0, 10, 13, 19⟩ (tableOf [(0, 10, 17, 25), (0, 10, 21, 13)]) hT (fun z hz => by cases hz) (by decide) (by decide) (by decide +kernel) (((hZ.2.2.2.2.2.2.2.2.2.2.2.2.2.2.2.2.2.1) s s.heap C.2.2.2.2.2.2.2.2.1).1.2.1) (fun q9 => ?_)
      refine pw_astore (pc := 13) C [(4, .ref q9), (0, .ref (G.2.2 + x0)), (1, .int x1), (2, .int x2), (3, .ref (G.2.2 + x3))] dL_probe_13 (by decide) rfl ?_
      refine pw_iconst (pc := 15) (v := 1 ) C dL_probe_15 (by decide) ?_
      refine pw_xret ?_
      exact pw_iret (pc := 16) C hr h dL_probe_16
    · refine px_catch (name := "java/lang/IllegalArgumentException") C (tableOf [(0, 10, 13, 19)]) ⟨0, 10, 17, 25⟩ (tableOf [(0, 10, 21, 13)]) hT (px_pass1 (Or.inr ⟨by decide, "java/lang/IndexOutOfBoundsException", C.2.2.2.2.1 (.classLink RL 19 "java/lang/IndexOutOfBoundsException") (by decide +kernel), ((hZ.2.2.2.2.2.2.2.2.2.2.2.2.2.2.2.2.2.1) s s.heap C.2.2.2.2.2.2.2.2.1).2.1⟩)) (by decide) (by decide) (by decide +kernel) (((hZ.2.2.2.2.2.2.2.2.2.2.2.2.2.2.2.2.2.1) s s.heap C.2.2.2.2.2.2.2.2.1).1.2.2.1) (fun q9 => ?_)
      refine pw_astore (pc := 17) C [(4, .ref q9), (0, .ref (G.2.2 + x0)), (1, .int x1), (2, .int x2), (3, .ref (G.2.2 + x3))] dL_probe_17 (by decide) rfl ?_
      refine pw_iconst (pc := 19) (v := 2 ) C dL_probe_19 (by decide) ?_
      refine pw_xret ?_
      exact pw_iret (pc := 20) C hr h dL_probe_20
    · refine px_catch (name := "java/lang/IllegalStateException") C (tableOf [(0, 10, 13, 19), (0, 10, 17, 25)]) ⟨0, 10, 21, 13⟩ (tableOf []) hT (px_pass2 (Or.inr ⟨by decide, "java/lang/IndexOutOfBoundsException", C.2.2.2.2.1 (.classLink RL 19 "java/lang/IndexOutOfBoundsException") (by decide +kernel), ((hZ.2.2.2.2.2.2.2.2.2.2.2.2.2.2.2.2.2.1) s s.heap C.2.2.2.2.2.2.2.2.1).2.2.2.2.1⟩) (Or.inr ⟨by decide, "java/lang/IllegalArgumentException", C.2.2.2.2.1 (.classLink RL 25 "java/lang/IllegalArgumentException") (by decide +kernel), ((hZ.2.2.2.2.2.2.2.2.2.2.2.2.2.2.2.2.2.1) s s.heap C.2.2.2.2.2.2.2.2.1).2.2.2.2.2⟩)) (by decide) (by decide) (by decide +kernel) (((hZ.2.2.2.2.2.2.2.2.2.2.2.2.2.2.2.2.2.1) s s.heap C.2.2.2.2.2.2.2.2.1).1.1) (fun q9 => ?_)
      refine pw_astore (pc := 21) C [(4, .ref q9), (0, .ref (G.2.2 + x0)), (1, .int x1), (2, .int x2), (3, .ref (G.2.2 + x3))] dL_probe_21 (by decide) rfl ?_
      refine pw_iconst (pc := 23) (v := 3 ) C dL_probe_23 (by decide) ?_
      refine pw_xret ?_
      exact pw_iret (pc := 24) C hr h dL_probe_24
  · refine pw_i2l (pc := 8) C dL_probe_8 ?_
    obtain ⟨hk4, h⟩ := h
    obtain ⟨hi5, h⟩ := h
    refine pw_last (pc := 9) C hk4 hi5 dL_probe_9 ?_
    refine pw_goto (pc := 10) (S := (sJ S2 x3 ((0 : Int32)).toNatClampNeg (r3.toInt64))) (tgt := 25) C dL_probe_10 rfl ?_
    refine pw_iconst (pc := 25) (S := (sJ S2 x3 ((0 : Int32)).toNatClampNeg (r3.toInt64))) (v := 0 ) C dL_probe_25 (by decide) ?_
    refine pw_xret ?_
    exact pw_iret (pc := 26) (S := (sJ S2 x3 ((0 : Int32)).toNatClampNeg (r3.toInt64))) C hr h dL_probe_26

abbrev rmL_learn : Room := { frames := 17, cells := 1, slots := 6, locals := 466 }
def wpL_learn (S : PS) (x0 : Nat) (x1 : Nat) (Q : Int32 → PS → Prop) : Prop := (pK S x0 = 10 ∧ (wpX11_learn S x0 (fun r3 S2 => (pK S2 x1 = 14 ∧ (vp_in (0 : Int32) (pL S2 x1) ∧ (Q (0 : Int32) (sJ S2 x1 ((0 : Int32)).toNatClampNeg (r3.toInt64)))))) (fun E9 S2 => (E9 = "java/lang/IllegalStateException" ∧ (Q (1 : Int32) S2)))))
set_option maxRecDepth 100000 in
set_option maxHeartbeats 4000000 in
theorem ctL_learn (l : Launch) (G : PG) (hZ : pZa G) (hl : l.stackTraces = false) (S : PS) (x0 : Nat) (x1 : Nat) (Q : Int32 → PS → Prop) (h : wpL_learn S x0 x1 Q) : mI l yL_learn wsW_learn rmL_learn G S [.ref (G.2.2 + x0), .ref (G.2.2 + x1)] Q := by
  unfold mI
  refine met_ofH (cc := cL_learn) (maxL := 3) (ret := (some .int)) (by decide) rfl (Nat.le_of_ble_eq_true rfl) ?_
  intro p e s m args below meth c C hT hr hin
  unfold wpL_learn at h
  show PW p l e _ s m args below meth c _ G 3 S 0 0 [(0, .ref (G.2.2 + x0)), (1, .ref (G.2.2 + x1))] 0 []
  refine pw_aload_n (pc := 0) C 1 dL_learn_0 rfl rfl ?_
  refine pw_iconst (pc := 1) (v := 0 ) C dL_learn_1 (by decide) ?_
  refine pw_aload_n (pc := 2) C 0 dL_learn_2 rfl rfl ?_
  obtain ⟨hk1, h⟩ := h
  refine pw_callxi (pc := 3) (kc2 := 1) (kn2 := 6) (pRunXV (pc := 3) C (ctX11_learn l G hZ hl _ x0 _ _ h) (cwV 0 C.2.2.2.2.1 qgL_learn_X11_learn rfl rfl rfl (by decide +kernel) ⟨Nat.le_of_ble_eq_true rfl, Nat.le_of_ble_eq_true rfl⟩) pCl9 hk1 rfl rfl (Nat.le_of_ble_eq_true rfl) dL_learn_3 ⟨Nat.le_of_ble_eq_true rfl, Nat.le_of_ble_eq_true rfl⟩) rfl rfl (fun E9 S2 h => ?_) (fun r3 S2 h => ?_)
  · obtain ⟨rfl, h⟩ := h
    refine px_catch (name := "java/lang/IllegalStateException") C (tableOf []) ⟨0, 8, 11, 13⟩ (tableOf []) hT (fun z hz => by cases hz) (by decide) (by decide) (by decide +kernel) (((hZ.2.2.2.2.2.2.2.2.2.2.2.2.2.2.2.2.2.1) s s.heap C.2.2.2.2.2.2.2.2.1).1.1) (fun q9 => ?_)
    refine pw_astore_n (pc := 11) C [(2, .ref q9), (0, .ref (G.2.2 + x0)), (1, .ref (G.2.2 + x1))] dL_learn_11 rfl (by decide) rfl ?_
    refine pw_iconst (pc := 12) (v := 1 ) C dL_learn_12 (by decide) ?_
    refine pw_xret ?_
    exact pw_iret (pc := 13) C hr h dL_learn_13
  · refine pw_i2l (pc := 6) C dL_learn_6 ?_
    obtain ⟨hk4, h⟩ := h
    obtain ⟨hi5, h⟩ := h
    refine pw_last (pc := 7) C hk4 hi5 dL_learn_7 ?_
    refine pw_goto (pc := 8) (S := (sJ S2 x1 ((0 : Int32)).toNatClampNeg (r3.toInt64))) (tgt := 14) C dL_learn_8 rfl ?_
    refine pw_iconst (pc := 14) (S := (sJ S2 x1 ((0 : Int32)).toNatClampNeg (r3.toInt64))) (v := 0 ) C dL_learn_14 (by decide) ?_
    refine pw_xret ?_
    exact pw_iret (pc := 15) (S := (sJ S2 x1 ((0 : Int32)).toNatClampNeg (r3.toInt64))) C hr h dL_learn_15

abbrev rmL_learnt : Room := { frames := 7, cells := 1, slots := 6, locals := 112 }
def wpL_learnt (S : PS) (x0 : Nat) (x1 : Int32) (x2 : Int32) (x3 : Nat) (Q : Int32 → PS → Prop) : Prop := (pK S x0 = 10 ∧ (wpX11_learnt S x0 x1 x2 (fun r3 S2 => (pK S2 x3 = 14 ∧ (vp_in (0 : Int32) (pL S2 x3) ∧ (Q (0 : Int32) (sJ S2 x3 ((0 : Int32)).toNatClampNeg (r3.toInt64)))))) (fun E9 S2 => (E9 = "java/lang/IndexOutOfBoundsException" ∧ (Q (1 : Int32) S2)))))
set_option maxRecDepth 100000 in
set_option maxHeartbeats 4000000 in
theorem ctL_learnt (l : Launch) (G : PG) (hZ : pZa G) (hl : l.stackTraces = false) (S : PS) (x0 : Nat) (x1 : Int32) (x2 : Int32) (x3 : Nat) (Q : Int32 → PS → Prop) (h : wpL_learnt S x0 x1 x2 x3 Q) : mI l yL_learnt wsW_learnt rmL_learnt G S [.ref (G.2.2 + x0), .int x1, .int x2, .ref (G.2.2 + x3)] Q := by
  unfold mI
  refine met_ofH (cc := cL_learnt) (maxL := 5) (ret := (some .int)) (by decide) rfl (Nat.le_of_ble_eq_true rfl) ?_
  intro p e s m args below meth c C hT hr hin
  unfold wpL_learnt at h
  show PW p l e _ s m args below meth c _ G 5 S 0 0 [(0, .ref (G.2.2 + x0)), (1, .int x1), (2, .int x2), (3, .ref (G.2.2 + x3))] 0 []
  refine pw_aload_n (pc := 0) C 3 dL_learnt_0 rfl rfl ?_
  refine pw_iconst (pc := 1) (v := 0 ) C dL_learnt_1 (by decide) ?_
  refine pw_aload_n (pc := 2) C 0 dL_learnt_2 rfl rfl ?_
  refine pw_iload_n (pc := 3) C 1 dL_learnt_3 rfl rfl ?_
  refine pw_iload_n (pc := 4) C 2 dL_learnt_4 rfl rfl ?_
  obtain ⟨hk1, h⟩ := h
  refine pw_callxi (pc := 5) (kc2 := 1) (kn2 := 6) (pRunXV (pc := 5) C (ctX11_learnt l G hZ hl _ x0 x1 x2 _ _ h) (cwV 2 C.2.2.2.2.1 qgL_learnt_X11_learnt rfl rfl rfl (by decide +kernel) ⟨Nat.le_of_ble_eq_true rfl, Nat.le_of_ble_eq_true rfl⟩) pCl9 hk1 rfl rfl (Nat.le_of_ble_eq_true rfl) dL_learnt_5 ⟨Nat.le_of_ble_eq_true rfl, Nat.le_of_ble_eq_true rfl⟩) rfl rfl (fun E9 S2 h => ?_) (fun r3 S2 h => ?_)
  · obtain ⟨rfl, h⟩ := h
    refine px_catch (name := "java/lang/IndexOutOfBoundsException") C (tableOf []) ⟨0, 10, 13, 19⟩ (tableOf []) hT (fun z hz => by cases hz) (by decide) (by decide) (by decide +kernel) (((hZ.2.2.2.2.2.2.2.2.2.2.2.2.2.2.2.2.2.1) s s.heap C.2.2.2.2.2.2.2.2.1).1.2.1) (fun q9 => ?_)
    refine pw_astore (pc := 13) C [(4, .ref q9), (0, .ref (G.2.2 + x0)), (1, .int x1), (2, .int x2), (3, .ref (G.2.2 + x3))] dL_learnt_13 (by decide) rfl ?_
    refine pw_iconst (pc := 15) (v := 1 ) C dL_learnt_15 (by decide) ?_
    refine pw_xret ?_
    exact pw_iret (pc := 16) C hr h dL_learnt_16
  · refine pw_i2l (pc := 8) C dL_learnt_8 ?_
    obtain ⟨hk4, h⟩ := h
    obtain ⟨hi5, h⟩ := h
    refine pw_last (pc := 9) C hk4 hi5 dL_learnt_9 ?_
    refine pw_goto (pc := 10) (S := (sJ S2 x3 ((0 : Int32)).toNatClampNeg (r3.toInt64))) (tgt := 17) C dL_learnt_10 rfl ?_
    refine pw_iconst (pc := 17) (S := (sJ S2 x3 ((0 : Int32)).toNatClampNeg (r3.toInt64))) (v := 0 ) C dL_learnt_17 (by decide) ?_
    refine pw_xret ?_
    exact pw_iret (pc := 18) (S := (sJ S2 x3 ((0 : Int32)).toNatClampNeg (r3.toInt64))) C hr h dL_learnt_18

abbrev rmL_search : Room := { frames := 17, cells := 1, slots := 6, locals := 470 }
def wpL_search (S : PS) (x0 : Nat) (x1 : Int32) (x2 : Nat) (Q : Int32 → PS → Prop) : Prop := (pK S x0 = 10 ∧ (wpX11_search S x0 x1 (fun r3 S2 => (pK S2 x2 = 14 ∧ (vp_in (0 : Int32) (pL S2 x2) ∧ (Q (0 : Int32) (sJ S2 x2 ((0 : Int32)).toNatClampNeg (r3.toInt64)))))) (fun E9 S2 => (E9 = "java/lang/IllegalArgumentException" ∧ (Q (1 : Int32) S2)))))
set_option maxRecDepth 100000 in
set_option maxHeartbeats 4000000 in
theorem ctL_search (l : Launch) (G : PG) (hZ : pZa G) (hl : l.stackTraces = false) (S : PS) (x0 : Nat) (x1 : Int32) (x2 : Nat) (Q : Int32 → PS → Prop) (h : wpL_search S x0 x1 x2 Q) : mI l yL_search wsW_search rmL_search G S [.ref (G.2.2 + x0), .int x1, .ref (G.2.2 + x2)] Q := by
  unfold mI
  refine met_ofH (cc := cL_search) (maxL := 4) (ret := (some .int)) (by decide) rfl (Nat.le_of_ble_eq_true rfl) ?_
  intro p e s m args below meth c C hT hr hin
  unfold wpL_search at h
  show PW p l e _ s m args below meth c _ G 4 S 0 0 [(0, .ref (G.2.2 + x0)), (1, .int x1), (2, .ref (G.2.2 + x2))] 0 []
  refine pw_aload_n (pc := 0) C 2 dL_search_0 rfl rfl ?_
  refine pw_iconst (pc := 1) (v := 0 ) C dL_search_1 (by decide) ?_
  refine pw_aload_n (pc := 2) C 0 dL_search_2 rfl rfl ?_
  refine pw_iload_n (pc := 3) C 1 dL_search_3 rfl rfl ?_
  obtain ⟨hk1, h⟩ := h
  refine pw_callxi (pc := 4) (kc2 := 1) (kn2 := 6) (pRunXV (pc := 4) C (ctX11_search l G hZ hl _ x0 x1 _ _ h) (cwV 1 C.2.2.2.2.1 qgL_search_X11_search rfl rfl rfl (by decide +kernel) ⟨Nat.le_of_ble_eq_true rfl, Nat.le_of_ble_eq_true rfl⟩) pCl9 hk1 rfl rfl (Nat.le_of_ble_eq_true rfl) dL_search_4 ⟨Nat.le_of_ble_eq_true rfl, Nat.le_of_ble_eq_true rfl⟩) rfl rfl (fun E9 S2 h => ?_) (fun r3 S2 h => ?_)
  · obtain ⟨rfl, h⟩ := h
    refine px_catch (name := "java/lang/IllegalArgumentException") C (tableOf []) ⟨0, 9, 12, 25⟩ (tableOf []) hT (fun z hz => by cases hz) (by decide) (by decide) (by decide +kernel) (((hZ.2.2.2.2.2.2.2.2.2.2.2.2.2.2.2.2.2.1) s s.heap C.2.2.2.2.2.2.2.2.1).1.2.2.1) (fun q9 => ?_)
    refine pw_astore_n (pc := 12) C [(3, .ref q9), (0, .ref (G.2.2 + x0)), (1, .int x1), (2, .ref (G.2.2 + x2))] dL_search_12 rfl (by decide) rfl ?_
    refine pw_iconst (pc := 13) (v := 1 ) C dL_search_13 (by decide) ?_
    refine pw_xret ?_
    exact pw_iret (pc := 14) C hr h dL_search_14
  · refine pw_i2l (pc := 7) C dL_search_7 ?_
    obtain ⟨hk4, h⟩ := h
    obtain ⟨hi5, h⟩ := h
    refine pw_last (pc := 8) C hk4 hi5 dL_search_8 ?_
    refine pw_goto (pc := 9) (S := (sJ S2 x2 ((0 : Int32)).toNatClampNeg (r3.toInt64))) (tgt := 15) C dL_search_9 rfl ?_
    refine pw_iconst (pc := 15) (S := (sJ S2 x2 ((0 : Int32)).toNatClampNeg (r3.toInt64))) (v := 0 ) C dL_search_15 (by decide) ?_
    refine pw_xret ?_
    exact pw_iret (pc := 16) (S := (sJ S2 x2 ((0 : Int32)).toNatClampNeg (r3.toInt64))) C hr h dL_search_16

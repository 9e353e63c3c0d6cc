abbrev rmX8_isWord : Room := { frames := 4, cells := 0, slots := 0, locals := 85 }
theorem iX8_isWord_X8 : ∀ w ∈ u_ws RX8 TX8 10, w ∈ wsX8_isWord := fun _ h => List.mem_cons_of_mem _ (List.mem_append_right _ h)
def wpX8_isWord_b28 (bW : List Int32) (Q : Int32 → PS → Prop) : Nat → PS → Nat → Int32 → Prop
  | 0 => fun _ _ _ => False
  | n + 1 => fun S x0 x2 => (((Int32.ofNat (bW).length >>> ((0 : Int32) &&& 31)) ≤ x2 → (Q (1 : Int32) S)) ∧ (¬ (Int32.ofNat (bW).length >>> ((0 : Int32) &&& 31)) ≤ x2 → (pK S x0 = 7 ∧ (wpX8_byteAt S x0 ((pI S x0 7) + x2) (fun r4 S5 => (vp_in x2 (bW).length ∧ ((r4 = (sCh ((bW).getD (x2).toNatClampNeg 0)) → (wpX8_isWord_b28 bW Q n S5 x0 (x2 + 1))) ∧ (¬ r4 = (sCh ((bW).getD (x2).toNatClampNeg 0)) → (Q (0 : Int32) S5)))))))))
def wpX8_isWord (S : PS) (x0 : Nat) (bW : List Int32) (Q : Int32 → PS → Prop) : Prop := (pK S x0 = 7 ∧ ((¬ (pI S x0 6) = (1 : Int32) → (Q (0 : Int32) S)) ∧ ((pI S x0 6) = (1 : Int32) → ((((pI S x0 8) - (pI S x0 7)) = (Int32.ofNat (bW).length >>> ((0 : Int32) &&& 31)) → (∃ n9 : Nat, wpX8_isWord_b28 bW Q n9 S x0 (0 : Int32))) ∧ (¬ ((pI S x0 8) - (pI S x0 7)) = (Int32.ofNat (bW).length >>> ((0 : Int32) &&& 31)) → (Q (0 : Int32) S))))))
set_option maxRecDepth 100000 in
set_option maxHeartbeats 4000000 in
theorem cbX8_isWord_b28 {p : Program} {l : Launch} {e : Env} {s : State} {m : MethodId} {args : Array Value} {below : List Frame} {meth : Method} {c : Code} {G : PG} {Q : Int32 → PS → Prop} (C : pCx p s m args meth c G cX8_isWord 3 yX8_isWord.cls wsX8_isWord) (hr : meth.sig.returnType = (some .boolean)) (hin : meth.name = yX8_isWord.name) (hZ : pZa G) {bW : List Int32} (qW : Nat) (hW : ZStr G qW bW) (hlW : bW.length < 2 ^ 31)  (n : Nat) : ∀ (S : PS) (x0 : Nat) (x2 : Int32), wpX8_isWord_b28 bW Q n S x0 x2 → PW p l e rmX8_isWord s m args below meth c (MQ below (va_Qi Q (pB G) (pFr G)) args s rmX8_isWord.cells rmX8_isWord.slots (pFr G)) G 3 S 0 0 [(0, .ref (G.2.2 + x0)), (1, .ref qW), (2, .int x2)] 28 ([]) := by
  induction n with
  | zero => intro S x0 x2 h; exact h.elim
  | succ n ih =>
    intro S x0 x2 h
    unfold wpX8_isWord_b28 at h
    refine pw_iload_n (pc := 28) C 2 dX8_isWord_28 rfl rfl ?_
    refine pw_aload_n (pc := 29) C 1 dX8_isWord_29 rfl rfl ?_
    obtain ⟨v2, hv1⟩ := id hW
    refine pw_calli (pc := 30) (kc2 := 0) (kn2 := 0) (pRunVS (pc := 30) C (hv1 s s.heap C.2.2.2.2.2.2.2.2.1) (ctJ0_length l G (hZ.2.2.2.2.2.2.2.2.2.2.2.2.2.2.2.2.2.2.1) S qW bW hW (fun r9 S9 => r9 = (Int32.ofNat (bW).length >>> ((0 : Int32) &&& 31)) ∧ S9 = S) ⟨rfl, rfl⟩) (cwV 0 C.2.2.2.2.1 gX8_isWord_J0_length_8abf5 rfl rfl rfl (by decide +kernel) ⟨Nat.le_of_ble_eq_true rfl, Nat.le_of_ble_eq_true rfl⟩) rfl rfl (Nat.le_of_ble_eq_true rfl) dX8_isWord_30 ⟨Nat.le_of_ble_eq_true rfl, Nat.le_of_ble_eq_true rfl⟩) rfl rfl (fun r9 S9 h9 => ?_)
    obtain ⟨e9, e9s⟩ := h9
    rw [e9, e9s]
    refine pw_icmp_ge (pc := 33) (tgt := 62) C dX8_isWord_33 rfl ⟨fun hc => ?_, fun hc => ?_⟩
    · replace h := h.1 hc
      refine pw_iconst (pc := 62) (v := 1 ) C dX8_isWord_62 (by decide) ?_
      exact pw_zret (pc := 63) C hr rfl h dX8_isWord_63
    · replace h := h.2 hc
      refine pw_aload_n (pc := 36) C 0 dX8_isWord_36 rfl rfl ?_
      refine pw_aload_n (pc := 37) C 0 dX8_isWord_37 rfl rfl ?_
      obtain ⟨hk3, h⟩ := h
      refine pw_getI (pc := 38) (ref := "SupportSolver$TextReader") (k := 7) (index := 39) C pCl6 iX8_isWord_X8 hk3 rfl (by decide +kernel) (Or.inl rfl) dX8_isWord_38 ?_
      refine pw_iload_n (pc := 41) C 2 dX8_isWord_41 rfl rfl ?_
      refine pw_iadd (pc := 42) C dX8_isWord_42 ?_
      refine pw_calli (pc := 43) (kc2 := 0) (kn2 := 0) (pRunV (pc := 43) C (ctX8_byteAt l G hZ  _ x0 ((pI S x0 7) + x2) _ h) (cwV 1 C.2.2.2.2.1 gX8_isWord_X8_byteAt rfl rfl rfl (by decide +kernel) ⟨Nat.le_of_ble_eq_true rfl, Nat.le_of_ble_eq_true rfl⟩) pCl6 hk3 rfl rfl (Nat.le_of_ble_eq_true rfl) dX8_isWord_43 ⟨Nat.le_of_ble_eq_true rfl, Nat.le_of_ble_eq_true rfl⟩) rfl rfl (fun r4 S5 h => ?_)
      refine pw_aload_n (pc := 46) C 1 dX8_isWord_46 rfl rfl ?_
      refine pw_iload_n (pc := 47) C 2 dX8_isWord_47 rfl rfl ?_
      obtain ⟨v7, hv6⟩ := id hW
      obtain ⟨hi8, h⟩ := h
      refine pw_calli (pc := 48) (kc2 := 0) (kn2 := 0) (pRunVS (pc := 48) C (hv6 s s.heap C.2.2.2.2.2.2.2.2.1) (ctJ0_charAt l G (hZ.2.2.2.2.2.2.2.2.2.2.2.2.2.2.2.2.2.2.1) S5 qW bW hW hlW x2 hi8 (fun r9 S9 => r9 = (sCh ((bW).getD (x2).toNatClampNeg 0)) ∧ S9 = S5) ⟨rfl, rfl⟩) (cwV 1 C.2.2.2.2.1 gX8_isWord_J0_charAt_5068e rfl rfl rfl (by decide +kernel) ⟨Nat.le_of_ble_eq_true rfl, Nat.le_of_ble_eq_true rfl⟩) rfl rfl (Nat.le_of_ble_eq_true rfl) dX8_isWord_48 ⟨Nat.le_of_ble_eq_true rfl, Nat.le_of_ble_eq_true rfl⟩) rfl rfl (fun r9 S9 h9 => ?_)
      obtain ⟨e9, e9s⟩ := h9
      rw [e9, e9s]
      refine pw_icmp_eq (pc := 51) (tgt := 56) C dX8_isWord_51 rfl ⟨fun hc => ?_, fun hc => ?_⟩
      · replace h := h.1 hc
        refine pw_iincK (pc := 56) (w := 1) C [(2, .int (x2 + 1)), (0, .ref (G.2.2 + x0)), (1, .ref qW)] 2 dX8_isWord_56 (by decide) rfl (by decide) rfl ?_
        refine pw_goto (pc := 59) (tgt := 28) C dX8_isWord_59 rfl ?_
        refine pw_sub [1, 2, 0] (LV2 := [(0, .ref (G.2.2 + x0)), (1, .ref qW), (2, .int (x2 + 1))]) rfl ?_
        exact ih _ _ _ h
      · replace h := h.2 hc
        refine pw_iconst (pc := 54) (v := 0 ) C dX8_isWord_54 (by decide) ?_
        exact pw_zret (pc := 55) C hr rfl h dX8_isWord_55
set_option maxRecDepth 100000 in
set_option maxHeartbeats 4000000 in
theorem ctX8_isWord (l : Launch) (G : PG) (hZ : pZa G) (bW : List Int32) (qW : Nat) (hW : ZStr G qW bW) (hlW : bW.length < 2 ^ 31) (S : PS) (x0 : Nat) (Q : Int32 → PS → Prop) (h : wpX8_isWord S x0 bW Q) : mI l yX8_isWord wsX8_isWord rmX8_isWord G S [.ref (G.2.2 + x0), .ref qW] Q := by
  unfold mI
  refine met_of (cc := cX8_isWord) (maxL := 3) (ret := (some .boolean)) (by decide) rfl (Nat.le_of_ble_eq_true rfl) ?_
  intro p e s m args below meth c C hr hin
  unfold wpX8_isWord at h
  show PW p l e _ s m args below meth c _ G 3 S 0 0 [(0, .ref (G.2.2 + x0)), (1, .ref qW)] 0 []
  refine pw_aload_n (pc := 0) C 0 dX8_isWord_0 rfl rfl ?_
  obtain ⟨hk9, h⟩ := h
  refine pw_getI (pc := 1) (ref := "SupportSolver$TextReader") (k := 6) (index := 36) C pCl6 iX8_isWord_X8 hk9 rfl (by decide +kernel) (Or.inl rfl) dX8_isWord_1 ?_
  refine pw_iconst (pc := 4) (v := 1 ) C dX8_isWord_4 (by decide) ?_
  refine pw_icmp_ne (pc := 5) (tgt := 24) C dX8_isWord_5 rfl ⟨fun hc => ?_, fun hc => ?_⟩
  · replace h := h.1 hc
    refine pw_iconst (pc := 24) (v := 0 ) C dX8_isWord_24 (by decide) ?_
    exact pw_zret (pc := 25) C hr rfl h dX8_isWord_25
  · replace h := h.2 hc
    refine pw_aload_n (pc := 8) C 0 dX8_isWord_8 rfl rfl ?_
    refine pw_getI (pc := 9) (ref := "SupportSolver$TextReader") (k := 8) (index := 42) C pCl6 iX8_isWord_X8 hk9 rfl (by decide +kernel) (Or.inl rfl) dX8_isWord_9 ?_
    refine pw_aload_n (pc := 12) C 0 dX8_isWord_12 rfl rfl ?_
    refine pw_getI (pc := 13) (ref := "SupportSolver$TextReader") (k := 7) (index := 39) C pCl6 iX8_isWord_X8 hk9 rfl (by decide +kernel) (Or.inl rfl) dX8_isWord_13 ?_
    refine pw_isub (pc := 16) C dX8_isWord_16 ?_
    refine pw_aload_n (pc := 17) C 1 dX8_isWord_17 rfl rfl ?_
    obtain ⟨v11, hv10⟩ := id hW
    refine pw_calli (pc := 18) (kc2 := 0) (kn2 := 0) (pRunVS (pc := 18) C (hv10 s s.heap C.2.2.2.2.2.2.2.2.1) (ctJ0_length l G (hZ.2.2.2.2.2.2.2.2.2.2.2.2.2.2.2.2.2.2.1) S qW bW hW (fun r9 S9 => r9 = (Int32.ofNat (bW).length >>> ((0 : Int32) &&& 31)) ∧ S9 = S) ⟨rfl, rfl⟩) (cwV 0 C.2.2.2.2.1 gX8_isWord_J0_length_8abf5 rfl rfl rfl (by decide +kernel) ⟨Nat.le_of_ble_eq_true rfl, Nat.le_of_ble_eq_true rfl⟩) rfl rfl (Nat.le_of_ble_eq_true rfl) dX8_isWord_18 ⟨Nat.le_of_ble_eq_true rfl, Nat.le_of_ble_eq_true rfl⟩) rfl rfl (fun r9 S9 h9 => ?_)
    obtain ⟨e9, e9s⟩ := h9
    rw [e9, e9s]
    refine pw_icmp_eq (pc := 21) (tgt := 26) C dX8_isWord_21 rfl ⟨fun hc => ?_, fun hc => ?_⟩
    · replace h := h.1 hc
      refine pw_iconst (pc := 26) (v := 0 ) C dX8_isWord_26 (by decide) ?_
      refine pw_istore_n (pc := 27) C [(2, .int (0 : Int32)), (0, .ref (G.2.2 + x0)), (1, .ref qW)] dX8_isWord_27 rfl (by decide) rfl ?_
      refine pw_sub [1, 2, 0] (LV2 := [(0, .ref (G.2.2 + x0)), (1, .ref qW), (2, .int (0 : Int32))]) rfl ?_
      obtain ⟨n9, h⟩ := h
      exact cbX8_isWord_b28 C hr hin hZ qW hW hlW  n9 _ _ _ h
    · replace h := h.2 hc
      refine pw_iconst (pc := 24) (v := 0 ) C dX8_isWord_24 (by decide) ?_
      exact pw_zret (pc := 25) C hr rfl h dX8_isWord_25

abbrev rmX8_isName : Room := { frames := 5, cells := 0, slots := 0, locals := 107 }
theorem iX8_isName_X8 : ∀ w ∈ u_ws RX8 TX8 10, w ∈ wsX8_isName := fun _ h => List.mem_cons_of_mem _ (List.mem_append_right _ h)
def wpX8_isName (S : PS) (x0 : Nat) (Q : Int32 → PS → Prop) : Prop := (pK S x0 = 7 ∧ ((¬ (pI S x0 6) = (1 : Int32) → (Q (0 : Int32) S)) ∧ ((pI S x0 6) = (1 : Int32) → (((pI S x0 9) = (-1 : Int32) → (Q (0 : Int32) S)) ∧ (¬ (pI S x0 9) = (-1 : Int32) → (wpX8_isWord S x0 [118, 97, 108, 117, 101] (fun r5 S6 => ((¬ r5 = 0 → (Q (0 : Int32) S6)) ∧ (r5 = 0 → (Q (1 : Int32) S6))))))))))
set_option maxRecDepth 100000 in
set_option maxHeartbeats 4000000 in
theorem ctX8_isName (l : Launch) (G : PG) (hZ : pZa G) (S : PS) (x0 : Nat) (Q : Int32 → PS → Prop) (h : wpX8_isName S x0 Q) : mI l yX8_isName wsX8_isName rmX8_isName G S [.ref (G.2.2 + x0)] Q := by
  unfold mI
  refine met_of (cc := cX8_isName) (maxL := 1) (ret := (some .boolean)) (by decide) rfl (Nat.le_of_ble_eq_true rfl) ?_
  intro p e s m args below meth c C hr hin
  unfold wpX8_isName at h
  show PW p l e _ s m args below meth c _ G 1 S 0 0 [(0, .ref (G.2.2 + x0))] 0 []
  refine pw_aload_n (pc := 0) C 0 dX8_isName_0 rfl rfl ?_
  obtain ⟨hk1, h⟩ := h
  refine pw_getI (pc := 1) (ref := "SupportSolver$TextReader") (k := 6) (index := 36) C pCl6 iX8_isName_X8 hk1 rfl (by decide +kernel) (Or.inl rfl) dX8_isName_1 ?_
  refine pw_iconst (pc := 4) (v := 1 ) C dX8_isName_4 (by decide) ?_
  refine pw_icmp_ne (pc := 5) (tgt := 29) C dX8_isName_5 rfl ⟨fun hc => ?_, fun hc => ?_⟩
  · replace h := h.1 hc
    refine pw_iconst (pc := 29) (v := 0 ) C dX8_isName_29 (by decide) ?_
    exact pw_zret (pc := 30) C hr rfl h dX8_isName_30
  · replace h := h.2 hc
    refine pw_aload_n (pc := 8) C 0 dX8_isName_8 rfl rfl ?_
    refine pw_getI (pc := 9) (ref := "SupportSolver$TextReader") (k := 9) (index := 45) C pCl6 iX8_isName_X8 hk1 rfl (by decide +kernel) (Or.inl rfl) dX8_isName_9 ?_
    refine pw_iconst (pc := 12) (v := (-1)) C dX8_isName_12 (by decide) ?_
    refine pw_icmp_eq (pc := 13) (tgt := 29) C dX8_isName_13 rfl ⟨fun hc => ?_, fun hc => ?_⟩
    · replace h := h.1 hc
      refine pw_iconst (pc := 29) (v := 0 ) C dX8_isName_29 (by decide) ?_
      exact pw_zret (pc := 30) C hr rfl h dX8_isName_30
    · replace h := h.2 hc
      refine pw_aload_n (pc := 16) C 0 dX8_isName_16 rfl rfl ?_
      obtain ⟨q2, z3, hq4⟩ := (hZ.2.2.2.2.2.2.2.2.2.2.2.2.2.2.2.2.2.2.2.2.1)
      refine pw_ldcS (pc := 17) C z3 dX8_isName_17 ?_
      refine pw_calli (pc := 19) (kc2 := 0) (kn2 := 0) (pRunV (pc := 19) C (ctX8_isWord l G hZ [118, 97, 108, 117, 101] q2 hq4 (by decide)  _ x0 _ h) (cwV 1 C.2.2.2.2.1 gX8_isName_X8_isWord rfl rfl rfl (by decide +kernel) ⟨Nat.le_of_ble_eq_true rfl, Nat.le_of_ble_eq_true rfl⟩) pCl6 hk1 rfl rfl (Nat.le_of_ble_eq_true rfl) dX8_isName_19 ⟨Nat.le_of_ble_eq_true rfl, Nat.le_of_ble_eq_true rfl⟩) rfl rfl (fun r5 S6 h => ?_)
      refine pw_if_ne (pc := 22) (tgt := 29) C dX8_isName_22 rfl ⟨fun hc => ?_, fun hc => ?_⟩
      · replace h := h.1 hc
        refine pw_iconst (pc := 29) (v := 0 ) C dX8_isName_29 (by decide) ?_
        exact pw_zret (pc := 30) C hr rfl h dX8_isName_30
      · replace h := h.2 hc
        refine pw_iconst (pc := 25) (v := 1 ) C dX8_isName_25 (by decide) ?_
        refine pw_goto (pc := 26) (tgt := 30) C dX8_isName_26 rfl ?_
        exact pw_zret (pc := 30) C hr rfl h dX8_isName_30

abbrev rmX8_readVariable : Room := { frames := 6, cells := 0, slots := 0, locals := 127 }
theorem iX8_readVariable_X6 : ∀ w ∈ u_ws RX6 TX6 4, w ∈ wsX8_readVariable := fun _ h => List.mem_cons_of_mem _ (List.mem_append_right _ h)
theorem iX8_readVariable_X8 : ∀ w ∈ u_ws RX8 TX8 10, w ∈ wsX8_readVariable := by decide +kernel
def wpX8_readVariable_b63  (Q : Int32 → PS → Prop) (S : PS) (x0 : Nat) (x1 : Int32) (x2 : Int32) (t0 : Int32) : Prop := ((t0 = (-1 : Int32) → (Q (0 : Int32) S)) ∧ (¬ t0 = (-1 : Int32) → (pK S x0 = 7 ∧ (wpX8_readSemicolon S x0 (fun r2 S3 => ((¬ r2 = 0 → (pK S3 x0 = 7 ∧ (∃ o5, pR S3 x0 5 = some o5 ∧ (pK S3 o5 = 5 ∧ (((pI S3 o5 1) < 0 → (Q (1 : Int32) S3)) ∧ (¬ (pI S3 o5 1) < 0 → (∃ o7, pR S3 x0 1 = some o7 ∧ (pK S3 o7 = 13 ∧ (((nI (pL S3 o7)) ≤ (pI S3 o5 1) → (Q (1 : Int32) S3)) ∧ (¬ (nI (pL S3 o7)) ≤ (pI S3 o5 1) → (vp_in (pI S3 o5 1) (pL S3 o7) ∧ (wpX6_addVariable (sI S3 o7 ((pI S3 o5 1)).toNatClampNeg x1) o5 x2 t0 (fun S11 => (Q (1 : Int32) S11)))))))))))))) ∧ (r2 = 0 → (Q (0 : Int32) S3))))))))
def wpX8_readVariable (S : PS) (x0 : Nat) (Q : Int32 → PS → Prop) : Prop := (pK S x0 = 7 ∧ (wpX8_nextToken S x0 (fun S14 => (pK S14 x0 = 7 ∧ (wpX8_isName S14 x0 (fun r16 S17 => ((¬ r16 = 0 → (pK S17 x0 = 7 ∧ (wpX8_variableOf S17 x0 (pI S17 x0 9) (fun r19 S20 => ((r19 = (-1 : Int32) → (pK S20 x0 = 7 ∧ (wpX8_nextToken S20 x0 (fun S23 => (pK S23 x0 = 7 ∧ (wpX8_readNumber S23 x0 (0 : Int32) (4 : Int32) (fun r25 S26 => ((¬ r25 = (-1 : Int32) → (pK S26 x0 = 7 ∧ (wpX8_readNumber S26 x0 r25 (4 : Int32) (fun r28 S29 => (wpX8_readVariable_b63 Q S29 x0 (pI S17 x0 9) r25 r28))))) ∧ (r25 = (-1 : Int32) → (wpX8_readVariable_b63 Q S26 x0 (pI S17 x0 9) r25 (-1 : Int32))))))))))) ∧ (¬ r19 = (-1 : Int32) → (pK S20 x0 = 7 ∧ (wpX8_fail S20 x0 (3 : Int32) (fun r31 S32 => ((r31 = 0 ∨ r31 = 1) ∧ (Q r31 S32))))))))))) ∧ (r16 = 0 → (pK S17 x0 = 7 ∧ (wpX8_fail S17 x0 (1 : Int32) (fun r35 S36 => ((r35 = 0 ∨ r35 = 1) ∧ (Q r35 S36)))))))))))))
set_option maxRecDepth 100000 in
set_option maxHeartbeats 4000000 in
theorem cbX8_readVariable_b63 {p : Program} {l : Launch} {e : Env} {s : State} {m : MethodId} {args : Array Value} {below : List Frame} {meth : Method} {c : Code} {G : PG} {Q : Int32 → PS → Prop} (C : pCx p s m args meth c G cX8_readVariable 5 yX8_readVariable.cls wsX8_readVariable) (hr : meth.sig.returnType = (some .boolean)) (hin : meth.name = yX8_readVariable.name) (hZ : pZa G)  : ∀ (S : PS) (x0 : Nat) (x1 : Int32) (x2 : Int32) (t0 : Int32), wpX8_readVariable_b63  Q S x0 x1 x2 t0 → PW p l e rmX8_readVariable s m args below meth c (MQ below (va_Qi Q (pB G) (pFr G)) args s rmX8_readVariable.cells rmX8_readVariable.slots (pFr G)) G 5 S 0 0 [(0, .ref (G.2.2 + x0)), (1, .int x1), (2, .int x2)] 63 (.int t0 :: []) := by
  intro S x0 x1 x2 t0 h
  unfold wpX8_readVariable_b63 at h
  refine pw_istore_n (pc := 63) C [(3, .int t0), (0, .ref (G.2.2 + x0)), (1, .int x1), (2, .int x2)] dX8_readVariable_63 rfl (by decide) rfl ?_
  refine pw_iload_n (pc := 64) C 0 dX8_readVariable_64 rfl rfl ?_
  refine pw_iconst (pc := 65) (v := (-1)) C dX8_readVariable_65 (by decide) ?_
  refine pw_icmp_eq (pc := 66) (tgt := 76) C dX8_readVariable_66 rfl ⟨fun hc => ?_, fun hc => ?_⟩
  · replace h := h.1 hc
    refine pw_iconst (pc := 76) (v := 0 ) C dX8_readVariable_76 (by decide) ?_
    exact pw_zret (pc := 77) C hr rfl h dX8_readVariable_77
  · replace h := h.2 hc
    refine pw_aload_n (pc := 69) C 1 dX8_readVariable_69 rfl rfl ?_
    obtain ⟨hk1, h⟩ := h
    refine pw_calli (pc := 70) (kc2 := 0) (kn2 := 0) (pRunV (pc := 70) C (ctX8_readSemicolon l G hZ  _ x0 _ h) (cwV 0 C.2.2.2.2.1 gX8_readVariable_X8_readSemicolon rfl rfl rfl (by decide +kernel) ⟨Nat.le_of_ble_eq_true rfl, Nat.le_of_ble_eq_true rfl⟩) pCl6 hk1 rfl rfl (Nat.le_of_ble_eq_true rfl) dX8_readVariable_70 ⟨Nat.le_of_ble_eq_true rfl, Nat.le_of_ble_eq_true rfl⟩) rfl rfl (fun r2 S3 h => ?_)
    refine pw_if_ne (pc := 73) (tgt := 78) C dX8_readVariable_73 rfl ⟨fun hc => ?_, fun hc => ?_⟩
    · replace h := h.1 hc
      refine pw_aload_n (pc := 78) C 1 dX8_readVariable_78 rfl rfl ?_
      obtain ⟨hk4, h⟩ := h
      obtain ⟨o5, ho5, h⟩ := h
      refine pw_getR (pc := 79) (ref := "SupportSolver$TextReader") (k := 5) (index := 32) C pCl6 iX8_readVariable_X8 hk4 rfl (by decide +kernel) (Or.inl rfl) (o := o5) ho5 dX8_readVariable_79 ?_
      obtain ⟨hk6, h⟩ := h
      refine pw_getI (pc := 82) (ref := "SupportSolver$Problem") (k := 1) (index := 79) C pCl4 iX8_readVariable_X6 hk6 rfl (by decide +kernel) (Or.inl rfl) dX8_readVariable_82 ?_
      refine pw_istore (pc := 85) C [(4, .int (pI S3 o5 1)), (3, .int t0), (0, .ref (G.2.2 + x0)), (1, .int x1), (2, .int x2)] dX8_readVariable_85 (by decide) rfl ?_
      refine pw_iload (pc := 87) C 0 dX8_readVariable_87 rfl ?_
      refine pw_if_lt (pc := 89) (tgt := 119) C dX8_readVariable_89 rfl ⟨fun hc => ?_, fun hc => ?_⟩
      · replace h := h.1 hc
        refine pw_iconst (pc := 119) (v := 1 ) C dX8_readVariable_119 (by decide) ?_
        exact pw_zret (pc := 120) C hr rfl h dX8_readVariable_120
      · replace h := h.2 hc
        refine pw_iload (pc := 92) C 0 dX8_readVariable_92 rfl ?_
        refine pw_aload_n (pc := 94) C 2 dX8_readVariable_94 rfl rfl ?_
        obtain ⟨o7, ho7, h⟩ := h
        refine pw_getR (pc := 95) (ref := "SupportSolver$TextReader") (k := 1) (index := 15) C pCl6 iX8_readVariable_X8 hk4 rfl (by decide +kernel) (Or.inl rfl) (o := o7) ho7 dX8_readVariable_95 ?_
        obtain ⟨hk8, h⟩ := h
        refine pw_alen (pc := 98) C (κ := 13) hk8 (by decide) dX8_readVariable_98 ?_
        refine pw_icmp_ge (pc := 99) (tgt := 119) C dX8_readVariable_99 rfl ⟨fun hc => ?_, fun hc => ?_⟩
        · replace h := h.1 hc
          refine pw_iconst (pc := 119) (v := 1 ) C dX8_readVariable_119 (by decide) ?_
          exact pw_zret (pc := 120) C hr rfl h dX8_readVariable_120
        · replace h := h.2 hc
          refine pw_aload_n (pc := 102) C 2 dX8_readVariable_102 rfl rfl ?_
          refine pw_getR (pc := 103) (ref := "SupportSolver$TextReader") (k := 1) (index := 15) C pCl6 iX8_readVariable_X8 hk4 rfl (by decide +kernel) (Or.inl rfl) (o := o7) ho7 dX8_readVariable_103 ?_
          refine pw_iload (pc := 106) C 0 dX8_readVariable_106 rfl ?_
          refine pw_iload_n (pc := 108) C 3 dX8_readVariable_108 rfl rfl ?_
          obtain ⟨hi9, h⟩ := h
          refine pw_iast (pc := 109) C hk8 hi9 dX8_readVariable_109 ?_
          refine pw_aload_n (pc := 110) (S := (sI S3 o7 ((pI S3 o5 1)).toNatClampNeg x1)) C 2 dX8_readVariable_110 rfl rfl ?_
          refine pw_getR (pc := 111) (S := (sI S3 o7 ((pI S3 o5 1)).toNatClampNeg x1)) (ref := "SupportSolver$TextReader") (k := 5) (index := 32) C pCl6 iX8_readVariable_X8 hk4 rfl (by decide +kernel) (Or.inl rfl) (o := o5) ho5 dX8_readVariable_111 ?_
          refine pw_iload_n (pc := 114) (S := (sI S3 o7 ((pI S3 o5 1)).toNatClampNeg x1)) C 4 dX8_readVariable_114 rfl rfl ?_
          refine pw_iload_n (pc := 115) (S := (sI S3 o7 ((pI S3 o5 1)).toNatClampNeg x1)) C 1 dX8_readVariable_115 rfl rfl ?_
          refine pw_callv (pc := 116) (S := (sI S3 o7 ((pI S3 o5 1)).toNatClampNeg x1)) (kc2 := 0) (kn2 := 0) (pRunV (pc := 116) (S := (sI S3 o7 ((pI S3 o5 1)).toNatClampNeg x1)) C (ctX6_addVariable l G hZ  _ o5 x2 t0 _ h) (cwV 2 C.2.2.2.2.1 gX8_readVariable_X6_addVariable rfl rfl rfl (by decide +kernel) ⟨Nat.le_of_ble_eq_true rfl, Nat.le_of_ble_eq_true rfl⟩) pCl4 hk6 rfl rfl (Nat.le_of_ble_eq_true rfl) dX8_readVariable_116 ⟨Nat.le_of_ble_eq_true rfl, Nat.le_of_ble_eq_true rfl⟩) rfl rfl (fun S11 h => ?_)
          refine pw_iconst (pc := 119) (v := 1 ) C dX8_readVariable_119 (by decide) ?_
          exact pw_zret (pc := 120) C hr rfl h dX8_readVariable_120
    · replace h := h.2 hc
      refine pw_iconst (pc := 76) (v := 0 ) C dX8_readVariable_76 (by decide) ?_
      exact pw_zret (pc := 77) C hr rfl h dX8_readVariable_77
set_option maxRecDepth 100000 in
set_option maxHeartbeats 4000000 in
theorem ctX8_readVariable (l : Launch) (G : PG) (hZ : pZa G) (S : PS) (x0 : Nat) (Q : Int32 → PS → Prop) (h : wpX8_readVariable S x0 Q) : mI l yX8_readVariable wsX8_readVariable rmX8_readVariable G S [.ref (G.2.2 + x0)] Q := by
  unfold mI
  refine met_of (cc := cX8_readVariable) (maxL := 5) (ret := (some .boolean)) (by decide) rfl (Nat.le_of_ble_eq_true rfl) ?_
  intro p e s m args below meth c C hr hin
  unfold wpX8_readVariable at h
  show PW p l e _ s m args below meth c _ G 5 S 0 0 [(0, .ref (G.2.2 + x0))] 0 []
  refine pw_aload_n (pc := 0) C 0 dX8_readVariable_0 rfl rfl ?_
  obtain ⟨hk12, h⟩ := h
  refine pw_callv (pc := 1) (kc2 := 0) (kn2 := 0) (pRunV (pc := 1) C (ctX8_nextToken l G hZ  _ x0 _ h) (cwV 0 C.2.2.2.2.1 gX8_readVariable_X8_nextToken rfl rfl rfl (by decide +kernel) ⟨Nat.le_of_ble_eq_true rfl, Nat.le_of_ble_eq_true rfl⟩) pCl6 hk12 rfl rfl (Nat.le_of_ble_eq_true rfl) dX8_readVariable_1 ⟨Nat.le_of_ble_eq_true rfl, Nat.le_of_ble_eq_true rfl⟩) rfl rfl (fun S14 h => ?_)
  refine pw_aload_n (pc := 4) C 0 dX8_readVariable_4 rfl rfl ?_
  obtain ⟨hk15, h⟩ := h
  refine pw_calli (pc := 5) (kc2 := 0) (kn2 := 0) (pRunV (pc := 5) C (ctX8_isName l G hZ  _ x0 _ h) (cwV 0 C.2.2.2.2.1 gX8_readVariable_X8_isName rfl rfl rfl (by decide +kernel) ⟨Nat.le_of_ble_eq_true rfl, Nat.le_of_ble_eq_true rfl⟩) pCl6 hk15 rfl rfl (Nat.le_of_ble_eq_true rfl) dX8_readVariable_5 ⟨Nat.le_of_ble_eq_true rfl, Nat.le_of_ble_eq_true rfl⟩) rfl rfl (fun r16 S17 h => ?_)
  refine pw_if_ne (pc := 8) (tgt := 17) C dX8_readVariable_8 rfl ⟨fun hc => ?_, fun hc => ?_⟩
  · replace h := h.1 hc
    refine pw_aload_n (pc := 17) C 0 dX8_readVariable_17 rfl rfl ?_
    obtain ⟨hk18, h⟩ := h
    refine pw_getI (pc := 18) (ref := "SupportSolver$TextReader") (k := 9) (index := 45) C pCl6 iX8_readVariable_X8 hk18 rfl (by decide +kernel) (Or.inl rfl) dX8_readVariable_18 ?_
    refine pw_istore_n (pc := 21) C [(1, .int (pI S17 x0 9)), (0, .ref (G.2.2 + x0))] dX8_readVariable_21 rfl (by decide) rfl ?_
    refine pw_aload_n (pc := 22) C 1 dX8_readVariable_22 rfl rfl ?_
    refine pw_iload_n (pc := 23) C 0 dX8_readVariable_23 rfl rfl ?_
    refine pw_calli (pc := 24) (kc2 := 0) (kn2 := 0) (pRunV (pc := 24) C (ctX8_variableOf l G hZ  _ x0 (pI S17 x0 9) _ h) (cwV 1 C.2.2.2.2.1 gX8_readVariable_X8_variableOf rfl rfl rfl (by decide +kernel) ⟨Nat.le_of_ble_eq_true rfl, Nat.le_of_ble_eq_true rfl⟩) pCl6 hk18 rfl rfl (Nat.le_of_ble_eq_true rfl) dX8_readVariable_24 ⟨Nat.le_of_ble_eq_true rfl, Nat.le_of_ble_eq_true rfl⟩) rfl rfl (fun r19 S20 h => ?_)
    refine pw_iconst (pc := 27) (v := (-1)) C dX8_readVariable_27 (by decide) ?_
    refine pw_icmp_eq (pc := 28) (tgt := 37) C dX8_readVariable_28 rfl ⟨fun hc => ?_, fun hc => ?_⟩
    · replace h := h.1 hc
      refine pw_aload_n (pc := 37) C 1 dX8_readVariable_37 rfl rfl ?_
      obtain ⟨hk21, h⟩ := h
      refine pw_callv (pc := 38) (kc2 := 0) (kn2 := 0) (pRunV (pc := 38) C (ctX8_nextToken l G hZ  _ x0 _ h) (cwV 0 C.2.2.2.2.1 gX8_readVariable_X8_nextToken rfl rfl rfl (by decide +kernel) ⟨Nat.le_of_ble_eq_true rfl, Nat.le_of_ble_eq_true rfl⟩) pCl6 hk21 rfl rfl (Nat.le_of_ble_eq_true rfl) dX8_readVariable_38 ⟨Nat.le_of_ble_eq_true rfl, Nat.le_of_ble_eq_true rfl⟩) rfl rfl (fun S23 h => ?_)
      refine pw_aload_n (pc := 41) C 1 dX8_readVariable_41 rfl rfl ?_
      refine pw_iconst (pc := 42) (v := 0 ) C dX8_readVariable_42 (by decide) ?_
      refine pw_iconst (pc := 43) (v := 4 ) C dX8_readVariable_43 (by decide) ?_
      obtain ⟨hk24, h⟩ := h
      refine pw_calli (pc := 44) (kc2 := 0) (kn2 := 0) (pRunV (pc := 44) C (ctX8_readNumber l G hZ  _ x0 (0 : Int32) (4 : Int32) _ h) (cwV 2 C.2.2.2.2.1 gX8_readVariable_X8_readNumber rfl rfl rfl (by decide +kernel) ⟨Nat.le_of_ble_eq_true rfl, Nat.le_of_ble_eq_true rfl⟩) pCl6 hk24 rfl rfl (Nat.le_of_ble_eq_true rfl) dX8_readVariable_44 ⟨Nat.le_of_ble_eq_true rfl, Nat.le_of_ble_eq_true rfl⟩) rfl rfl (fun r25 S26 h => ?_)
      refine pw_istore_n (pc := 47) C [(2, .int r25), (1, .int (pI S17 x0 9)), (0, .ref (G.2.2 + x0))] dX8_readVariable_47 rfl (by decide) rfl ?_
      refine pw_iload_n (pc := 48) C 0 dX8_readVariable_48 rfl rfl ?_
      refine pw_iconst (pc := 49) (v := (-1)) C dX8_readVariable_49 (by decide) ?_
      refine pw_icmp_ne (pc := 50) (tgt := 57) C dX8_readVariable_50 rfl ⟨fun hc => ?_, fun hc => ?_⟩
      · replace h := h.1 hc
        refine pw_aload_n (pc := 57) C 2 dX8_readVariable_57 rfl rfl ?_
        refine pw_iload_n (pc := 58) C 0 dX8_readVariable_58 rfl rfl ?_
        refine pw_iconst (pc := 59) (v := 4 ) C dX8_readVariable_59 (by decide) ?_
        obtain ⟨hk27, h⟩ := h
        refine pw_calli (pc := 60) (kc2 := 0) (kn2 := 0) (pRunV (pc := 60) C (ctX8_readNumber l G hZ  _ x0 r25 (4 : Int32) _ h) (cwV 2 C.2.2.2.2.1 gX8_readVariable_X8_readNumber rfl rfl rfl (by decide +kernel) ⟨Nat.le_of_ble_eq_true rfl, Nat.le_of_ble_eq_true rfl⟩) pCl6 hk27 rfl rfl (Nat.le_of_ble_eq_true rfl) dX8_readVariable_60 ⟨Nat.le_of_ble_eq_true rfl, Nat.le_of_ble_eq_true rfl⟩) rfl rfl (fun r28 S29 h => ?_)
        refine pw_sub [2, 1, 0] (LV2 := [(0, .ref (G.2.2 + x0)), (1, .int (pI S17 x0 9)), (2, .int r25)]) rfl ?_
        exact cbX8_readVariable_b63 C hr hin hZ  _ _ _ _ _ h
      · replace h := h.2 hc
        refine pw_iconst (pc := 53) (v := (-1)) C dX8_readVariable_53 (by decide) ?_
        refine pw_goto (pc := 54) (tgt := 63) C dX8_readVariable_54 rfl ?_
        refine pw_sub [2, 1, 0] (LV2 := [(0, .ref (G.2.2 + x0)), (1, .int (pI S17 x0 9)), (2, .int r25)]) rfl ?_
        exact cbX8_readVariable_b63 C hr hin hZ  _ _ _ _ _ h
    · replace h := h.2 hc
      refine pw_aload_n (pc := 31) C 1 dX8_readVariable_31 rfl rfl ?_
      refine pw_iconst (pc := 32) (v := 3 ) C dX8_readVariable_32 (by decide) ?_
      obtain ⟨hk30, h⟩ := h
      refine pw_calli (pc := 33) (kc2 := 0) (kn2 := 0) (pRunV (pc := 33) C (ctX8_fail l G hZ  _ x0 (3 : Int32) _ h) (cwV 1 C.2.2.2.2.1 gX8_readVariable_X8_fail rfl rfl rfl (by decide +kernel) ⟨Nat.le_of_ble_eq_true rfl, Nat.le_of_ble_eq_true rfl⟩) pCl6 hk30 rfl rfl (Nat.le_of_ble_eq_true rfl) dX8_readVariable_33 ⟨Nat.le_of_ble_eq_true rfl, Nat.le_of_ble_eq_true rfl⟩) rfl rfl (fun r31 S32 h => ?_)
      obtain ⟨hb33, h⟩ := h
      exact pw_zret (pc := 36) C hr (nar_bool hb33) h dX8_readVariable_36
  · replace h := h.2 hc
    refine pw_aload_n (pc := 11) C 0 dX8_readVariable_11 rfl rfl ?_
    refine pw_iconst (pc := 12) (v := 1 ) C dX8_readVariable_12 (by decide) ?_
    obtain ⟨hk34, h⟩ := h
    refine pw_calli (pc := 13) (kc2 := 0) (kn2 := 0) (pRunV (pc := 13) C (ctX8_fail l G hZ  _ x0 (1 : Int32) _ h) (cwV 1 C.2.2.2.2.1 gX8_readVariable_X8_fail rfl rfl rfl (by decide +kernel) ⟨Nat.le_of_ble_eq_true rfl, Nat.le_of_ble_eq_true rfl⟩) pCl6 hk34 rfl rfl (Nat.le_of_ble_eq_true rfl) dX8_readVariable_13 ⟨Nat.le_of_ble_eq_true rfl, Nat.le_of_ble_eq_true rfl⟩) rfl rfl (fun r35 S36 h => ?_)
    obtain ⟨hb37, h⟩ := h
    exact pw_zret (pc := 16) C hr (nar_bool hb37) h dX8_readVariable_16

abbrev rmX8_readVariables : Room := { frames := 7, cells := 0, slots := 0, locals := 151 }
def wpX8_readVariables_b2  (Q : Int32 → PS → Prop) : Nat → PS → Nat → Int32 → Prop
  | 0 => fun _ _ _ => False
  | n + 1 => fun S x0 x1 => (((7 : Int32) < x1 → (Q (1 : Int32) S)) ∧ (¬ (7 : Int32) < x1 → (pK S x0 = 7 ∧ (wpX8_isWord S x0 [118, 97, 114] (fun r5 S6 => ((r5 = 0 → (Q (1 : Int32) S6)) ∧ (¬ r5 = 0 → ((¬ x1 = (7 : Int32) → (pK S6 x0 = 7 ∧ (wpX8_readVariable S6 x0 (fun r8 S9 => ((¬ r8 = 0 → (wpX8_readVariables_b2 Q n S9 x0 (x1 + 1))) ∧ (r8 = 0 → (Q (0 : Int32) S9))))))) ∧ (x1 = (7 : Int32) → (pK S6 x0 = 7 ∧ (wpX8_fail S6 x0 (4 : Int32) (fun r11 S12 => ((r11 = 0 ∨ r11 = 1) ∧ (Q r11 S12))))))))))))))
def wpX8_readVariables (S : PS) (x0 : Nat) (Q : Int32 → PS → Prop) : Prop := (∃ n9 : Nat, wpX8_readVariables_b2 Q n9 S x0 (0 : Int32))
set_option maxRecDepth 100000 in
set_option maxHeartbeats 4000000 in
theorem cbX8_readVariables_b2 {p : Program} {l : Launch} {e : Env} {s : State} {m : MethodId} {args : Array Value} {below : List Frame} {meth : Method} {c : Code} {G : PG} {Q : Int32 → PS → Prop} (C : pCx p s m args meth c G cX8_readVariables 2 yX8_readVariables.cls wsX8_readVariables) (hr : meth.sig.returnType = (some .boolean)) (hin : meth.name = yX8_readVariables.name) (hZ : pZa G)  (n : Nat) : ∀ (S : PS) (x0 : Nat) (x1 : Int32), wpX8_readVariables_b2  Q n S x0 x1 → PW p l e rmX8_readVariables s m args below meth c (MQ below (va_Qi Q (pB G) (pFr G)) args s rmX8_readVariables.cells rmX8_readVariables.slots (pFr G)) G 2 S 0 0 [(0, .ref (G.2.2 + x0)), (1, .int x1)] 2 ([]) := by
  induction n with
  | zero => intro S x0 x1 h; exact h.elim
  | succ n ih =>
    intro S x0 x1 h
    unfold wpX8_readVariables_b2 at h
    refine pw_iload_n (pc := 2) C 1 dX8_readVariables_2 rfl rfl ?_
    refine pw_bipush (pc := 3) (v := 7 ) C dX8_readVariables_3 (by decide) ?_
    refine pw_icmp_gt (pc := 5) (tgt := 44) C dX8_readVariables_5 rfl ⟨fun hc => ?_, fun hc => ?_⟩
    · replace h := h.1 hc
      refine pw_iconst (pc := 44) (v := 1 ) C dX8_readVariables_44 (by decide) ?_
      exact pw_zret (pc := 45) C hr rfl h dX8_readVariables_45
    · replace h := h.2 hc
      refine pw_aload_n (pc := 8) C 0 dX8_readVariables_8 rfl rfl ?_
      obtain ⟨q1, z2, hq3⟩ := (hZ.2.2.2.2.2.2.2.2.2.2.2.2.2.2.2.2.2.2.2.1)
      refine pw_ldcS (pc := 9) C z2 dX8_readVariables_9 ?_
      obtain ⟨hk4, h⟩ := h
      refine pw_calli (pc := 11) (kc2 := 0) (kn2 := 0) (pRunV (pc := 11) C (ctX8_isWord l G hZ [118, 97, 114] q1 hq3 (by decide)  _ x0 _ h) (cwV 1 C.2.2.2.2.1 gX8_readVariables_X8_isWord rfl rfl rfl (by decide +kernel) ⟨Nat.le_of_ble_eq_true rfl, Nat.le_of_ble_eq_true rfl⟩) pCl6 hk4 rfl rfl (Nat.le_of_ble_eq_true rfl) dX8_readVariables_11 ⟨Nat.le_of_ble_eq_true rfl, Nat.le_of_ble_eq_true rfl⟩) rfl rfl (fun r5 S6 h => ?_)
      refine pw_if_eq (pc := 14) (tgt := 44) C dX8_readVariables_14 rfl ⟨fun hc => ?_, fun hc => ?_⟩
      · replace h := h.1 hc
        refine pw_iconst (pc := 44) (v := 1 ) C dX8_readVariables_44 (by decide) ?_
        exact pw_zret (pc := 45) C hr rfl h dX8_readVariables_45
      · replace h := h.2 hc
        refine pw_iload_n (pc := 17) C 1 dX8_readVariables_17 rfl rfl ?_
        refine pw_bipush (pc := 18) (v := 7 ) C dX8_readVariables_18 (by decide) ?_
        refine pw_icmp_ne (pc := 20) (tgt := 29) C dX8_readVariables_20 rfl ⟨fun hc => ?_, fun hc => ?_⟩
        · replace h := h.1 hc
          refine pw_aload_n (pc := 29) C 0 dX8_readVariables_29 rfl rfl ?_
          obtain ⟨hk7, h⟩ := h
          refine pw_calli (pc := 30) (kc2 := 0) (kn2 := 0) (pRunV (pc := 30) C (ctX8_readVariable l G hZ  _ x0 _ h) (cwV 0 C.2.2.2.2.1 gX8_readVariables_X8_readVariable rfl rfl rfl (by decide +kernel) ⟨Nat.le_of_ble_eq_true rfl, Nat.le_of_ble_eq_true rfl⟩) pCl6 hk7 rfl rfl (Nat.le_of_ble_eq_true rfl) dX8_readVariables_30 ⟨Nat.le_of_ble_eq_true rfl, Nat.le_of_ble_eq_true rfl⟩) rfl rfl (fun r8 S9 h => ?_)
          refine pw_if_ne (pc := 33) (tgt := 38) C dX8_readVariables_33 rfl ⟨fun hc => ?_, fun hc => ?_⟩
          · replace h := h.1 hc
            refine pw_iincK (pc := 38) (w := 1) C [(1, .int (x1 + 1)), (0, .ref (G.2.2 + x0))] 1 dX8_readVariables_38 (by decide) rfl (by decide) rfl ?_
            refine pw_goto (pc := 41) (tgt := 2) C dX8_readVariables_41 rfl ?_
            refine pw_sub [1, 0] (LV2 := [(0, .ref (G.2.2 + x0)), (1, .int (x1 + 1))]) rfl ?_
            exact ih _ _ _ h
          · replace h := h.2 hc
            refine pw_iconst (pc := 36) (v := 0 ) C dX8_readVariables_36 (by decide) ?_
            exact pw_zret (pc := 37) C hr rfl h dX8_readVariables_37
        · replace h := h.2 hc
          refine pw_aload_n (pc := 23) C 0 dX8_readVariables_23 rfl rfl ?_
          refine pw_iconst (pc := 24) (v := 4 ) C dX8_readVariables_24 (by decide) ?_
          obtain ⟨hk10, h⟩ := h
          refine pw_calli (pc := 25) (kc2 := 0) (kn2 := 0) (pRunV (pc := 25) C (ctX8_fail l G hZ  _ x0 (4 : Int32) _ h) (cwV 1 C.2.2.2.2.1 gX8_readVariables_X8_fail rfl rfl rfl (by decide +kernel) ⟨Nat.le_of_ble_eq_true rfl, Nat.le_of_ble_eq_true rfl⟩) pCl6 hk10 rfl rfl (Nat.le_of_ble_eq_true rfl) dX8_readVariables_25 ⟨Nat.le_of_ble_eq_true rfl, Nat.le_of_ble_eq_true rfl⟩) rfl rfl (fun r11 S12 h => ?_)
          obtain ⟨hb13, h⟩ := h
          exact pw_zret (pc := 28) C hr (nar_bool hb13) h dX8_readVariables_28
set_option maxRecDepth 100000 in
set_option maxHeartbeats 4000000 in
theorem ctX8_readVariables (l : Launch) (G : PG) (hZ : pZa G) (S : PS) (x0 : Nat) (Q : Int32 → PS → Prop) (h : wpX8_readVariables S x0 Q) : mI l yX8_readVariables wsX8_readVariables rmX8_readVariables G S [.ref (G.2.2 + x0)] Q := by
  unfold mI
  refine met_of (cc := cX8_readVariables) (maxL := 2) (ret := (some .boolean)) (by decide) rfl (Nat.le_of_ble_eq_true rfl) ?_
  intro p e s m args below meth c C hr hin
  unfold wpX8_readVariables at h
  show PW p l e _ s m args below meth c _ G 2 S 0 0 [(0, .ref (G.2.2 + x0))] 0 []
  refine pw_iconst (pc := 0) (v := 0 ) C dX8_readVariables_0 (by decide) ?_
  refine pw_istore_n (pc := 1) C [(1, .int (0 : Int32)), (0, .ref (G.2.2 + x0))] dX8_readVariables_1 rfl (by decide) rfl ?_
  refine pw_sub [1, 0] (LV2 := [(0, .ref (G.2.2 + x0)), (1, .int (0 : Int32))]) rfl ?_
  obtain ⟨n9, h⟩ := h
  exact cbX8_readVariables_b2 C hr hin hZ  n9 _ _ _ h

abbrev rmX8_readMember : Room := { frames := 6, cells := 0, slots := 0, locals := 127 }
theorem iX8_readMember_X8 : ∀ w ∈ u_ws RX8 TX8 10, w ∈ wsX8_readMember := by decide +kernel
def wpX8_readMember_b35  (Q : Int32 → PS → Prop) (S : PS) (x0 : Nat) (x1 : Nat) (x2 : Int32) : Prop := (pK S x0 = 7 ∧ (wpX8_fail S x0 (3 : Int32) (fun r2 S3 => ((r2 = 0 ∨ r2 = 1) ∧ (Q r2 S3)))))
def wpX8_readMember (S : PS) (x0 : Nat) (x1 : Nat) (Q : Int32 → PS → Prop) : Prop := (pK S x0 = 7 ∧ (wpX8_isName S x0 (fun r6 S7 => ((¬ r6 = 0 → (pK S7 x0 = 7 ∧ (wpX8_variableOf S7 x0 (pI S7 x0 9) (fun r9 S10 => ((r9 = (-1 : Int32) → (wpX8_readMember_b35 Q S10 x0 x1 r9)) ∧ (¬ r9 = (-1 : Int32) → (pC4 S10 x1 ∧ (wpX1_hasVariable S10 x1 r9 (fun r12 S13 => ((r12 = 0 → (pC4 S13 x1 ∧ (wpX1_addVariable S13 x1 r9 (fun S16 => (pK S16 x0 = 7 ∧ (wpX8_nextToken S16 x0 (fun S19 => (Q (1 : Int32) S19)))))))) ∧ (¬ r12 = 0 → (wpX8_readMember_b35 Q S13 x0 x1 r9)))))))))))) ∧ (r6 = 0 → (pK S7 x0 = 7 ∧ (wpX8_fail S7 x0 (1 : Int32) (fun r21 S22 => ((r21 = 0 ∨ r21 = 1) ∧ (Q r21 S22))))))))))
set_option maxRecDepth 100000 in
set_option maxHeartbeats 4000000 in
theorem rnX8_readMember_29 {p : Program} {l : Launch} {e : Env} {s : State} {m : MethodId} {args : Array Value} {below : List Frame} {meth : Method} {c : Code} {G : PG} (C : pCx p s m args meth c G cX8_readMember 3 yX8_readMember.cls wsX8_readMember) (hZ : pZa G) (S : PS) (x : Nat) (a0 : Int32) (Q : Int32 → PS → Prop) (hk : pC4 S x) (h : wpX1_hasVariable S x a0 Q) {LV : List (Nat × Value)} {st : List Value} (hw : (st.map fun v => v.category).sum ≤ 8) : PRun p l e rmX8_readMember s m args below meth c G 3 S 0 0 0 0 LV 29 (.int a0 :: .ref (G.2.2 + x) :: st) st (va_Qi Q (pB G) (pFr G) (.ref (G.2.2 + x) :: [.int a0]).toArray) := by
  rcases hk with hk | hk | hk | hk
  · exact pRunU (pc := 29) (kc := 0) (kn := 0) C (ctX1_hasVariable l G hZ _ x a0 _ h) (va_cwU 1 C.2.2.2.2.1 gX8_readMember_X1_hasVariable_u141X0 rfl rfl rfl rfl (by decide +kernel) ⟨Nat.le_of_ble_eq_true rfl, Nat.le_of_ble_eq_true rfl⟩) pCl0 hk rfl rfl hw dX8_readMember_29 ⟨Nat.le_of_ble_eq_true rfl, Nat.le_of_ble_eq_true rfl⟩
  · exact pRunU (pc := 29) (kc := 0) (kn := 0) C (ctX1_hasVariable l G hZ _ x a0 _ h) (va_cwU 1 C.2.2.2.2.1 gX8_readMember_X1_hasVariable_u141X2 rfl rfl rfl rfl (by decide +kernel) ⟨Nat.le_of_ble_eq_true rfl, Nat.le_of_ble_eq_true rfl⟩) pCl1 hk rfl rfl hw dX8_readMember_29 ⟨Nat.le_of_ble_eq_true rfl, Nat.le_of_ble_eq_true rfl⟩
  · exact pRunU (pc := 29) (kc := 0) (kn := 0) C (ctX1_hasVariable l G hZ _ x a0 _ h) (va_cwU 1 C.2.2.2.2.1 gX8_readMember_X1_hasVariable_u141X4 rfl rfl rfl rfl (by decide +kernel) ⟨Nat.le_of_ble_eq_true rfl, Nat.le_of_ble_eq_true rfl⟩) pCl3 hk rfl rfl hw dX8_readMember_29 ⟨Nat.le_of_ble_eq_true rfl, Nat.le_of_ble_eq_true rfl⟩
  · exact pRunU (pc := 29) (kc := 0) (kn := 0) C (ctX1_hasVariable l G hZ _ x a0 _ h) (va_cwU 1 C.2.2.2.2.1 gX8_readMember_X1_hasVariable_u141X10 rfl rfl rfl rfl (by decide +kernel) ⟨Nat.le_of_ble_eq_true rfl, Nat.le_of_ble_eq_true rfl⟩) pCl8 hk rfl rfl hw dX8_readMember_29 ⟨Nat.le_of_ble_eq_true rfl, Nat.le_of_ble_eq_true rfl⟩
set_option maxRecDepth 100000 in
set_option maxHeartbeats 4000000 in
theorem rnX8_readMember_43 {p : Program} {l : Launch} {e : Env} {s : State} {m : MethodId} {args : Array Value} {below : List Frame} {meth : Method} {c : Code} {G : PG} (C : pCx p s m args meth c G cX8_readMember 3 yX8_readMember.cls wsX8_readMember) (hZ : pZa G) (S : PS) (x : Nat) (a0 : Int32) (Q : PS → Prop) (hk : pC4 S x) (h : wpX1_addVariable S x a0 Q) {LV : List (Nat × Value)} {st : List Value} (hw : (st.map fun v => v.category).sum ≤ 8) : PRun p l e rmX8_readMember s m args below meth c G 3 S 0 0 0 0 LV 43 (.int a0 :: .ref (G.2.2 + x) :: st) st (va_Qv Q (pB G) (pFr G) (.ref (G.2.2 + x) :: [.int a0]).toArray) := by
  rcases hk with hk | hk | hk | hk
  · exact pRunU (pc := 43) (kc := 0) (kn := 0) C (ctX1_addVariable l G hZ _ x a0 _ h) (va_cwU 1 C.2.2.2.2.1 gX8_readMember_X1_addVariable_u146X0 rfl rfl rfl rfl (by decide +kernel) ⟨Nat.le_of_ble_eq_true rfl, Nat.le_of_ble_eq_true rfl⟩) pCl0 hk rfl rfl hw dX8_readMember_43 ⟨Nat.le_of_ble_eq_true rfl, Nat.le_of_ble_eq_true rfl⟩
  · exact pRunU (pc := 43) (kc := 0) (kn := 0) C (ctX1_addVariable l G hZ _ x a0 _ h) (va_cwU 1 C.2.2.2.2.1 gX8_readMember_X1_addVariable_u146X2 rfl rfl rfl rfl (by decide +kernel) ⟨Nat.le_of_ble_eq_true rfl, Nat.le_of_ble_eq_true rfl⟩) pCl1 hk rfl rfl hw dX8_readMember_43 ⟨Nat.le_of_ble_eq_true rfl, Nat.le_of_ble_eq_true rfl⟩
  · exact pRunU (pc := 43) (kc := 0) (kn := 0) C (ctX1_addVariable l G hZ _ x a0 _ h) (va_cwU 1 C.2.2.2.2.1 gX8_readMember_X1_addVariable_u146X4 rfl rfl rfl rfl (by decide +kernel) ⟨Nat.le_of_ble_eq_true rfl, Nat.le_of_ble_eq_true rfl⟩) pCl3 hk rfl rfl hw dX8_readMember_43 ⟨Nat.le_of_ble_eq_true rfl, Nat.le_of_ble_eq_true rfl⟩
  · exact pRunU (pc := 43) (kc := 0) (kn := 0) C (ctX1_addVariable l G hZ _ x a0 _ h) (va_cwU 1 C.2.2.2.2.1 gX8_readMember_X1_addVariable_u146X10 rfl rfl rfl rfl (by decide +kernel) ⟨Nat.le_of_ble_eq_true rfl, Nat.le_of_ble_eq_true rfl⟩) pCl8 hk rfl rfl hw dX8_readMember_43 ⟨Nat.le_of_ble_eq_true rfl, Nat.le_of_ble_eq_true rfl⟩
set_option maxRecDepth 100000 in
set_option maxHeartbeats 4000000 in
theorem cbX8_readMember_b35 {p : Program} {l : Launch} {e : Env} {s : State} {m : MethodId} {args : Array Value} {below : List Frame} {meth : Method} {c : Code} {G : PG} {Q : Int32 → PS → Prop} (C : pCx p s m args meth c G cX8_readMember 3 yX8_readMember.cls wsX8_readMember) (hr : meth.sig.returnType = (some .boolean)) (hin : meth.name = yX8_readMember.name) (hZ : pZa G)  : ∀ (S : PS) (x0 : Nat) (x1 : Nat) (x2 : Int32), wpX8_readMember_b35  Q S x0 x1 x2 → PW p l e rmX8_readMember s m args below meth c (MQ below (va_Qi Q (pB G) (pFr G)) args s rmX8_readMember.cells rmX8_readMember.slots (pFr G)) G 3 S 0 0 [(0, .ref (G.2.2 + x0)), (1, .ref (G.2.2 + x1)), (2, .int x2)] 35 ([]) := by
  intro S x0 x1 x2 h
  unfold wpX8_readMember_b35 at h
  refine pw_aload_n (pc := 35) C 0 dX8_readMember_35 rfl rfl ?_
  refine pw_iconst (pc := 36) (v := 3 ) C dX8_readMember_36 (by decide) ?_
  obtain ⟨hk1, h⟩ := h
  refine pw_calli (pc := 37) (kc2 := 0) (kn2 := 0) (pRunV (pc := 37) C (ctX8_fail l G hZ  _ x0 (3 : Int32) _ h) (cwV 1 C.2.2.2.2.1 gX8_readMember_X8_fail rfl rfl rfl (by decide +kernel) ⟨Nat.le_of_ble_eq_true rfl, Nat.le_of_ble_eq_true rfl⟩) pCl6 hk1 rfl rfl (Nat.le_of_ble_eq_true rfl) dX8_readMember_37 ⟨Nat.le_of_ble_eq_true rfl, Nat.le_of_ble_eq_true rfl⟩) rfl rfl (fun r2 S3 h => ?_)
  obtain ⟨hb4, h⟩ := h
  exact pw_zret (pc := 40) C hr (nar_bool hb4) h dX8_readMember_40
set_option maxRecDepth 100000 in
set_option maxHeartbeats 4000000 in
theorem ctX8_readMember (l : Launch) (G : PG) (hZ : pZa G) (S : PS) (x0 : Nat) (x1 : Nat) (Q : Int32 → PS → Prop) (h : wpX8_readMember S x0 x1 Q) : mI l yX8_readMember wsX8_readMember rmX8_readMember G S [.ref (G.2.2 + x0), .ref (G.2.2 + x1)] Q := by
  unfold mI
  refine met_of (cc := cX8_readMember) (maxL := 3) (ret := (some .boolean)) (by decide) rfl (Nat.le_of_ble_eq_true rfl) ?_
  intro p e s m args below meth c C hr hin
  unfold wpX8_readMember at h
  show PW p l e _ s m args below meth c _ G 3 S 0 0 [(0, .ref (G.2.2 + x0)), (1, .ref (G.2.2 + x1))] 0 []
  refine pw_aload_n (pc := 0) C 0 dX8_readMember_0 rfl rfl ?_
  obtain ⟨hk5, h⟩ := h
  refine pw_calli (pc := 1) (kc2 := 0) (kn2 := 0) (pRunV (pc := 1) C (ctX8_isName l G hZ  _ x0 _ h) (cwV 0 C.2.2.2.2.1 gX8_readMember_X8_isName rfl rfl rfl (by decide +kernel) ⟨Nat.le_of_ble_eq_true rfl, Nat.le_of_ble_eq_true rfl⟩) pCl6 hk5 rfl rfl (Nat.le_of_ble_eq_true rfl) dX8_readMember_1 ⟨Nat.le_of_ble_eq_true rfl, Nat.le_of_ble_eq_true rfl⟩) rfl rfl (fun r6 S7 h => ?_)
  refine pw_if_ne (pc := 4) (tgt := 13) C dX8_readMember_4 rfl ⟨fun hc => ?_, fun hc => ?_⟩
  · replace h := h.1 hc
    refine pw_aload_n (pc := 13) C 0 dX8_readMember_13 rfl rfl ?_
    refine pw_aload_n (pc := 14) C 0 dX8_readMember_14 rfl rfl ?_
    obtain ⟨hk8, h⟩ := h
    refine pw_getI (pc := 15) (ref := "SupportSolver$TextReader") (k := 9) (index := 45) C pCl6 iX8_readMember_X8 hk8 rfl (by decide +kernel) (Or.inl rfl) dX8_readMember_15 ?_
    refine pw_calli (pc := 18) (kc2 := 0) (kn2 := 0) (pRunV (pc := 18) C (ctX8_variableOf l G hZ  _ x0 (pI S7 x0 9) _ h) (cwV 1 C.2.2.2.2.1 gX8_readMember_X8_variableOf rfl rfl rfl (by decide +kernel) ⟨Nat.le_of_ble_eq_true rfl, Nat.le_of_ble_eq_true rfl⟩) pCl6 hk8 rfl rfl (Nat.le_of_ble_eq_true rfl) dX8_readMember_18 ⟨Nat.le_of_ble_eq_true rfl, Nat.le_of_ble_eq_true rfl⟩) rfl rfl (fun r9 S10 h => ?_)
    refine pw_istore_n (pc := 21) C [(2, .int r9), (0, .ref (G.2.2 + x0)), (1, .ref (G.2.2 + x1))] dX8_readMember_21 rfl (by decide) rfl ?_
    refine pw_iload_n (pc := 22) C 0 dX8_readMember_22 rfl rfl ?_
    refine pw_iconst (pc := 23) (v := (-1)) C dX8_readMember_23 (by decide) ?_
    refine pw_icmp_eq (pc := 24) (tgt := 35) C dX8_readMember_24 rfl ⟨fun hc => ?_, fun hc => ?_⟩
    · replace h := h.1 hc
      refine pw_sub [1, 2, 0] (LV2 := [(0, .ref (G.2.2 + x0)), (1, .ref (G.2.2 + x1)), (2, .int r9)]) rfl ?_
      exact cbX8_readMember_b35 C hr hin hZ  _ _ _ _ h
    · replace h := h.2 hc
      refine pw_aload_n (pc := 27) C 2 dX8_readMember_27 rfl rfl ?_
      refine pw_iload_n (pc := 28) C 0 dX8_readMember_28 rfl rfl ?_
      obtain ⟨hk11, h⟩ := h
      refine pw_calli (pc := 29) (kc2 := 0) (kn2 := 0) (rnX8_readMember_29 C hZ _ x1 r9 _ hk11 h (Nat.le_of_ble_eq_true rfl)) rfl rfl (fun r12 S13 h => ?_)
      refine pw_if_eq (pc := 32) (tgt := 41) C dX8_readMember_32 rfl ⟨fun hc => ?_, fun hc => ?_⟩
      · replace h := h.1 hc
        refine pw_aload_n (pc := 41) C 2 dX8_readMember_41 rfl rfl ?_
        refine pw_iload_n (pc := 42) C 0 dX8_readMember_42 rfl rfl ?_
        obtain ⟨hk14, h⟩ := h
        refine pw_callv (pc := 43) (kc2 := 0) (kn2 := 0) (rnX8_readMember_43 C hZ _ x1 r9 _ hk14 h (Nat.le_of_ble_eq_true rfl)) rfl rfl (fun S16 h => ?_)
        refine pw_aload_n (pc := 46) C 1 dX8_readMember_46 rfl rfl ?_
        obtain ⟨hk17, h⟩ := h
        refine pw_callv (pc := 47) (kc2 := 0) (kn2 := 0) (pRunV (pc := 47) C (ctX8_nextToken l G hZ  _ x0 _ h) (cwV 0 C.2.2.2.2.1 gX8_readMember_X8_nextToken rfl rfl rfl (by decide +kernel) ⟨Nat.le_of_ble_eq_true rfl, Nat.le_of_ble_eq_true rfl⟩) pCl6 hk17 rfl rfl (Nat.le_of_ble_eq_true rfl) dX8_readMember_47 ⟨Nat.le_of_ble_eq_true rfl, Nat.le_of_ble_eq_true rfl⟩) rfl rfl (fun S19 h => ?_)
        refine pw_iconst (pc := 50) (v := 1 ) C dX8_readMember_50 (by decide) ?_
        exact pw_zret (pc := 51) C hr rfl h dX8_readMember_51
      · replace h := h.2 hc
        refine pw_sub [1, 2, 0] (LV2 := [(0, .ref (G.2.2 + x0)), (1, .ref (G.2.2 + x1)), (2, .int r9)]) rfl ?_
        exact cbX8_readMember_b35 C hr hin hZ  _ _ _ _ h
  · replace h := h.2 hc
    refine pw_aload_n (pc := 7) C 0 dX8_readMember_7 rfl rfl ?_
    refine pw_iconst (pc := 8) (v := 1 ) C dX8_readMember_8 (by decide) ?_
    obtain ⟨hk20, h⟩ := h
    refine pw_calli (pc := 9) (kc2 := 0) (kn2 := 0) (pRunV (pc := 9) C (ctX8_fail l G hZ  _ x0 (1 : Int32) _ h) (cwV 1 C.2.2.2.2.1 gX8_readMember_X8_fail rfl rfl rfl (by decide +kernel) ⟨Nat.le_of_ble_eq_true rfl, Nat.le_of_ble_eq_true rfl⟩) pCl6 hk20 rfl rfl (Nat.le_of_ble_eq_true rfl) dX8_readMember_9 ⟨Nat.le_of_ble_eq_true rfl, Nat.le_of_ble_eq_true rfl⟩) rfl rfl (fun r21 S22 h => ?_)
    obtain ⟨hb23, h⟩ := h
    exact pw_zret (pc := 12) C hr (nar_bool hb23) h dX8_readMember_12

abbrev rmX8_readCount : Room := { frames := 4, cells := 0, slots := 0, locals := 86 }
theorem iX8_readCount_X8 : ∀ w ∈ u_ws RX8 TX8 10, w ∈ wsX8_readCount := by decide +kernel
def wpX8_readCount_b65  (Q : Int32 → PS → Prop) (S : PS) (x0 : Nat) (x1 : Nat) (x2 : Int32) (x3 : Int32) (t0 : Int32) : Prop := ((¬ t0 = (-1 : Int32) → (pK S x1 = 2 ∧ (wpX2_addCount S x1 x2 x3 t0 (fun S3 => (Q (1 : Int32) S3))))) ∧ (t0 = (-1 : Int32) → (Q (0 : Int32) S)))
def wpX8_readCount_b48  (Q : Int32 → PS → Prop) (S : PS) (x0 : Nat) (x1 : Nat) (x2 : Int32) (t0 : Int32) : Prop := ((¬ t0 = (-1 : Int32) → (pK S x0 = 7 ∧ (wpX8_readNumber S x0 t0 (7 : Int32) (fun r5 S6 => (wpX8_readCount_b65 Q S6 x0 x1 x2 t0 r5))))) ∧ (t0 = (-1 : Int32) → (wpX8_readCount_b65 Q S x0 x1 x2 t0 (-1 : Int32))))
def wpX8_readCount_b25  (Q : Int32 → PS → Prop) (S : PS) (x0 : Nat) (x1 : Nat) : Prop := (pK S x0 = 7 ∧ (wpX8_readNumber S x0 (0 : Int32) (4 : Int32) (fun r8 S9 => ((¬ r8 = (-1 : Int32) → (pK S9 x0 = 7 ∧ (wpX8_readNumber S9 x0 (0 : Int32) (7 : Int32) (fun r11 S12 => (wpX8_readCount_b48 Q S12 x0 x1 r8 r11))))) ∧ (r8 = (-1 : Int32) → (wpX8_readCount_b48 Q S9 x0 x1 r8 (-1 : Int32)))))))
def wpX8_readCount (S : PS) (x0 : Nat) (x1 : Nat) (Q : Int32 → PS → Prop) : Prop := (pK S x0 = 7 ∧ ((¬ (pI S x0 6) = (2 : Int32) → (wpX8_readCount_b25 Q S x0 x1)) ∧ ((pI S x0 6) = (2 : Int32) → (pK S x1 = 2 ∧ (wpX2_hasCount S x1 (pI S x0 9) (fun r15 S16 => ((r15 = 0 → (wpX8_readCount_b25 Q S16 x0 x1)) ∧ (¬ r15 = 0 → (pK S16 x0 = 7 ∧ (wpX8_fail S16 x0 (3 : Int32) (fun r18 S19 => ((r18 = 0 ∨ r18 = 1) ∧ (Q r18 S19)))))))))))))
set_option maxRecDepth 100000 in
set_option maxHeartbeats 4000000 in
theorem cbX8_readCount_b65 {p : Program} {l : Launch} {e : Env} {s : State} {m : MethodId} {args : Array Value} {below : List Frame} {meth : Method} {c : Code} {G : PG} {Q : Int32 → PS → Prop} (C : pCx p s m args meth c G cX8_readCount 5 yX8_readCount.cls wsX8_readCount) (hr : meth.sig.returnType = (some .boolean)) (hin : meth.name = yX8_readCount.name) (hZ : pZa G)  : ∀ (S : PS) (x0 : Nat) (x1 : Nat) (x2 : Int32) (x3 : Int32) (t0 : Int32), wpX8_readCount_b65  Q S x0 x1 x2 x3 t0 → PW p l e rmX8_readCount s m args below meth c (MQ below (va_Qi Q (pB G) (pFr G)) args s rmX8_readCount.cells rmX8_readCount.slots (pFr G)) G 5 S 0 0 [(0, .ref (G.2.2 + x0)), (1, .ref (G.2.2 + x1)), (2, .int x2), (3, .int x3)] 65 (.int t0 :: []) := by
  intro S x0 x1 x2 x3 t0 h
  unfold wpX8_readCount_b65 at h
  refine pw_istore (pc := 65) C [(4, .int t0), (0, .ref (G.2.2 + x0)), (1, .ref (G.2.2 + x1)), (2, .int x2), (3, .int x3)] dX8_readCount_65 (by decide) rfl ?_
  refine pw_iload (pc := 67) C 0 dX8_readCount_67 rfl ?_
  refine pw_iconst (pc := 69) (v := (-1)) C dX8_readCount_69 (by decide) ?_
  refine pw_icmp_ne (pc := 70) (tgt := 75) C dX8_readCount_70 rfl ⟨fun hc => ?_, fun hc => ?_⟩
  · replace h := h.1 hc
    refine pw_aload_n (pc := 75) C 2 dX8_readCount_75 rfl rfl ?_
    refine pw_iload_n (pc := 76) C 3 dX8_readCount_76 rfl rfl ?_
    refine pw_iload_n (pc := 77) C 4 dX8_readCount_77 rfl rfl ?_
    refine pw_iload (pc := 78) C 0 dX8_readCount_78 rfl ?_
    obtain ⟨hk1, h⟩ := h
    refine pw_callv (pc := 80) (kc2 := 0) (kn2 := 0) (pRunV (pc := 80) C (ctX2_addCount l G hZ  _ x1 x2 x3 t0 _ h) (cwV 3 C.2.2.2.2.1 gX8_readCount_X2_addCount rfl rfl rfl (by decide +kernel) ⟨Nat.le_of_ble_eq_true rfl, Nat.le_of_ble_eq_true rfl⟩) pCl1 hk1 rfl rfl (Nat.le_of_ble_eq_true rfl) dX8_readCount_80 ⟨Nat.le_of_ble_eq_true rfl, Nat.le_of_ble_eq_true rfl⟩) rfl rfl (fun S3 h => ?_)
    refine pw_iconst (pc := 83) (v := 1 ) C dX8_readCount_83 (by decide) ?_
    exact pw_zret (pc := 84) C hr rfl h dX8_readCount_84
  · replace h := h.2 hc
    refine pw_iconst (pc := 73) (v := 0 ) C dX8_readCount_73 (by decide) ?_
    exact pw_zret (pc := 74) C hr rfl h dX8_readCount_74
set_option maxRecDepth 100000 in
set_option maxHeartbeats 4000000 in
theorem cbX8_readCount_b48 {p : Program} {l : Launch} {e : Env} {s : State} {m : MethodId} {args : Array Value} {below : List Frame} {meth : Method} {c : Code} {G : PG} {Q : Int32 → PS → Prop} (C : pCx p s m args meth c G cX8_readCount 5 yX8_readCount.cls wsX8_readCount) (hr : meth.sig.returnType = (some .boolean)) (hin : meth.name = yX8_readCount.name) (hZ : pZa G)  : ∀ (S : PS) (x0 : Nat) (x1 : Nat) (x2 : Int32) (t0 : Int32), wpX8_readCount_b48  Q S x0 x1 x2 t0 → PW p l e rmX8_readCount s m args below meth c (MQ below (va_Qi Q (pB G) (pFr G)) args s rmX8_readCount.cells rmX8_readCount.slots (pFr G)) G 5 S 0 0 [(0, .ref (G.2.2 + x0)), (1, .ref (G.2.2 + x1)), (2, .int x2)] 48 (.int t0 :: []) := by
  intro S x0 x1 x2 t0 h
  unfold wpX8_readCount_b48 at h
  refine pw_istore_n (pc := 48) C [(3, .int t0), (0, .ref (G.2.2 + x0)), (1, .ref (G.2.2 + x1)), (2, .int x2)] dX8_readCount_48 rfl (by decide) rfl ?_
  refine pw_iload_n (pc := 49) C 0 dX8_readCount_49 rfl rfl ?_
  refine pw_iconst (pc := 50) (v := (-1)) C dX8_readCount_50 (by decide) ?_
  refine pw_icmp_ne (pc := 51) (tgt := 58) C dX8_readCount_51 rfl ⟨fun hc => ?_, fun hc => ?_⟩
  · replace h := h.1 hc
    refine pw_aload_n (pc := 58) C 1 dX8_readCount_58 rfl rfl ?_
    refine pw_iload_n (pc := 59) C 0 dX8_readCount_59 rfl rfl ?_
    refine pw_bipush (pc := 60) (v := 7 ) C dX8_readCount_60 (by decide) ?_
    obtain ⟨hk4, h⟩ := h
    refine pw_calli (pc := 62) (kc2 := 0) (kn2 := 0) (pRunV (pc := 62) C (ctX8_readNumber l G hZ  _ x0 t0 (7 : Int32) _ h) (cwV 2 C.2.2.2.2.1 gX8_readCount_X8_readNumber rfl rfl rfl (by decide +kernel) ⟨Nat.le_of_ble_eq_true rfl, Nat.le_of_ble_eq_true rfl⟩) pCl6 hk4 rfl rfl (Nat.le_of_ble_eq_true rfl) dX8_readCount_62 ⟨Nat.le_of_ble_eq_true rfl, Nat.le_of_ble_eq_true rfl⟩) rfl rfl (fun r5 S6 h => ?_)
    refine pw_sub [1, 2, 3, 0] (LV2 := [(0, .ref (G.2.2 + x0)), (1, .ref (G.2.2 + x1)), (2, .int x2), (3, .int t0)]) rfl ?_
    exact cbX8_readCount_b65 C hr hin hZ  _ _ _ _ _ _ h
  · replace h := h.2 hc
    refine pw_iconst (pc := 54) (v := (-1)) C dX8_readCount_54 (by decide) ?_
    refine pw_goto (pc := 55) (tgt := 65) C dX8_readCount_55 rfl ?_
    refine pw_sub [1, 2, 3, 0] (LV2 := [(0, .ref (G.2.2 + x0)), (1, .ref (G.2.2 + x1)), (2, .int x2), (3, .int t0)]) rfl ?_
    exact cbX8_readCount_b65 C hr hin hZ  _ _ _ _ _ _ h
set_option maxRecDepth 100000 in
set_option maxHeartbeats 4000000 in
theorem cbX8_readCount_b25 {p : Program} {l : Launch} {e : Env} {s : State} {m : MethodId} {args : Array Value} {below : List Frame} {meth : Method} {c : Code} {G : PG} {Q : Int32 → PS → Prop} (C : pCx p s m args meth c G cX8_readCount 5 yX8_readCount.cls wsX8_readCount) (hr : meth.sig.returnType = (some .boolean)) (hin : meth.name = yX8_readCount.name) (hZ : pZa G)  : ∀ (S : PS) (x0 : Nat) (x1 : Nat), wpX8_readCount_b25  Q S x0 x1 → PW p l e rmX8_readCount s m args below meth c (MQ below (va_Qi Q (pB G) (pFr G)) args s rmX8_readCount.cells rmX8_readCount.slots (pFr G)) G 5 S 0 0 [(0, .ref (G.2.2 + x0)), (1, .ref (G.2.2 + x1))] 25 ([]) := by
  intro S x0 x1 h
  unfold wpX8_readCount_b25 at h
  refine pw_aload_n (pc := 25) C 0 dX8_readCount_25 rfl rfl ?_
  refine pw_iconst (pc := 26) (v := 0 ) C dX8_readCount_26 (by decide) ?_
  refine pw_iconst (pc := 27) (v := 4 ) C dX8_readCount_27 (by decide) ?_
  obtain ⟨hk7, h⟩ := h
  refine pw_calli (pc := 28) (kc2 := 0) (kn2 := 0) (pRunV (pc := 28) C (ctX8_readNumber l G hZ  _ x0 (0 : Int32) (4 : Int32) _ h) (cwV 2 C.2.2.2.2.1 gX8_readCount_X8_readNumber rfl rfl rfl (by decide +kernel) ⟨Nat.le_of_ble_eq_true rfl, Nat.le_of_ble_eq_true rfl⟩) pCl6 hk7 rfl rfl (Nat.le_of_ble_eq_true rfl) dX8_readCount_28 ⟨Nat.le_of_ble_eq_true rfl, Nat.le_of_ble_eq_true rfl⟩) rfl rfl (fun r8 S9 h => ?_)
  refine pw_istore_n (pc := 31) C [(2, .int r8), (0, .ref (G.2.2 + x0)), (1, .ref (G.2.2 + x1))] dX8_readCount_31 rfl (by decide) rfl ?_
  refine pw_iload_n (pc := 32) C 0 dX8_readCount_32 rfl rfl ?_
  refine pw_iconst (pc := 33) (v := (-1)) C dX8_readCount_33 (by decide) ?_
  refine pw_icmp_ne (pc := 34) (tgt := 41) C dX8_readCount_34 rfl ⟨fun hc => ?_, fun hc => ?_⟩
  · replace h := h.1 hc
    refine pw_aload_n (pc := 41) C 1 dX8_readCount_41 rfl rfl ?_
    refine pw_iconst (pc := 42) (v := 0 ) C dX8_readCount_42 (by decide) ?_
    refine pw_bipush (pc := 43) (v := 7 ) C dX8_readCount_43 (by decide) ?_
    obtain ⟨hk10, h⟩ := h
    refine pw_calli (pc := 45) (kc2 := 0) (kn2 := 0) (pRunV (pc := 45) C (ctX8_readNumber l G hZ  _ x0 (0 : Int32) (7 : Int32) _ h) (cwV 2 C.2.2.2.2.1 gX8_readCount_X8_readNumber rfl rfl rfl (by decide +kernel) ⟨Nat.le_of_ble_eq_true rfl, Nat.le_of_ble_eq_true rfl⟩) pCl6 hk10 rfl rfl (Nat.le_of_ble_eq_true rfl) dX8_readCount_45 ⟨Nat.le_of_ble_eq_true rfl, Nat.le_of_ble_eq_true rfl⟩) rfl rfl (fun r11 S12 h => ?_)
    refine pw_sub [1, 2, 0] (LV2 := [(0, .ref (G.2.2 + x0)), (1, .ref (G.2.2 + x1)), (2, .int r8)]) rfl ?_
    exact cbX8_readCount_b48 C hr hin hZ  _ _ _ _ _ h
  · replace h := h.2 hc
    refine pw_iconst (pc := 37) (v := (-1)) C dX8_readCount_37 (by decide) ?_
    refine pw_goto (pc := 38) (tgt := 48) C dX8_readCount_38 rfl ?_
    refine pw_sub [1, 2, 0] (LV2 := [(0, .ref (G.2.2 + x0)), (1, .ref (G.2.2 + x1)), (2, .int r8)]) rfl ?_
    exact cbX8_readCount_b48 C hr hin hZ  _ _ _ _ _ h
set_option maxRecDepth 100000 in
set_option maxHeartbeats 4000000 in
theorem ctX8_readCount (l : Launch) (G : PG) (hZ : pZa G) (S : PS) (x0 : Nat) (x1 : Nat) (Q : Int32 → PS → Prop) (h : wpX8_readCount S x0 x1 Q) : mI l yX8_readCount wsX8_readCount rmX8_readCount G S [.ref (G.2.2 + x0), .ref (G.2.2 + x1)] Q := by
  unfold mI
  refine met_of (cc := cX8_readCount) (maxL := 5) (ret := (some .boolean)) (by decide) rfl (Nat.le_of_ble_eq_true rfl) ?_
  intro p e s m args below meth c C hr hin
  unfold wpX8_readCount at h
  show PW p l e _ s m args below meth c _ G 5 S 0 0 [(0, .ref (G.2.2 + x0)), (1, .ref (G.2.2 + x1))] 0 []
  refine pw_aload_n (pc := 0) C 0 dX8_readCount_0 rfl rfl ?_
  obtain ⟨hk13, h⟩ := h
  refine pw_getI (pc := 1) (ref := "SupportSolver$TextReader") (k := 6) (index := 36) C pCl6 iX8_readCount_X8 hk13 rfl (by decide +kernel) (Or.inl rfl) dX8_readCount_1 ?_
  refine pw_iconst (pc := 4) (v := 2 ) C dX8_readCount_4 (by decide) ?_
  refine pw_icmp_ne (pc := 5) (tgt := 25) C dX8_readCount_5 rfl ⟨fun hc => ?_, fun hc => ?_⟩
  · replace h := h.1 hc
    exact cbX8_readCount_b25 C hr hin hZ  _ _ _ h
  · replace h := h.2 hc
    refine pw_aload_n (pc := 8) C 1 dX8_readCount_8 rfl rfl ?_
    refine pw_aload_n (pc := 9) C 0 dX8_readCount_9 rfl rfl ?_
    refine pw_getI (pc := 10) (ref := "SupportSolver$TextReader") (k := 9) (index := 45) C pCl6 iX8_readCount_X8 hk13 rfl (by decide +kernel) (Or.inl rfl) dX8_readCount_10 ?_
    obtain ⟨hk14, h⟩ := h
    refine pw_calli (pc := 13) (kc2 := 0) (kn2 := 0) (pRunV (pc := 13) C (ctX2_hasCount l G hZ  _ x1 (pI S x0 9) _ h) (cwV 1 C.2.2.2.2.1 gX8_readCount_X2_hasCount rfl rfl rfl (by decide +kernel) ⟨Nat.le_of_ble_eq_true rfl, Nat.le_of_ble_eq_true rfl⟩) pCl1 hk14 rfl rfl (Nat.le_of_ble_eq_true rfl) dX8_readCount_13 ⟨Nat.le_of_ble_eq_true rfl, Nat.le_of_ble_eq_true rfl⟩) rfl rfl (fun r15 S16 h => ?_)
    refine pw_if_eq (pc := 16) (tgt := 25) C dX8_readCount_16 rfl ⟨fun hc => ?_, fun hc => ?_⟩
    · replace h := h.1 hc
      exact cbX8_readCount_b25 C hr hin hZ  _ _ _ h
    · replace h := h.2 hc
      refine pw_aload_n (pc := 19) C 0 dX8_readCount_19 rfl rfl ?_
      refine pw_iconst (pc := 20) (v := 3 ) C dX8_readCount_20 (by decide) ?_
      obtain ⟨hk17, h⟩ := h
      refine pw_calli (pc := 21) (kc2 := 0) (kn2 := 0) (pRunV (pc := 21) C (ctX8_fail l G hZ  _ x0 (3 : Int32) _ h) (cwV 1 C.2.2.2.2.1 gX8_readCount_X8_fail rfl rfl rfl (by decide +kernel) ⟨Nat.le_of_ble_eq_true rfl, Nat.le_of_ble_eq_true rfl⟩) pCl6 hk17 rfl rfl (Nat.le_of_ble_eq_true rfl) dX8_readCount_21 ⟨Nat.le_of_ble_eq_true rfl, Nat.le_of_ble_eq_true rfl⟩) rfl rfl (fun r18 S19 h => ?_)
      obtain ⟨hb20, h⟩ := h
      exact pw_zret (pc := 24) C hr (nar_bool hb20) h dX8_readCount_24

abbrev rmX8_readCounts : Room := { frames := 7, cells := 1, slots := 7, locals := 149 }
theorem iX8_readCounts_X2 : ∀ w ∈ u_ws RX2 TX2 7, w ∈ wsX8_readCounts := by decide +kernel
def wpX8_readCounts_b29 (K10 : PS → Nat → Nat → Int32 → Prop) (Q : Option Nat → PS → Prop) (S : PS) (x0 : Nat) (x1 : Nat) (x2 : Int32) : Prop := (pK S x0 = 7 ∧ (wpX8_readMember S x0 x1 (fun r2 S3 => ((¬ r2 = 0 → (K10 S3 x0 x1 (x2 + 1))) ∧ (r2 = 0 → (Q none S3))))))
def wpX8_readCounts_b47  (Q : Option Nat → PS → Prop) : Nat → PS → Nat → Nat → Int32 → Prop
  | 0 => fun _ _ _ _ => False
  | n + 1 => fun S x0 x1 x2 => (((5 : Int32) < x2 → (Q (some x1) S)) ∧ (¬ (5 : Int32) < x2 → (pK S x0 = 7 ∧ (wpX8_isWord S x0 [118, 97, 108, 117, 101] (fun r8 S9 => ((r8 = 0 → (Q (some x1) S9)) ∧ (¬ r8 = 0 → (pK S9 x0 = 7 ∧ (wpX8_nextToken S9 x0 (fun S12 => (pK S12 x0 = 7 ∧ (wpX8_readCount S12 x0 x1 (fun r14 S15 => ((¬ r14 = 0 → (wpX8_readCounts_b47 Q n S15 x0 x1 (x2 + 1))) ∧ (r14 = 0 → (Q none S15))))))))))))))))
def wpX8_readCounts_b10  (Q : Option Nat → PS → Prop) : Nat → PS → Nat → Nat → Int32 → Prop
  | 0 => fun _ _ _ _ => False
  | n + 1 => fun S x0 x1 x2 => (((7 : Int32) < x2 → (∃ n9 : Nat, wpX8_readCounts_b47 Q n9 S x0 x1 (0 : Int32))) ∧ (¬ (7 : Int32) < x2 → ((x2 = 0 → (wpX8_readCounts_b29 (wpX8_readCounts_b10 Q n) Q S x0 x1 x2)) ∧ (¬ x2 = 0 → (pK S x0 = 7 ∧ (wpX8_isWord S x0 [118, 97, 108, 117, 101] (fun r20 S21 => ((¬ r20 = 0 → (∃ n9 : Nat, wpX8_readCounts_b47 Q n9 S21 x0 x1 (0 : Int32))) ∧ (r20 = 0 → (wpX8_readCounts_b29 (wpX8_readCounts_b10 Q n) Q S21 x0 x1 x2))))))))))
def wpX8_readCounts (S : PS) (x0 : Nat) (Q : Option Nat → PS → Prop) : Prop := (∀ a22 S23, a22 = pN S → S23 = sNew S 2 0 → (wpX2_init S23 a22 (fun S26 => (∃ n9 : Nat, wpX8_readCounts_b10 Q n9 S26 x0 a22 (0 : Int32)))))
set_option maxRecDepth 100000 in
set_option maxHeartbeats 4000000 in
theorem cbX8_readCounts_b29 {p : Program} {l : Launch} {e : Env} {s : State} {m : MethodId} {args : Array Value} {below : List Frame} {meth : Method} {c : Code} {G : PG} {Q : Option Nat → PS → Prop} (C : pCx p s m args meth c G cX8_readCounts 3 yX8_readCounts.cls wsX8_readCounts) (hr : meth.sig.returnType = (some (.object "SupportSolver$Constraint"))) (hin : meth.name = yX8_readCounts.name) (hZ : pZa G) {K10 : PS → Nat → Nat → Int32 → Prop} (hK10 : ∀ (S : PS) (x0 : Nat) (x1 : Nat) (x2 : Int32), K10 S x0 x1 x2 → PW p l e rmX8_readCounts s m args below meth c (MQ below (va_Qq (pPq G Q) (pB G) (pFr G)) args s rmX8_readCounts.cells rmX8_readCounts.slots (pFr G)) G 3 S 1 7 [(0, .ref (G.2.2 + x0)), (1, .ref (G.2.2 + x1)), (2, .int x2)] 10 ([])) : ∀ (S : PS) (x0 : Nat) (x1 : Nat) (x2 : Int32), wpX8_readCounts_b29 K10 Q S x0 x1 x2 → PW p l e rmX8_readCounts s m args below meth c (MQ below (va_Qq (pPq G Q) (pB G) (pFr G)) args s rmX8_readCounts.cells rmX8_readCounts.slots (pFr G)) G 3 S 1 7 [(0, .ref (G.2.2 + x0)), (1, .ref (G.2.2 + x1)), (2, .int x2)] 29 ([]) := by
  intro S x0 x1 x2 h
  unfold wpX8_readCounts_b29 at h
  refine pw_aload_n (pc := 29) C 0 dX8_readCounts_29 rfl rfl ?_
  refine pw_aload_n (pc := 30) C 1 dX8_readCounts_30 rfl rfl ?_
  obtain ⟨hk1, h⟩ := h
  refine pw_calli (pc := 31) (kc2 := 1) (kn2 := 7) (pRunV (pc := 31) C (ctX8_readMember l G hZ  _ x0 x1 _ h) (cwV 1 C.2.2.2.2.1 gX8_readCounts_X8_readMember rfl rfl rfl (by decide +kernel) ⟨Nat.le_of_ble_eq_true rfl, Nat.le_of_ble_eq_true rfl⟩) pCl6 hk1 rfl rfl (Nat.le_of_ble_eq_true rfl) dX8_readCounts_31 ⟨Nat.le_of_ble_eq_true rfl, Nat.le_of_ble_eq_true rfl⟩) rfl rfl (fun r2 S3 h => ?_)
  refine pw_if_ne (pc := 34) (tgt := 39) C dX8_readCounts_34 rfl ⟨fun hc => ?_, fun hc => ?_⟩
  · replace h := h.1 hc
    refine pw_iincK (pc := 39) (w := 1) C [(2, .int (x2 + 1)), (0, .ref (G.2.2 + x0)), (1, .ref (G.2.2 + x1))] 2 dX8_readCounts_39 (by decide) rfl (by decide) rfl ?_
    refine pw_goto (pc := 42) (tgt := 10) C dX8_readCounts_42 rfl ?_
    refine pw_sub [1, 2, 0] (LV2 := [(0, .ref (G.2.2 + x0)), (1, .ref (G.2.2 + x1)), (2, .int (x2 + 1))]) rfl ?_
    exact hK10 _ _ _ _ h
  · replace h := h.2 hc
    refine pw_null (pc := 37) C dX8_readCounts_37 ?_
    exact pw_aret (pc := 38) C hr (o := none) rfl h dX8_readCounts_38
set_option maxRecDepth 100000 in
set_option maxHeartbeats 4000000 in
theorem cbX8_readCounts_b47 {p : Program} {l : Launch} {e : Env} {s : State} {m : MethodId} {args : Array Value} {below : List Frame} {meth : Method} {c : Code} {G : PG} {Q : Option Nat → PS → Prop} (C : pCx p s m args meth c G cX8_readCounts 3 yX8_readCounts.cls wsX8_readCounts) (hr : meth.sig.returnType = (some (.object "SupportSolver$Constraint"))) (hin : meth.name = yX8_readCounts.name) (hZ : pZa G)  (n : Nat) : ∀ (S : PS) (x0 : Nat) (x1 : Nat) (x2 : Int32), wpX8_readCounts_b47  Q n S x0 x1 x2 → PW p l e rmX8_readCounts s m args below meth c (MQ below (va_Qq (pPq G Q) (pB G) (pFr G)) args s rmX8_readCounts.cells rmX8_readCounts.slots (pFr G)) G 3 S 1 7 [(0, .ref (G.2.2 + x0)), (1, .ref (G.2.2 + x1)), (2, .int x2)] 47 ([]) := by
  induction n with
  | zero => intro S x0 x1 x2 h; exact h.elim
  | succ n ih =>
    intro S x0 x1 x2 h
    unfold wpX8_readCounts_b47 at h
    refine pw_iload_n (pc := 47) C 2 dX8_readCounts_47 rfl rfl ?_
    refine pw_iconst (pc := 48) (v := 5 ) C dX8_readCounts_48 (by decide) ?_
    refine pw_icmp_gt (pc := 49) (tgt := 81) C dX8_readCounts_49 rfl ⟨fun hc => ?_, fun hc => ?_⟩
    · replace h := h.1 hc
      refine pw_aload_n (pc := 81) C 1 dX8_readCounts_81 rfl rfl ?_
      exact pw_aret (pc := 82) C hr (o := (some x1)) rfl h dX8_readCounts_82
    · replace h := h.2 hc
      refine pw_aload_n (pc := 52) C 0 dX8_readCounts_52 rfl rfl ?_
      obtain ⟨q4, z5, hq6⟩ := (hZ.2.2.2.2.2.2.2.2.2.2.2.2.2.2.2.2.2.2.2.2.1)
      refine pw_ldcS (pc := 53) C z5 dX8_readCounts_53 ?_
      obtain ⟨hk7, h⟩ := h
      refine pw_calli (pc := 55) (kc2 := 1) (kn2 := 7) (pRunV (pc := 55) C (ctX8_isWord l G hZ [118, 97, 108, 117, 101] q4 hq6 (by decide)  _ x0 _ h) (cwV 1 C.2.2.2.2.1 gX8_readCounts_X8_isWord rfl rfl rfl (by decide +kernel) ⟨Nat.le_of_ble_eq_true rfl, Nat.le_of_ble_eq_true rfl⟩) pCl6 hk7 rfl rfl (Nat.le_of_ble_eq_true rfl) dX8_readCounts_55 ⟨Nat.le_of_ble_eq_true rfl, Nat.le_of_ble_eq_true rfl⟩) rfl rfl (fun r8 S9 h => ?_)
      refine pw_if_eq (pc := 58) (tgt := 81) C dX8_readCounts_58 rfl ⟨fun hc => ?_, fun hc => ?_⟩
      · replace h := h.1 hc
        refine pw_aload_n (pc := 81) C 1 dX8_readCounts_81 rfl rfl ?_
        exact pw_aret (pc := 82) C hr (o := (some x1)) rfl h dX8_readCounts_82
      · replace h := h.2 hc
        refine pw_aload_n (pc := 61) C 0 dX8_readCounts_61 rfl rfl ?_
        obtain ⟨hk10, h⟩ := h
        refine pw_callv (pc := 62) (kc2 := 1) (kn2 := 7) (pRunV (pc := 62) C (ctX8_nextToken l G hZ  _ x0 _ h) (cwV 0 C.2.2.2.2.1 gX8_readCounts_X8_nextToken rfl rfl rfl (by decide +kernel) ⟨Nat.le_of_ble_eq_true rfl, Nat.le_of_ble_eq_true rfl⟩) pCl6 hk10 rfl rfl (Nat.le_of_ble_eq_true rfl) dX8_readCounts_62 ⟨Nat.le_of_ble_eq_true rfl, Nat.le_of_ble_eq_true rfl⟩) rfl rfl (fun S12 h => ?_)
        refine pw_aload_n (pc := 65) C 0 dX8_readCounts_65 rfl rfl ?_
        refine pw_aload_n (pc := 66) C 1 dX8_readCounts_66 rfl rfl ?_
        obtain ⟨hk13, h⟩ := h
        refine pw_calli (pc := 67) (kc2 := 1) (kn2 := 7) (pRunV (pc := 67) C (ctX8_readCount l G hZ  _ x0 x1 _ h) (cwV 1 C.2.2.2.2.1 gX8_readCounts_X8_readCount rfl rfl rfl (by decide +kernel) ⟨Nat.le_of_ble_eq_true rfl, Nat.le_of_ble_eq_true rfl⟩) pCl6 hk13 rfl rfl (Nat.le_of_ble_eq_true rfl) dX8_readCounts_67 ⟨Nat.le_of_ble_eq_true rfl, Nat.le_of_ble_eq_true rfl⟩) rfl rfl (fun r14 S15 h => ?_)
        refine pw_if_ne (pc := 70) (tgt := 75) C dX8_readCounts_70 rfl ⟨fun hc => ?_, fun hc => ?_⟩
        · replace h := h.1 hc
          refine pw_iincK (pc := 75) (w := 1) C [(2, .int (x2 + 1)), (0, .ref (G.2.2 + x0)), (1, .ref (G.2.2 + x1))] 2 dX8_readCounts_75 (by decide) rfl (by decide) rfl ?_
          refine pw_goto (pc := 78) (tgt := 47) C dX8_readCounts_78 rfl ?_
          refine pw_sub [1, 2, 0] (LV2 := [(0, .ref (G.2.2 + x0)), (1, .ref (G.2.2 + x1)), (2, .int (x2 + 1))]) rfl ?_
          exact ih _ _ _ _ h
        · replace h := h.2 hc
          refine pw_null (pc := 73) C dX8_readCounts_73 ?_
          exact pw_aret (pc := 74) C hr (o := none) rfl h dX8_readCounts_74
set_option maxRecDepth 100000 in
set_option maxHeartbeats 4000000 in
theorem cbX8_readCounts_b10 {p : Program} {l : Launch} {e : Env} {s : State} {m : MethodId} {args : Array Value} {below : List Frame} {meth : Method} {c : Code} {G : PG} {Q : Option Nat → PS → Prop} (C : pCx p s m args meth c G cX8_readCounts 3 yX8_readCounts.cls wsX8_readCounts) (hr : meth.sig.returnType = (some (.object "SupportSolver$Constraint"))) (hin : meth.name = yX8_readCounts.name) (hZ : pZa G)  (n : Nat) : ∀ (S : PS) (x0 : Nat) (x1 : Nat) (x2 : Int32), wpX8_readCounts_b10  Q n S x0 x1 x2 → PW p l e rmX8_readCounts s m args below meth c (MQ below (va_Qq (pPq G Q) (pB G) (pFr G)) args s rmX8_readCounts.cells rmX8_readCounts.slots (pFr G)) G 3 S 1 7 [(0, .ref (G.2.2 + x0)), (1, .ref (G.2.2 + x1)), (2, .int x2)] 10 ([]) := by
  induction n with
  | zero => intro S x0 x1 x2 h; exact h.elim
  | succ n ih =>
    intro S x0 x1 x2 h
    unfold wpX8_readCounts_b10 at h
    refine pw_iload_n (pc := 10) C 2 dX8_readCounts_10 rfl rfl ?_
    refine pw_bipush (pc := 11) (v := 7 ) C dX8_readCounts_11 (by decide) ?_
    refine pw_icmp_gt (pc := 13) (tgt := 45) C dX8_readCounts_13 rfl ⟨fun hc => ?_, fun hc => ?_⟩
    · replace h := h.1 hc
      refine pw_iconst (pc := 45) (v := 0 ) C dX8_readCounts_45 (by decide) ?_
      refine pw_istore_n (pc := 46) C [(2, .int (0 : Int32)), (0, .ref (G.2.2 + x0)), (1, .ref (G.2.2 + x1))] dX8_readCounts_46 rfl (by decide) rfl ?_
      refine pw_sub [1, 2, 0] (LV2 := [(0, .ref (G.2.2 + x0)), (1, .ref (G.2.2 + x1)), (2, .int (0 : Int32))]) rfl ?_
      obtain ⟨n9, h⟩ := h
      exact cbX8_readCounts_b47 C hr hin hZ  n9 _ _ _ _ h
    · replace h := h.2 hc
      refine pw_iload_n (pc := 16) C 2 dX8_readCounts_16 rfl rfl ?_
      refine pw_if_eq (pc := 17) (tgt := 29) C dX8_readCounts_17 rfl ⟨fun hc => ?_, fun hc => ?_⟩
      · replace h := h.1 hc
        exact cbX8_readCounts_b29 C hr hin hZ ih _ _ _ _ h
      · replace h := h.2 hc
        refine pw_aload_n (pc := 20) C 0 dX8_readCounts_20 rfl rfl ?_
        obtain ⟨q16, z17, hq18⟩ := (hZ.2.2.2.2.2.2.2.2.2.2.2.2.2.2.2.2.2.2.2.2.1)
        refine pw_ldcS (pc := 21) C z17 dX8_readCounts_21 ?_
        obtain ⟨hk19, h⟩ := h
        refine pw_calli (pc := 23) (kc2 := 1) (kn2 := 7) (pRunV (pc := 23) C (ctX8_isWord l G hZ [118, 97, 108, 117, 101] q16 hq18 (by decide)  _ x0 _ h) (cwV 1 C.2.2.2.2.1 gX8_readCounts_X8_isWord rfl rfl rfl (by decide +kernel) ⟨Nat.le_of_ble_eq_true rfl, Nat.le_of_ble_eq_true rfl⟩) pCl6 hk19 rfl rfl (Nat.le_of_ble_eq_true rfl) dX8_readCounts_23 ⟨Nat.le_of_ble_eq_true rfl, Nat.le_of_ble_eq_true rfl⟩) rfl rfl (fun r20 S21 h => ?_)
        refine pw_if_ne (pc := 26) (tgt := 45) C dX8_readCounts_26 rfl ⟨fun hc => ?_, fun hc => ?_⟩
        · replace h := h.1 hc
          refine pw_iconst (pc := 45) (v := 0 ) C dX8_readCounts_45 (by decide) ?_
          refine pw_istore_n (pc := 46) C [(2, .int (0 : Int32)), (0, .ref (G.2.2 + x0)), (1, .ref (G.2.2 + x1))] dX8_readCounts_46 rfl (by decide) rfl ?_
          refine pw_sub [1, 2, 0] (LV2 := [(0, .ref (G.2.2 + x0)), (1, .ref (G.2.2 + x1)), (2, .int (0 : Int32))]) rfl ?_
          obtain ⟨n9, h⟩ := h
          exact cbX8_readCounts_b47 C hr hin hZ  n9 _ _ _ _ h
        · replace h := h.2 hc
          exact cbX8_readCounts_b29 C hr hin hZ ih _ _ _ _ h
set_option maxRecDepth 100000 in
set_option maxHeartbeats 4000000 in
theorem ctX8_readCounts (l : Launch) (G : PG) (hZ : pZa G) (S : PS) (x0 : Nat) (Q : Option Nat → PS → Prop) (h : wpX8_readCounts S x0 Q) : mQ l yX8_readCounts wsX8_readCounts rmX8_readCounts G S [.ref (G.2.2 + x0)] Q := by
  unfold mQ
  refine met_of (cc := cX8_readCounts) (maxL := 3) (ret := (some (.object "SupportSolver$Constraint"))) (by decide) rfl (Nat.le_of_ble_eq_true rfl) ?_
  intro p e s m args below meth c C hr hin
  unfold wpX8_readCounts at h
  show PW p l e _ s m args below meth c _ G 3 S 0 0 [(0, .ref (G.2.2 + x0))] 0 []
  refine pw_new (pc := 0) (kc2 := 1) (kn2 := 7) C pCl1 iX8_readCounts_X2 (by decide +kernel) (by decide +kernel) (by decide +kernel) rfl rfl (Nat.le_of_ble_eq_true rfl) (Nat.le_of_ble_eq_true rfl) dX8_readCounts_0 ?_
  obtain ⟨a22, ea22⟩ : ∃ q, q = pN S := ⟨_, rfl⟩
  obtain ⟨S23, eS23⟩ : ∃ q, q = sNew S 2 0 := ⟨_, rfl⟩
  rw [← ea22, ← eS23]
  replace h := h a22 S23 ea22 eS23
  have hk24 : pK S23 a22 = 2 := by rw [eS23, ea22, pK_sNew, if_pos rfl]
  refine pw_dup (pc := 3) C dX8_readCounts_3 rfl ?_
  refine pw_callv (pc := 4) (kc2 := 1) (kn2 := 7) (pRunI (pc := 4) C (ctX2_init l G hZ  _ a22 _ h) (cwI 0 C.2.2.2.2.1 gX8_readCounts_X2_init rfl rfl rfl (C.2.2.2.2.1 (.initialized RX2) (by decide +kernel)) (C.2.2.2.2.1 (.methodLink RX8 120 yX2_init) (by decide +kernel)) (C.2.2.2.2.1 (.instanceMethod yX2_init) (by decide +kernel)) rfl (by decide +kernel) ⟨Nat.le_of_ble_eq_true rfl, Nat.le_of_ble_eq_true rfl⟩) rfl rfl (Nat.le_of_ble_eq_true rfl) dX8_readCounts_4 ⟨Nat.le_of_ble_eq_true rfl, Nat.le_of_ble_eq_true rfl⟩) rfl rfl (fun S26 h => ?_)
  refine pw_astore_n (pc := 7) C [(1, .ref (G.2.2 + a22)), (0, .ref (G.2.2 + x0))] dX8_readCounts_7 rfl (by decide) rfl ?_
  refine pw_iconst (pc := 8) (v := 0 ) C dX8_readCounts_8 (by decide) ?_
  refine pw_istore_n (pc := 9) C [(2, .int (0 : Int32)), (1, .ref (G.2.2 + a22)), (0, .ref (G.2.2 + x0))] dX8_readCounts_9 rfl (by decide) rfl ?_
  refine pw_sub [2, 1, 0] (LV2 := [(0, .ref (G.2.2 + x0)), (1, .ref (G.2.2 + a22)), (2, .int (0 : Int32))]) rfl ?_
  obtain ⟨n9, h⟩ := h
  exact cbX8_readCounts_b10 C hr hin hZ  n9 _ _ _ _ h

abbrev rmX8_readWindow : Room := { frames := 7, cells := 1, slots := 8, locals := 149 }
theorem iX8_readWindow_X10 : ∀ w ∈ u_ws RX10 TX10 8, w ∈ wsX8_readWindow := by decide +kernel
theorem iX8_readWindow_X8 : ∀ w ∈ u_ws RX8 TX8 10, w ∈ wsX8_readWindow := by decide +kernel
def wpX8_readWindow_b102 (K82 : PS → Nat → Int32 → Int32 → Int32 → Int32 → Nat → Int32 → Prop) (Q : Option Nat → PS → Prop) (S : PS) (x0 : Nat) (x1 : Int32) (x2 : Int32) (x3 : Int32) (x4 : Int32) (x5 : Nat) (x6 : Int32) : Prop := (pK S x0 = 7 ∧ (wpX8_readMember S x0 x5 (fun r2 S3 => ((¬ r2 = 0 → (K82 S3 x0 x1 x2 x3 x4 x5 (x6 + 1))) ∧ (r2 = 0 → (Q none S3))))))
def wpX8_readWindow_b82  (Q : Option Nat → PS → Prop) : Nat → PS → Nat → Int32 → Int32 → Int32 → Int32 → Nat → Int32 → Prop
  | 0 => fun _ _ _ _ _ _ _ _ => False
  | n + 1 => fun S x0 x1 x2 x3 x4 x5 x6 => (((7 : Int32) < x6 → (Q (some x5) S)) ∧ (¬ (7 : Int32) < x6 → ((x6 = 0 → (wpX8_readWindow_b102 (wpX8_readWindow_b82 Q n) Q S x0 x1 x2 x3 x4 x5 x6)) ∧ (¬ x6 = 0 → (pK S x0 = 7 ∧ (((pI S x0 6) = (3 : Int32) → (Q (some x5) S)) ∧ (¬ (pI S x0 6) = (3 : Int32) → (wpX8_readWindow_b102 (wpX8_readWindow_b82 Q n) Q S x0 x1 x2 x3 x4 x5 x6))))))))
def wpX8_readWindow_b55  (Q : Option Nat → PS → Prop) (S : PS) (x0 : Nat) (x1 : Int32) (x2 : Int32) (x3 : Int32) (t0 : Int32) : Prop := ((¬ t0 = (-1 : Int32) → (∀ a5 S6, a5 = pN S → S6 = sNew S 9 0 → (wpX10_init S6 a5 x1 x2 x3 t0 (fun S9 => (∃ n9 : Nat, wpX8_readWindow_b82 Q n9 S9 x0 x1 x2 x3 t0 a5 (0 : Int32)))))) ∧ (t0 = (-1 : Int32) → (Q none S)))
def wpX8_readWindow_b39  (Q : Option Nat → PS → Prop) (S : PS) (x0 : Nat) (x1 : Int32) (x2 : Int32) (t0 : Int32) : Prop := ((¬ t0 = (-1 : Int32) → (pK S x0 = 7 ∧ (wpX8_readNumber S x0 t0 x1 (fun r11 S12 => (wpX8_readWindow_b55 Q S12 x0 x1 x2 t0 r11))))) ∧ (t0 = (-1 : Int32) → (wpX8_readWindow_b55 Q S x0 x1 x2 t0 (-1 : Int32))))
def wpX8_readWindow_b23  (Q : Option Nat → PS → Prop) (S : PS) (x0 : Nat) (x1 : Int32) (t0 : Int32) : Prop := ((¬ t0 = (-1 : Int32) → (pK S x0 = 7 ∧ (wpX8_readNumber S x0 (0 : Int32) x1 (fun r14 S15 => (wpX8_readWindow_b39 Q S15 x0 x1 t0 r14))))) ∧ (t0 = (-1 : Int32) → (wpX8_readWindow_b39 Q S x0 x1 t0 (-1 : Int32))))
def wpX8_readWindow (S : PS) (x0 : Nat) (Q : Option Nat → PS → Prop) : Prop := (pK S x0 = 7 ∧ (wpX8_readNumber S x0 (1 : Int32) (4 : Int32) (fun r17 S18 => ((¬ r17 = (-1 : Int32) → (pK S18 x0 = 7 ∧ (wpX8_readNumber S18 x0 (1 : Int32) (31 : Int32) (fun r20 S21 => (wpX8_readWindow_b23 Q S21 x0 r17 r20))))) ∧ (r17 = (-1 : Int32) → (wpX8_readWindow_b23 Q S18 x0 r17 (-1 : Int32)))))))
set_option maxRecDepth 100000 in
set_option maxHeartbeats 4000000 in
theorem cbX8_readWindow_b102 {p : Program} {l : Launch} {e : Env} {s : State} {m : MethodId} {args : Array Value} {below : List Frame} {meth : Method} {c : Code} {G : PG} {Q : Option Nat → PS → Prop} (C : pCx p s m args meth c G cX8_readWindow 7 yX8_readWindow.cls wsX8_readWindow) (hr : meth.sig.returnType = (some (.object "SupportSolver$Constraint"))) (hin : meth.name = yX8_readWindow.name) (hZ : pZa G) {K82 : PS → Nat → Int32 → Int32 → Int32 → Int32 → Nat → Int32 → Prop} (hK82 : ∀ (S : PS) (x0 : Nat) (x1 : Int32) (x2 : Int32) (x3 : Int32) (x4 : Int32) (x5 : Nat) (x6 : Int32), K82 S x0 x1 x2 x3 x4 x5 x6 → PW p l e rmX8_readWindow s m args below meth c (MQ below (va_Qq (pPq G Q) (pB G) (pFr G)) args s rmX8_readWindow.cells rmX8_readWindow.slots (pFr G)) G 7 S 1 8 [(0, .ref (G.2.2 + x0)), (1, .int x1), (2, .int x2), (3, .int x3), (4, .int x4), (5, .ref (G.2.2 + x5)), (6, .int x6)] 82 ([])) : ∀ (S : PS) (x0 : Nat) (x1 : Int32) (x2 : Int32) (x3 : Int32) (x4 : Int32) (x5 : Nat) (x6 : Int32), wpX8_readWindow_b102 K82 Q S x0 x1 x2 x3 x4 x5 x6 → PW p l e rmX8_readWindow s m args below meth c (MQ below (va_Qq (pPq G Q) (pB G) (pFr G)) args s rmX8_readWindow.cells rmX8_readWindow.slots (pFr G)) G 7 S 1 8 [(0, .ref (G.2.2 + x0)), (1, .int x1), (2, .int x2), (3, .int x3), (4, .int x4), (5, .ref (G.2.2 + x5)), (6, .int x6)] 102 ([]) := by
  intro S x0 x1 x2 x3 x4 x5 x6 h
  unfold wpX8_readWindow_b102 at h
  refine pw_aload_n (pc := 102) C 0 dX8_readWindow_102 rfl rfl ?_
  refine pw_aload (pc := 103) C 5 dX8_readWindow_103 rfl ?_
  obtain ⟨hk1, h⟩ := h
  refine pw_calli (pc := 105) (kc2 := 1) (kn2 := 8) (pRunV (pc := 105) C (ctX8_readMember l G hZ  _ x0 x5 _ h) (cwV 1 C.2.2.2.2.1 gX8_readWindow_X8_readMember rfl rfl rfl (by decide +kernel) ⟨Nat.le_of_ble_eq_true rfl, Nat.le_of_ble_eq_true rfl⟩) pCl6 hk1 rfl rfl (Nat.le_of_ble_eq_true rfl) dX8_readWindow_105 ⟨Nat.le_of_ble_eq_true rfl, Nat.le_of_ble_eq_true rfl⟩) rfl rfl (fun r2 S3 h => ?_)
  refine pw_if_ne (pc := 108) (tgt := 113) C dX8_readWindow_108 rfl ⟨fun hc => ?_, fun hc => ?_⟩
  · replace h := h.1 hc
    refine pw_iincK (pc := 113) (w := 1) C [(6, .int (x6 + 1)), (0, .ref (G.2.2 + x0)), (1, .int x1), (2, .int x2), (3, .int x3), (4, .int x4), (5, .ref (G.2.2 + x5))] 6 dX8_readWindow_113 (by decide) rfl (by decide) rfl ?_
    refine pw_goto (pc := 116) (tgt := 82) C dX8_readWindow_116 rfl ?_
    refine pw_sub [1, 2, 3, 4, 5, 6, 0] (LV2 := [(0, .ref (G.2.2 + x0)), (1, .int x1), (2, .int x2), (3, .int x3), (4, .int x4), (5, .ref (G.2.2 + x5)), (6, .int (x6 + 1))]) rfl ?_
    exact hK82 _ _ _ _ _ _ _ _ h
  · replace h := h.2 hc
    refine pw_null (pc := 111) C dX8_readWindow_111 ?_
    exact pw_aret (pc := 112) C hr (o := none) rfl h dX8_readWindow_112
set_option maxRecDepth 100000 in
set_option maxHeartbeats 4000000 in
theorem cbX8_readWindow_b82 {p : Program} {l : Launch} {e : Env} {s : State} {m : MethodId} {args : Array Value} {below : List Frame} {meth : Method} {c : Code} {G : PG} {Q : Option Nat → PS → Prop} (C : pCx p s m args meth c G cX8_readWindow 7 yX8_readWindow.cls wsX8_readWindow) (hr : meth.sig.returnType = (some (.object "SupportSolver$Constraint"))) (hin : meth.name = yX8_readWindow.name) (hZ : pZa G)  (n : Nat) : ∀ (S : PS) (x0 : Nat) (x1 : Int32) (x2 : Int32) (x3 : Int32) (x4 : Int32) (x5 : Nat) (x6 : Int32), wpX8_readWindow_b82  Q n S x0 x1 x2 x3 x4 x5 x6 → PW p l e rmX8_readWindow s m args below meth c (MQ below (va_Qq (pPq G Q) (pB G) (pFr G)) args s rmX8_readWindow.cells rmX8_readWindow.slots (pFr G)) G 7 S 1 8 [(0, .ref (G.2.2 + x0)), (1, .int x1), (2, .int x2), (3, .int x3), (4, .int x4), (5, .ref (G.2.2 + x5)), (6, .int x6)] 82 ([]) := by
  induction n with
  | zero => intro S x0 x1 x2 x3 x4 x5 x6 h; exact h.elim
  | succ n ih =>
    intro S x0 x1 x2 x3 x4 x5 x6 h
    unfold wpX8_readWindow_b82 at h
    refine pw_iload (pc := 82) C 6 dX8_readWindow_82 rfl ?_
    refine pw_bipush (pc := 84) (v := 7 ) C dX8_readWindow_84 (by decide) ?_
    refine pw_icmp_gt (pc := 86) (tgt := 119) C dX8_readWindow_86 rfl ⟨fun hc => ?_, fun hc => ?_⟩
    · replace h := h.1 hc
      refine pw_aload (pc := 119) C 5 dX8_readWindow_119 rfl ?_
      exact pw_aret (pc := 121) C hr (o := (some x5)) rfl h dX8_readWindow_121
    · replace h := h.2 hc
      refine pw_iload (pc := 89) C 6 dX8_readWindow_89 rfl ?_
      refine pw_if_eq (pc := 91) (tgt := 102) C dX8_readWindow_91 rfl ⟨fun hc => ?_, fun hc => ?_⟩
      · replace h := h.1 hc
        exact cbX8_readWindow_b102 C hr hin hZ ih _ _ _ _ _ _ _ _ h
      · replace h := h.2 hc
        refine pw_aload_n (pc := 94) C 0 dX8_readWindow_94 rfl rfl ?_
        obtain ⟨hk4, h⟩ := h
        refine pw_getI (pc := 95) (ref := "SupportSolver$TextReader") (k := 6) (index := 36) C pCl6 iX8_readWindow_X8 hk4 rfl (by decide +kernel) (Or.inl rfl) dX8_readWindow_95 ?_
        refine pw_iconst (pc := 98) (v := 3 ) C dX8_readWindow_98 (by decide) ?_
        refine pw_icmp_eq (pc := 99) (tgt := 119) C dX8_readWindow_99 rfl ⟨fun hc => ?_, fun hc => ?_⟩
        · replace h := h.1 hc
          refine pw_aload (pc := 119) C 5 dX8_readWindow_119 rfl ?_
          exact pw_aret (pc := 121) C hr (o := (some x5)) rfl h dX8_readWindow_121
        · replace h := h.2 hc
          exact cbX8_readWindow_b102 C hr hin hZ ih _ _ _ _ _ _ _ _ h
set_option maxRecDepth 100000 in
set_option maxHeartbeats 4000000 in
theorem cbX8_readWindow_b55 {p : Program} {l : Launch} {e : Env} {s : State} {m : MethodId} {args : Array Value} {below : List Frame} {meth : Method} {c : Code} {G : PG} {Q : Option Nat → PS → Prop} (C : pCx p s m args meth c G cX8_readWindow 7 yX8_readWindow.cls wsX8_readWindow) (hr : meth.sig.returnType = (some (.object "SupportSolver$Constraint"))) (hin : meth.name = yX8_readWindow.name) (hZ : pZa G)  : ∀ (S : PS) (x0 : Nat) (x1 : Int32) (x2 : Int32) (x3 : Int32) (t0 : Int32), wpX8_readWindow_b55  Q S x0 x1 x2 x3 t0 → PW p l e rmX8_readWindow s m args below meth c (MQ below (va_Qq (pPq G Q) (pB G) (pFr G)) args s rmX8_readWindow.cells rmX8_readWindow.slots (pFr G)) G 7 S 0 0 [(0, .ref (G.2.2 + x0)), (1, .int x1), (2, .int x2), (3, .int x3)] 55 (.int t0 :: []) := by
  intro S x0 x1 x2 x3 t0 h
  unfold wpX8_readWindow_b55 at h
  refine pw_istore (pc := 55) C [(4, .int t0), (0, .ref (G.2.2 + x0)), (1, .int x1), (2, .int x2), (3, .int x3)] dX8_readWindow_55 (by decide) rfl ?_
  refine pw_iload (pc := 57) C 0 dX8_readWindow_57 rfl ?_
  refine pw_iconst (pc := 59) (v := (-1)) C dX8_readWindow_59 (by decide) ?_
  refine pw_icmp_ne (pc := 60) (tgt := 65) C dX8_readWindow_60 rfl ⟨fun hc => ?_, fun hc => ?_⟩
  · replace h := h.1 hc
    refine pw_new (pc := 65) (kc2 := 1) (kn2 := 8) C pCl8 iX8_readWindow_X10 (by decide +kernel) (by decide +kernel) (by decide +kernel) rfl rfl (Nat.le_of_ble_eq_true rfl) (Nat.le_of_ble_eq_true rfl) dX8_readWindow_65 ?_
    obtain ⟨a5, ea5⟩ : ∃ q, q = pN S := ⟨_, rfl⟩
    obtain ⟨S6, eS6⟩ : ∃ q, q = sNew S 9 0 := ⟨_, rfl⟩
    rw [← ea5, ← eS6]
    replace h := h a5 S6 ea5 eS6
    have hk7 : pK S6 a5 = 9 := by rw [eS6, ea5, pK_sNew, if_pos rfl]
    refine pw_dup (pc := 68) C dX8_readWindow_68 rfl ?_
    refine pw_iload_n (pc := 69) C 2 dX8_readWindow_69 rfl rfl ?_
    refine pw_iload_n (pc := 70) C 3 dX8_readWindow_70 rfl rfl ?_
    refine pw_iload_n (pc := 71) C 4 dX8_readWindow_71 rfl rfl ?_
    refine pw_iload (pc := 72) C 0 dX8_readWindow_72 rfl ?_
    refine pw_callv (pc := 74) (kc2 := 1) (kn2 := 8) (pRunI (pc := 74) C (ctX10_init l G hZ  _ a5 x1 x2 x3 t0 _ h) (cwI 4 C.2.2.2.2.1 gX8_readWindow_X10_init rfl rfl rfl (C.2.2.2.2.1 (.initialized RX10) (by decide +kernel)) (C.2.2.2.2.1 (.methodLink RX8 138 yX10_init) (by decide +kernel)) (C.2.2.2.2.1 (.instanceMethod yX10_init) (by decide +kernel)) rfl (by decide +kernel) ⟨Nat.le_of_ble_eq_true rfl, Nat.le_of_ble_eq_true rfl⟩) rfl rfl (Nat.le_of_ble_eq_true rfl) dX8_readWindow_74 ⟨Nat.le_of_ble_eq_true rfl, Nat.le_of_ble_eq_true rfl⟩) rfl rfl (fun S9 h => ?_)
    refine pw_astore (pc := 77) C [(5, .ref (G.2.2 + a5)), (4, .int t0), (0, .ref (G.2.2 + x0)), (1, .int x1), (2, .int x2), (3, .int x3)] dX8_readWindow_77 (by decide) rfl ?_
    refine pw_iconst (pc := 79) (v := 0 ) C dX8_readWindow_79 (by decide) ?_
    refine pw_istore (pc := 80) C [(6, .int (0 : Int32)), (5, .ref (G.2.2 + a5)), (4, .int t0), (0, .ref (G.2.2 + x0)), (1, .int x1), (2, .int x2), (3, .int x3)] dX8_readWindow_80 (by decide) rfl ?_
    refine pw_sub [3, 4, 5, 6, 2, 1, 0] (LV2 := [(0, .ref (G.2.2 + x0)), (1, .int x1), (2, .int x2), (3, .int x3), (4, .int t0), (5, .ref (G.2.2 + a5)), (6, .int (0 : Int32))]) rfl ?_
    obtain ⟨n9, h⟩ := h
    exact cbX8_readWindow_b82 C hr hin hZ  n9 _ _ _ _ _ _ _ _ h
  · replace h := h.2 hc
    refine pw_null (pc := 63) C dX8_readWindow_63 ?_
    refine pw_widen (k2 := 1) (n2 := 8) (Nat.le_of_ble_eq_true rfl) (Nat.le_of_ble_eq_true rfl) ?_
    exact pw_aret (pc := 64) C hr (o := none) rfl h dX8_readWindow_64
set_option maxRecDepth 100000 in
set_option maxHeartbeats 4000000 in
theorem cbX8_readWindow_b39 {p : Program} {l : Launch} {e : Env} {s : State} {m : MethodId} {args : Array Value} {below : List Frame} {meth : Method} {c : Code} {G : PG} {Q : Option Nat → PS → Prop} (C : pCx p s m args meth c G cX8_readWindow 7 yX8_readWindow.cls wsX8_readWindow) (hr : meth.sig.returnType = (some (.object "SupportSolver$Constraint"))) (hin : meth.name = yX8_readWindow.name) (hZ : pZa G)  : ∀ (S : PS) (x0 : Nat) (x1 : Int32) (x2 : Int32) (t0 : Int32), wpX8_readWindow_b39  Q S x0 x1 x2 t0 → PW p l e rmX8_readWindow s m args below meth c (MQ below (va_Qq (pPq G Q) (pB G) (pFr G)) args s rmX8_readWindow.cells rmX8_readWindow.slots (pFr G)) G 7 S 0 0 [(0, .ref (G.2.2 + x0)), (1, .int x1), (2, .int x2)] 39 (.int t0 :: []) := by
  intro S x0 x1 x2 t0 h
  unfold wpX8_readWindow_b39 at h
  refine pw_istore_n (pc := 39) C [(3, .int t0), (0, .ref (G.2.2 + x0)), (1, .int x1), (2, .int x2)] dX8_readWindow_39 rfl (by decide) rfl ?_
  refine pw_iload_n (pc := 40) C 0 dX8_readWindow_40 rfl rfl ?_
  refine pw_iconst (pc := 41) (v := (-1)) C dX8_readWindow_41 (by decide) ?_
  refine pw_icmp_ne (pc := 42) (tgt := 49) C dX8_readWindow_42 rfl ⟨fun hc => ?_, fun hc => ?_⟩
  · replace h := h.1 hc
    refine pw_aload_n (pc := 49) C 1 dX8_readWindow_49 rfl rfl ?_
    refine pw_iload_n (pc := 50) C 0 dX8_readWindow_50 rfl rfl ?_
    refine pw_iload_n (pc := 51) C 2 dX8_readWindow_51 rfl rfl ?_
    obtain ⟨hk10, h⟩ := h
    refine pw_calli (pc := 52) (kc2 := 0) (kn2 := 0) (pRunV (pc := 52) C (ctX8_readNumber l G hZ  _ x0 t0 x1 _ h) (cwV 2 C.2.2.2.2.1 gX8_readWindow_X8_readNumber rfl rfl rfl (by decide +kernel) ⟨Nat.le_of_ble_eq_true rfl, Nat.le_of_ble_eq_true rfl⟩) pCl6 hk10 rfl rfl (Nat.le_of_ble_eq_true rfl) dX8_readWindow_52 ⟨Nat.le_of_ble_eq_true rfl, Nat.le_of_ble_eq_true rfl⟩) rfl rfl (fun r11 S12 h => ?_)
    refine pw_sub [1, 2, 3, 0] (LV2 := [(0, .ref (G.2.2 + x0)), (1, .int x1), (2, .int x2), (3, .int t0)]) rfl ?_
    exact cbX8_readWindow_b55 C hr hin hZ  _ _ _ _ _ _ h
  · replace h := h.2 hc
    refine pw_iconst (pc := 45) (v := (-1)) C dX8_readWindow_45 (by decide) ?_
    refine pw_goto (pc := 46) (tgt := 55) C dX8_readWindow_46 rfl ?_
    refine pw_sub [1, 2, 3, 0] (LV2 := [(0, .ref (G.2.2 + x0)), (1, .int x1), (2, .int x2), (3, .int t0)]) rfl ?_
    exact cbX8_readWindow_b55 C hr hin hZ  _ _ _ _ _ _ h
set_option maxRecDepth 100000 in
set_option maxHeartbeats 4000000 in
theorem cbX8_readWindow_b23 {p : Program} {l : Launch} {e : Env} {s : State} {m : MethodId} {args : Array Value} {below : List Frame} {meth : Method} {c : Code} {G : PG} {Q : Option Nat → PS → Prop} (C : pCx p s m args meth c G cX8_readWindow 7 yX8_readWindow.cls wsX8_readWindow) (hr : meth.sig.returnType = (some (.object "SupportSolver$Constraint"))) (hin : meth.name = yX8_readWindow.name) (hZ : pZa G)  : ∀ (S : PS) (x0 : Nat) (x1 : Int32) (t0 : Int32), wpX8_readWindow_b23  Q S x0 x1 t0 → PW p l e rmX8_readWindow s m args below meth c (MQ below (va_Qq (pPq G Q) (pB G) (pFr G)) args s rmX8_readWindow.cells rmX8_readWindow.slots (pFr G)) G 7 S 0 0 [(0, .ref (G.2.2 + x0)), (1, .int x1)] 23 (.int t0 :: []) := by
  intro S x0 x1 t0 h
  unfold wpX8_readWindow_b23 at h
  refine pw_istore_n (pc := 23) C [(2, .int t0), (0, .ref (G.2.2 + x0)), (1, .int x1)] dX8_readWindow_23 rfl (by decide) rfl ?_
  refine pw_iload_n (pc := 24) C 0 dX8_readWindow_24 rfl rfl ?_
  refine pw_iconst (pc := 25) (v := (-1)) C dX8_readWindow_25 (by decide) ?_
  refine pw_icmp_ne (pc := 26) (tgt := 33) C dX8_readWindow_26 rfl ⟨fun hc => ?_, fun hc => ?_⟩
  · replace h := h.1 hc
    refine pw_aload_n (pc := 33) C 1 dX8_readWindow_33 rfl rfl ?_
    refine pw_iconst (pc := 34) (v := 0 ) C dX8_readWindow_34 (by decide) ?_
    refine pw_iload_n (pc := 35) C 2 dX8_readWindow_35 rfl rfl ?_
    obtain ⟨hk13, h⟩ := h
    refine pw_calli (pc := 36) (kc2 := 0) (kn2 := 0) (pRunV (pc := 36) C (ctX8_readNumber l G hZ  _ x0 (0 : Int32) x1 _ h) (cwV 2 C.2.2.2.2.1 gX8_readWindow_X8_readNumber rfl rfl rfl (by decide +kernel) ⟨Nat.le_of_ble_eq_true rfl, Nat.le_of_ble_eq_true rfl⟩) pCl6 hk13 rfl rfl (Nat.le_of_ble_eq_true rfl) dX8_readWindow_36 ⟨Nat.le_of_ble_eq_true rfl, Nat.le_of_ble_eq_true rfl⟩) rfl rfl (fun r14 S15 h => ?_)
    refine pw_sub [1, 2, 0] (LV2 := [(0, .ref (G.2.2 + x0)), (1, .int x1), (2, .int t0)]) rfl ?_
    exact cbX8_readWindow_b39 C hr hin hZ  _ _ _ _ _ h
  · replace h := h.2 hc
    refine pw_iconst (pc := 29) (v := (-1)) C dX8_readWindow_29 (by decide) ?_
    refine pw_goto (pc := 30) (tgt := 39) C dX8_readWindow_30 rfl ?_
    refine pw_sub [1, 2, 0] (LV2 := [(0, .ref (G.2.2 + x0)), (1, .int x1), (2, .int t0)]) rfl ?_
    exact cbX8_readWindow_b39 C hr hin hZ  _ _ _ _ _ h
set_option maxRecDepth 100000 in
set_option maxHeartbeats 4000000 in
theorem ctX8_readWindow (l : Launch) (G : PG) (hZ : pZa G) (S : PS) (x0 : Nat) (Q : Option Nat → PS → Prop) (h : wpX8_readWindow S x0 Q) : mQ l yX8_readWindow wsX8_readWindow rmX8_readWindow G S [.ref (G.2.2 + x0)] Q := by
  unfold mQ
  refine met_of (cc := cX8_readWindow) (maxL := 7) (ret := (some (.object "SupportSolver$Constraint"))) (by decide) rfl (Nat.le_of_ble_eq_true rfl) ?_
  intro p e s m args below meth c C hr hin
  unfold wpX8_readWindow at h
  show PW p l e _ s m args below meth c _ G 7 S 0 0 [(0, .ref (G.2.2 + x0))] 0 []
  refine pw_aload_n (pc := 0) C 0 dX8_readWindow_0 rfl rfl ?_
  refine pw_iconst (pc := 1) (v := 1 ) C dX8_readWindow_1 (by decide) ?_
  refine pw_iconst (pc := 2) (v := 4 ) C dX8_readWindow_2 (by decide) ?_
  obtain ⟨hk16, h⟩ := h
  refine pw_calli (pc := 3) (kc2 := 0) (kn2 := 0) (pRunV (pc := 3) C (ctX8_readNumber l G hZ  _ x0 (1 : Int32) (4 : Int32) _ h) (cwV 2 C.2.2.2.2.1 gX8_readWindow_X8_readNumber rfl rfl rfl (by decide +kernel) ⟨Nat.le_of_ble_eq_true rfl, Nat.le_of_ble_eq_true rfl⟩) pCl6 hk16 rfl rfl (Nat.le_of_ble_eq_true rfl) dX8_readWindow_3 ⟨Nat.le_of_ble_eq_true rfl, Nat.le_of_ble_eq_true rfl⟩) rfl rfl (fun r17 S18 h => ?_)
  refine pw_istore_n (pc := 6) C [(1, .int r17), (0, .ref (G.2.2 + x0))] dX8_readWindow_6 rfl (by decide) rfl ?_
  refine pw_iload_n (pc := 7) C 0 dX8_readWindow_7 rfl rfl ?_
  refine pw_iconst (pc := 8) (v := (-1)) C dX8_readWindow_8 (by decide) ?_
  refine pw_icmp_ne (pc := 9) (tgt := 16) C dX8_readWindow_9 rfl ⟨fun hc => ?_, fun hc => ?_⟩
  · replace h := h.1 hc
    refine pw_aload_n (pc := 16) C 1 dX8_readWindow_16 rfl rfl ?_
    refine pw_iconst (pc := 17) (v := 1 ) C dX8_readWindow_17 (by decide) ?_
    refine pw_bipush (pc := 18) (v := 31 ) C dX8_readWindow_18 (by decide) ?_
    obtain ⟨hk19, h⟩ := h
    refine pw_calli (pc := 20) (kc2 := 0) (kn2 := 0) (pRunV (pc := 20) C (ctX8_readNumber l G hZ  _ x0 (1 : Int32) (31 : Int32) _ h) (cwV 2 C.2.2.2.2.1 gX8_readWindow_X8_readNumber rfl rfl rfl (by decide +kernel) ⟨Nat.le_of_ble_eq_true rfl, Nat.le_of_ble_eq_true rfl⟩) pCl6 hk19 rfl rfl (Nat.le_of_ble_eq_true rfl) dX8_readWindow_20 ⟨Nat.le_of_ble_eq_true rfl, Nat.le_of_ble_eq_true rfl⟩) rfl rfl (fun r20 S21 h => ?_)
    refine pw_sub [1, 0] (LV2 := [(0, .ref (G.2.2 + x0)), (1, .int r17)]) rfl ?_
    exact cbX8_readWindow_b23 C hr hin hZ  _ _ _ _ h
  · replace h := h.2 hc
    refine pw_iconst (pc := 12) (v := (-1)) C dX8_readWindow_12 (by decide) ?_
    refine pw_goto (pc := 13) (tgt := 23) C dX8_readWindow_13 rfl ?_
    refine pw_sub [1, 0] (LV2 := [(0, .ref (G.2.2 + x0)), (1, .int r17)]) rfl ?_
    exact cbX8_readWindow_b23 C hr hin hZ  _ _ _ _ h

abbrev rmX8_readComparison : Room := { frames := 7, cells := 1, slots := 4, locals := 149 }
theorem iX8_readComparison_X0 : ∀ w ∈ u_ws RX0 TX0 4, w ∈ wsX8_readComparison := by decide +kernel
def wpX8_readComparison (S : PS) (x0 : Nat) (x1 : Int32) (Q : Option Nat → PS → Prop) : Prop := (∀ a1 S2, a1 = pN S → S2 = sNew S 1 0 → (wpX0_init S2 a1 x1 (fun S5 => (pK S5 x0 = 7 ∧ (wpX8_readMember S5 x0 a1 (fun r7 S8 => ((r7 = 0 → (Q none S8)) ∧ (¬ r7 = 0 → (pK S8 x0 = 7 ∧ (wpX8_readMember S8 x0 a1 (fun r10 S11 => ((r10 = 0 → (Q none S11)) ∧ (¬ r10 = 0 → (Q (some a1) S11))))))))))))))
set_option maxRecDepth 100000 in
set_option maxHeartbeats 4000000 in
theorem ctX8_readComparison (l : Launch) (G : PG) (hZ : pZa G) (S : PS) (x0 : Nat) (x1 : Int32) (Q : Option Nat → PS → Prop) (h : wpX8_readComparison S x0 x1 Q) : mQ l yX8_readComparison wsX8_readComparison rmX8_readComparison G S [.ref (G.2.2 + x0), .int x1] Q := by
  unfold mQ
  refine met_of (cc := cX8_readComparison) (maxL := 3) (ret := (some (.object "SupportSolver$Constraint"))) (by decide) rfl (Nat.le_of_ble_eq_true rfl) ?_
  intro p e s m args below meth c C hr hin
  unfold wpX8_readComparison at h
  show PW p l e _ s m args below meth c _ G 3 S 0 0 [(0, .ref (G.2.2 + x0)), (1, .int x1)] 0 []
  refine pw_new (pc := 0) (kc2 := 1) (kn2 := 4) C pCl0 iX8_readComparison_X0 (by decide +kernel) (by decide +kernel) (by decide +kernel) rfl rfl (Nat.le_of_ble_eq_true rfl) (Nat.le_of_ble_eq_true rfl) dX8_readComparison_0 ?_
  obtain ⟨a1, ea1⟩ : ∃ q, q = pN S := ⟨_, rfl⟩
  obtain ⟨S2, eS2⟩ : ∃ q, q = sNew S 1 0 := ⟨_, rfl⟩
  rw [← ea1, ← eS2]
  replace h := h a1 S2 ea1 eS2
  have hk3 : pK S2 a1 = 1 := by rw [eS2, ea1, pK_sNew, if_pos rfl]
  refine pw_dup (pc := 3) C dX8_readComparison_3 rfl ?_
  refine pw_iload_n (pc := 4) C 1 dX8_readComparison_4 rfl rfl ?_
  refine pw_callv (pc := 5) (kc2 := 1) (kn2 := 4) (pRunI (pc := 5) C (ctX0_init l G hZ  _ a1 x1 _ h) (cwI 1 C.2.2.2.2.1 gX8_readComparison_X0_init rfl rfl rfl (C.2.2.2.2.1 (.initialized RX0) (by decide +kernel)) (C.2.2.2.2.1 (.methodLink RX8 111 yX0_init) (by decide +kernel)) (C.2.2.2.2.1 (.instanceMethod yX0_init) (by decide +kernel)) rfl (by decide +kernel) ⟨Nat.le_of_ble_eq_true rfl, Nat.le_of_ble_eq_true rfl⟩) rfl rfl (Nat.le_of_ble_eq_true rfl) dX8_readComparison_5 ⟨Nat.le_of_ble_eq_true rfl, Nat.le_of_ble_eq_true rfl⟩) rfl rfl (fun S5 h => ?_)
  refine pw_astore_n (pc := 8) C [(2, .ref (G.2.2 + a1)), (0, .ref (G.2.2 + x0)), (1, .int x1)] dX8_readComparison_8 rfl (by decide) rfl ?_
  refine pw_aload_n (pc := 9) C 1 dX8_readComparison_9 rfl rfl ?_
  refine pw_aload_n (pc := 10) C 0 dX8_readComparison_10 rfl rfl ?_
  obtain ⟨hk6, h⟩ := h
  refine pw_calli (pc := 11) (kc2 := 1) (kn2 := 4) (pRunV (pc := 11) C (ctX8_readMember l G hZ  _ x0 a1 _ h) (cwV 1 C.2.2.2.2.1 gX8_readComparison_X8_readMember rfl rfl rfl (by decide +kernel) ⟨Nat.le_of_ble_eq_true rfl, Nat.le_of_ble_eq_true rfl⟩) pCl6 hk6 rfl rfl (Nat.le_of_ble_eq_true rfl) dX8_readComparison_11 ⟨Nat.le_of_ble_eq_true rfl, Nat.le_of_ble_eq_true rfl⟩) rfl rfl (fun r7 S8 h => ?_)
  refine pw_if_eq (pc := 14) (tgt := 29) C dX8_readComparison_14 rfl ⟨fun hc => ?_, fun hc => ?_⟩
  · replace h := h.1 hc
    refine pw_null (pc := 29) C dX8_readComparison_29 ?_
    exact pw_aret (pc := 30) C hr (o := none) rfl h dX8_readComparison_30
  · replace h := h.2 hc
    refine pw_aload_n (pc := 17) C 1 dX8_readComparison_17 rfl rfl ?_
    refine pw_aload_n (pc := 18) C 0 dX8_readComparison_18 rfl rfl ?_
    obtain ⟨hk9, h⟩ := h
    refine pw_calli (pc := 19) (kc2 := 1) (kn2 := 4) (pRunV (pc := 19) C (ctX8_readMember l G hZ  _ x0 a1 _ h) (cwV 1 C.2.2.2.2.1 gX8_readComparison_X8_readMember rfl rfl rfl (by decide +kernel) ⟨Nat.le_of_ble_eq_true rfl, Nat.le_of_ble_eq_true rfl⟩) pCl6 hk9 rfl rfl (Nat.le_of_ble_eq_true rfl) dX8_readComparison_19 ⟨Nat.le_of_ble_eq_true rfl, Nat.le_of_ble_eq_true rfl⟩) rfl rfl (fun r10 S11 h => ?_)
    refine pw_if_eq (pc := 22) (tgt := 29) C dX8_readComparison_22 rfl ⟨fun hc => ?_, fun hc => ?_⟩
    · replace h := h.1 hc
      refine pw_null (pc := 29) C dX8_readComparison_29 ?_
      exact pw_aret (pc := 30) C hr (o := none) rfl h dX8_readComparison_30
    · replace h := h.2 hc
      refine pw_aload_n (pc := 25) C 0 dX8_readComparison_25 rfl rfl ?_
      refine pw_goto (pc := 26) (tgt := 30) C dX8_readComparison_26 rfl ?_
      exact pw_aret (pc := 30) C hr (o := (some a1)) rfl h dX8_readComparison_30

abbrev rmX8_readConstraints : Room := { frames := 8, cells := 19, slots := 152, locals := 175 }
theorem iX8_readConstraints_X8 : ∀ w ∈ u_ws RX8 TX8 10, w ∈ wsX8_readConstraints := by decide +kernel
def wpX8_readConstraints_b2  (Q : Int32 → PS → Prop) : Nat → PS → Nat → Int32 → Prop
  | 0 => fun _ _ _ => False
  | n + 1 => fun S x0 x1 => (((8 : Int32) < x1 → (Q (1 : Int32) S)) ∧ (¬ (8 : Int32) < x1 → (pK S x0 = 7 ∧ (((pI S x0 6) = 0 → (Q (1 : Int32) S)) ∧ (¬ (pI S x0 6) = 0 → (wpX8_isWord S x0 [99, 111, 117, 110, 116, 115] (fun r5 S6 => (pK S6 x0 = 7 ∧ (wpX8_isWord S6 x0 [119, 105, 110, 100, 111, 119] (fun r11 S12 => (pK S12 x0 = 7 ∧ (wpX8_isWord S12 x0 [108, 101, 115, 115] (fun r17 S18 => ((¬ r5 = 0 → ((¬ x1 = (8 : Int32) → (pK S18 x0 = 7 ∧ (wpX8_nextToken S18 x0 (fun S21 => ((r5 = 0 → ((r11 = 0 → (pK S21 x0 = 7 ∧ (wpX8_readComparison S21 x0 r17 (fun r23 S24 => ((r23 = none → (Q (0 : Int32) S24)) ∧ (∀ o25, r23 = some o25 → (pK S24 x0 = 7 ∧ (wpX8_readSemicolon S24 x0 (fun r27 S28 => ((¬ r27 = 0 → (pK S28 x0 = 7 ∧ (∃ o30, pR S28 x0 5 = some o30 ∧ (pK S28 o30 = 5 ∧ (wpX6_addConstraint S28 o30 o25 (fun S33 => (wpX8_readConstraints_b2 Q n S33 x0 (x1 + 1)))))))) ∧ (r27 = 0 → (Q (0 : Int32) S28)))))))))))) ∧ (¬ r11 = 0 → (pK S21 x0 = 7 ∧ (wpX8_readWindow S21 x0 (fun r35 S36 => ((r35 = none → (Q (0 : Int32) S36)) ∧ (∀ o37, r35 = some o37 → (pK S36 x0 = 7 ∧ (wpX8_readSemicolon S36 x0 (fun r39 S40 => ((¬ r39 = 0 → (pK S40 x0 = 7 ∧ (∃ o42, pR S40 x0 5 = some o42 ∧ (pK S40 o42 = 5 ∧ (wpX6_addConstraint S40 o42 o37 (fun S45 => (wpX8_readConstraints_b2 Q n S45 x0 (x1 + 1)))))))) ∧ (r39 = 0 → (Q (0 : Int32) S40)))))))))))))) ∧ (¬ r5 = 0 → (pK S21 x0 = 7 ∧ (wpX8_readCounts S21 x0 (fun r47 S48 => ((r47 = none → (Q (0 : Int32) S48)) ∧ (∀ o49, r47 = some o49 → (pK S48 x0 = 7 ∧ (wpX8_readSemicolon S48 x0 (fun r51 S52 => ((¬ r51 = 0 → (pK S52 x0 = 7 ∧ (∃ o54, pR S52 x0 5 = some o54 ∧ (pK S52 o54 = 5 ∧ (wpX6_addConstraint S52 o54 o49 (fun S57 => (wpX8_readConstraints_b2 Q n S57 x0 (x1 + 1)))))))) ∧ (r51 = 0 → (Q (0 : Int32) S52))))))))))))))))) ∧ (x1 = (8 : Int32) → (pK S18 x0 = 7 ∧ (wpX8_fail S18 x0 (4 : Int32) (fun r59 S60 => ((r59 = 0 ∨ r59 = 1) ∧ (Q r59 S60)))))))) ∧ (r5 = 0 → ((¬ r11 = 0 → ((¬ x1 = (8 : Int32) → (pK S18 x0 = 7 ∧ (wpX8_nextToken S18 x0 (fun S64 => ((r5 = 0 → ((r11 = 0 → (pK S64 x0 = 7 ∧ (wpX8_readComparison S64 x0 r17 (fun r66 S67 => ((r66 = none → (Q (0 : Int32) S67)) ∧ (∀ o68, r66 = some o68 → (pK S67 x0 = 7 ∧ (wpX8_readSemicolon S67 x0 (fun r70 S71 => ((¬ r70 = 0 → (pK S71 x0 = 7 ∧ (∃ o73, pR S71 x0 5 = some o73 ∧ (pK S71 o73 = 5 ∧ (wpX6_addConstraint S71 o73 o68 (fun S76 => (wpX8_readConstraints_b2 Q n S76 x0 (x1 + 1)))))))) ∧ (r70 = 0 → (Q (0 : Int32) S71)))))))))))) ∧ (¬ r11 = 0 → (pK S64 x0 = 7 ∧ (wpX8_readWindow S64 x0 (fun r78 S79 => ((r78 = none → (Q (0 : Int32) S79)) ∧ (∀ o80, r78 = some o80 → (pK S79 x0 = 7 ∧ (wpX8_readSemicolon S79 x0 (fun r82 S83 => ((¬ r82 = 0 → (pK S83 x0 = 7 ∧ (∃ o85, pR S83 x0 5 = some o85 ∧ (pK S83 o85 = 5 ∧ (wpX6_addConstraint S83 o85 o80 (fun S88 => (wpX8_readConstraints_b2 Q n S88 x0 (x1 + 1)))))))) ∧ (r82 = 0 → (Q (0 : Int32) S83)))))))))))))) ∧ (¬ r5 = 0 → (pK S64 x0 = 7 ∧ (wpX8_readCounts S64 x0 (fun r90 S91 => ((r90 = none → (Q (0 : Int32) S91)) ∧ (∀ o92, r90 = some o92 → (pK S91 x0 = 7 ∧ (wpX8_readSemicolon S91 x0 (fun r94 S95 => ((¬ r94 = 0 → (pK S95 x0 = 7 ∧ (∃ o97, pR S95 x0 5 = some o97 ∧ (pK S95 o97 = 5 ∧ (wpX6_addConstraint S95 o97 o92 (fun S100 => (wpX8_readConstraints_b2 Q n S100 x0 (x1 + 1)))))))) ∧ (r94 = 0 → (Q (0 : Int32) S95))))))))))))))))) ∧ (x1 = (8 : Int32) → (pK S18 x0 = 7 ∧ (wpX8_fail S18 x0 (4 : Int32) (fun r102 S103 => ((r102 = 0 ∨ r102 = 1) ∧ (Q r102 S103)))))))) ∧ (r11 = 0 → ((¬ r17 = 0 → ((¬ x1 = (8 : Int32) → (pK S18 x0 = 7 ∧ (wpX8_nextToken S18 x0 (fun S107 => ((r5 = 0 → ((r11 = 0 → (pK S107 x0 = 7 ∧ (wpX8_readComparison S107 x0 r17 (fun r109 S110 => ((r109 = none → (Q (0 : Int32) S110)) ∧ (∀ o111, r109 = some o111 → (pK S110 x0 = 7 ∧ (wpX8_readSemicolon S110 x0 (fun r113 S114 => ((¬ r113 = 0 → (pK S114 x0 = 7 ∧ (∃ o116, pR S114 x0 5 = some o116 ∧ (pK S114 o116 = 5 ∧ (wpX6_addConstraint S114 o116 o111 (fun S119 => (wpX8_readConstraints_b2 Q n S119 x0 (x1 + 1)))))))) ∧ (r113 = 0 → (Q (0 : Int32) S114)))))))))))) ∧ (¬ r11 = 0 → (pK S107 x0 = 7 ∧ (wpX8_readWindow S107 x0 (fun r121 S122 => ((r121 = none → (Q (0 : Int32) S122)) ∧ (∀ o123, r121 = some o123 → (pK S122 x0 = 7 ∧ (wpX8_readSemicolon S122 x0 (fun r125 S126 => ((¬ r125 = 0 → (pK S126 x0 = 7 ∧ (∃ o128, pR S126 x0 5 = some o128 ∧ (pK S126 o128 = 5 ∧ (wpX6_addConstraint S126 o128 o123 (fun S131 => (wpX8_readConstraints_b2 Q n S131 x0 (x1 + 1)))))))) ∧ (r125 = 0 → (Q (0 : Int32) S126)))))))))))))) ∧ (¬ r5 = 0 → (pK S107 x0 = 7 ∧ (wpX8_readCounts S107 x0 (fun r133 S134 => ((r133 = none → (Q (0 : Int32) S134)) ∧ (∀ o135, r133 = some o135 → (pK S134 x0 = 7 ∧ (wpX8_readSemicolon S134 x0 (fun r137 S138 => ((¬ r137 = 0 → (pK S138 x0 = 7 ∧ (∃ o140, pR S138 x0 5 = some o140 ∧ (pK S138 o140 = 5 ∧ (wpX6_addConstraint S138 o140 o135 (fun S143 => (wpX8_readConstraints_b2 Q n S143 x0 (x1 + 1)))))))) ∧ (r137 = 0 → (Q (0 : Int32) S138))))))))))))))))) ∧ (x1 = (8 : Int32) → (pK S18 x0 = 7 ∧ (wpX8_fail S18 x0 (4 : Int32) (fun r145 S146 => ((r145 = 0 ∨ r145 = 1) ∧ (Q r145 S146)))))))) ∧ (r17 = 0 → (pK S18 x0 = 7 ∧ (wpX8_isWord S18 x0 [100, 105, 102, 102, 101, 114] (fun r152 S153 => ((¬ r152 = 0 → ((¬ x1 = (8 : Int32) → (pK S153 x0 = 7 ∧ (wpX8_nextToken S153 x0 (fun S156 => ((r5 = 0 → ((r11 = 0 → (pK S156 x0 = 7 ∧ (wpX8_readComparison S156 x0 r17 (fun r158 S159 => ((r158 = none → (Q (0 : Int32) S159)) ∧ (∀ o160, r158 = some o160 → (pK S159 x0 = 7 ∧ (wpX8_readSemicolon S159 x0 (fun r162 S163 => ((¬ r162 = 0 → (pK S163 x0 = 7 ∧ (∃ o165, pR S163 x0 5 = some o165 ∧ (pK S163 o165 = 5 ∧ (wpX6_addConstraint S163 o165 o160 (fun S168 => (wpX8_readConstraints_b2 Q n S168 x0 (x1 + 1)))))))) ∧ (r162 = 0 → (Q (0 : Int32) S163)))))))))))) ∧ (¬ r11 = 0 → (pK S156 x0 = 7 ∧ (wpX8_readWindow S156 x0 (fun r170 S171 => ((r170 = none → (Q (0 : Int32) S171)) ∧ (∀ o172, r170 = some o172 → (pK S171 x0 = 7 ∧ (wpX8_readSemicolon S171 x0 (fun r174 S175 => ((¬ r174 = 0 → (pK S175 x0 = 7 ∧ (∃ o177, pR S175 x0 5 = some o177 ∧ (pK S175 o177 = 5 ∧ (wpX6_addConstraint S175 o177 o172 (fun S180 => (wpX8_readConstraints_b2 Q n S180 x0 (x1 + 1)))))))) ∧ (r174 = 0 → (Q (0 : Int32) S175)))))))))))))) ∧ (¬ r5 = 0 → (pK S156 x0 = 7 ∧ (wpX8_readCounts S156 x0 (fun r182 S183 => ((r182 = none → (Q (0 : Int32) S183)) ∧ (∀ o184, r182 = some o184 → (pK S183 x0 = 7 ∧ (wpX8_readSemicolon S183 x0 (fun r186 S187 => ((¬ r186 = 0 → (pK S187 x0 = 7 ∧ (∃ o189, pR S187 x0 5 = some o189 ∧ (pK S187 o189 = 5 ∧ (wpX6_addConstraint S187 o189 o184 (fun S192 => (wpX8_readConstraints_b2 Q n S192 x0 (x1 + 1)))))))) ∧ (r186 = 0 → (Q (0 : Int32) S187))))))))))))))))) ∧ (x1 = (8 : Int32) → (pK S153 x0 = 7 ∧ (wpX8_fail S153 x0 (4 : Int32) (fun r194 S195 => ((r194 = 0 ∨ r194 = 1) ∧ (Q r194 S195)))))))) ∧ (r152 = 0 → (pK S153 x0 = 7 ∧ (wpX8_fail S153 x0 (1 : Int32) (fun r198 S199 => ((r198 = 0 ∨ r198 = 1) ∧ (Q r198 S199)))))))))))))))))))))))))))))
def wpX8_readConstraints (S : PS) (x0 : Nat) (Q : Int32 → PS → Prop) : Prop := (wpX8_readConstraints_b2 Q 9 S x0 (0 : Int32))
set_option maxRecDepth 100000 in
set_option maxHeartbeats 4000000 in
theorem cbX8_readConstraints_b2 {p : Program} {l : Launch} {e : Env} {s : State} {m : MethodId} {args : Array Value} {below : List Frame} {meth : Method} {c : Code} {G : PG} {Q : Int32 → PS → Prop} (C : pCx p s m args meth c G cX8_readConstraints 6 yX8_readConstraints.cls wsX8_readConstraints) (hr : meth.sig.returnType = (some .boolean)) (hin : meth.name = yX8_readConstraints.name) (hZ : pZa G)  (n : Nat) : n ≤ 9 → ∀ (S : PS) (x0 : Nat) (x1 : Int32), wpX8_readConstraints_b2  Q n S x0 x1 → PW p l e rmX8_readConstraints s m args below meth c (MQ below (va_Qi Q (pB G) (pFr G)) args s rmX8_readConstraints.cells rmX8_readConstraints.slots (pFr G)) G 6 S (0 + (9 - n) * 1 + 0) (0 + (9 - n) * 8 + 0) [(0, .ref (G.2.2 + x0)), (1, .int x1)] 2 ([]) := by
  induction n with
  | zero => intro hn9 S x0 x1 h; exact h.elim
  | succ n ih =>
    intro hn9 S x0 x1 h
    unfold wpX8_readConstraints_b2 at h
    refine pw_iload_n (pc := 2) C 1 dX8_readConstraints_2 rfl rfl ?_
    refine pw_bipush (pc := 3) (v := 8 ) C dX8_readConstraints_3 (by decide) ?_
    refine pw_icmp_gt (pc := 5) (tgt := 140) C dX8_readConstraints_5 rfl ⟨fun hc => ?_, fun hc => ?_⟩
    · replace h := h.1 hc
      refine pw_iconst (pc := 140) (v := 1 ) C dX8_readConstraints_140 (by decide) ?_
      refine pw_widen (k2 := 19) (n2 := 152) (by omega) (by omega) ?_
      exact pw_zret (pc := 141) C hr rfl h dX8_readConstraints_141
    · replace h := h.2 hc
      refine pw_aload_n (pc := 8) C 0 dX8_readConstraints_8 rfl rfl ?_
      obtain ⟨hk1, h⟩ := h
      refine pw_getI (pc := 9) (ref := "SupportSolver$TextReader") (k := 6) (index := 36) C pCl6 iX8_readConstraints_X8 hk1 rfl (by decide +kernel) (Or.inl rfl) dX8_readConstraints_9 ?_
      refine pw_if_eq (pc := 12) (tgt := 140) C dX8_readConstraints_12 rfl ⟨fun hc => ?_, fun hc => ?_⟩
      · replace h := h.1 hc
        refine pw_iconst (pc := 140) (v := 1 ) C dX8_readConstraints_140 (by decide) ?_
        refine pw_widen (k2 := 19) (n2 := 152) (by omega) (by omega) ?_
        exact pw_zret (pc := 141) C hr rfl h dX8_readConstraints_141
      · replace h := h.2 hc
        refine pw_aload_n (pc := 15) C 0 dX8_readConstraints_15 rfl rfl ?_
        obtain ⟨q2, z3, hq4⟩ := (hZ.2.2.2.2.2.2.2.2.2.2.2.2.2.2.2.2.2.2.2.2.2.1)
        refine pw_ldcS (pc := 16) C z3 dX8_readConstraints_16 ?_
        refine pw_calli (pc := 18) (kc2 := (0 + (9 - (n + 1)) * 1 + 0)) (kn2 := (0 + (9 - (n + 1)) * 8 + 0)) (pRunV (pc := 18) C (ctX8_isWord l G hZ [99, 111, 117, 110, 116, 115] q2 hq4 (by decide)  _ x0 _ h) (cwV 1 C.2.2.2.2.1 gX8_readConstraints_X8_isWord rfl rfl rfl (by decide +kernel) ⟨Nat.le_of_ble_eq_true rfl, Nat.le_of_ble_eq_true rfl⟩) pCl6 hk1 rfl rfl (Nat.le_of_ble_eq_true rfl) dX8_readConstraints_18 ⟨by show _ ≤ _; first | omega | (simp only []; omega), by show _ ≤ _; first | omega | (simp only []; omega)⟩) rfl rfl (fun r5 S6 h => ?_)
        refine pw_istore_n (pc := 21) C [(2, .int r5), (0, .ref (G.2.2 + x0)), (1, .int x1)] dX8_readConstraints_21 rfl (by decide) rfl ?_
        refine pw_aload_n (pc := 22) C 1 dX8_readConstraints_22 rfl rfl ?_
        obtain ⟨q7, z8, hq9⟩ := (hZ.2.2.2.2.2.2.2.2.2.2.2.2.2.2.2.2.2.2.2.2.2.2.1)
        refine pw_ldcS (pc := 23) C z8 dX8_readConstraints_23 ?_
        obtain ⟨hk10, h⟩ := h
        refine pw_calli (pc := 25) (kc2 := (0 + (9 - (n + 1)) * 1 + 0)) (kn2 := (0 + (9 - (n + 1)) * 8 + 0)) (pRunV (pc := 25) C (ctX8_isWord l G hZ [119, 105, 110, 100, 111, 119] q7 hq9 (by decide)  _ x0 _ h) (cwV 1 C.2.2.2.2.1 gX8_readConstraints_X8_isWord rfl rfl rfl (by decide +kernel) ⟨Nat.le_of_ble_eq_true rfl, Nat.le_of_ble_eq_true rfl⟩) pCl6 hk10 rfl rfl (Nat.le_of_ble_eq_true rfl) dX8_readConstraints_25 ⟨by show _ ≤ _; first | omega | (simp only []; omega), by show _ ≤ _; first | omega | (simp only []; omega)⟩) rfl rfl (fun r11 S12 h => ?_)
        refine pw_istore_n (pc := 28) C [(3, .int r11), (2, .int r5), (0, .ref (G.2.2 + x0)), (1, .int x1)] dX8_readConstraints_28 rfl (by decide) rfl ?_
        refine pw_aload_n (pc := 29) C 2 dX8_readConstraints_29 rfl rfl ?_
        obtain ⟨q13, z14, hq15⟩ := (hZ.2.2.2.2.2.2.2.2.2.2.2.2.2.2.2.2.2.2.2.2.2.2.2.1)
        refine pw_ldcS (pc := 30) C z14 dX8_readConstraints_30 ?_
        obtain ⟨hk16, h⟩ := h
        refine pw_calli (pc := 32) (kc2 := (0 + (9 - (n + 1)) * 1 + 0)) (kn2 := (0 + (9 - (n + 1)) * 8 + 0)) (pRunV (pc := 32) C (ctX8_isWord l G hZ [108, 101, 115, 115] q13 hq15 (by decide)  _ x0 _ h) (cwV 1 C.2.2.2.2.1 gX8_readConstraints_X8_isWord rfl rfl rfl (by decide +kernel) ⟨Nat.le_of_ble_eq_true rfl, Nat.le_of_ble_eq_true rfl⟩) pCl6 hk16 rfl rfl (Nat.le_of_ble_eq_true rfl) dX8_readConstraints_32 ⟨by show _ ≤ _; first | omega | (simp only []; omega), by show _ ≤ _; first | omega | (simp only []; omega)⟩) rfl rfl (fun r17 S18 h => ?_)
        refine pw_istore (pc := 35) C [(4, .int r17), (3, .int r11), (2, .int r5), (0, .ref (G.2.2 + x0)), (1, .int x1)] dX8_readConstraints_35 (by decide) rfl ?_
        refine pw_iload_n (pc := 37) C 2 dX8_readConstraints_37 rfl rfl ?_
        refine pw_if_ne (pc := 38) (tgt := 65) C dX8_readConstraints_38 rfl ⟨fun hc => ?_, fun hc => ?_⟩
        · replace h := h.1 hc
          refine pw_iload_n (pc := 65) C 4 dX8_readConstraints_65 rfl rfl ?_
          refine pw_bipush (pc := 66) (v := 8 ) C dX8_readConstraints_66 (by decide) ?_
          refine pw_icmp_ne (pc := 68) (tgt := 77) C dX8_readConstraints_68 rfl ⟨fun hc => ?_, fun hc => ?_⟩
          · replace h := h.1 hc
            refine pw_aload_n (pc := 77) C 3 dX8_readConstraints_77 rfl rfl ?_
            obtain ⟨hk19, h⟩ := h
            refine pw_callv (pc := 78) (kc2 := (0 + (9 - (n + 1)) * 1 + 0)) (kn2 := (0 + (9 - (n + 1)) * 8 + 0)) (pRunV (pc := 78) C (ctX8_nextToken l G hZ  _ x0 _ h) (cwV 0 C.2.2.2.2.1 gX8_readConstraints_X8_nextToken rfl rfl rfl (by decide +kernel) ⟨Nat.le_of_ble_eq_true rfl, Nat.le_of_ble_eq_true rfl⟩) pCl6 hk19 rfl rfl (Nat.le_of_ble_eq_true rfl) dX8_readConstraints_78 ⟨by show _ ≤ _; first | omega | (simp only []; omega), by show _ ≤ _; first | omega | (simp only []; omega)⟩) rfl rfl (fun S21 h => ?_)
            refine pw_iload_n (pc := 81) C 2 dX8_readConstraints_81 rfl rfl ?_
            refine pw_if_eq (pc := 82) (tgt := 92) C dX8_readConstraints_82 rfl ⟨fun hc => ?_, fun hc => ?_⟩
            · replace h := h.1 hc
              refine pw_iload_n (pc := 92) C 1 dX8_readConstraints_92 rfl rfl ?_
              refine pw_if_eq (pc := 93) (tgt := 103) C dX8_readConstraints_93 rfl ⟨fun hc => ?_, fun hc => ?_⟩
              · replace h := h.1 hc
                refine pw_aload_n (pc := 103) C 3 dX8_readConstraints_103 rfl rfl ?_
                refine pw_iload (pc := 104) C 0 dX8_readConstraints_104 rfl ?_
                obtain ⟨hk22, h⟩ := h
                refine pw_callq (pc := 106) (kc2 := (0 + (9 - (n + 1)) * 1 + 1)) (kn2 := (0 + (9 - (n + 1)) * 8 + 4)) (pRunV (pc := 106) C (ctX8_readComparison l G hZ  _ x0 r17 _ h) (cwV 1 C.2.2.2.2.1 gX8_readConstraints_X8_readComparison rfl rfl rfl (by decide +kernel) ⟨Nat.le_of_ble_eq_true rfl, Nat.le_of_ble_eq_true rfl⟩) pCl6 hk22 rfl rfl (Nat.le_of_ble_eq_true rfl) dX8_readConstraints_106 ⟨by show _ ≤ _; first | omega | (simp only []; omega), by show _ ≤ _; first | omega | (simp only []; omega)⟩) rfl rfl (fun r23 S24 h => ?_)
                cases hqr23 : r23 with
                | none =>
                  replace h := h.1 hqr23
                  show PW p l e _ s m args below meth c _ G _ S24 _ _ _ _ (.null :: [])
                  refine pw_astoreN (pc := 109) C [(5, .null), (4, .int r17), (3, .int r11), (2, .int r5), (0, .ref (G.2.2 + x0)), (1, .int x1)] dX8_readConstraints_109 (by decide) rfl ?_
                  refine pw_aloadN (pc := 111) C 0 dX8_readConstraints_111 rfl ?_
                  refine pw_ifnull_n (pc := 113) (tgt := 123) C dX8_readConstraints_113 rfl ?_
                  refine pw_iconst (pc := 123) (v := 0 ) C dX8_readConstraints_123 (by decide) ?_
                  refine pw_widen (k2 := 19) (n2 := 152) (by omega) (by omega) ?_
                  exact pw_zret (pc := 124) C hr rfl h dX8_readConstraints_124
                | some o25 =>
                  replace h := h.2 o25 hqr23
                  show PW p l e _ s m args below meth c _ G _ S24 _ _ _ _ (.ref (G.2.2 + o25) :: [])
                  refine pw_astore (pc := 109) C [(5, .ref (G.2.2 + o25)), (4, .int r17), (3, .int r11), (2, .int r5), (0, .ref (G.2.2 + x0)), (1, .int x1)] dX8_readConstraints_109 (by decide) rfl ?_
                  refine pw_aload (pc := 111) C 0 dX8_readConstraints_111 rfl ?_
                  refine pw_ifnull_r (pc := 113) C dX8_readConstraints_113 ?_
                  refine pw_aload_n (pc := 116) C 4 dX8_readConstraints_116 rfl rfl ?_
                  obtain ⟨hk26, h⟩ := h
                  refine pw_calli (pc := 117) (kc2 := (0 + (9 - (n + 1)) * 1 + 1)) (kn2 := (0 + (9 - (n + 1)) * 8 + 4)) (pRunV (pc := 117) C (ctX8_readSemicolon l G hZ  _ x0 _ h) (cwV 0 C.2.2.2.2.1 gX8_readConstraints_X8_readSemicolon rfl rfl rfl (by decide +kernel) ⟨Nat.le_of_ble_eq_true rfl, Nat.le_of_ble_eq_true rfl⟩) pCl6 hk26 rfl rfl (Nat.le_of_ble_eq_true rfl) dX8_readConstraints_117 ⟨by show _ ≤ _; first | omega | (simp only []; omega), by show _ ≤ _; first | omega | (simp only []; omega)⟩) rfl rfl (fun r27 S28 h => ?_)
                  refine pw_if_ne (pc := 120) (tgt := 125) C dX8_readConstraints_120 rfl ⟨fun hc => ?_, fun hc => ?_⟩
                  · replace h := h.1 hc
                    refine pw_aload_n (pc := 125) C 4 dX8_readConstraints_125 rfl rfl ?_
                    obtain ⟨hk29, h⟩ := h
                    obtain ⟨o30, ho30, h⟩ := h
                    refine pw_getR (pc := 126) (ref := "SupportSolver$TextReader") (k := 5) (index := 32) C pCl6 iX8_readConstraints_X8 hk29 rfl (by decide +kernel) (Or.inl rfl) (o := o30) ho30 dX8_readConstraints_126 ?_
                    refine pw_aload (pc := 129) C 0 dX8_readConstraints_129 rfl ?_
                    obtain ⟨hk31, h⟩ := h
                    refine pw_callv (pc := 131) (kc2 := (0 + (9 - (n + 1)) * 1 + 1)) (kn2 := (0 + (9 - (n + 1)) * 8 + 4)) (pRunV (pc := 131) C (ctX6_addConstraint l G hZ  _ o30 o25 _ h) (cwV 1 C.2.2.2.2.1 gX8_readConstraints_X6_addConstraint rfl rfl rfl (by decide +kernel) ⟨Nat.le_of_ble_eq_true rfl, Nat.le_of_ble_eq_true rfl⟩) pCl4 hk31 rfl rfl (Nat.le_of_ble_eq_true rfl) dX8_readConstraints_131 ⟨by show _ ≤ _; first | omega | (simp only []; omega), by show _ ≤ _; first | omega | (simp only []; omega)⟩) rfl rfl (fun S33 h => ?_)
                    refine pw_iincK (pc := 134) (w := 1) C [(1, .int (x1 + 1)), (5, .ref (G.2.2 + o25)), (4, .int r17), (3, .int r11), (2, .int r5), (0, .ref (G.2.2 + x0))] 5 dX8_readConstraints_134 (by decide) rfl (by decide) rfl ?_
                    refine pw_goto (pc := 137) (tgt := 2) C dX8_readConstraints_137 rfl ?_
                    refine pw_sub [5, 0] (LV2 := [(0, .ref (G.2.2 + x0)), (1, .int (x1 + 1))]) rfl ?_
                    refine pw_widen (k2 := (0 + (9 - n) * 1 + 0)) (n2 := (0 + (9 - n) * 8 + 0)) (by omega) (by omega) ?_
                    exact ih (by omega) _ _ _ h
                  · replace h := h.2 hc
                    refine pw_iconst (pc := 123) (v := 0 ) C dX8_readConstraints_123 (by decide) ?_
                    refine pw_widen (k2 := 19) (n2 := 152) (by omega) (by omega) ?_
                    exact pw_zret (pc := 124) C hr rfl h dX8_readConstraints_124
              · replace h := h.2 hc
                refine pw_aload_n (pc := 96) C 3 dX8_readConstraints_96 rfl rfl ?_
                obtain ⟨hk34, h⟩ := h
                refine pw_callq (pc := 97) (kc2 := (0 + (9 - (n + 1)) * 1 + 1)) (kn2 := (0 + (9 - (n + 1)) * 8 + 8)) (pRunV (pc := 97) C (ctX8_readWindow l G hZ  _ x0 _ h) (cwV 0 C.2.2.2.2.1 gX8_readConstraints_X8_readWindow rfl rfl rfl (by decide +kernel) ⟨Nat.le_of_ble_eq_true rfl, Nat.le_of_ble_eq_true rfl⟩) pCl6 hk34 rfl rfl (Nat.le_of_ble_eq_true rfl) dX8_readConstraints_97 ⟨by show _ ≤ _; first | omega | (simp only []; omega), by show _ ≤ _; first | omega | (simp only []; omega)⟩) rfl rfl (fun r35 S36 h => ?_)
                cases hqr35 : r35 with
                | none =>
                  replace h := h.1 hqr35
                  show PW p l e _ s m args below meth c _ G _ S36 _ _ _ _ (.null :: [])
                  refine pw_goto (pc := 100) (tgt := 109) C dX8_readConstraints_100 rfl ?_
                  refine pw_astoreN (pc := 109) C [(5, .null), (4, .int r17), (3, .int r11), (2, .int r5), (0, .ref (G.2.2 + x0)), (1, .int x1)] dX8_readConstraints_109 (by decide) rfl ?_
                  refine pw_aloadN (pc := 111) C 0 dX8_readConstraints_111 rfl ?_
                  refine pw_ifnull_n (pc := 113) (tgt := 123) C dX8_readConstraints_113 rfl ?_
                  refine pw_iconst (pc := 123) (v := 0 ) C dX8_readConstraints_123 (by decide) ?_
                  refine pw_widen (k2 := 19) (n2 := 152) (by omega) (by omega) ?_
                  exact pw_zret (pc := 124) C hr rfl h dX8_readConstraints_124
                | some o37 =>
                  replace h := h.2 o37 hqr35
                  show PW p l e _ s m args below meth c _ G _ S36 _ _ _ _ (.ref (G.2.2 + o37) :: [])
                  refine pw_goto (pc := 100) (tgt := 109) C dX8_readConstraints_100 rfl ?_
                  refine pw_astore (pc := 109) C [(5, .ref (G.2.2 + o37)), (4, .int r17), (3, .int r11), (2, .int r5), (0, .ref (G.2.2 + x0)), (1, .int x1)] dX8_readConstraints_109 (by decide) rfl ?_
                  refine pw_aload (pc := 111) C 0 dX8_readConstraints_111 rfl ?_
                  refine pw_ifnull_r (pc := 113) C dX8_readConstraints_113 ?_
                  refine pw_aload_n (pc := 116) C 4 dX8_readConstraints_116 rfl rfl ?_
                  obtain ⟨hk38, h⟩ := h
                  refine pw_calli (pc := 117) (kc2 := (0 + (9 - (n + 1)) * 1 + 1)) (kn2 := (0 + (9 - (n + 1)) * 8 + 8)) (pRunV (pc := 117) C (ctX8_readSemicolon l G hZ  _ x0 _ h) (cwV 0 C.2.2.2.2.1 gX8_readConstraints_X8_readSemicolon rfl rfl rfl (by decide +kernel) ⟨Nat.le_of_ble_eq_true rfl, Nat.le_of_ble_eq_true rfl⟩) pCl6 hk38 rfl rfl (Nat.le_of_ble_eq_true rfl) dX8_readConstraints_117 ⟨by show _ ≤ _; first | omega | (simp only []; omega), by show _ ≤ _; first | omega | (simp only []; omega)⟩) rfl rfl (fun r39 S40 h => ?_)
                  refine pw_if_ne (pc := 120) (tgt := 125) C dX8_readConstraints_120 rfl ⟨fun hc => ?_, fun hc => ?_⟩
                  · replace h := h.1 hc
                    refine pw_aload_n (pc := 125) C 4 dX8_readConstraints_125 rfl rfl ?_
                    obtain ⟨hk41, h⟩ := h
                    obtain ⟨o42, ho42, h⟩ := h
                    refine pw_getR (pc := 126) (ref := "SupportSolver$TextReader") (k := 5) (index := 32) C pCl6 iX8_readConstraints_X8 hk41 rfl (by decide +kernel) (Or.inl rfl) (o := o42) ho42 dX8_readConstraints_126 ?_
                    refine pw_aload (pc := 129) C 0 dX8_readConstraints_129 rfl ?_
                    obtain ⟨hk43, h⟩ := h
                    refine pw_callv (pc := 131) (kc2 := (0 + (9 - (n + 1)) * 1 + 1)) (kn2 := (0 + (9 - (n + 1)) * 8 + 8)) (pRunV (pc := 131) C (ctX6_addConstraint l G hZ  _ o42 o37 _ h) (cwV 1 C.2.2.2.2.1 gX8_readConstraints_X6_addConstraint rfl rfl rfl (by decide +kernel) ⟨Nat.le_of_ble_eq_true rfl, Nat.le_of_ble_eq_true rfl⟩) pCl4 hk43 rfl rfl (Nat.le_of_ble_eq_true rfl) dX8_readConstraints_131 ⟨by show _ ≤ _; first | omega | (simp only []; omega), by show _ ≤ _; first | omega | (simp only []; omega)⟩) rfl rfl (fun S45 h => ?_)
                    refine pw_iincK (pc := 134) (w := 1) C [(1, .int (x1 + 1)), (5, .ref (G.2.2 + o37)), (4, .int r17), (3, .int r11), (2, .int r5), (0, .ref (G.2.2 + x0))] 5 dX8_readConstraints_134 (by decide) rfl (by decide) rfl ?_
                    refine pw_goto (pc := 137) (tgt := 2) C dX8_readConstraints_137 rfl ?_
                    refine pw_sub [5, 0] (LV2 := [(0, .ref (G.2.2 + x0)), (1, .int (x1 + 1))]) rfl ?_
                    refine pw_widen (k2 := (0 + (9 - n) * 1 + 0)) (n2 := (0 + (9 - n) * 8 + 0)) (by omega) (by omega) ?_
                    exact ih (by omega) _ _ _ h
                  · replace h := h.2 hc
                    refine pw_iconst (pc := 123) (v := 0 ) C dX8_readConstraints_123 (by decide) ?_
                    refine pw_widen (k2 := 19) (n2 := 152) (by omega) (by omega) ?_
                    exact pw_zret (pc := 124) C hr rfl h dX8_readConstraints_124
            · replace h := h.2 hc
              refine pw_aload_n (pc := 85) C 3 dX8_readConstraints_85 rfl rfl ?_
              obtain ⟨hk46, h⟩ := h
              refine pw_callq (pc := 86) (kc2 := (0 + (9 - (n + 1)) * 1 + 1)) (kn2 := (0 + (9 - (n + 1)) * 8 + 7)) (pRunV (pc := 86) C (ctX8_readCounts l G hZ  _ x0 _ h) (cwV 0 C.2.2.2.2.1 gX8_readConstraints_X8_readCounts rfl rfl rfl (by decide +kernel) ⟨Nat.le_of_ble_eq_true rfl, Nat.le_of_ble_eq_true rfl⟩) pCl6 hk46 rfl rfl (Nat.le_of_ble_eq_true rfl) dX8_readConstraints_86 ⟨by show _ ≤ _; first | omega | (simp only []; omega), by show _ ≤ _; first | omega | (simp only []; omega)⟩) rfl rfl (fun r47 S48 h => ?_)
              cases hqr47 : r47 with
              | none =>
                replace h := h.1 hqr47
                show PW p l e _ s m args below meth c _ G _ S48 _ _ _ _ (.null :: [])
                refine pw_goto (pc := 89) (tgt := 109) C dX8_readConstraints_89 rfl ?_
                refine pw_astoreN (pc := 109) C [(5, .null), (4, .int r17), (3, .int r11), (2, .int r5), (0, .ref (G.2.2 + x0)), (1, .int x1)] dX8_readConstraints_109 (by decide) rfl ?_
                refine pw_aloadN (pc := 111) C 0 dX8_readConstraints_111 rfl ?_
                refine pw_ifnull_n (pc := 113) (tgt := 123) C dX8_readConstraints_113 rfl ?_
                refine pw_iconst (pc := 123) (v := 0 ) C dX8_readConstraints_123 (by decide) ?_
                refine pw_widen (k2 := 19) (n2 := 152) (by omega) (by omega) ?_
                exact pw_zret (pc := 124) C hr rfl h dX8_readConstraints_124
              | some o49 =>
                replace h := h.2 o49 hqr47
                show PW p l e _ s m args below meth c _ G _ S48 _ _ _ _ (.ref (G.2.2 + o49) :: [])
                refine pw_goto (pc := 89) (tgt := 109) C dX8_readConstraints_89 rfl ?_
                refine pw_astore (pc := 109) C [(5, .ref (G.2.2 + o49)), (4, .int r17), (3, .int r11), (2, .int r5), (0, .ref (G.2.2 + x0)), (1, .int x1)] dX8_readConstraints_109 (by decide) rfl ?_
                refine pw_aload (pc := 111) C 0 dX8_readConstraints_111 rfl ?_
                refine pw_ifnull_r (pc := 113) C dX8_readConstraints_113 ?_
                refine pw_aload_n (pc := 116) C 4 dX8_readConstraints_116 rfl rfl ?_
                obtain ⟨hk50, h⟩ := h
                refine pw_calli (pc := 117) (kc2 := (0 + (9 - (n + 1)) * 1 + 1)) (kn2 := (0 + (9 - (n + 1)) * 8 + 7)) (pRunV (pc := 117) C (ctX8_readSemicolon l G hZ  _ x0 _ h) (cwV 0 C.2.2.2.2.1 gX8_readConstraints_X8_readSemicolon rfl rfl rfl (by decide +kernel) ⟨Nat.le_of_ble_eq_true rfl, Nat.le_of_ble_eq_true rfl⟩) pCl6 hk50 rfl rfl (Nat.le_of_ble_eq_true rfl) dX8_readConstraints_117 ⟨by show _ ≤ _; first | omega | (simp only []; omega), by show _ ≤ _; first | omega | (simp only []; omega)⟩) rfl rfl (fun r51 S52 h => ?_)
                refine pw_if_ne (pc := 120) (tgt := 125) C dX8_readConstraints_120 rfl ⟨fun hc => ?_, fun hc => ?_⟩
                · replace h := h.1 hc
                  refine pw_aload_n (pc := 125) C 4 dX8_readConstraints_125 rfl rfl ?_
                  obtain ⟨hk53, h⟩ := h
                  obtain ⟨o54, ho54, h⟩ := h
                  refine pw_getR (pc := 126) (ref := "SupportSolver$TextReader") (k := 5) (index := 32) C pCl6 iX8_readConstraints_X8 hk53 rfl (by decide +kernel) (Or.inl rfl) (o := o54) ho54 dX8_readConstraints_126 ?_
                  refine pw_aload (pc := 129) C 0 dX8_readConstraints_129 rfl ?_
                  obtain ⟨hk55, h⟩ := h
                  refine pw_callv (pc := 131) (kc2 := (0 + (9 - (n + 1)) * 1 + 1)) (kn2 := (0 + (9 - (n + 1)) * 8 + 7)) (pRunV (pc := 131) C (ctX6_addConstraint l G hZ  _ o54 o49 _ h) (cwV 1 C.2.2.2.2.1 gX8_readConstraints_X6_addConstraint rfl rfl rfl (by decide +kernel) ⟨Nat.le_of_ble_eq_true rfl, Nat.le_of_ble_eq_true rfl⟩) pCl4 hk55 rfl rfl (Nat.le_of_ble_eq_true rfl) dX8_readConstraints_131 ⟨by show _ ≤ _; first | omega | (simp only []; omega), by show _ ≤ _; first | omega | (simp only []; omega)⟩) rfl rfl (fun S57 h => ?_)
                  refine pw_iincK (pc := 134) (w := 1) C [(1, .int (x1 + 1)), (5, .ref (G.2.2 + o49)), (4, .int r17), (3, .int r11), (2, .int r5), (0, .ref (G.2.2 + x0))] 5 dX8_readConstraints_134 (by decide) rfl (by decide) rfl ?_
                  refine pw_goto (pc := 137) (tgt := 2) C dX8_readConstraints_137 rfl ?_
                  refine pw_sub [5, 0] (LV2 := [(0, .ref (G.2.2 + x0)), (1, .int (x1 + 1))]) rfl ?_
                  refine pw_widen (k2 := (0 + (9 - n) * 1 + 0)) (n2 := (0 + (9 - n) * 8 + 0)) (by omega) (by omega) ?_
                  exact ih (by omega) _ _ _ h
                · replace h := h.2 hc
                  refine pw_iconst (pc := 123) (v := 0 ) C dX8_readConstraints_123 (by decide) ?_
                  refine pw_widen (k2 := 19) (n2 := 152) (by omega) (by omega) ?_
                  exact pw_zret (pc := 124) C hr rfl h dX8_readConstraints_124
          · replace h := h.2 hc
            refine pw_aload_n (pc := 71) C 3 dX8_readConstraints_71 rfl rfl ?_
            refine pw_iconst (pc := 72) (v := 4 ) C dX8_readConstraints_72 (by decide) ?_
            obtain ⟨hk58, h⟩ := h
            refine pw_calli (pc := 73) (kc2 := (0 + (9 - (n + 1)) * 1 + 0)) (kn2 := (0 + (9 - (n + 1)) * 8 + 0)) (pRunV (pc := 73) C (ctX8_fail l G hZ  _ x0 (4 : Int32) _ h) (cwV 1 C.2.2.2.2.1 gX8_readConstraints_X8_fail rfl rfl rfl (by decide +kernel) ⟨Nat.le_of_ble_eq_true rfl, Nat.le_of_ble_eq_true rfl⟩) pCl6 hk58 rfl rfl (Nat.le_of_ble_eq_true rfl) dX8_readConstraints_73 ⟨by show _ ≤ _; first | omega | (simp only []; omega), by show _ ≤ _; first | omega | (simp only []; omega)⟩) rfl rfl (fun r59 S60 h => ?_)
            refine pw_widen (k2 := 19) (n2 := 152) (by omega) (by omega) ?_
            obtain ⟨hb61, h⟩ := h
            exact pw_zret (pc := 76) C hr (nar_bool hb61) h dX8_readConstraints_76
        · replace h := h.2 hc
          refine pw_iload_n (pc := 41) C 1 dX8_readConstraints_41 rfl rfl ?_
          refine pw_if_ne (pc := 42) (tgt := 65) C dX8_readConstraints_42 rfl ⟨fun hc => ?_, fun hc => ?_⟩
          · replace h := h.1 hc
            refine pw_iload_n (pc := 65) C 4 dX8_readConstraints_65 rfl rfl ?_
            refine pw_bipush (pc := 66) (v := 8 ) C dX8_readConstraints_66 (by decide) ?_
            refine pw_icmp_ne (pc := 68) (tgt := 77) C dX8_readConstraints_68 rfl ⟨fun hc => ?_, fun hc => ?_⟩
            · replace h := h.1 hc
              refine pw_aload_n (pc := 77) C 3 dX8_readConstraints_77 rfl rfl ?_
              obtain ⟨hk62, h⟩ := h
              refine pw_callv (pc := 78) (kc2 := (0 + (9 - (n + 1)) * 1 + 0)) (kn2 := (0 + (9 - (n + 1)) * 8 + 0)) (pRunV (pc := 78) C (ctX8_nextToken l G hZ  _ x0 _ h) (cwV 0 C.2.2.2.2.1 gX8_readConstraints_X8_nextToken rfl rfl rfl (by decide +kernel) ⟨Nat.le_of_ble_eq_true rfl, Nat.le_of_ble_eq_true rfl⟩) pCl6 hk62 rfl rfl (Nat.le_of_ble_eq_true rfl) dX8_readConstraints_78 ⟨by show _ ≤ _; first | omega | (simp only []; omega), by show _ ≤ _; first | omega | (simp only []; omega)⟩) rfl rfl (fun S64 h => ?_)
              refine pw_iload_n (pc := 81) C 2 dX8_readConstraints_81 rfl rfl ?_
              refine pw_if_eq (pc := 82) (tgt := 92) C dX8_readConstraints_82 rfl ⟨fun hc => ?_, fun hc => ?_⟩
              · replace h := h.1 hc
                refine pw_iload_n (pc := 92) C 1 dX8_readConstraints_92 rfl rfl ?_
                refine pw_if_eq (pc := 93) (tgt := 103) C dX8_readConstraints_93 rfl ⟨fun hc => ?_, fun hc => ?_⟩
                · replace h := h.1 hc
                  refine pw_aload_n (pc := 103) C 3 dX8_readConstraints_103 rfl rfl ?_
                  refine pw_iload (pc := 104) C 0 dX8_readConstraints_104 rfl ?_
                  obtain ⟨hk65, h⟩ := h
                  refine pw_callq (pc := 106) (kc2 := (0 + (9 - (n + 1)) * 1 + 1)) (kn2 := (0 + (9 - (n + 1)) * 8 + 4)) (pRunV (pc := 106) C (ctX8_readComparison l G hZ  _ x0 r17 _ h) (cwV 1 C.2.2.2.2.1 gX8_readConstraints_X8_readComparison rfl rfl rfl (by decide +kernel) ⟨Nat.le_of_ble_eq_true rfl, Nat.le_of_ble_eq_true rfl⟩) pCl6 hk65 rfl rfl (Nat.le_of_ble_eq_true rfl) dX8_readConstraints_106 ⟨by show _ ≤ _; first | omega | (simp only []; omega), by show _ ≤ _; first | omega | (simp only []; omega)⟩) rfl rfl (fun r66 S67 h => ?_)
                  cases hqr66 : r66 with
                  | none =>
                    replace h := h.1 hqr66
                    show PW p l e _ s m args below meth c _ G _ S67 _ _ _ _ (.null :: [])
                    refine pw_astoreN (pc := 109) C [(5, .null), (4, .int r17), (3, .int r11), (2, .int r5), (0, .ref (G.2.2 + x0)), (1, .int x1)] dX8_readConstraints_109 (by decide) rfl ?_
                    refine pw_aloadN (pc := 111) C 0 dX8_readConstraints_111 rfl ?_
                    refine pw_ifnull_n (pc := 113) (tgt := 123) C dX8_readConstraints_113 rfl ?_
                    refine pw_iconst (pc := 123) (v := 0 ) C dX8_readConstraints_123 (by decide) ?_
                    refine pw_widen (k2 := 19) (n2 := 152) (by omega) (by omega) ?_
                    exact pw_zret (pc := 124) C hr rfl h dX8_readConstraints_124
                  | some o68 =>
                    replace h := h.2 o68 hqr66
                    show PW p l e _ s m args below meth c _ G _ S67 _ _ _ _ (.ref (G.2.2 + o68) :: [])
                    refine pw_astore (pc := 109) C [(5, .ref (G.2.2 + o68)), (4, .int r17), (3, .int r11), (2, .int r5), (0, .ref (G.2.2 + x0)), (1, .int x1)] dX8_readConstraints_109 (by decide) rfl ?_
                    refine pw_aload (pc := 111) C 0 dX8_readConstraints_111 rfl ?_
                    refine pw_ifnull_r (pc := 113) C dX8_readConstraints_113 ?_
                    refine pw_aload_n (pc := 116) C 4 dX8_readConstraints_116 rfl rfl ?_
                    obtain ⟨hk69, h⟩ := h
                    refine pw_calli (pc := 117) (kc2 := (0 + (9 - (n + 1)) * 1 + 1)) (kn2 := (0 + (9 - (n + 1)) * 8 + 4)) (pRunV (pc := 117) C (ctX8_readSemicolon l G hZ  _ x0 _ h) (cwV 0 C.2.2.2.2.1 gX8_readConstraints_X8_readSemicolon rfl rfl rfl (by decide +kernel) ⟨Nat.le_of_ble_eq_true rfl, Nat.le_of_ble_eq_true rfl⟩) pCl6 hk69 rfl rfl (Nat.le_of_ble_eq_true rfl) dX8_readConstraints_117 ⟨by show _ ≤ _; first | omega | (simp only []; omega), by show _ ≤ _; first | omega | (simp only []; omega)⟩) rfl rfl (fun r70 S71 h => ?_)
                    refine pw_if_ne (pc := 120) (tgt := 125) C dX8_readConstraints_120 rfl ⟨fun hc => ?_, fun hc => ?_⟩
                    · replace h := h.1 hc
                      refine pw_aload_n (pc := 125) C 4 dX8_readConstraints_125 rfl rfl ?_
                      obtain ⟨hk72, h⟩ := h
                      obtain ⟨o73, ho73, h⟩ := h
                      refine pw_getR (pc := 126) (ref := "SupportSolver$TextReader") (k := 5) (index := 32) C pCl6 iX8_readConstraints_X8 hk72 rfl (by decide +kernel) (Or.inl rfl) (o := o73) ho73 dX8_readConstraints_126 ?_
                      refine pw_aload (pc := 129) C 0 dX8_readConstraints_129 rfl ?_
                      obtain ⟨hk74, h⟩ := h
                      refine pw_callv (pc := 131) (kc2 := (0 + (9 - (n + 1)) * 1 + 1)) (kn2 := (0 + (9 - (n + 1)) * 8 + 4)) (pRunV (pc := 131) C (ctX6_addConstraint l G hZ  _ o73 o68 _ h) (cwV 1 C.2.2.2.2.1 gX8_readConstraints_X6_addConstraint rfl rfl rfl (by decide +kernel) ⟨Nat.le_of_ble_eq_true rfl, Nat.le_of_ble_eq_true rfl⟩) pCl4 hk74 rfl rfl (Nat.le_of_ble_eq_true rfl) dX8_readConstraints_131 ⟨by show _ ≤ _; first | omega | (simp only []; omega), by show _ ≤ _; first | omega | (simp only []; omega)⟩) rfl rfl (fun S76 h => ?_)
                      refine pw_iincK (pc := 134) (w := 1) C [(1, .int (x1 + 1)), (5, .ref (G.2.2 + o68)), (4, .int r17), (3, .int r11), (2, .int r5), (0, .ref (G.2.2 + x0))] 5 dX8_readConstraints_134 (by decide) rfl (by decide) rfl ?_
                      refine pw_goto (pc := 137) (tgt := 2) C dX8_readConstraints_137 rfl ?_
                      refine pw_sub [5, 0] (LV2 := [(0, .ref (G.2.2 + x0)), (1, .int (x1 + 1))]) rfl ?_
                      refine pw_widen (k2 := (0 + (9 - n) * 1 + 0)) (n2 := (0 + (9 - n) * 8 + 0)) (by omega) (by omega) ?_
                      exact ih (by omega) _ _ _ h
                    · replace h := h.2 hc
                      refine pw_iconst (pc := 123) (v := 0 ) C dX8_readConstraints_123 (by decide) ?_
                      refine pw_widen (k2 := 19) (n2 := 152) (by omega) (by omega) ?_
                      exact pw_zret (pc := 124) C hr rfl h dX8_readConstraints_124
                · replace h := h.2 hc
                  refine pw_aload_n (pc := 96) C 3 dX8_readConstraints_96 rfl rfl ?_
                  obtain ⟨hk77, h⟩ := h
                  refine pw_callq (pc := 97) (kc2 := (0 + (9 - (n + 1)) * 1 + 1)) (kn2 := (0 + (9 - (n + 1)) * 8 + 8)) (pRunV (pc := 97) C (ctX8_readWindow l G hZ  _ x0 _ h) (cwV 0 C.2.2.2.2.1 gX8_readConstraints_X8_readWindow rfl rfl rfl (by decide +kernel) ⟨Nat.le_of_ble_eq_true rfl, Nat.le_of_ble_eq_true rfl⟩) pCl6 hk77 rfl rfl (Nat.le_of_ble_eq_true rfl) dX8_readConstraints_97 ⟨by show _ ≤ _; first | omega | (simp only []; omega), by show _ ≤ _; first | omega | (simp only []; omega)⟩) rfl rfl (fun r78 S79 h => ?_)
                  cases hqr78 : r78 with
                  | none =>
                    replace h := h.1 hqr78
                    show PW p l e _ s m args below meth c _ G _ S79 _ _ _ _ (.null :: [])
                    refine pw_goto (pc := 100) (tgt := 109) C dX8_readConstraints_100 rfl ?_
                    refine pw_astoreN (pc := 109) C [(5, .null), (4, .int r17), (3, .int r11), (2, .int r5), (0, .ref (G.2.2 + x0)), (1, .int x1)] dX8_readConstraints_109 (by decide) rfl ?_
                    refine pw_aloadN (pc := 111) C 0 dX8_readConstraints_111 rfl ?_
                    refine pw_ifnull_n (pc := 113) (tgt := 123) C dX8_readConstraints_113 rfl ?_
                    refine pw_iconst (pc := 123) (v := 0 ) C dX8_readConstraints_123 (by decide) ?_
                    refine pw_widen (k2 := 19) (n2 := 152) (by omega) (by omega) ?_
                    exact pw_zret (pc := 124) C hr rfl h dX8_readConstraints_124
                  | some o80 =>
                    replace h := h.2 o80 hqr78
                    show PW p l e _ s m args below meth c _ G _ S79 _ _ _ _ (.ref (G.2.2 + o80) :: [])
                    refine pw_goto (pc := 100) (tgt := 109) C dX8_readConstraints_100 rfl ?_
                    refine pw_astore (pc := 109) C [(5, .ref (G.2.2 + o80)), (4, .int r17), (3, .int r11), (2, .int r5), (0, .ref (G.2.2 + x0)), (1, .int x1)] dX8_readConstraints_109 (by decide) rfl ?_
                    refine pw_aload (pc := 111) C 0 dX8_readConstraints_111 rfl ?_
                    refine pw_ifnull_r (pc := 113) C dX8_readConstraints_113 ?_
                    refine pw_aload_n (pc := 116) C 4 dX8_readConstraints_116 rfl rfl ?_
                    obtain ⟨hk81, h⟩ := h
                    refine pw_calli (pc := 117) (kc2 := (0 + (9 - (n + 1)) * 1 + 1)) (kn2 := (0 + (9 - (n + 1)) * 8 + 8)) (pRunV (pc := 117) C (ctX8_readSemicolon l G hZ  _ x0 _ h) (cwV 0 C.2.2.2.2.1 gX8_readConstraints_X8_readSemicolon rfl rfl rfl (by decide +kernel) ⟨Nat.le_of_ble_eq_true rfl, Nat.le_of_ble_eq_true rfl⟩) pCl6 hk81 rfl rfl (Nat.le_of_ble_eq_true rfl) dX8_readConstraints_117 ⟨by show _ ≤ _; first | omega | (simp only []; omega), by show _ ≤ _; first | omega | (simp only []; omega)⟩) rfl rfl (fun r82 S83 h => ?_)
                    refine pw_if_ne (pc := 120) (tgt := 125) C dX8_readConstraints_120 rfl ⟨fun hc => ?_, fun hc => ?_⟩
                    · replace h := h.1 hc
                      refine pw_aload_n (pc := 125) C 4 dX8_readConstraints_125 rfl rfl ?_
                      obtain ⟨hk84, h⟩ := h
                      obtain ⟨o85, ho85, h⟩ := h
                      refine pw_getR (pc := 126) (ref := "SupportSolver$TextReader") (k := 5) (index := 32) C pCl6 iX8_readConstraints_X8 hk84 rfl (by decide +kernel) (Or.inl rfl) (o := o85) ho85 dX8_readConstraints_126 ?_
                      refine pw_aload (pc := 129) C 0 dX8_readConstraints_129 rfl ?_
                      obtain ⟨hk86, h⟩ := h
                      refine pw_callv (pc := 131) (kc2 := (0 + (9 - (n + 1)) * 1 + 1)) (kn2 := (0 + (9 - (n + 1)) * 8 + 8)) (pRunV (pc := 131) C (ctX6_addConstraint l G hZ  _ o85 o80 _ h) (cwV 1 C.2.2.2.2.1 gX8_readConstraints_X6_addConstraint rfl rfl rfl (by decide +kernel) ⟨Nat.le_of_ble_eq_true rfl, Nat.le_of_ble_eq_true rfl⟩) pCl4 hk86 rfl rfl (Nat.le_of_ble_eq_true rfl) dX8_readConstraints_131 ⟨by show _ ≤ _; first | omega | (simp only []; omega), by show _ ≤ _; first | omega | (simp only []; omega)⟩) rfl rfl (fun S88 h => ?_)
                      refine pw_iincK (pc := 134) (w := 1) C [(1, .int (x1 + 1)), (5, .ref (G.2.2 + o80)), (4, .int r17), (3, .int r11), (2, .int r5), (0, .ref (G.2.2 + x0))] 5 dX8_readConstraints_134 (by decide) rfl (by decide) rfl ?_
                      refine pw_goto (pc := 137) (tgt := 2) C dX8_readConstraints_137 rfl ?_
                      refine pw_sub [5, 0] (LV2 := [(0, .ref (G.2.2 + x0)), (1, .int (x1 + 1))]) rfl ?_
                      refine pw_widen (k2 := (0 + (9 - n) * 1 + 0)) (n2 := (0 + (9 - n) * 8 + 0)) (by omega) (by omega) ?_
                      exact ih (by omega) _ _ _ h
                    · replace h := h.2 hc
                      refine pw_iconst (pc := 123) (v := 0 ) C dX8_readConstraints_123 (by decide) ?_
                      refine pw_widen (k2 := 19) (n2 := 152) (by omega) (by omega) ?_
                      exact pw_zret (pc := 124) C hr rfl h dX8_readConstraints_124
              · replace h := h.2 hc
                refine pw_aload_n (pc := 85) C 3 dX8_readConstraints_85 rfl rfl ?_
                obtain ⟨hk89, h⟩ := h
                refine pw_callq (pc := 86) (kc2 := (0 + (9 - (n + 1)) * 1 + 1)) (kn2 := (0 + (9 - (n + 1)) * 8 + 7)) (pRunV (pc := 86) C (ctX8_readCounts l G hZ  _ x0 _ h) (cwV 0 C.2.2.2.2.1 gX8_readConstraints_X8_readCounts rfl rfl rfl (by decide +kernel) ⟨Nat.le_of_ble_eq_true rfl, Nat.le_of_ble_eq_true rfl⟩) pCl6 hk89 rfl rfl (Nat.le_of_ble_eq_true rfl) dX8_readConstraints_86 ⟨by show _ ≤ _; first | omega | (simp only []; omega), by show _ ≤ _; first | omega | (simp only []; omega)⟩) rfl rfl (fun r90 S91 h => ?_)
                cases hqr90 : r90 with
                | none =>
                  replace h := h.1 hqr90
                  show PW p l e _ s m args below meth c _ G _ S91 _ _ _ _ (.null :: [])
                  refine pw_goto (pc := 89) (tgt := 109) C dX8_readConstraints_89 rfl ?_
                  refine pw_astoreN (pc := 109) C [(5, .null), (4, .int r17), (3, .int r11), (2, .int r5), (0, .ref (G.2.2 + x0)), (1, .int x1)] dX8_readConstraints_109 (by decide) rfl ?_
                  refine pw_aloadN (pc := 111) C 0 dX8_readConstraints_111 rfl ?_
                  refine pw_ifnull_n (pc := 113) (tgt := 123) C dX8_readConstraints_113 rfl ?_
                  refine pw_iconst (pc := 123) (v := 0 ) C dX8_readConstraints_123 (by decide) ?_
                  refine pw_widen (k2 := 19) (n2 := 152) (by omega) (by omega) ?_
                  exact pw_zret (pc := 124) C hr rfl h dX8_readConstraints_124
                | some o92 =>
                  replace h := h.2 o92 hqr90
                  show PW p l e _ s m args below meth c _ G _ S91 _ _ _ _ (.ref (G.2.2 + o92) :: [])
                  refine pw_goto (pc := 89) (tgt := 109) C dX8_readConstraints_89 rfl ?_
                  refine pw_astore (pc := 109) C [(5, .ref (G.2.2 + o92)), (4, .int r17), (3, .int r11), (2, .int r5), (0, .ref (G.2.2 + x0)), (1, .int x1)] dX8_readConstraints_109 (by decide) rfl ?_
                  refine pw_aload (pc := 111) C 0 dX8_readConstraints_111 rfl ?_
                  refine pw_ifnull_r (pc := 113) C dX8_readConstraints_113 ?_
                  refine pw_aload_n (pc := 116) C 4 dX8_readConstraints_116 rfl rfl ?_
                  obtain ⟨hk93, h⟩ := h
                  refine pw_calli (pc := 117) (kc2 := (0 + (9 - (n + 1)) * 1 + 1)) (kn2 := (0 + (9 - (n + 1)) * 8 + 7)) (pRunV (pc := 117) C (ctX8_readSemicolon l G hZ  _ x0 _ h) (cwV 0 C.2.2.2.2.1 gX8_readConstraints_X8_readSemicolon rfl rfl rfl (by decide +kernel) ⟨Nat.le_of_ble_eq_true rfl, Nat.le_of_ble_eq_true rfl⟩) pCl6 hk93 rfl rfl (Nat.le_of_ble_eq_true rfl) dX8_readConstraints_117 ⟨by show _ ≤ _; first | omega | (simp only []; omega), by show _ ≤ _; first | omega | (simp only []; omega)⟩) rfl rfl (fun r94 S95 h => ?_)
                  refine pw_if_ne (pc := 120) (tgt := 125) C dX8_readConstraints_120 rfl ⟨fun hc => ?_, fun hc => ?_⟩
                  · replace h := h.1 hc
                    refine pw_aload_n (pc := 125) C 4 dX8_readConstraints_125 rfl rfl ?_
                    obtain ⟨hk96, h⟩ := h
                    obtain ⟨o97, ho97, h⟩ := h
                    refine pw_getR (pc := 126) (ref := "SupportSolver$TextReader") (k := 5) (index := 32) C pCl6 iX8_readConstraints_X8 hk96 rfl (by decide +kernel) (Or.inl rfl) (o := o97) ho97 dX8_readConstraints_126 ?_
                    refine pw_aload (pc := 129) C 0 dX8_readConstraints_129 rfl ?_
                    obtain ⟨hk98, h⟩ := h
                    refine pw_callv (pc := 131) (kc2 := (0 + (9 - (n + 1)) * 1 + 1)) (kn2 := (0 + (9 - (n + 1)) * 8 + 7)) (pRunV (pc := 131) C (ctX6_addConstraint l G hZ  _ o97 o92 _ h) (cwV 1 C.2.2.2.2.1 gX8_readConstraints_X6_addConstraint rfl rfl rfl (by decide +kernel) ⟨Nat.le_of_ble_eq_true rfl, Nat.le_of_ble_eq_true rfl⟩) pCl4 hk98 rfl rfl (Nat.le_of_ble_eq_true rfl) dX8_readConstraints_131 ⟨by show _ ≤ _; first | omega | (simp only []; omega), by show _ ≤ _; first | omega | (simp only []; omega)⟩) rfl rfl (fun S100 h => ?_)
                    refine pw_iincK (pc := 134) (w := 1) C [(1, .int (x1 + 1)), (5, .ref (G.2.2 + o92)), (4, .int r17), (3, .int r11), (2, .int r5), (0, .ref (G.2.2 + x0))] 5 dX8_readConstraints_134 (by decide) rfl (by decide) rfl ?_
                    refine pw_goto (pc := 137) (tgt := 2) C dX8_readConstraints_137 rfl ?_
                    refine pw_sub [5, 0] (LV2 := [(0, .ref (G.2.2 + x0)), (1, .int (x1 + 1))]) rfl ?_
                    refine pw_widen (k2 := (0 + (9 - n) * 1 + 0)) (n2 := (0 + (9 - n) * 8 + 0)) (by omega) (by omega) ?_
                    exact ih (by omega) _ _ _ h
                  · replace h := h.2 hc
                    refine pw_iconst (pc := 123) (v := 0 ) C dX8_readConstraints_123 (by decide) ?_
                    refine pw_widen (k2 := 19) (n2 := 152) (by omega) (by omega) ?_
                    exact pw_zret (pc := 124) C hr rfl h dX8_readConstraints_124
            · replace h := h.2 hc
              refine pw_aload_n (pc := 71) C 3 dX8_readConstraints_71 rfl rfl ?_
              refine pw_iconst (pc := 72) (v := 4 ) C dX8_readConstraints_72 (by decide) ?_
              obtain ⟨hk101, h⟩ := h
              refine pw_calli (pc := 73) (kc2 := (0 + (9 - (n + 1)) * 1 + 0)) (kn2 := (0 + (9 - (n + 1)) * 8 + 0)) (pRunV (pc := 73) C (ctX8_fail l G hZ  _ x0 (4 : Int32) _ h) (cwV 1 C.2.2.2.2.1 gX8_readConstraints_X8_fail rfl rfl rfl (by decide +kernel) ⟨Nat.le_of_ble_eq_true rfl, Nat.le_of_ble_eq_true rfl⟩) pCl6 hk101 rfl rfl (Nat.le_of_ble_eq_true rfl) dX8_readConstraints_73 ⟨by show _ ≤ _; first | omega | (simp only []; omega), by show _ ≤ _; first | omega | (simp only []; omega)⟩) rfl rfl (fun r102 S103 h => ?_)
              refine pw_widen (k2 := 19) (n2 := 152) (by omega) (by omega) ?_
              obtain ⟨hb104, h⟩ := h
              exact pw_zret (pc := 76) C hr (nar_bool hb104) h dX8_readConstraints_76
          · replace h := h.2 hc
            refine pw_iload (pc := 45) C 0 dX8_readConstraints_45 rfl ?_
            refine pw_if_ne (pc := 47) (tgt := 65) C dX8_readConstraints_47 rfl ⟨fun hc => ?_, fun hc => ?_⟩
            · replace h := h.1 hc
              refine pw_iload_n (pc := 65) C 4 dX8_readConstraints_65 rfl rfl ?_
              refine pw_bipush (pc := 66) (v := 8 ) C dX8_readConstraints_66 (by decide) ?_
              refine pw_icmp_ne (pc := 68) (tgt := 77) C dX8_readConstraints_68 rfl ⟨fun hc => ?_, fun hc => ?_⟩
              · replace h := h.1 hc
                refine pw_aload_n (pc := 77) C 3 dX8_readConstraints_77 rfl rfl ?_
                obtain ⟨hk105, h⟩ := h
                refine pw_callv (pc := 78) (kc2 := (0 + (9 - (n + 1)) * 1 + 0)) (kn2 := (0 + (9 - (n + 1)) * 8 + 0)) (pRunV (pc := 78) C (ctX8_nextToken l G hZ  _ x0 _ h) (cwV 0 C.2.2.2.2.1 gX8_readConstraints_X8_nextToken rfl rfl rfl (by decide +kernel) ⟨Nat.le_of_ble_eq_true rfl, Nat.le_of_ble_eq_true rfl⟩) pCl6 hk105 rfl rfl (Nat.le_of_ble_eq_true rfl) dX8_readConstraints_78 ⟨by show _ ≤ _; first | omega | (simp only []; omega), by show _ ≤ _; first | omega | (simp only []; omega)⟩) rfl rfl (fun S107 h => ?_)
                refine pw_iload_n (pc := 81) C 2 dX8_readConstraints_81 rfl rfl ?_
                refine pw_if_eq (pc := 82) (tgt := 92) C dX8_readConstraints_82 rfl ⟨fun hc => ?_, fun hc => ?_⟩
                · replace h := h.1 hc
                  refine pw_iload_n (pc := 92) C 1 dX8_readConstraints_92 rfl rfl ?_
                  refine pw_if_eq (pc := 93) (tgt := 103) C dX8_readConstraints_93 rfl ⟨fun hc => ?_, fun hc => ?_⟩
                  · replace h := h.1 hc
                    refine pw_aload_n (pc := 103) C 3 dX8_readConstraints_103 rfl rfl ?_
                    refine pw_iload (pc := 104) C 0 dX8_readConstraints_104 rfl ?_
                    obtain ⟨hk108, h⟩ := h
                    refine pw_callq (pc := 106) (kc2 := (0 + (9 - (n + 1)) * 1 + 1)) (kn2 := (0 + (9 - (n + 1)) * 8 + 4)) (pRunV (pc := 106) C (ctX8_readComparison l G hZ  _ x0 r17 _ h) (cwV 1 C.2.2.2.2.1 gX8_readConstraints_X8_readComparison rfl rfl rfl (by decide +kernel) ⟨Nat.le_of_ble_eq_true rfl, Nat.le_of_ble_eq_true rfl⟩) pCl6 hk108 rfl rfl (Nat.le_of_ble_eq_true rfl) dX8_readConstraints_106 ⟨by show _ ≤ _; first | omega | (simp only []; omega), by show _ ≤ _; first | omega | (simp only []; omega)⟩) rfl rfl (fun r109 S110 h => ?_)
                    cases hqr109 : r109 with
                    | none =>
                      replace h := h.1 hqr109
                      show PW p l e _ s m args below meth c _ G _ S110 _ _ _ _ (.null :: [])
                      refine pw_astoreN (pc := 109) C [(5, .null), (4, .int r17), (3, .int r11), (2, .int r5), (0, .ref (G.2.2 + x0)), (1, .int x1)] dX8_readConstraints_109 (by decide) rfl ?_
                      refine pw_aloadN (pc := 111) C 0 dX8_readConstraints_111 rfl ?_
                      refine pw_ifnull_n (pc := 113) (tgt := 123) C dX8_readConstraints_113 rfl ?_
                      refine pw_iconst (pc := 123) (v := 0 ) C dX8_readConstraints_123 (by decide) ?_
                      refine pw_widen (k2 := 19) (n2 := 152) (by omega) (by omega) ?_
                      exact pw_zret (pc := 124) C hr rfl h dX8_readConstraints_124
                    | some o111 =>
                      replace h := h.2 o111 hqr109
                      show PW p l e _ s m args below meth c _ G _ S110 _ _ _ _ (.ref (G.2.2 + o111) :: [])
                      refine pw_astore (pc := 109) C [(5, .ref (G.2.2 + o111)), (4, .int r17), (3, .int r11), (2, .int r5), (0, .ref (G.2.2 + x0)), (1, .int x1)] dX8_readConstraints_109 (by decide) rfl ?_
                      refine pw_aload (pc := 111) C 0 dX8_readConstraints_111 rfl ?_
                      refine pw_ifnull_r (pc := 113) C dX8_readConstraints_113 ?_
                      refine pw_aload_n (pc := 116) C 4 dX8_readConstraints_116 rfl rfl ?_
                      obtain ⟨hk112, h⟩ := h
                      refine pw_calli (pc := 117) (kc2 := (0 + (9 - (n + 1)) * 1 + 1)) (kn2 := (0 + (9 - (n + 1)) * 8 + 4)) (pRunV (pc := 117) C (ctX8_readSemicolon l G hZ  _ x0 _ h) (cwV 0 C.2.2.2.2.1 gX8_readConstraints_X8_readSemicolon rfl rfl rfl (by decide +kernel) ⟨Nat.le_of_ble_eq_true rfl, Nat.le_of_ble_eq_true rfl⟩) pCl6 hk112 rfl rfl (Nat.le_of_ble_eq_true rfl) dX8_readConstraints_117 ⟨by show _ ≤ _; first | omega | (simp only []; omega), by show _ ≤ _; first | omega | (simp only []; omega)⟩) rfl rfl (fun r113 S114 h => ?_)
                      refine pw_if_ne (pc := 120) (tgt := 125) C dX8_readConstraints_120 rfl ⟨fun hc => ?_, fun hc => ?_⟩
                      · replace h := h.1 hc
                        refine pw_aload_n (pc := 125) C 4 dX8_readConstraints_125 rfl rfl ?_
                        obtain ⟨hk115, h⟩ := h
                        obtain ⟨o116, ho116, h⟩ := h
                        refine pw_getR (pc := 126) (ref := "SupportSolver$TextReader") (k := 5) (index := 32) C pCl6 iX8_readConstraints_X8 hk115 rfl (by decide +kernel) (Or.inl rfl) (o := o116) ho116 dX8_readConstraints_126 ?_
                        refine pw_aload (pc := 129) C 0 dX8_readConstraints_129 rfl ?_
                        obtain ⟨hk117, h⟩ := h
                        refine pw_callv (pc := 131) (kc2 := (0 + (9 - (n + 1)) * 1 + 1)) (kn2 := (0 + (9 - (n + 1)) * 8 + 4)) (pRunV (pc := 131) C (ctX6_addConstraint l G hZ  _ o116 o111 _ h) (cwV 1 C.2.2.2.2.1 gX8_readConstraints_X6_addConstraint rfl rfl rfl (by decide +kernel) ⟨Nat.le_of_ble_eq_true rfl, Nat.le_of_ble_eq_true rfl⟩) pCl4 hk117 rfl rfl (Nat.le_of_ble_eq_true rfl) dX8_readConstraints_131 ⟨by show _ ≤ _; first | omega | (simp only []; omega), by show _ ≤ _; first | omega | (simp only []; omega)⟩) rfl rfl (fun S119 h => ?_)
                        refine pw_iincK (pc := 134) (w := 1) C [(1, .int (x1 + 1)), (5, .ref (G.2.2 + o111)), (4, .int r17), (3, .int r11), (2, .int r5), (0, .ref (G.2.2 + x0))] 5 dX8_readConstraints_134 (by decide) rfl (by decide) rfl ?_
                        refine pw_goto (pc := 137) (tgt := 2) C dX8_readConstraints_137 rfl ?_
                        refine pw_sub [5, 0] (LV2 := [(0, .ref (G.2.2 + x0)), (1, .int (x1 + 1))]) rfl ?_
                        refine pw_widen (k2 := (0 + (9 - n) * 1 + 0)) (n2 := (0 + (9 - n) * 8 + 0)) (by omega) (by omega) ?_
                        exact ih (by omega) _ _ _ h
                      · replace h := h.2 hc
                        refine pw_iconst (pc := 123) (v := 0 ) C dX8_readConstraints_123 (by decide) ?_
                        refine pw_widen (k2 := 19) (n2 := 152) (by omega) (by omega) ?_
                        exact pw_zret (pc := 124) C hr rfl h dX8_readConstraints_124
                  · replace h := h.2 hc
                    refine pw_aload_n (pc := 96) C 3 dX8_readConstraints_96 rfl rfl ?_
                    obtain ⟨hk120, h⟩ := h
                    refine pw_callq (pc := 97) (kc2 := (0 + (9 - (n + 1)) * 1 + 1)) (kn2 := (0 + (9 - (n + 1)) * 8 + 8)) (pRunV (pc := 97) C (ctX8_readWindow l G hZ  _ x0 _ h) (cwV 0 C.2.2.2.2.1 gX8_readConstraints_X8_readWindow rfl rfl rfl (by decide +kernel) ⟨Nat.le_of_ble_eq_true rfl, Nat.le_of_ble_eq_true rfl⟩) pCl6 hk120 rfl rfl (Nat.le_of_ble_eq_true rfl) dX8_readConstraints_97 ⟨by show _ ≤ _; first | omega | (simp only []; omega), by show _ ≤ _; first | omega | (simp only []; omega)⟩) rfl rfl (fun r121 S122 h => ?_)
                    cases hqr121 : r121 with
                    | none =>
                      replace h := h.1 hqr121
                      show PW p l e _ s m args below meth c _ G _ S122 _ _ _ _ (.null :: [])
                      refine pw_goto (pc := 100) (tgt := 109) C dX8_readConstraints_100 rfl ?_
                      refine pw_astoreN (pc := 109) C [(5, .null), (4, .int r17), (3, .int r11), (2, .int r5), (0, .ref (G.2.2 + x0)), (1, .int x1)] dX8_readConstraints_109 (by decide) rfl ?_
                      refine pw_aloadN (pc := 111) C 0 dX8_readConstraints_111 rfl ?_
                      refine pw_ifnull_n (pc := 113) (tgt := 123) C dX8_readConstraints_113 rfl ?_
                      refine pw_iconst (pc := 123) (v := 0 ) C dX8_readConstraints_123 (by decide) ?_
                      refine pw_widen (k2 := 19) (n2 := 152) (by omega) (by omega) ?_
                      exact pw_zret (pc := 124) C hr rfl h dX8_readConstraints_124
                    | some o123 =>
                      replace h := h.2 o123 hqr121
                      show PW p l e _ s m args below meth c _ G _ S122 _ _ _ _ (.ref (G.2.2 + o123) :: [])
                      refine pw_goto (pc := 100) (tgt := 109) C dX8_readConstraints_100 rfl ?_
                      refine pw_astore (pc := 109) C [(5, .ref (G.2.2 + o123)), (4, .int r17), (3, .int r11), (2, .int r5), (0, .ref (G.2.2 + x0)), (1, .int x1)] dX8_readConstraints_109 (by decide) rfl ?_
                      refine pw_aload (pc := 111) C 0 dX8_readConstraints_111 rfl ?_
                      refine pw_ifnull_r (pc := 113) C dX8_readConstraints_113 ?_
                      refine pw_aload_n (pc := 116) C 4 dX8_readConstraints_116 rfl rfl ?_
                      obtain ⟨hk124, h⟩ := h
                      refine pw_calli (pc := 117) (kc2 := (0 + (9 - (n + 1)) * 1 + 1)) (kn2 := (0 + (9 - (n + 1)) * 8 + 8)) (pRunV (pc := 117) C (ctX8_readSemicolon l G hZ  _ x0 _ h) (cwV 0 C.2.2.2.2.1 gX8_readConstraints_X8_readSemicolon rfl rfl rfl (by decide +kernel) ⟨Nat.le_of_ble_eq_true rfl, Nat.le_of_ble_eq_true rfl⟩) pCl6 hk124 rfl rfl (Nat.le_of_ble_eq_true rfl) dX8_readConstraints_117 ⟨by show _ ≤ _; first | omega | (simp only []; omega), by show _ ≤ _; first | omega | (simp only []; omega)⟩) rfl rfl (fun r125 S126 h => ?_)
                      refine pw_if_ne (pc := 120) (tgt := 125) C dX8_readConstraints_120 rfl ⟨fun hc => ?_, fun hc => ?_⟩
                      · replace h := h.1 hc
                        refine pw_aload_n (pc := 125) C 4 dX8_readConstraints_125 rfl rfl ?_
                        obtain ⟨hk127, h⟩ := h
                        obtain ⟨o128, ho128, h⟩ := h
                        refine pw_getR (pc := 126) (ref := "SupportSolver$TextReader") (k := 5) (index := 32) C pCl6 iX8_readConstraints_X8 hk127 rfl (by decide +kernel) (Or.inl rfl) (o := o128) ho128 dX8_readConstraints_126 ?_
                        refine pw_aload (pc := 129) C 0 dX8_readConstraints_129 rfl ?_
                        obtain ⟨hk129, h⟩ := h
                        refine pw_callv (pc := 131) (kc2 := (0 + (9 - (n + 1)) * 1 + 1)) (kn2 := (0 + (9 - (n + 1)) * 8 + 8)) (pRunV (pc := 131) C (ctX6_addConstraint l G hZ  _ o128 o123 _ h) (cwV 1 C.2.2.2.2.1 gX8_readConstraints_X6_addConstraint rfl rfl rfl (by decide +kernel) ⟨Nat.le_of_ble_eq_true rfl, Nat.le_of_ble_eq_true rfl⟩) pCl4 hk129 rfl rfl (Nat.le_of_ble_eq_true rfl) dX8_readConstraints_131 ⟨by show _ ≤ _; first | omega | (simp only []; omega), by show _ ≤ _; first | omega | (simp only []; omega)⟩) rfl rfl (fun S131 h => ?_)
                        refine pw_iincK (pc := 134) (w := 1) C [(1, .int (x1 + 1)), (5, .ref (G.2.2 + o123)), (4, .int r17), (3, .int r11), (2, .int r5), (0, .ref (G.2.2 + x0))] 5 dX8_readConstraints_134 (by decide) rfl (by decide) rfl ?_
                        refine pw_goto (pc := 137) (tgt := 2) C dX8_readConstraints_137 rfl ?_
                        refine pw_sub [5, 0] (LV2 := [(0, .ref (G.2.2 + x0)), (1, .int (x1 + 1))]) rfl ?_
                        refine pw_widen (k2 := (0 + (9 - n) * 1 + 0)) (n2 := (0 + (9 - n) * 8 + 0)) (by omega) (by omega) ?_
                        exact ih (by omega) _ _ _ h
                      · replace h := h.2 hc
                        refine pw_iconst (pc := 123) (v := 0 ) C dX8_readConstraints_123 (by decide) ?_
                        refine pw_widen (k2 := 19) (n2 := 152) (by omega) (by omega) ?_
                        exact pw_zret (pc := 124) C hr rfl h dX8_readConstraints_124
                · replace h := h.2 hc
                  refine pw_aload_n (pc := 85) C 3 dX8_readConstraints_85 rfl rfl ?_
                  obtain ⟨hk132, h⟩ := h
                  refine pw_callq (pc := 86) (kc2 := (0 + (9 - (n + 1)) * 1 + 1)) (kn2 := (0 + (9 - (n + 1)) * 8 + 7)) (pRunV (pc := 86) C (ctX8_readCounts l G hZ  _ x0 _ h) (cwV 0 C.2.2.2.2.1 gX8_readConstraints_X8_readCounts rfl rfl rfl (by decide +kernel) ⟨Nat.le_of_ble_eq_true rfl, Nat.le_of_ble_eq_true rfl⟩) pCl6 hk132 rfl rfl (Nat.le_of_ble_eq_true rfl) dX8_readConstraints_86 ⟨by show _ ≤ _; first | omega | (simp only []; omega), by show _ ≤ _; first | omega | (simp only []; omega)⟩) rfl rfl (fun r133 S134 h => ?_)
                  cases hqr133 : r133 with
                  | none =>
                    replace h := h.1 hqr133
                    show PW p l e _ s m args below meth c _ G _ S134 _ _ _ _ (.null :: [])
                    refine pw_goto (pc := 89) (tgt := 109) C dX8_readConstraints_89 rfl ?_
                    refine pw_astoreN (pc := 109) C [(5, .null), (4, .int r17), (3, .int r11), (2, .int r5), (0, .ref (G.2.2 + x0)), (1, .int x1)] dX8_readConstraints_109 (by decide) rfl ?_
                    refine pw_aloadN (pc := 111) C 0 dX8_readConstraints_111 rfl ?_
                    refine pw_ifnull_n (pc := 113) (tgt := 123) C dX8_readConstraints_113 rfl ?_
                    refine pw_iconst (pc := 123) (v := 0 ) C dX8_readConstraints_123 (by decide) ?_
                    refine pw_widen (k2 := 19) (n2 := 152) (by omega) (by omega) ?_
                    exact pw_zret (pc := 124) C hr rfl h dX8_readConstraints_124
                  | some o135 =>
                    replace h := h.2 o135 hqr133
                    show PW p l e _ s m args below meth c _ G _ S134 _ _ _ _ (.ref (G.2.2 + o135) :: [])
                    refine pw_goto (pc := 89) (tgt := 109) C dX8_readConstraints_89 rfl ?_
                    refine pw_astore (pc := 109) C [(5, .ref (G.2.2 + o135)), (4, .int r17), (3, .int r11), (2, .int r5), (0, .ref (G.2.2 + x0)), (1, .int x1)] dX8_readConstraints_109 (by decide) rfl ?_
                    refine pw_aload (pc := 111) C 0 dX8_readConstraints_111 rfl ?_
                    refine pw_ifnull_r (pc := 113) C dX8_readConstraints_113 ?_
                    refine pw_aload_n (pc := 116) C 4 dX8_readConstraints_116 rfl rfl ?_
                    obtain ⟨hk136, h⟩ := h
                    refine pw_calli (pc := 117) (kc2 := (0 + (9 - (n + 1)) * 1 + 1)) (kn2 := (0 + (9 - (n + 1)) * 8 + 7)) (pRunV (pc := 117) C (ctX8_readSemicolon l G hZ  _ x0 _ h) (cwV 0 C.2.2.2.2.1 gX8_readConstraints_X8_readSemicolon rfl rfl rfl (by decide +kernel) ⟨Nat.le_of_ble_eq_true rfl, Nat.le_of_ble_eq_true rfl⟩) pCl6 hk136 rfl rfl (Nat.le_of_ble_eq_true rfl) dX8_readConstraints_117 ⟨by show _ ≤ _; first | omega | (simp only []; omega), by show _ ≤ _; first | omega | (simp only []; omega)⟩) rfl rfl (fun r137 S138 h => ?_)
                    refine pw_if_ne (pc := 120) (tgt := 125) C dX8_readConstraints_120 rfl ⟨fun hc => ?_, fun hc => ?_⟩
                    · replace h := h.1 hc
                      refine pw_aload_n (pc := 125) C 4 dX8_readConstraints_125 rfl rfl ?_
                      obtain ⟨hk139, h⟩ := h
                      obtain ⟨o140, ho140, h⟩ := h
                      refine pw_getR (pc := 126) (ref := "SupportSolver$TextReader") (k := 5) (index := 32) C pCl6 iX8_readConstraints_X8 hk139 rfl (by decide +kernel) (Or.inl rfl) (o := o140) ho140 dX8_readConstraints_126 ?_
                      refine pw_aload (pc := 129) C 0 dX8_readConstraints_129 rfl ?_
                      obtain ⟨hk141, h⟩ := h
                      refine pw_callv (pc := 131) (kc2 := (0 + (9 - (n + 1)) * 1 + 1)) (kn2 := (0 + (9 - (n + 1)) * 8 + 7)) (pRunV (pc := 131) C (ctX6_addConstraint l G hZ  _ o140 o135 _ h) (cwV 1 C.2.2.2.2.1 gX8_readConstraints_X6_addConstraint rfl rfl rfl (by decide +kernel) ⟨Nat.le_of_ble_eq_true rfl, Nat.le_of_ble_eq_true rfl⟩) pCl4 hk141 rfl rfl (Nat.le_of_ble_eq_true rfl) dX8_readConstraints_131 ⟨by show _ ≤ _; first | omega | (simp only []; omega), by show _ ≤ _; first | omega | (simp only []; omega)⟩) rfl rfl (fun S143 h => ?_)
                      refine pw_iincK (pc := 134) (w := 1) C [(1, .int (x1 + 1)), (5, .ref (G.2.2 + o135)), (4, .int r17), (3, .int r11), (2, .int r5), (0, .ref (G.2.2 + x0))] 5 dX8_readConstraints_134 (by decide) rfl (by decide) rfl ?_
                      refine pw_goto (pc := 137) (tgt := 2) C dX8_readConstraints_137 rfl ?_
                      refine pw_sub [5, 0] (LV2 := [(0, .ref (G.2.2 + x0)), (1, .int (x1 + 1))]) rfl ?_
                      refine pw_widen (k2 := (0 + (9 - n) * 1 + 0)) (n2 := (0 + (9 - n) * 8 + 0)) (by omega) (by omega) ?_
                      exact ih (by omega) _ _ _ h
                    · replace h := h.2 hc
                      refine pw_iconst (pc := 123) (v := 0 ) C dX8_readConstraints_123 (by decide) ?_
                      refine pw_widen (k2 := 19) (n2 := 152) (by omega) (by omega) ?_
                      exact pw_zret (pc := 124) C hr rfl h dX8_readConstraints_124
              · replace h := h.2 hc
                refine pw_aload_n (pc := 71) C 3 dX8_readConstraints_71 rfl rfl ?_
                refine pw_iconst (pc := 72) (v := 4 ) C dX8_readConstraints_72 (by decide) ?_
                obtain ⟨hk144, h⟩ := h
                refine pw_calli (pc := 73) (kc2 := (0 + (9 - (n + 1)) * 1 + 0)) (kn2 := (0 + (9 - (n + 1)) * 8 + 0)) (pRunV (pc := 73) C (ctX8_fail l G hZ  _ x0 (4 : Int32) _ h) (cwV 1 C.2.2.2.2.1 gX8_readConstraints_X8_fail rfl rfl rfl (by decide +kernel) ⟨Nat.le_of_ble_eq_true rfl, Nat.le_of_ble_eq_true rfl⟩) pCl6 hk144 rfl rfl (Nat.le_of_ble_eq_true rfl) dX8_readConstraints_73 ⟨by show _ ≤ _; first | omega | (simp only []; omega), by show _ ≤ _; first | omega | (simp only []; omega)⟩) rfl rfl (fun r145 S146 h => ?_)
                refine pw_widen (k2 := 19) (n2 := 152) (by omega) (by omega) ?_
                obtain ⟨hb147, h⟩ := h
                exact pw_zret (pc := 76) C hr (nar_bool hb147) h dX8_readConstraints_76
            · replace h := h.2 hc
              refine pw_aload_n (pc := 50) C 3 dX8_readConstraints_50 rfl rfl ?_
              obtain ⟨q148, z149, hq150⟩ := (hZ.2.2.2.2.2.2.2.2.2.2.2.2.2.2.2.2.2.2.2.2.2.2.2.2.1)
              refine pw_ldcS (pc := 51) C z149 dX8_readConstraints_51 ?_
              obtain ⟨hk151, h⟩ := h
              refine pw_calli (pc := 53) (kc2 := (0 + (9 - (n + 1)) * 1 + 0)) (kn2 := (0 + (9 - (n + 1)) * 8 + 0)) (pRunV (pc := 53) C (ctX8_isWord l G hZ [100, 105, 102, 102, 101, 114] q148 hq150 (by decide)  _ x0 _ h) (cwV 1 C.2.2.2.2.1 gX8_readConstraints_X8_isWord rfl rfl rfl (by decide +kernel) ⟨Nat.le_of_ble_eq_true rfl, Nat.le_of_ble_eq_true rfl⟩) pCl6 hk151 rfl rfl (Nat.le_of_ble_eq_true rfl) dX8_readConstraints_53 ⟨by show _ ≤ _; first | omega | (simp only []; omega), by show _ ≤ _; first | omega | (simp only []; omega)⟩) rfl rfl (fun r152 S153 h => ?_)
              refine pw_if_ne (pc := 56) (tgt := 65) C dX8_readConstraints_56 rfl ⟨fun hc => ?_, fun hc => ?_⟩
              · replace h := h.1 hc
                refine pw_iload_n (pc := 65) C 4 dX8_readConstraints_65 rfl rfl ?_
                refine pw_bipush (pc := 66) (v := 8 ) C dX8_readConstraints_66 (by decide) ?_
                refine pw_icmp_ne (pc := 68) (tgt := 77) C dX8_readConstraints_68 rfl ⟨fun hc => ?_, fun hc => ?_⟩
                · replace h := h.1 hc
                  refine pw_aload_n (pc := 77) C 3 dX8_readConstraints_77 rfl rfl ?_
                  obtain ⟨hk154, h⟩ := h
                  refine pw_callv (pc := 78) (kc2 := (0 + (9 - (n + 1)) * 1 + 0)) (kn2 := (0 + (9 - (n + 1)) * 8 + 0)) (pRunV (pc := 78) C (ctX8_nextToken l G hZ  _ x0 _ h) (cwV 0 C.2.2.2.2.1 gX8_readConstraints_X8_nextToken rfl rfl rfl (by decide +kernel) ⟨Nat.le_of_ble_eq_true rfl, Nat.le_of_ble_eq_true rfl⟩) pCl6 hk154 rfl rfl (Nat.le_of_ble_eq_true rfl) dX8_readConstraints_78 ⟨by show _ ≤ _; first | omega | (simp only []; omega), by show _ ≤ _; first | omega | (simp only []; omega)⟩) rfl rfl (fun S156 h => ?_)
                  refine pw_iload_n (pc := 81) C 2 dX8_readConstraints_81 rfl rfl ?_
                  refine pw_if_eq (pc := 82) (tgt := 92) C dX8_readConstraints_82 rfl ⟨fun hc => ?_, fun hc => ?_⟩
                  · replace h := h.1 hc
                    refine pw_iload_n (pc := 92) C 1 dX8_readConstraints_92 rfl rfl ?_
                    refine pw_if_eq (pc := 93) (tgt := 103) C dX8_readConstraints_93 rfl ⟨fun hc => ?_, fun hc => ?_⟩
                    · replace h := h.1 hc
                      refine pw_aload_n (pc := 103) C 3 dX8_readConstraints_103 rfl rfl ?_
                      refine pw_iload (pc := 104) C 0 dX8_readConstraints_104 rfl ?_
                      obtain ⟨hk157, h⟩ := h
                      refine pw_callq (pc := 106) (kc2 := (0 + (9 - (n + 1)) * 1 + 1)) (kn2 := (0 + (9 - (n + 1)) * 8 + 4)) (pRunV (pc := 106) C (ctX8_readComparison l G hZ  _ x0 r17 _ h) (cwV 1 C.2.2.2.2.1 gX8_readConstraints_X8_readComparison rfl rfl rfl (by decide +kernel) ⟨Nat.le_of_ble_eq_true rfl, Nat.le_of_ble_eq_true rfl⟩) pCl6 hk157 rfl rfl (Nat.le_of_ble_eq_true rfl) dX8_readConstraints_106 ⟨by show _ ≤ _; first | omega | (simp only []; omega), by show _ ≤ _; first | omega | (simp only []; omega)⟩) rfl rfl (fun r158 S159 h => ?_)
                      cases hqr158 : r158 with
                      | none =>
                        replace h := h.1 hqr158
                        show PW p l e _ s m args below meth c _ G _ S159 _ _ _ _ (.null :: [])
                        refine pw_astoreN (pc := 109) C [(5, .null), (4, .int r17), (3, .int r11), (2, .int r5), (0, .ref (G.2.2 + x0)), (1, .int x1)] dX8_readConstraints_109 (by decide) rfl ?_
                        refine pw_aloadN (pc := 111) C 0 dX8_readConstraints_111 rfl ?_
                        refine pw_ifnull_n (pc := 113) (tgt := 123) C dX8_readConstraints_113 rfl ?_
                        refine pw_iconst (pc := 123) (v := 0 ) C dX8_readConstraints_123 (by decide) ?_
                        refine pw_widen (k2 := 19) (n2 := 152) (by omega) (by omega) ?_
                        exact pw_zret (pc := 124) C hr rfl h dX8_readConstraints_124
                      | some o160 =>
                        replace h := h.2 o160 hqr158
                        show PW p l e _ s m args below meth c _ G _ S159 _ _ _ _ (.ref (G.2.2 + o160) :: [])
                        refine pw_astore (pc := 109) C [(5, .ref (G.2.2 + o160)), (4, .int r17), (3, .int r11), (2, .int r5), (0, .ref (G.2.2 + x0)), (1, .int x1)] dX8_readConstraints_109 (by decide) rfl ?_
                        refine pw_aload (pc := 111) C 0 dX8_readConstraints_111 rfl ?_
                        refine pw_ifnull_r (pc := 113) C dX8_readConstraints_113 ?_
                        refine pw_aload_n (pc := 116) C 4 dX8_readConstraints_116 rfl rfl ?_
                        obtain ⟨hk161, h⟩ := h
                        refine pw_calli (pc := 117) (kc2 := (0 + (9 - (n + 1)) * 1 + 1)) (kn2 := (0 + (9 - (n + 1)) * 8 + 4)) (pRunV (pc := 117) C (ctX8_readSemicolon l G hZ  _ x0 _ h) (cwV 0 C.2.2.2.2.1 gX8_readConstraints_X8_readSemicolon rfl rfl rfl (by decide +kernel) ⟨Nat.le_of_ble_eq_true rfl, Nat.le_of_ble_eq_true rfl⟩) pCl6 hk161 rfl rfl (Nat.le_of_ble_eq_true rfl) dX8_readConstraints_117 ⟨by show _ ≤ _; first | omega | (simp only []; omega), by show _ ≤ _; first | omega | (simp only []; omega)⟩) rfl rfl (fun r162 S163 h => ?_)
                        refine pw_if_ne (pc := 120) (tgt := 125) C dX8_readConstraints_120 rfl ⟨fun hc => ?_, fun hc => ?_⟩
                        · replace h := h.1 hc
                          refine pw_aload_n (pc := 125) C 4 dX8_readConstraints_125 rfl rfl ?_
                          obtain ⟨hk164, h⟩ := h
                          obtain ⟨o165, ho165, h⟩ := h
                          refine pw_getR (pc := 126) (ref := "SupportSolver$TextReader") (k := 5) (index := 32) C pCl6 iX8_readConstraints_X8 hk164 rfl (by decide +kernel) (Or.inl rfl) (o := o165) ho165 dX8_readConstraints_126 ?_
                          refine pw_aload (pc := 129) C 0 dX8_readConstraints_129 rfl ?_
                          obtain ⟨hk166, h⟩ := h
                          refine pw_callv (pc := 131) (kc2 := (0 + (9 - (n + 1)) * 1 + 1)) (kn2 := (0 + (9 - (n + 1)) * 8 + 4)) (pRunV (pc := 131) C (ctX6_addConstraint l G hZ  _ o165 o160 _ h) (cwV 1 C.2.2.2.2.1 gX8_readConstraints_X6_addConstraint rfl rfl rfl (by decide +kernel) ⟨Nat.le_of_ble_eq_true rfl, Nat.le_of_ble_eq_true rfl⟩) pCl4 hk166 rfl rfl (Nat.le_of_ble_eq_true rfl) dX8_readConstraints_131 ⟨by show _ ≤ _; first | omega | (simp only []; omega), by show _ ≤ _; first | omega | (simp only []; omega)⟩) rfl rfl (fun S168 h => ?_)
                          refine pw_iincK (pc := 134) (w := 1) C [(1, .int (x1 + 1)), (5, .ref (G.2.2 + o160)), (4, .int r17), (3, .int r11), (2, .int r5), (0, .ref (G.2.2 + x0))] 5 dX8_readConstraints_134 (by decide) rfl (by decide) rfl ?_
                          refine pw_goto (pc := 137) (tgt := 2) C dX8_readConstraints_137 rfl ?_
                          refine pw_sub [5, 0] (LV2 := [(0, .ref (G.2.2 + x0)), (1, .int (x1 + 1))]) rfl ?_
                          refine pw_widen (k2 := (0 + (9 - n) * 1 + 0)) (n2 := (0 + (9 - n) * 8 + 0)) (by omega) (by omega) ?_
                          exact ih (by omega) _ _ _ h
                        · replace h := h.2 hc
                          refine pw_iconst (pc := 123) (v := 0 ) C dX8_readConstraints_123 (by decide) ?_
                          refine pw_widen (k2 := 19) (n2 := 152) (by omega) (by omega) ?_
                          exact pw_zret (pc := 124) C hr rfl h dX8_readConstraints_124
                    · replace h := h.2 hc
                      refine pw_aload_n (pc := 96) C 3 dX8_readConstraints_96 rfl rfl ?_
                      obtain ⟨hk169, h⟩ := h
                      refine pw_callq (pc := 97) (kc2 := (0 + (9 - (n + 1)) * 1 + 1)) (kn2 := (0 + (9 - (n + 1)) * 8 + 8)) (pRunV (pc := 97) C (ctX8_readWindow l G hZ  _ x0 _ h) (cwV 0 C.2.2.2.2.1 gX8_readConstraints_X8_readWindow rfl rfl rfl (by decide +kernel) ⟨Nat.le_of_ble_eq_true rfl, Nat.le_of_ble_eq_true rfl⟩) pCl6 hk169 rfl rfl (Nat.le_of_ble_eq_true rfl) dX8_readConstraints_97 ⟨by show _ ≤ _; first | omega | (simp only []; omega), by show _ ≤ _; first | omega | (simp only []; omega)⟩) rfl rfl (fun r170 S171 h => ?_)
                      cases hqr170 : r170 with
                      | none =>
                        replace h := h.1 hqr170
                        show PW p l e _ s m args below meth c _ G _ S171 _ _ _ _ (.null :: [])
                        refine pw_goto (pc := 100) (tgt := 109) C dX8_readConstraints_100 rfl ?_
                        refine pw_astoreN (pc := 109) C [(5, .null), (4, .int r17), (3, .int r11), (2, .int r5), (0, .ref (G.2.2 + x0)), (1, .int x1)] dX8_readConstraints_109 (by decide) rfl ?_
                        refine pw_aloadN (pc := 111) C 0 dX8_readConstraints_111 rfl ?_
                        refine pw_ifnull_n (pc := 113) (tgt := 123) C dX8_readConstraints_113 rfl ?_
                        refine pw_iconst (pc := 123) (v := 0 ) C dX8_readConstraints_123 (by decide) ?_
                        refine pw_widen (k2 := 19) (n2 := 152) (by omega) (by omega) ?_
                        exact pw_zret (pc := 124) C hr rfl h dX8_readConstraints_124
                      | some o172 =>
                        replace h := h.2 o172 hqr170
                        show PW p l e _ s m args below meth c _ G _ S171 _ _ _ _ (.ref (G.2.2 + o172) :: [])
                        refine pw_goto (pc := 100) (tgt := 109) C dX8_readConstraints_100 rfl ?_
                        refine pw_astore (pc := 109) C [(5, .ref (G.2.2 + o172)), (4, .int r17), (3, .int r11), (2, .int r5), (0, .ref (G.2.2 + x0)), (1, .int x1)] dX8_readConstraints_109 (by decide) rfl ?_
                        refine pw_aload (pc := 111) C 0 dX8_readConstraints_111 rfl ?_
                        refine pw_ifnull_r (pc := 113) C dX8_readConstraints_113 ?_
                        refine pw_aload_n (pc := 116) C 4 dX8_readConstraints_116 rfl rfl ?_
                        obtain ⟨hk173, h⟩ := h
                        refine pw_calli (pc := 117) (kc2 := (0 + (9 - (n + 1)) * 1 + 1)) (kn2 := (0 + (9 - (n + 1)) * 8 + 8)) (pRunV (pc := 117) C (ctX8_readSemicolon l G hZ  _ x0 _ h) (cwV 0 C.2.2.2.2.1 gX8_readConstraints_X8_readSemicolon rfl rfl rfl (by decide +kernel) ⟨Nat.le_of_ble_eq_true rfl, Nat.le_of_ble_eq_true rfl⟩) pCl6 hk173 rfl rfl (Nat.le_of_ble_eq_true rfl) dX8_readConstraints_117 ⟨by show _ ≤ _; first | omega | (simp only []; omega), by show _ ≤ _; first | omega | (simp only []; omega)⟩) rfl rfl (fun r174 S175 h => ?_)
                        refine pw_if_ne (pc := 120) (tgt := 125) C dX8_readConstraints_120 rfl ⟨fun hc => ?_, fun hc => ?_⟩
                        · replace h := h.1 hc
                          refine pw_aload_n (pc := 125) C 4 dX8_readConstraints_125 rfl rfl ?_
                          obtain ⟨hk176, h⟩ := h
                          obtain ⟨o177, ho177, h⟩ := h
                          refine pw_getR (pc := 126) (ref := "SupportSolver$TextReader") (k := 5) (index := 32) C pCl6 iX8_readConstraints_X8 hk176 rfl (by decide +kernel) (Or.inl rfl) (o := o177) ho177 dX8_readConstraints_126 ?_
                          refine pw_aload (pc := 129) C 0 dX8_readConstraints_129 rfl ?_
                          obtain ⟨hk178, h⟩ := h
                          refine pw_callv (pc := 131) (kc2 := (0 + (9 - (n + 1)) * 1 + 1)) (kn2 := (0 + (9 - (n + 1)) * 8 + 8)) (pRunV (pc := 131) C (ctX6_addConstraint l G hZ  _ o177 o172 _ h) (cwV 1 C.2.2.2.2.1 gX8_readConstraints_X6_addConstraint rfl rfl rfl (by decide +kernel) ⟨Nat.le_of_ble_eq_true rfl, Nat.le_of_ble_eq_true rfl⟩) pCl4 hk178 rfl rfl (Nat.le_of_ble_eq_true rfl) dX8_readConstraints_131 ⟨by show _ ≤ _; first | omega | (simp only []; omega), by show _ ≤ _; first | omega | (simp only []; omega)⟩) rfl rfl (fun S180 h => ?_)
                          refine pw_iincK (pc := 134) (w := 1) C [(1, .int (x1 + 1)), (5, .ref (G.2.2 + o172)), (4, .int r17), (3, .int r11), (2, .int r5), (0, .ref (G.2.2 + x0))] 5 dX8_readConstraints_134 (by decide) rfl (by decide) rfl ?_
                          refine pw_goto (pc := 137) (tgt := 2) C dX8_readConstraints_137 rfl ?_
                          refine pw_sub [5, 0] (LV2 := [(0, .ref (G.2.2 + x0)), (1, .int (x1 + 1))]) rfl ?_
                          refine pw_widen (k2 := (0 + (9 - n) * 1 + 0)) (n2 := (0 + (9 - n) * 8 + 0)) (by omega) (by omega) ?_
                          exact ih (by omega) _ _ _ h
                        · replace h := h.2 hc
                          refine pw_iconst (pc := 123) (v := 0 ) C dX8_readConstraints_123 (by decide) ?_
                          refine pw_widen (k2 := 19) (n2 := 152) (by omega) (by omega) ?_
                          exact pw_zret (pc := 124) C hr rfl h dX8_readConstraints_124
                  · replace h := h.2 hc
                    refine pw_aload_n (pc := 85) C 3 dX8_readConstraints_85 rfl rfl ?_
                    obtain ⟨hk181, h⟩ := h
                    refine pw_callq (pc := 86) (kc2 := (0 + (9 - (n + 1)) * 1 + 1)) (kn2 := (0 + (9 - (n + 1)) * 8 + 7)) (pRunV (pc := 86) C (ctX8_readCounts l G hZ  _ x0 _ h) (cwV 0 C.2.2.2.2.1 gX8_readConstraints_X8_readCounts rfl rfl rfl (by decide +kernel) ⟨Nat.le_of_ble_eq_true rfl, Nat.le_of_ble_eq_true rfl⟩) pCl6 hk181 rfl rfl (Nat.le_of_ble_eq_true rfl) dX8_readConstraints_86 ⟨by show _ ≤ _; first | omega | (simp only []; omega), by show _ ≤ _; first | omega | (simp only []; omega)⟩) rfl rfl (fun r182 S183 h => ?_)
                    cases hqr182 : r182 with
                    | none =>
                      replace h := h.1 hqr182
                      show PW p l e _ s m args below meth c _ G _ S183 _ _ _ _ (.null :: [])
                      refine pw_goto (pc := 89) (tgt := 109) C dX8_readConstraints_89 rfl ?_
                      refine pw_astoreN (pc := 109) C [(5, .null), (4, .int r17), (3, .int r11), (2, .int r5), (0, .ref (G.2.2 + x0)), (1, .int x1)] dX8_readConstraints_109 (by decide) rfl ?_
                      refine pw_aloadN (pc := 111) C 0 dX8_readConstraints_111 rfl ?_
                      refine pw_ifnull_n (pc := 113) (tgt := 123) C dX8_readConstraints_113 rfl ?_
                      refine pw_iconst (pc := 123) (v := 0 ) C dX8_readConstraints_123 (by decide) ?_
                      refine pw_widen (k2 := 19) (n2 := 152) (by omega) (by omega) ?_
                      exact pw_zret (pc := 124) C hr rfl h dX8_readConstraints_124
                    | some o184 =>
                      replace h := h.2 o184 hqr182
                      show PW p l e _ s m args below meth c _ G _ S183 _ _ _ _ (.ref (G.2.2 + o184) :: [])
                      refine pw_goto (pc := 89) (tgt := 109) C dX8_readConstraints_89 rfl ?_
                      refine pw_astore (pc := 109) C [(5, .ref (G.2.2 + o184)), (4, .int r17), (3, .int r11), (2, .int r5), (0, .ref (G.2.2 + x0)), (1, .int x1)] dX8_readConstraints_109 (by decide) rfl ?_
                      refine pw_aload (pc := 111) C 0 dX8_readConstraints_111 rfl ?_
                      refine pw_ifnull_r (pc := 113) C dX8_readConstraints_113 ?_
                      refine pw_aload_n (pc := 116) C 4 dX8_readConstraints_116 rfl rfl ?_
                      obtain ⟨hk185, h⟩ := h
                      refine pw_calli (pc := 117) (kc2 := (0 + (9 - (n + 1)) * 1 + 1)) (kn2 := (0 + (9 - (n + 1)) * 8 + 7)) (pRunV (pc := 117) C (ctX8_readSemicolon l G hZ  _ x0 _ h) (cwV 0 C.2.2.2.2.1 gX8_readConstraints_X8_readSemicolon rfl rfl rfl (by decide +kernel) ⟨Nat.le_of_ble_eq_true rfl, Nat.le_of_ble_eq_true rfl⟩) pCl6 hk185 rfl rfl (Nat.le_of_ble_eq_true rfl) dX8_readConstraints_117 ⟨by show _ ≤ _; first | omega | (simp only []; omega), by show _ ≤ _; first | omega | (simp only []; omega)⟩) rfl rfl (fun r186 S187 h => ?_)
                      refine pw_if_ne (pc := 120) (tgt := 125) C dX8_readConstraints_120 rfl ⟨fun hc => ?_, fun hc => ?_⟩
                      · replace h := h.1 hc
                        refine pw_aload_n (pc := 125) C 4 dX8_readConstraints_125 rfl rfl ?_
                        obtain ⟨hk188, h⟩ := h
                        obtain ⟨o189, ho189, h⟩ := h
                        refine pw_getR (pc := 126) (ref := "SupportSolver$TextReader") (k := 5) (index := 32) C pCl6 iX8_readConstraints_X8 hk188 rfl (by decide +kernel) (Or.inl rfl) (o := o189) ho189 dX8_readConstraints_126 ?_
                        refine pw_aload (pc := 129) C 0 dX8_readConstraints_129 rfl ?_
                        obtain ⟨hk190, h⟩ := h
                        refine pw_callv (pc := 131) (kc2 := (0 + (9 - (n + 1)) * 1 + 1)) (kn2 := (0 + (9 - (n + 1)) * 8 + 7)) (pRunV (pc := 131) C (ctX6_addConstraint l G hZ  _ o189 o184 _ h) (cwV 1 C.2.2.2.2.1 gX8_readConstraints_X6_addConstraint rfl rfl rfl (by decide +kernel) ⟨Nat.le_of_ble_eq_true rfl, Nat.le_of_ble_eq_true rfl⟩) pCl4 hk190 rfl rfl (Nat.le_of_ble_eq_true rfl) dX8_readConstraints_131 ⟨by show _ ≤ _; first | omega | (simp only []; omega), by show _ ≤ _; first | omega | (simp only []; omega)⟩) rfl rfl (fun S192 h => ?_)
                        refine pw_iincK (pc := 134) (w := 1) C [(1, .int (x1 + 1)), (5, .ref (G.2.2 + o184)), (4, .int r17), (3, .int r11), (2, .int r5), (0, .ref (G.2.2 + x0))] 5 dX8_readConstraints_134 (by decide) rfl (by decide) rfl ?_
                        refine pw_goto (pc := 137) (tgt := 2) C dX8_readConstraints_137 rfl ?_
                        refine pw_sub [5, 0] (LV2 := [(0, .ref (G.2.2 + x0)), (1, .int (x1 + 1))]) rfl ?_
                        refine pw_widen (k2 := (0 + (9 - n) * 1 + 0)) (n2 := (0 + (9 - n) * 8 + 0)) (by omega) (by omega) ?_
                        exact ih (by omega) _ _ _ h
                      · replace h := h.2 hc
                        refine pw_iconst (pc := 123) (v := 0 ) C dX8_readConstraints_123 (by decide) ?_
                        refine pw_widen (k2 := 19) (n2 := 152) (by omega) (by omega) ?_
                        exact pw_zret (pc := 124) C hr rfl h dX8_readConstraints_124
                · replace h := h.2 hc
                  refine pw_aload_n (pc := 71) C 3 dX8_readConstraints_71 rfl rfl ?_
                  refine pw_iconst (pc := 72) (v := 4 ) C dX8_readConstraints_72 (by decide) ?_
                  obtain ⟨hk193, h⟩ := h
                  refine pw_calli (pc := 73) (kc2 := (0 + (9 - (n + 1)) * 1 + 0)) (kn2 := (0 + (9 - (n + 1)) * 8 + 0)) (pRunV (pc := 73) C (ctX8_fail l G hZ  _ x0 (4 : Int32) _ h) (cwV 1 C.2.2.2.2.1 gX8_readConstraints_X8_fail rfl rfl rfl (by decide +kernel) ⟨Nat.le_of_ble_eq_true rfl, Nat.le_of_ble_eq_true rfl⟩) pCl6 hk193 rfl rfl (Nat.le_of_ble_eq_true rfl) dX8_readConstraints_73 ⟨by show _ ≤ _; first | omega | (simp only []; omega), by show _ ≤ _; first | omega | (simp only []; omega)⟩) rfl rfl (fun r194 S195 h => ?_)
                  refine pw_widen (k2 := 19) (n2 := 152) (by omega) (by omega) ?_
                  obtain ⟨hb196, h⟩ := h
                  exact pw_zret (pc := 76) C hr (nar_bool hb196) h dX8_readConstraints_76
              · replace h := h.2 hc
                refine pw_aload_n (pc := 59) C 3 dX8_readConstraints_59 rfl rfl ?_
                refine pw_iconst (pc := 60) (v := 1 ) C dX8_readConstraints_60 (by decide) ?_
                obtain ⟨hk197, h⟩ := h
                refine pw_calli (pc := 61) (kc2 := (0 + (9 - (n + 1)) * 1 + 0)) (kn2 := (0 + (9 - (n + 1)) * 8 + 0)) (pRunV (pc := 61) C (ctX8_fail l G hZ  _ x0 (1 : Int32) _ h) (cwV 1 C.2.2.2.2.1 gX8_readConstraints_X8_fail rfl rfl rfl (by decide +kernel) ⟨Nat.le_of_ble_eq_true rfl, Nat.le_of_ble_eq_true rfl⟩) pCl6 hk197 rfl rfl (Nat.le_of_ble_eq_true rfl) dX8_readConstraints_61 ⟨by show _ ≤ _; first | omega | (simp only []; omega), by show _ ≤ _; first | omega | (simp only []; omega)⟩) rfl rfl (fun r198 S199 h => ?_)
                refine pw_widen (k2 := 19) (n2 := 152) (by omega) (by omega) ?_
                obtain ⟨hb200, h⟩ := h
                exact pw_zret (pc := 64) C hr (nar_bool hb200) h dX8_readConstraints_64
set_option maxRecDepth 100000 in
set_option maxHeartbeats 4000000 in
theorem ctX8_readConstraints (l : Launch) (G : PG) (hZ : pZa G) (S : PS) (x0 : Nat) (Q : Int32 → PS → Prop) (h : wpX8_readConstraints S x0 Q) : mI l yX8_readConstraints wsX8_readConstraints rmX8_readConstraints G S [.ref (G.2.2 + x0)] Q := by
  unfold mI
  refine met_of (cc := cX8_readConstraints) (maxL := 6) (ret := (some .boolean)) (by decide) rfl (Nat.le_of_ble_eq_true rfl) ?_
  intro p e s m args below meth c C hr hin
  unfold wpX8_readConstraints at h
  show PW p l e _ s m args below meth c _ G 6 S 0 0 [(0, .ref (G.2.2 + x0))] 0 []
  refine pw_iconst (pc := 0) (v := 0 ) C dX8_readConstraints_0 (by decide) ?_
  refine pw_istore_n (pc := 1) C [(1, .int (0 : Int32)), (0, .ref (G.2.2 + x0))] dX8_readConstraints_1 rfl (by decide) rfl ?_
  refine pw_sub [1, 0] (LV2 := [(0, .ref (G.2.2 + x0)), (1, .int (0 : Int32))]) rfl ?_
  exact cbX8_readConstraints_b2 C hr hin hZ  9 (Nat.le_refl _) _ _ _ h

abbrev rmX12_isWord : Room := { frames := 4, cells := 0, slots := 0, locals := 85 }
theorem iX12_isWord_X12 : ∀ w ∈ u_ws RX12 TX12 32, w ∈ wsX12_isWord := fun _ h => List.mem_cons_of_mem _ (List.mem_append_right _ h)
def wpX12_isWord_b35 (bW : List Int32) (Q : Int32 → PS → Prop) : Nat → PS → Nat → Int32 → Prop
  | 0 => fun _ _ _ => False
  | n + 1 => fun S x0 x2 => (((Int32.ofNat (bW).length >>> ((0 : Int32) &&& 31)) ≤ x2 → (Q (1 : Int32) S)) ∧ (¬ (Int32.ofNat (bW).length >>> ((0 : Int32) &&& 31)) ≤ x2 → (pK S x0 = 11 ∧ (wpX12_at S x0 ((pI S x0 16) + x2) (fun r4 S5 => (vp_in x2 (bW).length ∧ ((r4 = (sCh ((bW).getD (x2).toNatClampNeg 0)) → (wpX12_isWord_b35 bW Q n S5 x0 (x2 + 1))) ∧ (¬ r4 = (sCh ((bW).getD (x2).toNatClampNeg 0)) → (Q (0 : Int32) S5)))))))))
def wpX12_isWord (S : PS) (x0 : Nat) (bW : List Int32) (Q : Int32 → PS → Prop) : Prop := (pK S x0 = 11 ∧ (wpX12_isWrong S x0 (fun r10 S11 => ((¬ r10 = 0 → (Q (0 : Int32) S11)) ∧ (r10 = 0 → (pK S11 x0 = 11 ∧ ((¬ (pI S11 x0 17) = (1 : Int32) → (Q (0 : Int32) S11)) ∧ ((pI S11 x0 17) = (1 : Int32) → ((((pI S11 x0 15) - (pI S11 x0 16)) = (Int32.ofNat (bW).length >>> ((0 : Int32) &&& 31)) → (∃ n9 : Nat, wpX12_isWord_b35 bW Q n9 S11 x0 (0 : Int32))) ∧ (¬ ((pI S11 x0 15) - (pI S11 x0 16)) = (Int32.ofNat (bW).length >>> ((0 : Int32) &&& 31)) → (Q (0 : Int32) S11)))))))))))
set_option maxRecDepth 100000 in
set_option maxHeartbeats 4000000 in
theorem cbX12_isWord_b35 {p : Program} {l : Launch} {e : Env} {s : State} {m : MethodId} {args : Array Value} {below : List Frame} {meth : Method} {c : Code} {G : PG} {Q : Int32 → PS → Prop} (C : pCx p s m args meth c G cX12_isWord 3 yX12_isWord.cls wsX12_isWord) (hr : meth.sig.returnType = (some .boolean)) (hin : meth.name = yX12_isWord.name) (hZ : pZa G) {bW : List Int32} (qW : Nat) (hW : ZStr G qW bW) (hlW : bW.length < 2 ^ 31)  (n : Nat) : ∀ (S : PS) (x0 : Nat) (x2 : Int32), wpX12_isWord_b35 bW Q n S x0 x2 → PW p l e rmX12_isWord s m args below meth c (MQ below (va_Qi Q (pB G) (pFr G)) args s rmX12_isWord.cells rmX12_isWord.slots (pFr G)) G 3 S 0 0 [(0, .ref (G.2.2 + x0)), (1, .ref qW), (2, .int x2)] 35 ([]) := by
  induction n with
  | zero => intro S x0 x2 h; exact h.elim
  | succ n ih =>
    intro S x0 x2 h
    unfold wpX12_isWord_b35 at h
    refine pw_iload_n (pc := 35) C 2 dX12_isWord_35 rfl rfl ?_
    refine pw_aload_n (pc := 36) C 1 dX12_isWord_36 rfl rfl ?_
    obtain ⟨v2, hv1⟩ := id hW
    refine pw_calli (pc := 37) (kc2 := 0) (kn2 := 0) (pRunVS (pc := 37) C (hv1 s s.heap C.2.2.2.2.2.2.2.2.1) (ctJ0_length l G (hZ.2.2.2.2.2.2.2.2.2.2.2.2.2.2.2.2.2.2.1) S qW bW hW (fun r9 S9 => r9 = (Int32.ofNat (bW).length >>> ((0 : Int32) &&& 31)) ∧ S9 = S) ⟨rfl, rfl⟩) (cwV 0 C.2.2.2.2.1 gX12_isWord_J0_length_8abf5 rfl rfl rfl (by decide +kernel) ⟨Nat.le_of_ble_eq_true rfl, Nat.le_of_ble_eq_true rfl⟩) rfl rfl (Nat.le_of_ble_eq_true rfl) dX12_isWord_37 ⟨Nat.le_of_ble_eq_true rfl, Nat.le_of_ble_eq_true rfl⟩) rfl rfl (fun r9 S9 h9 => ?_)
    obtain ⟨e9, e9s⟩ := h9
    rw [e9, e9s]
    refine pw_icmp_ge (pc := 40) (tgt := 69) C dX12_isWord_40 rfl ⟨fun hc => ?_, fun hc => ?_⟩
    · replace h := h.1 hc
      refine pw_iconst (pc := 69) (v := 1 ) C dX12_isWord_69 (by decide) ?_
      exact pw_zret (pc := 70) C hr rfl h dX12_isWord_70
    · replace h := h.2 hc
      refine pw_aload_n (pc := 43) C 0 dX12_isWord_43 rfl rfl ?_
      refine pw_aload_n (pc := 44) C 0 dX12_isWord_44 rfl rfl ?_
      obtain ⟨hk3, h⟩ := h
      refine pw_getI (pc := 45) (ref := "SupportSolverModel") (k := 16) (index := 114) C pCl10 iX12_isWord_X12 hk3 rfl (by decide +kernel) (Or.inl rfl) dX12_isWord_45 ?_
      refine pw_iload_n (pc := 48) C 2 dX12_isWord_48 rfl rfl ?_
      refine pw_iadd (pc := 49) C dX12_isWord_49 ?_
      refine pw_calli (pc := 50) (kc2 := 0) (kn2 := 0) (pRunV (pc := 50) C (ctX12_at l G  _ x0 ((pI S x0 16) + x2) _ h) (cwV 1 C.2.2.2.2.1 gX12_isWord_X12_at rfl rfl rfl (by decide +kernel) ⟨Nat.le_of_ble_eq_true rfl, Nat.le_of_ble_eq_true rfl⟩) pCl10 hk3 rfl rfl (Nat.le_of_ble_eq_true rfl) dX12_isWord_50 ⟨Nat.le_of_ble_eq_true rfl, Nat.le_of_ble_eq_true rfl⟩) rfl rfl (fun r4 S5 h => ?_)
      refine pw_aload_n (pc := 53) C 1 dX12_isWord_53 rfl rfl ?_
      refine pw_iload_n (pc := 54) C 2 dX12_isWord_54 rfl rfl ?_
      obtain ⟨v7, hv6⟩ := id hW
      obtain ⟨hi8, h⟩ := h
      refine pw_calli (pc := 55) (kc2 := 0) (kn2 := 0) (pRunVS (pc := 55) C (hv6 s s.heap C.2.2.2.2.2.2.2.2.1) (ctJ0_charAt l G (hZ.2.2.2.2.2.2.2.2.2.2.2.2.2.2.2.2.2.2.1) S5 qW bW hW hlW x2 hi8 (fun r9 S9 => r9 = (sCh ((bW).getD (x2).toNatClampNeg 0)) ∧ S9 = S5) ⟨rfl, rfl⟩) (cwV 1 C.2.2.2.2.1 gX12_isWord_J0_charAt_5068e rfl rfl rfl (by decide +kernel) ⟨Nat.le_of_ble_eq_true rfl, Nat.le_of_ble_eq_true rfl⟩) rfl rfl (Nat.le_of_ble_eq_true rfl) dX12_isWord_55 ⟨Nat.le_of_ble_eq_true rfl, Nat.le_of_ble_eq_true rfl⟩) rfl rfl (fun r9 S9 h9 => ?_)
      obtain ⟨e9, e9s⟩ := h9
      rw [e9, e9s]
      refine pw_icmp_eq (pc := 58) (tgt := 63) C dX12_isWord_58 rfl ⟨fun hc => ?_, fun hc => ?_⟩
      · replace h := h.1 hc
        refine pw_iincK (pc := 63) (w := 1) C [(2, .int (x2 + 1)), (0, .ref (G.2.2 + x0)), (1, .ref qW)] 2 dX12_isWord_63 (by decide) rfl (by decide) rfl ?_
        refine pw_goto (pc := 66) (tgt := 35) C dX12_isWord_66 rfl ?_
        refine pw_sub [1, 2, 0] (LV2 := [(0, .ref (G.2.2 + x0)), (1, .ref qW), (2, .int (x2 + 1))]) rfl ?_
        exact ih _ _ _ h
      · replace h := h.2 hc
        refine pw_iconst (pc := 61) (v := 0 ) C dX12_isWord_61 (by decide) ?_
        exact pw_zret (pc := 62) C hr rfl h dX12_isWord_62
set_option maxRecDepth 100000 in
set_option maxHeartbeats 4000000 in
theorem ctX12_isWord (l : Launch) (G : PG) (hZ : pZa G) (bW : List Int32) (qW : Nat) (hW : ZStr G qW bW) (hlW : bW.length < 2 ^ 31) (S : PS) (x0 : Nat) (Q : Int32 → PS → Prop) (h : wpX12_isWord S x0 bW Q) : mI l yX12_isWord wsX12_isWord rmX12_isWord G S [.ref (G.2.2 + x0), .ref qW] Q := by
  unfold mI
  refine met_of (cc := cX12_isWord) (maxL := 3) (ret := (some .boolean)) (by decide) rfl (Nat.le_of_ble_eq_true rfl) ?_
  intro p e s m args below meth c C hr hin
  unfold wpX12_isWord at h
  show PW p l e _ s m args below meth c _ G 3 S 0 0 [(0, .ref (G.2.2 + x0)), (1, .ref qW)] 0 []
  refine pw_aload_n (pc := 0) C 0 dX12_isWord_0 rfl rfl ?_
  obtain ⟨hk9, h⟩ := h
  refine pw_calli (pc := 1) (kc2 := 0) (kn2 := 0) (pRunV (pc := 1) C (ctX12_isWrong l G  _ x0 _ h) (cwV 0 C.2.2.2.2.1 gX12_isWord_X12_isWrong rfl rfl rfl (by decide +kernel) ⟨Nat.le_of_ble_eq_true rfl, Nat.le_of_ble_eq_true rfl⟩) pCl10 hk9 rfl rfl (Nat.le_of_ble_eq_true rfl) dX12_isWord_1 ⟨Nat.le_of_ble_eq_true rfl, Nat.le_of_ble_eq_true rfl⟩) rfl rfl (fun r10 S11 h => ?_)
  refine pw_if_ne (pc := 4) (tgt := 31) C dX12_isWord_4 rfl ⟨fun hc => ?_, fun hc => ?_⟩
  · replace h := h.1 hc
    refine pw_iconst (pc := 31) (v := 0 ) C dX12_isWord_31 (by decide) ?_
    exact pw_zret (pc := 32) C hr rfl h dX12_isWord_32
  · replace h := h.2 hc
    refine pw_aload_n (pc := 7) C 0 dX12_isWord_7 rfl rfl ?_
    obtain ⟨hk12, h⟩ := h
    refine pw_getI (pc := 8) (ref := "SupportSolverModel") (k := 17) (index := 117) C pCl10 iX12_isWord_X12 hk12 rfl (by decide +kernel) (Or.inl rfl) dX12_isWord_8 ?_
    refine pw_iconst (pc := 11) (v := 1 ) C dX12_isWord_11 (by decide) ?_
    refine pw_icmp_ne (pc := 12) (tgt := 31) C dX12_isWord_12 rfl ⟨fun hc => ?_, fun hc => ?_⟩
    · replace h := h.1 hc
      refine pw_iconst (pc := 31) (v := 0 ) C dX12_isWord_31 (by decide) ?_
      exact pw_zret (pc := 32) C hr rfl h dX12_isWord_32
    · replace h := h.2 hc
      refine pw_aload_n (pc := 15) C 0 dX12_isWord_15 rfl rfl ?_
      refine pw_getI (pc := 16) (ref := "SupportSolverModel") (k := 15) (index := 107) C pCl10 iX12_isWord_X12 hk12 rfl (by decide +kernel) (Or.inl rfl) dX12_isWord_16 ?_
      refine pw_aload_n (pc := 19) C 0 dX12_isWord_19 rfl rfl ?_
      refine pw_getI (pc := 20) (ref := "SupportSolverModel") (k := 16) (index := 114) C pCl10 iX12_isWord_X12 hk12 rfl (by decide +kernel) (Or.inl rfl) dX12_isWord_20 ?_
      refine pw_isub (pc := 23) C dX12_isWord_23 ?_
      refine pw_aload_n (pc := 24) C 1 dX12_isWord_24 rfl rfl ?_
      obtain ⟨v14, hv13⟩ := id hW
      refine pw_calli (pc := 25) (kc2 := 0) (kn2 := 0) (pRunVS (pc := 25) C (hv13 s s.heap C.2.2.2.2.2.2.2.2.1) (ctJ0_length l G (hZ.2.2.2.2.2.2.2.2.2.2.2.2.2.2.2.2.2.2.1) S11 qW bW hW (fun r9 S9 => r9 = (Int32.ofNat (bW).length >>> ((0 : Int32) &&& 31)) ∧ S9 = S11) ⟨rfl, rfl⟩) (cwV 0 C.2.2.2.2.1 gX12_isWord_J0_length_8abf5 rfl rfl rfl (by decide +kernel) ⟨Nat.le_of_ble_eq_true rfl, Nat.le_of_ble_eq_true rfl⟩) rfl rfl (Nat.le_of_ble_eq_true rfl) dX12_isWord_25 ⟨Nat.le_of_ble_eq_true rfl, Nat.le_of_ble_eq_true rfl⟩) rfl rfl (fun r9 S9 h9 => ?_)
      obtain ⟨e9, e9s⟩ := h9
      rw [e9, e9s]
      refine pw_icmp_eq (pc := 28) (tgt := 33) C dX12_isWord_28 rfl ⟨fun hc => ?_, fun hc => ?_⟩
      · replace h := h.1 hc
        refine pw_iconst (pc := 33) (v := 0 ) C dX12_isWord_33 (by decide) ?_
        refine pw_istore_n (pc := 34) C [(2, .int (0 : Int32)), (0, .ref (G.2.2 + x0)), (1, .ref qW)] dX12_isWord_34 rfl (by decide) rfl ?_
        refine pw_sub [1, 2, 0] (LV2 := [(0, .ref (G.2.2 + x0)), (1, .ref qW), (2, .int (0 : Int32))]) rfl ?_
        obtain ⟨n9, h⟩ := h
        exact cbX12_isWord_b35 C hr hin hZ qW hW hlW  n9 _ _ _ h
      · replace h := h.2 hc
        refine pw_iconst (pc := 31) (v := 0 ) C dX12_isWord_31 (by decide) ?_
        exact pw_zret (pc := 32) C hr rfl h dX12_isWord_32

abbrev rmX12_named : Room := { frames := 5, cells := 0, slots := 0, locals := 107 }
theorem iX12_named_X12 : ∀ w ∈ u_ws RX12 TX12 32, w ∈ wsX12_named := fun _ h => List.mem_cons_of_mem _ (List.mem_append_right _ h)
def wpX12_named_b38  (Q : Int32 → PS → Prop) : Nat → PS → Nat → Int32 → Prop
  | 0 => fun _ _ _ => False
  | n + 1 => fun S x0 x1 => (pK S x0 = 11 ∧ (∃ o2, pR S x0 2 = some o2 ∧ (pK S o2 = 13 ∧ (vp_in (0 : Int32) (pL S o2) ∧ (((pI S o2 ((0 : Int32)).toNatClampNeg) ≤ x1 → (Q (-1 : Int32) S)) ∧ (¬ (pI S o2 ((0 : Int32)).toNatClampNeg) ≤ x1 → (wpX12_isWrong S x0 (fun r5 S6 => ((¬ r5 = 0 → (Q (-1 : Int32) S6)) ∧ (r5 = 0 → (pK S6 x0 = 11 ∧ (∃ o8, pR S6 x0 22 = some o8 ∧ (pK S6 o8 = 14 ∧ (vp_in x1 (pL S6 o8) ∧ ((¬ (lg_cmp (pJ S6 o8 (x1).toNatClampNeg) (pJ S6 x0 21)) = 0 → (wpX12_named_b38 Q n S6 x0 (x1 + 1))) ∧ ((lg_cmp (pJ S6 o8 (x1).toNatClampNeg) (pJ S6 x0 21)) = 0 → (Q x1 S6)))))))))))))))))
def wpX12_named_b31  (Q : Int32 → PS → Prop) (S : PS) (x0 : Nat) : Prop := (pK S x0 = 11 ∧ (wpX12_fails S x0 (1 : Int32) (fun S13 => (∃ n9 : Nat, wpX12_named_b38 Q n9 S13 x0 (0 : Int32)))))
def wpX12_named (S : PS) (x0 : Nat) (Q : Int32 → PS → Prop) : Prop := (pK S x0 = 11 ∧ ((¬ (pI S x0 17) = (1 : Int32) → (wpX12_named_b31 Q S x0)) ∧ ((pI S x0 17) = (1 : Int32) → (((6 : Int32) < ((pI S x0 15) - (pI S x0 16)) → (wpX12_named_b31 Q S x0)) ∧ (¬ (6 : Int32) < ((pI S x0 15) - (pI S x0 16)) → (wpX12_isWord S x0 [118, 97, 108, 117, 101] (fun r18 S19 => ((r18 = 0 → (∃ n9 : Nat, wpX12_named_b38 Q n9 S19 x0 (0 : Int32))) ∧ (¬ r18 = 0 → (wpX12_named_b31 Q S19 x0))))))))))
set_option maxRecDepth 100000 in
set_option maxHeartbeats 4000000 in
theorem cbX12_named_b38 {p : Program} {l : Launch} {e : Env} {s : State} {m : MethodId} {args : Array Value} {below : List Frame} {meth : Method} {c : Code} {G : PG} {Q : Int32 → PS → Prop} (C : pCx p s m args meth c G cX12_named 2 yX12_named.cls wsX12_named) (hr : meth.sig.returnType = (some .int)) (hin : meth.name = yX12_named.name) (hZ : pZa G)  (n : Nat) : ∀ (S : PS) (x0 : Nat) (x1 : Int32), wpX12_named_b38  Q n S x0 x1 → PW p l e rmX12_named s m args below meth c (MQ below (va_Qi Q (pB G) (pFr G)) args s rmX12_named.cells rmX12_named.slots (pFr G)) G 2 S 0 0 [(0, .ref (G.2.2 + x0)), (1, .int x1)] 38 ([]) := by
  induction n with
  | zero => intro S x0 x1 h; exact h.elim
  | succ n ih =>
    intro S x0 x1 h
    unfold wpX12_named_b38 at h
    refine pw_iload_n (pc := 38) C 1 dX12_named_38 rfl rfl ?_
    refine pw_aload_n (pc := 39) C 0 dX12_named_39 rfl rfl ?_
    obtain ⟨hk1, h⟩ := h
    obtain ⟨o2, ho2, h⟩ := h
    refine pw_getR (pc := 40) (ref := "SupportSolverModel") (k := 2) (index := 13) C pCl10 iX12_named_X12 hk1 rfl (by decide +kernel) (Or.inl rfl) (o := o2) ho2 dX12_named_40 ?_
    refine pw_iconst (pc := 43) (v := 0 ) C dX12_named_43 (by decide) ?_
    obtain ⟨hk3, h⟩ := h
    obtain ⟨hi4, h⟩ := h
    refine pw_iald (pc := 44) C hk3 hi4 dX12_named_44 ?_
    refine pw_icmp_ge (pc := 45) (tgt := 77) C dX12_named_45 rfl ⟨fun hc => ?_, fun hc => ?_⟩
    · replace h := h.1 hc
      refine pw_iconst (pc := 77) (v := (-1)) C dX12_named_77 (by decide) ?_
      exact pw_iret (pc := 78) C hr h dX12_named_78
    · replace h := h.2 hc
      refine pw_aload_n (pc := 48) C 0 dX12_named_48 rfl rfl ?_
      refine pw_calli (pc := 49) (kc2 := 0) (kn2 := 0) (pRunV (pc := 49) C (ctX12_isWrong l G  _ x0 _ h) (cwV 0 C.2.2.2.2.1 gX12_named_X12_isWrong rfl rfl rfl (by decide +kernel) ⟨Nat.le_of_ble_eq_true rfl, Nat.le_of_ble_eq_true rfl⟩) pCl10 hk1 rfl rfl (Nat.le_of_ble_eq_true rfl) dX12_named_49 ⟨Nat.le_of_ble_eq_true rfl, Nat.le_of_ble_eq_true rfl⟩) rfl rfl (fun r5 S6 h => ?_)
      refine pw_if_ne (pc := 52) (tgt := 77) C dX12_named_52 rfl ⟨fun hc => ?_, fun hc => ?_⟩
      · replace h := h.1 hc
        refine pw_iconst (pc := 77) (v := (-1)) C dX12_named_77 (by decide) ?_
        exact pw_iret (pc := 78) C hr h dX12_named_78
      · replace h := h.2 hc
        refine pw_aload_n (pc := 55) C 0 dX12_named_55 rfl rfl ?_
        obtain ⟨hk7, h⟩ := h
        obtain ⟨o8, ho8, h⟩ := h
        refine pw_getR (pc := 56) (ref := "SupportSolverModel") (k := 22) (index := 35) C pCl10 iX12_named_X12 hk7 rfl (by decide +kernel) (Or.inl rfl) (o := o8) ho8 dX12_named_56 ?_
        refine pw_iload_n (pc := 59) C 1 dX12_named_59 rfl rfl ?_
        obtain ⟨hk9, h⟩ := h
        obtain ⟨hi10, h⟩ := h
        refine pw_lald (pc := 60) C hk9 hi10 dX12_named_60 ?_
        refine pw_aload_n (pc := 61) C 0 dX12_named_61 rfl rfl ?_
        refine pw_getJ (pc := 62) (ref := "SupportSolverModel") (k := 21) (index := 124) C pCl10 iX12_named_X12 hk7 rfl (by decide +kernel) (Or.inl rfl) dX12_named_62 ?_
        refine pw_lcmp (pc := 65) C dX12_named_65 ?_
        refine pw_if_ne (pc := 66) (tgt := 71) C dX12_named_66 rfl ⟨fun hc => ?_, fun hc => ?_⟩
        · replace h := h.1 hc
          refine pw_iincK (pc := 71) (w := 1) C [(1, .int (x1 + 1)), (0, .ref (G.2.2 + x0))] 1 dX12_named_71 (by decide) rfl (by decide) rfl ?_
          refine pw_goto (pc := 74) (tgt := 38) C dX12_named_74 rfl ?_
          refine pw_sub [1, 0] (LV2 := [(0, .ref (G.2.2 + x0)), (1, .int (x1 + 1))]) rfl ?_
          exact ih _ _ _ h
        · replace h := h.2 hc
          refine pw_iload_n (pc := 69) C 1 dX12_named_69 rfl rfl ?_
          exact pw_iret (pc := 70) C hr h dX12_named_70
set_option maxRecDepth 100000 in
set_option maxHeartbeats 4000000 in
theorem cbX12_named_b31 {p : Program} {l : Launch} {e : Env} {s : State} {m : MethodId} {args : Array Value} {below : List Frame} {meth : Method} {c : Code} {G : PG} {Q : Int32 → PS → Prop} (C : pCx p s m args meth c G cX12_named 2 yX12_named.cls wsX12_named) (hr : meth.sig.returnType = (some .int)) (hin : meth.name = yX12_named.name) (hZ : pZa G)  : ∀ (S : PS) (x0 : Nat), wpX12_named_b31  Q S x0 → PW p l e rmX12_named s m args below meth c (MQ below (va_Qi Q (pB G) (pFr G)) args s rmX12_named.cells rmX12_named.slots (pFr G)) G 2 S 0 0 [(0, .ref (G.2.2 + x0))] 31 ([]) := by
  intro S x0 h
  unfold wpX12_named_b31 at h
  refine pw_aload_n (pc := 31) C 0 dX12_named_31 rfl rfl ?_
  refine pw_iconst (pc := 32) (v := 1 ) C dX12_named_32 (by decide) ?_
  obtain ⟨hk11, h⟩ := h
  refine pw_callv (pc := 33) (kc2 := 0) (kn2 := 0) (pRunV (pc := 33) C (ctX12_fails l G  _ x0 (1 : Int32) _ h) (cwV 1 C.2.2.2.2.1 gX12_named_X12_fails rfl rfl rfl (by decide +kernel) ⟨Nat.le_of_ble_eq_true rfl, Nat.le_of_ble_eq_true rfl⟩) pCl10 hk11 rfl rfl (Nat.le_of_ble_eq_true rfl) dX12_named_33 ⟨Nat.le_of_ble_eq_true rfl, Nat.le_of_ble_eq_true rfl⟩) rfl rfl (fun S13 h => ?_)
  refine pw_iconst (pc := 36) (v := 0 ) C dX12_named_36 (by decide) ?_
  refine pw_istore_n (pc := 37) C [(1, .int (0 : Int32)), (0, .ref (G.2.2 + x0))] dX12_named_37 rfl (by decide) rfl ?_
  refine pw_sub [1, 0] (LV2 := [(0, .ref (G.2.2 + x0)), (1, .int (0 : Int32))]) rfl ?_
  obtain ⟨n9, h⟩ := h
  exact cbX12_named_b38 C hr hin hZ  n9 _ _ _ h
set_option maxRecDepth 100000 in
set_option maxHeartbeats 4000000 in
theorem ctX12_named (l : Launch) (G : PG) (hZ : pZa G) (S : PS) (x0 : Nat) (Q : Int32 → PS → Prop) (h : wpX12_named S x0 Q) : mI l yX12_named wsX12_named rmX12_named G S [.ref (G.2.2 + x0)] Q := by
  unfold mI
  refine met_of (cc := cX12_named) (maxL := 2) (ret := (some .int)) (by decide) rfl (Nat.le_of_ble_eq_true rfl) ?_
  intro p e s m args below meth c C hr hin
  unfold wpX12_named at h
  show PW p l e _ s m args below meth c _ G 2 S 0 0 [(0, .ref (G.2.2 + x0))] 0 []
  refine pw_aload_n (pc := 0) C 0 dX12_named_0 rfl rfl ?_
  obtain ⟨hk14, h⟩ := h
  refine pw_getI (pc := 1) (ref := "SupportSolverModel") (k := 17) (index := 117) C pCl10 iX12_named_X12 hk14 rfl (by decide +kernel) (Or.inl rfl) dX12_named_1 ?_
  refine pw_iconst (pc := 4) (v := 1 ) C dX12_named_4 (by decide) ?_
  refine pw_icmp_ne (pc := 5) (tgt := 31) C dX12_named_5 rfl ⟨fun hc => ?_, fun hc => ?_⟩
  · replace h := h.1 hc
    exact cbX12_named_b31 C hr hin hZ  _ _ h
  · replace h := h.2 hc
    refine pw_aload_n (pc := 8) C 0 dX12_named_8 rfl rfl ?_
    refine pw_getI (pc := 9) (ref := "SupportSolverModel") (k := 15) (index := 107) C pCl10 iX12_named_X12 hk14 rfl (by decide +kernel) (Or.inl rfl) dX12_named_9 ?_
    refine pw_aload_n (pc := 12) C 0 dX12_named_12 rfl rfl ?_
    refine pw_getI (pc := 13) (ref := "SupportSolverModel") (k := 16) (index := 114) C pCl10 iX12_named_X12 hk14 rfl (by decide +kernel) (Or.inl rfl) dX12_named_13 ?_
    refine pw_isub (pc := 16) C dX12_named_16 ?_
    refine pw_bipush (pc := 17) (v := 6 ) C dX12_named_17 (by decide) ?_
    refine pw_icmp_gt (pc := 19) (tgt := 31) C dX12_named_19 rfl ⟨fun hc => ?_, fun hc => ?_⟩
    · replace h := h.1 hc
      exact cbX12_named_b31 C hr hin hZ  _ _ h
    · replace h := h.2 hc
      refine pw_aload_n (pc := 22) C 0 dX12_named_22 rfl rfl ?_
      obtain ⟨q15, z16, hq17⟩ := (hZ.2.2.2.2.2.2.2.2.2.2.2.2.2.2.2.2.2.2.2.2.2.2.2.2.2.2.1)
      refine pw_ldcS (pc := 23) C z16 dX12_named_23 ?_
      refine pw_calli (pc := 25) (kc2 := 0) (kn2 := 0) (pRunV (pc := 25) C (ctX12_isWord l G hZ [118, 97, 108, 117, 101] q15 hq17 (by decide)  _ x0 _ h) (cwV 1 C.2.2.2.2.1 gX12_named_X12_isWord rfl rfl rfl (by decide +kernel) ⟨Nat.le_of_ble_eq_true rfl, Nat.le_of_ble_eq_true rfl⟩) pCl10 hk14 rfl rfl (Nat.le_of_ble_eq_true rfl) dX12_named_25 ⟨Nat.le_of_ble_eq_true rfl, Nat.le_of_ble_eq_true rfl⟩) rfl rfl (fun r18 S19 h => ?_)
      refine pw_if_eq (pc := 28) (tgt := 36) C dX12_named_28 rfl ⟨fun hc => ?_, fun hc => ?_⟩
      · replace h := h.1 hc
        refine pw_iconst (pc := 36) (v := 0 ) C dX12_named_36 (by decide) ?_
        refine pw_istore_n (pc := 37) C [(1, .int (0 : Int32)), (0, .ref (G.2.2 + x0))] dX12_named_37 rfl (by decide) rfl ?_
        refine pw_sub [1, 0] (LV2 := [(0, .ref (G.2.2 + x0)), (1, .int (0 : Int32))]) rfl ?_
        obtain ⟨n9, h⟩ := h
        exact cbX12_named_b38 C hr hin hZ  n9 _ _ _ h
      · replace h := h.2 hc
        exact cbX12_named_b31 C hr hin hZ  _ _ h

abbrev rmX12_variable : Room := { frames := 6, cells := 0, slots := 0, locals := 128 }
theorem iX12_variable_X12 : ∀ w ∈ u_ws RX12 TX12 32, w ∈ wsX12_variable := fun _ h => List.mem_cons_of_mem _ (List.mem_append_right _ h)
def wpX12_variable_b43  (Q : PS → Prop) (S : PS) (x0 : Nat) (x1 : Int32) : Prop := (pK S x0 = 11 ∧ (wpX12_isWrong S x0 (fun r2 S3 => ((r2 = 0 → (pK S3 x0 = 11 ∧ (∃ o5, pR S3 x0 22 = some o5 ∧ (pK S3 o5 = 14 ∧ (vp_in x1 (pL S3 o5) ∧ (wpX12_token (sJ S3 o5 (x1).toNatClampNeg (pJ S3 x0 21)) x0 (fun S9 => (pK S9 x0 = 11 ∧ (wpX12_figure S9 x0 (0 : Int32) (4 : Int32) (fun r11 S12 => (pK S12 x0 = 11 ∧ (wpX12_figure S12 x0 r11 (4 : Int32) (fun r14 S15 => (pK S15 x0 = 11 ∧ (∃ o17, pR S15 x0 2 = some o17 ∧ (pK S15 o17 = 13 ∧ (vp_in ((2 : Int32) + x1) (pL S15 o17) ∧ (vp_in (0 : Int32) (pL S15 o17) ∧ (vp_in (0 : Int32) (pL S15 o17) ∧ (wpX12_ends (sI (sI S15 o17 (((2 : Int32) + x1)).toNatClampNeg (((2 : Int32) <<< (r14 &&& 31)) - ((1 : Int32) <<< (r11 &&& 31)))) o17 ((0 : Int32)).toNatClampNeg ((pI (sI S15 o17 (((2 : Int32) + x1)).toNatClampNeg (((2 : Int32) <<< (r14 &&& 31)) - ((1 : Int32) <<< (r11 &&& 31)))) o17 ((0 : Int32)).toNatClampNeg) + (1 : Int32))) x0 (fun S23 => (Q S23)))))))))))))))))))))) ∧ (¬ r2 = 0 → (Q S3))))))
def wpX12_variable_b18  (Q : PS → Prop) (S : PS) (x0 : Nat) (x1 : Int32) : Prop := (pK S x0 = 11 ∧ (wpX12_isWrong S x0 (fun r25 S26 => ((r25 = 0 → (pK S26 x0 = 11 ∧ (wpX12_token S26 x0 (fun S29 => (pK S29 x0 = 11 ∧ (wpX12_named S29 x0 (fun r31 S32 => ((r31 = (-1 : Int32) → (wpX12_variable_b43 Q S32 x0 x1)) ∧ (¬ r31 = (-1 : Int32) → (pK S32 x0 = 11 ∧ (wpX12_fails S32 x0 (3 : Int32) (fun S35 => (wpX12_variable_b43 Q S35 x0 x1))))))))))))) ∧ (¬ r25 = 0 → (Q S26))))))
def wpX12_variable (S : PS) (x0 : Nat) (Q : PS → Prop) : Prop := (pK S x0 = 11 ∧ (∃ o37, pR S x0 2 = some o37 ∧ (pK S o37 = 13 ∧ (vp_in (0 : Int32) (pL S o37) ∧ ((¬ (pI S o37 ((0 : Int32)).toNatClampNeg) = (7 : Int32) → (wpX12_variable_b18 Q S x0 (pI S o37 ((0 : Int32)).toNatClampNeg))) ∧ ((pI S o37 ((0 : Int32)).toNatClampNeg) = (7 : Int32) → (wpX12_fails S x0 (4 : Int32) (fun S41 => (wpX12_variable_b18 Q S41 x0 (pI S o37 ((0 : Int32)).toNatClampNeg))))))))))
set_option maxRecDepth 100000 in
set_option maxHeartbeats 4000000 in
theorem cbX12_variable_b43 {p : Program} {l : Launch} {e : Env} {s : State} {m : MethodId} {args : Array Value} {below : List Frame} {meth : Method} {c : Code} {G : PG} {Q : PS → Prop} (C : pCx p s m args meth c G cX12_variable 4 yX12_variable.cls wsX12_variable) (hr : meth.sig.returnType = none) (hin : meth.name = yX12_variable.name) (hZ : pZa G)  : ∀ (S : PS) (x0 : Nat) (x1 : Int32), wpX12_variable_b43  Q S x0 x1 → PW p l e rmX12_variable s m args below meth c (MQ below (va_Qv Q (pB G) (pFr G)) args s rmX12_variable.cells rmX12_variable.slots (pFr G)) G 4 S 0 0 [(0, .ref (G.2.2 + x0)), (1, .int x1)] 43 ([]) := by
  intro S x0 x1 h
  unfold wpX12_variable_b43 at h
  refine pw_aload_n (pc := 43) C 0 dX12_variable_43 rfl rfl ?_
  obtain ⟨hk1, h⟩ := h
  refine pw_calli (pc := 44) (kc2 := 0) (kn2 := 0) (pRunV (pc := 44) C (ctX12_isWrong l G  _ x0 _ h) (cwV 0 C.2.2.2.2.1 gX12_variable_X12_isWrong rfl rfl rfl (by decide +kernel) ⟨Nat.le_of_ble_eq_true rfl, Nat.le_of_ble_eq_true rfl⟩) pCl10 hk1 rfl rfl (Nat.le_of_ble_eq_true rfl) dX12_variable_44 ⟨Nat.le_of_ble_eq_true rfl, Nat.le_of_ble_eq_true rfl⟩) rfl rfl (fun r2 S3 h => ?_)
  refine pw_if_eq (pc := 47) (tgt := 51) C dX12_variable_47 rfl ⟨fun hc => ?_, fun hc => ?_⟩
  · replace h := h.1 hc
    refine pw_aload_n (pc := 51) C 0 dX12_variable_51 rfl rfl ?_
    obtain ⟨hk4, h⟩ := h
    obtain ⟨o5, ho5, h⟩ := h
    refine pw_getR (pc := 52) (ref := "SupportSolverModel") (k := 22) (index := 35) C pCl10 iX12_variable_X12 hk4 rfl (by decide +kernel) (Or.inl rfl) (o := o5) ho5 dX12_variable_52 ?_
    refine pw_iload_n (pc := 55) C 1 dX12_variable_55 rfl rfl ?_
    refine pw_aload_n (pc := 56) C 0 dX12_variable_56 rfl rfl ?_
    refine pw_getJ (pc := 57) (ref := "SupportSolverModel") (k := 21) (index := 124) C pCl10 iX12_variable_X12 hk4 rfl (by decide +kernel) (Or.inl rfl) dX12_variable_57 ?_
    obtain ⟨hk6, h⟩ := h
    obtain ⟨hi7, h⟩ := h
    refine pw_last (pc := 60) C hk6 hi7 dX12_variable_60 ?_
    refine pw_aload_n (pc := 61) (S := (sJ S3 o5 (x1).toNatClampNeg (pJ S3 x0 21))) C 0 dX12_variable_61 rfl rfl ?_
    refine pw_callv (pc := 62) (S := (sJ S3 o5 (x1).toNatClampNeg (pJ S3 x0 21))) (kc2 := 0) (kn2 := 0) (pRunV (pc := 62) (S := (sJ S3 o5 (x1).toNatClampNeg (pJ S3 x0 21))) C (ctX12_token l G  _ x0 _ h) (cwV 0 C.2.2.2.2.1 gX12_variable_X12_token rfl rfl rfl (by decide +kernel) ⟨Nat.le_of_ble_eq_true rfl, Nat.le_of_ble_eq_true rfl⟩) pCl10 hk4 rfl rfl (Nat.le_of_ble_eq_true rfl) dX12_variable_62 ⟨Nat.le_of_ble_eq_true rfl, Nat.le_of_ble_eq_true rfl⟩) rfl rfl (fun S9 h => ?_)
    refine pw_aload_n (pc := 65) C 0 dX12_variable_65 rfl rfl ?_
    refine pw_iconst (pc := 66) (v := 0 ) C dX12_variable_66 (by decide) ?_
    refine pw_iconst (pc := 67) (v := 4 ) C dX12_variable_67 (by decide) ?_
    obtain ⟨hk10, h⟩ := h
    refine pw_calli (pc := 68) (kc2 := 0) (kn2 := 0) (pRunV (pc := 68) C (ctX12_figure l G  _ x0 (0 : Int32) (4 : Int32) _ h) (cwV 2 C.2.2.2.2.1 gX12_variable_X12_figure rfl rfl rfl (by decide +kernel) ⟨Nat.le_of_ble_eq_true rfl, Nat.le_of_ble_eq_true rfl⟩) pCl10 hk10 rfl rfl (Nat.le_of_ble_eq_true rfl) dX12_variable_68 ⟨Nat.le_of_ble_eq_true rfl, Nat.le_of_ble_eq_true rfl⟩) rfl rfl (fun r11 S12 h => ?_)
    refine pw_istore_n (pc := 71) C [(2, .int r11), (0, .ref (G.2.2 + x0)), (1, .int x1)] dX12_variable_71 rfl (by decide) rfl ?_
    refine pw_aload_n (pc := 72) C 1 dX12_variable_72 rfl rfl ?_
    refine pw_iload_n (pc := 73) C 0 dX12_variable_73 rfl rfl ?_
    refine pw_iconst (pc := 74) (v := 4 ) C dX12_variable_74 (by decide) ?_
    obtain ⟨hk13, h⟩ := h
    refine pw_calli (pc := 75) (kc2 := 0) (kn2 := 0) (pRunV (pc := 75) C (ctX12_figure l G  _ x0 r11 (4 : Int32) _ h) (cwV 2 C.2.2.2.2.1 gX12_variable_X12_figure rfl rfl rfl (by decide +kernel) ⟨Nat.le_of_ble_eq_true rfl, Nat.le_of_ble_eq_true rfl⟩) pCl10 hk13 rfl rfl (Nat.le_of_ble_eq_true rfl) dX12_variable_75 ⟨Nat.le_of_ble_eq_true rfl, Nat.le_of_ble_eq_true rfl⟩) rfl rfl (fun r14 S15 h => ?_)
    refine pw_istore_n (pc := 78) C [(3, .int r14), (2, .int r11), (0, .ref (G.2.2 + x0)), (1, .int x1)] dX12_variable_78 rfl (by decide) rfl ?_
    refine pw_aload_n (pc := 79) C 2 dX12_variable_79 rfl rfl ?_
    obtain ⟨hk16, h⟩ := h
    obtain ⟨o17, ho17, h⟩ := h
    refine pw_getR (pc := 80) (ref := "SupportSolverModel") (k := 2) (index := 13) C pCl10 iX12_variable_X12 hk16 rfl (by decide +kernel) (Or.inl rfl) (o := o17) ho17 dX12_variable_80 ?_
    refine pw_iconst (pc := 83) (v := 2 ) C dX12_variable_83 (by decide) ?_
    refine pw_iload_n (pc := 84) C 3 dX12_variable_84 rfl rfl ?_
    refine pw_iadd (pc := 85) C dX12_variable_85 ?_
    refine pw_iconst (pc := 86) (v := 2 ) C dX12_variable_86 (by decide) ?_
    refine pw_iload_n (pc := 87) C 0 dX12_variable_87 rfl rfl ?_
    refine pw_ishl (pc := 88) C dX12_variable_88 ?_
    refine pw_iconst (pc := 89) (v := 1 ) C dX12_variable_89 (by decide) ?_
    refine pw_iload_n (pc := 90) C 1 dX12_variable_90 rfl rfl ?_
    refine pw_ishl (pc := 91) C dX12_variable_91 ?_
    refine pw_isub (pc := 92) C dX12_variable_92 ?_
    obtain ⟨hk18, h⟩ := h
    obtain ⟨hi19, h⟩ := h
    refine pw_iast (pc := 93) C hk18 hi19 dX12_variable_93 ?_
    refine pw_aload_n (pc := 94) (S := (sI S15 o17 (((2 : Int32) + x1)).toNatClampNeg (((2 : Int32) <<< (r14 &&& 31)) - ((1 : Int32) <<< (r11 &&& 31))))) C 2 dX12_variable_94 rfl rfl ?_
    refine pw_getR (pc := 95) (S := (sI S15 o17 (((2 : Int32) + x1)).toNatClampNeg (((2 : Int32) <<< (r14 &&& 31)) - ((1 : Int32) <<< (r11 &&& 31))))) (ref := "SupportSolverModel") (k := 2) (index := 13) C pCl10 iX12_variable_X12 hk16 rfl (by decide +kernel) (Or.inl rfl) (o := o17) ho17 dX12_variable_95 ?_
    refine pw_iconst (pc := 98) (S := (sI S15 o17 (((2 : Int32) + x1)).toNatClampNeg (((2 : Int32) <<< (r14 &&& 31)) - ((1 : Int32) <<< (r11 &&& 31))))) (v := 0 ) C dX12_variable_98 (by decide) ?_
    refine pw_dup2_11 (pc := 99) (S := (sI S15 o17 (((2 : Int32) + x1)).toNatClampNeg (((2 : Int32) <<< (r14 &&& 31)) - ((1 : Int32) <<< (r11 &&& 31))))) C dX12_variable_99 rfl rfl ?_
    obtain ⟨hi20, h⟩ := h
    refine pw_iald (pc := 100) (S := (sI S15 o17 (((2 : Int32) + x1)).toNatClampNeg (((2 : Int32) <<< (r14 &&& 31)) - ((1 : Int32) <<< (r11 &&& 31))))) C hk18 hi20 dX12_variable_100 ?_
    refine pw_iconst (pc := 101) (S := (sI S15 o17 (((2 : Int32) + x1)).toNatClampNeg (((2 : Int32) <<< (r14 &&& 31)) - ((1 : Int32) <<< (r11 &&& 31))))) (v := 1 ) C dX12_variable_101 (by decide) ?_
    refine pw_iadd (pc := 102) (S := (sI S15 o17 (((2 : Int32) + x1)).toNatClampNeg (((2 : Int32) <<< (r14 &&& 31)) - ((1 : Int32) <<< (r11 &&& 31))))) C dX12_variable_102 ?_
    obtain ⟨hi21, h⟩ := h
    refine pw_iast (pc := 103) (S := (sI S15 o17 (((2 : Int32) + x1)).toNatClampNeg (((2 : Int32) <<< (r14 &&& 31)) - ((1 : Int32) <<< (r11 &&& 31))))) C hk18 hi21 dX12_variable_103 ?_
    refine pw_aload_n (pc := 104) (S := (sI (sI S15 o17 (((2 : Int32) + x1)).toNatClampNeg (((2 : Int32) <<< (r14 &&& 31)) - ((1 : Int32) <<< (r11 &&& 31)))) o17 ((0 : Int32)).toNatClampNeg ((pI (sI S15 o17 (((2 : Int32) + x1)).toNatClampNeg (((2 : Int32) <<< (r14 &&& 31)) - ((1 : Int32) <<< (r11 &&& 31)))) o17 ((0 : Int32)).toNatClampNeg) + (1 : Int32)))) C 2 dX12_variable_104 rfl rfl ?_
    refine pw_callv (pc := 105) (S := (sI (sI S15 o17 (((2 : Int32) + x1)).toNatClampNeg (((2 : Int32) <<< (r14 &&& 31)) - ((1 : Int32) <<< (r11 &&& 31)))) o17 ((0 : Int32)).toNatClampNeg ((pI (sI S15 o17 (((2 : Int32) + x1)).toNatClampNeg (((2 : Int32) <<< (r14 &&& 31)) - ((1 : Int32) <<< (r11 &&& 31)))) o17 ((0 : Int32)).toNatClampNeg) + (1 : Int32)))) (kc2 := 0) (kn2 := 0) (pRunV (pc := 105) (S := (sI (sI S15 o17 (((2 : Int32) + x1)).toNatClampNeg (((2 : Int32) <<< (r14 &&& 31)) - ((1 : Int32) <<< (r11 &&& 31)))) o17 ((0 : Int32)).toNatClampNeg ((pI (sI S15 o17 (((2 : Int32) + x1)).toNatClampNeg (((2 : Int32) <<< (r14 &&& 31)) - ((1 : Int32) <<< (r11 &&& 31)))) o17 ((0 : Int32)).toNatClampNeg) + (1 : Int32)))) C (ctX12_ends l G  _ x0 _ h) (cwV 0 C.2.2.2.2.1 gX12_variable_X12_ends rfl rfl rfl (by decide +kernel) ⟨Nat.le_of_ble_eq_true rfl, Nat.le_of_ble_eq_true rfl⟩) pCl10 hk16 rfl rfl (Nat.le_of_ble_eq_true rfl) dX12_variable_105 ⟨Nat.le_of_ble_eq_true rfl, Nat.le_of_ble_eq_true rfl⟩) rfl rfl (fun S23 h => ?_)
    exact pw_vret (pc := 108) C hr h dX12_variable_108
  · replace h := h.2 hc
    exact pw_vret (pc := 50) C hr h dX12_variable_50
set_option maxRecDepth 100000 in
set_option maxHeartbeats 4000000 in
theorem cbX12_variable_b18 {p : Program} {l : Launch} {e : Env} {s : State} {m : MethodId} {args : Array Value} {below : List Frame} {meth : Method} {c : Code} {G : PG} {Q : PS → Prop} (C : pCx p s m args meth c G cX12_variable 4 yX12_variable.cls wsX12_variable) (hr : meth.sig.returnType = none) (hin : meth.name = yX12_variable.name) (hZ : pZa G)  : ∀ (S : PS) (x0 : Nat) (x1 : Int32), wpX12_variable_b18  Q S x0 x1 → PW p l e rmX12_variable s m args below meth c (MQ below (va_Qv Q (pB G) (pFr G)) args s rmX12_variable.cells rmX12_variable.slots (pFr G)) G 4 S 0 0 [(0, .ref (G.2.2 + x0)), (1, .int x1)] 18 ([]) := by
  intro S x0 x1 h
  unfold wpX12_variable_b18 at h
  refine pw_aload_n (pc := 18) C 0 dX12_variable_18 rfl rfl ?_
  obtain ⟨hk24, h⟩ := h
  refine pw_calli (pc := 19) (kc2 := 0) (kn2 := 0) (pRunV (pc := 19) C (ctX12_isWrong l G  _ x0 _ h) (cwV 0 C.2.2.2.2.1 gX12_variable_X12_isWrong rfl rfl rfl (by decide +kernel) ⟨Nat.le_of_ble_eq_true rfl, Nat.le_of_ble_eq_true rfl⟩) pCl10 hk24 rfl rfl (Nat.le_of_ble_eq_true rfl) dX12_variable_19 ⟨Nat.le_of_ble_eq_true rfl, Nat.le_of_ble_eq_true rfl⟩) rfl rfl (fun r25 S26 h => ?_)
  refine pw_if_eq (pc := 22) (tgt := 26) C dX12_variable_22 rfl ⟨fun hc => ?_, fun hc => ?_⟩
  · replace h := h.1 hc
    refine pw_aload_n (pc := 26) C 0 dX12_variable_26 rfl rfl ?_
    obtain ⟨hk27, h⟩ := h
    refine pw_callv (pc := 27) (kc2 := 0) (kn2 := 0) (pRunV (pc := 27) C (ctX12_token l G  _ x0 _ h) (cwV 0 C.2.2.2.2.1 gX12_variable_X12_token rfl rfl rfl (by decide +kernel) ⟨Nat.le_of_ble_eq_true rfl, Nat.le_of_ble_eq_true rfl⟩) pCl10 hk27 rfl rfl (Nat.le_of_ble_eq_true rfl) dX12_variable_27 ⟨Nat.le_of_ble_eq_true rfl, Nat.le_of_ble_eq_true rfl⟩) rfl rfl (fun S29 h => ?_)
    refine pw_aload_n (pc := 30) C 0 dX12_variable_30 rfl rfl ?_
    obtain ⟨hk30, h⟩ := h
    refine pw_calli (pc := 31) (kc2 := 0) (kn2 := 0) (pRunV (pc := 31) C (ctX12_named l G hZ  _ x0 _ h) (cwV 0 C.2.2.2.2.1 gX12_variable_X12_named rfl rfl rfl (by decide +kernel) ⟨Nat.le_of_ble_eq_true rfl, Nat.le_of_ble_eq_true rfl⟩) pCl10 hk30 rfl rfl (Nat.le_of_ble_eq_true rfl) dX12_variable_31 ⟨Nat.le_of_ble_eq_true rfl, Nat.le_of_ble_eq_true rfl⟩) rfl rfl (fun r31 S32 h => ?_)
    refine pw_iconst (pc := 34) (v := (-1)) C dX12_variable_34 (by decide) ?_
    refine pw_icmp_eq (pc := 35) (tgt := 43) C dX12_variable_35 rfl ⟨fun hc => ?_, fun hc => ?_⟩
    · replace h := h.1 hc
      exact cbX12_variable_b43 C hr hin hZ  _ _ _ h
    · replace h := h.2 hc
      refine pw_aload_n (pc := 38) C 0 dX12_variable_38 rfl rfl ?_
      refine pw_iconst (pc := 39) (v := 3 ) C dX12_variable_39 (by decide) ?_
      obtain ⟨hk33, h⟩ := h
      refine pw_callv (pc := 40) (kc2 := 0) (kn2 := 0) (pRunV (pc := 40) C (ctX12_fails l G  _ x0 (3 : Int32) _ h) (cwV 1 C.2.2.2.2.1 gX12_variable_X12_fails rfl rfl rfl (by decide +kernel) ⟨Nat.le_of_ble_eq_true rfl, Nat.le_of_ble_eq_true rfl⟩) pCl10 hk33 rfl rfl (Nat.le_of_ble_eq_true rfl) dX12_variable_40 ⟨Nat.le_of_ble_eq_true rfl, Nat.le_of_ble_eq_true rfl⟩) rfl rfl (fun S35 h => ?_)
      exact cbX12_variable_b43 C hr hin hZ  _ _ _ h
  · replace h := h.2 hc
    exact pw_vret (pc := 25) C hr h dX12_variable_25
set_option maxRecDepth 100000 in
set_option maxHeartbeats 4000000 in
theorem ctX12_variable (l : Launch) (G : PG) (hZ : pZa G) (S : PS) (x0 : Nat) (Q : PS → Prop) (h : wpX12_variable S x0 Q) : mV l yX12_variable wsX12_variable rmX12_variable G S [.ref (G.2.2 + x0)] Q := by
  unfold mV
  refine met_of (cc := cX12_variable) (maxL := 4) (ret := none) (by decide) rfl (Nat.le_of_ble_eq_true rfl) ?_
  intro p e s m args below meth c C hr hin
  unfold wpX12_variable at h
  show PW p l e _ s m args below meth c _ G 4 S 0 0 [(0, .ref (G.2.2 + x0))] 0 []
  refine pw_aload_n (pc := 0) C 0 dX12_variable_0 rfl rfl ?_
  obtain ⟨hk36, h⟩ := h
  obtain ⟨o37, ho37, h⟩ := h
  refine pw_getR (pc := 1) (ref := "SupportSolverModel") (k := 2) (index := 13) C pCl10 iX12_variable_X12 hk36 rfl (by decide +kernel) (Or.inl rfl) (o := o37) ho37 dX12_variable_1 ?_
  refine pw_iconst (pc := 4) (v := 0 ) C dX12_variable_4 (by decide) ?_
  obtain ⟨hk38, h⟩ := h
  obtain ⟨hi39, h⟩ := h
  refine pw_iald (pc := 5) C hk38 hi39 dX12_variable_5 ?_
  refine pw_istore_n (pc := 6) C [(1, .int (pI S o37 ((0 : Int32)).toNatClampNeg)), (0, .ref (G.2.2 + x0))] dX12_variable_6 rfl (by decide) rfl ?_
  refine pw_iload_n (pc := 7) C 0 dX12_variable_7 rfl rfl ?_
  refine pw_bipush (pc := 8) (v := 7 ) C dX12_variable_8 (by decide) ?_
  refine pw_icmp_ne (pc := 10) (tgt := 18) C dX12_variable_10 rfl ⟨fun hc => ?_, fun hc => ?_⟩
  · replace h := h.1 hc
    refine pw_sub [1, 0] (LV2 := [(0, .ref (G.2.2 + x0)), (1, .int (pI S o37 ((0 : Int32)).toNatClampNeg))]) rfl ?_
    exact cbX12_variable_b18 C hr hin hZ  _ _ _ h
  · replace h := h.2 hc
    refine pw_aload_n (pc := 13) C 1 dX12_variable_13 rfl rfl ?_
    refine pw_iconst (pc := 14) (v := 4 ) C dX12_variable_14 (by decide) ?_
    refine pw_callv (pc := 15) (kc2 := 0) (kn2 := 0) (pRunV (pc := 15) C (ctX12_fails l G  _ x0 (4 : Int32) _ h) (cwV 1 C.2.2.2.2.1 gX12_variable_X12_fails rfl rfl rfl (by decide +kernel) ⟨Nat.le_of_ble_eq_true rfl, Nat.le_of_ble_eq_true rfl⟩) pCl10 hk36 rfl rfl (Nat.le_of_ble_eq_true rfl) dX12_variable_15 ⟨Nat.le_of_ble_eq_true rfl, Nat.le_of_ble_eq_true rfl⟩) rfl rfl (fun S41 h => ?_)
    refine pw_sub [1, 0] (LV2 := [(0, .ref (G.2.2 + x0)), (1, .int (pI S o37 ((0 : Int32)).toNatClampNeg))]) rfl ?_
    exact cbX12_variable_b18 C hr hin hZ  _ _ _ h

abbrev rmX12_member : Room := { frames := 6, cells := 0, slots := 0, locals := 128 }
theorem iX12_member_X12 : ∀ w ∈ u_ws RX12 TX12 32, w ∈ wsX12_member := fun _ h => List.mem_cons_of_mem _ (List.mem_append_right _ h)
def wpX12_member_b51 (K19 : PS → Nat → Int32 → Int32 → Int32 → Int32 → Prop) (Q : PS → Prop) (S : PS) (x0 : Nat) (x1 : Int32) (x2 : Int32) (x3 : Int32) (x4 : Int32) : Prop := (K19 S x0 x1 x2 (1 : Int32) (x4 + 1))
def wpX12_member_b72  (Q : PS → Prop) (S : PS) (x0 : Nat) (x1 : Int32) (x2 : Int32) (x3 : Int32) (x4 : Int32) : Prop := (pK S x0 = 11 ∧ (wpX12_isWrong S x0 (fun r2 S3 => ((r2 = 0 → (pK S3 x0 = 11 ∧ (∃ o5, pR S3 x0 2 = some o5 ∧ (pK S3 o5 = 13 ∧ (vp_in (x1 + (1 : Int32)) (pL S3 o5) ∧ (vp_in ((x1 + (2 : Int32)) + (pI S3 o5 ((x1 + (1 : Int32))).toNatClampNeg)) (pL S3 o5) ∧ (vp_in (x1 + (1 : Int32)) (pL S3 o5) ∧ (vp_in (x1 + (1 : Int32)) (pL S3 o5) ∧ (wpX12_token (sI (sI S3 o5 (((x1 + (2 : Int32)) + (pI S3 o5 ((x1 + (1 : Int32))).toNatClampNeg))).toNatClampNeg x2) o5 ((x1 + (1 : Int32))).toNatClampNeg ((pI (sI S3 o5 (((x1 + (2 : Int32)) + (pI S3 o5 ((x1 + (1 : Int32))).toNatClampNeg))).toNatClampNeg x2) o5 ((x1 + (1 : Int32))).toNatClampNeg) + (1 : Int32))) x0 (fun S12 => (Q S12))))))))))) ∧ (¬ r2 = 0 → (Q S3))))))
def wpX12_member_b19  (Q : PS → Prop) : Nat → PS → Nat → Int32 → Int32 → Int32 → Int32 → Prop
  | 0 => fun _ _ _ _ _ _ => False
  | n + 1 => fun S x0 x1 x2 x3 x4 => (pK S x0 = 11 ∧ (∃ o14, pR S x0 2 = some o14 ∧ (pK S o14 = 13 ∧ (vp_in (x1 + (1 : Int32)) (pL S o14) ∧ (((pI S o14 ((x1 + (1 : Int32))).toNatClampNeg) ≤ x4 → ((x3 = 0 → (wpX12_member_b72 Q S x0 x1 x2 x3 x4)) ∧ (¬ x3 = 0 → (wpX12_fails S x0 (3 : Int32) (fun S18 => (wpX12_member_b72 Q S18 x0 x1 x2 x3 x4)))))) ∧ (¬ (pI S o14 ((x1 + (1 : Int32))).toNatClampNeg) ≤ x4 → ((¬ x3 = 0 → (wpX12_member_b51 (wpX12_member_b19 Q n) Q S x0 x1 x2 x3 x4)) ∧ (x3 = 0 → (vp_in ((x1 + (2 : Int32)) + x4) (pL S o14) ∧ ((¬ (pI S o14 (((x1 + (2 : Int32)) + x4)).toNatClampNeg) = x2 → (wpX12_member_b19 Q n S x0 x1 x2 (0 : Int32) (x4 + 1))) ∧ ((pI S o14 (((x1 + (2 : Int32)) + x4)).toNatClampNeg) = x2 → (wpX12_member_b51 (wpX12_member_b19 Q n) Q S x0 x1 x2 x3 x4))))))))))))
def wpX12_member (S : PS) (x0 : Nat) (x1 : Int32) (Q : PS → Prop) : Prop := (pK S x0 = 11 ∧ (wpX12_named S x0 (fun r21 S22 => ((¬ r21 = (-1 : Int32) → (∃ n9 : Nat, wpX12_member_b19 Q n9 S22 x0 x1 r21 (0 : Int32) (0 : Int32))) ∧ (r21 = (-1 : Int32) → (∃ n9 : Nat, wpX12_member_b19 Q n9 S22 x0 x1 r21 (1 : Int32) (0 : Int32)))))))
set_option maxRecDepth 100000 in
set_option maxHeartbeats 4000000 in
theorem cbX12_member_b51 {p : Program} {l : Launch} {e : Env} {s : State} {m : MethodId} {args : Array Value} {below : List Frame} {meth : Method} {c : Code} {G : PG} {Q : PS → Prop} (C : pCx p s m args meth c G cX12_member 5 yX12_member.cls wsX12_member) (hr : meth.sig.returnType = none) (hin : meth.name = yX12_member.name) (hZ : pZa G) {K19 : PS → Nat → Int32 → Int32 → Int32 → Int32 → Prop} (hK19 : ∀ (S : PS) (x0 : Nat) (x1 : Int32) (x2 : Int32) (x3 : Int32) (x4 : Int32), K19 S x0 x1 x2 x3 x4 → PW p l e rmX12_member s m args below meth c (MQ below (va_Qv Q (pB G) (pFr G)) args s rmX12_member.cells rmX12_member.slots (pFr G)) G 5 S 0 0 [(0, .ref (G.2.2 + x0)), (1, .int x1), (2, .int x2), (3, .int x3), (4, .int x4)] 19 ([])) : ∀ (S : PS) (x0 : Nat) (x1 : Int32) (x2 : Int32) (x3 : Int32) (x4 : Int32), wpX12_member_b51 K19 Q S x0 x1 x2 x3 x4 → PW p l e rmX12_member s m args below meth c (MQ below (va_Qv Q (pB G) (pFr G)) args s rmX12_member.cells rmX12_member.slots (pFr G)) G 5 S 0 0 [(0, .ref (G.2.2 + x0)), (1, .int x1), (2, .int x2), (3, .int x3), (4, .int x4)] 51 ([]) := by
  intro S x0 x1 x2 x3 x4 h
  unfold wpX12_member_b51 at h
  refine pw_iconst (pc := 51) (v := 1 ) C dX12_member_51 (by decide) ?_
  refine pw_goto (pc := 52) (tgt := 56) C dX12_member_52 rfl ?_
  refine pw_istore_n (pc := 56) C [(3, .int (1 : Int32)), (0, .ref (G.2.2 + x0)), (1, .int x1), (2, .int x2), (4, .int x4)] dX12_member_56 rfl (by decide) rfl ?_
  refine pw_iincK (pc := 57) (w := 1) C [(4, .int (x4 + 1)), (3, .int (1 : Int32)), (0, .ref (G.2.2 + x0)), (1, .int x1), (2, .int x2)] 4 dX12_member_57 (by decide) rfl (by decide) rfl ?_
  refine pw_goto (pc := 60) (tgt := 19) C dX12_member_60 rfl ?_
  refine pw_sub [2, 3, 4, 1, 0] (LV2 := [(0, .ref (G.2.2 + x0)), (1, .int x1), (2, .int x2), (3, .int (1 : Int32)), (4, .int (x4 + 1))]) rfl ?_
  exact hK19 _ _ _ _ _ _ h
set_option maxRecDepth 100000 in
set_option maxHeartbeats 4000000 in
theorem cbX12_member_b72 {p : Program} {l : Launch} {e : Env} {s : State} {m : MethodId} {args : Array Value} {below : List Frame} {meth : Method} {c : Code} {G : PG} {Q : PS → Prop} (C : pCx p s m args meth c G cX12_member 5 yX12_member.cls wsX12_member) (hr : meth.sig.returnType = none) (hin : meth.name = yX12_member.name) (hZ : pZa G)  : ∀ (S : PS) (x0 : Nat) (x1 : Int32) (x2 : Int32) (x3 : Int32) (x4 : Int32), wpX12_member_b72  Q S x0 x1 x2 x3 x4 → PW p l e rmX12_member s m args below meth c (MQ below (va_Qv Q (pB G) (pFr G)) args s rmX12_member.cells rmX12_member.slots (pFr G)) G 5 S 0 0 [(0, .ref (G.2.2 + x0)), (1, .int x1), (2, .int x2), (3, .int x3), (4, .int x4)] 72 ([]) := by
  intro S x0 x1 x2 x3 x4 h
  unfold wpX12_member_b72 at h
  refine pw_aload_n (pc := 72) C 0 dX12_member_72 rfl rfl ?_
  obtain ⟨hk1, h⟩ := h
  refine pw_calli (pc := 73) (kc2 := 0) (kn2 := 0) (pRunV (pc := 73) C (ctX12_isWrong l G  _ x0 _ h) (cwV 0 C.2.2.2.2.1 gX12_member_X12_isWrong rfl rfl rfl (by decide +kernel) ⟨Nat.le_of_ble_eq_true rfl, Nat.le_of_ble_eq_true rfl⟩) pCl10 hk1 rfl rfl (Nat.le_of_ble_eq_true rfl) dX12_member_73 ⟨Nat.le_of_ble_eq_true rfl, Nat.le_of_ble_eq_true rfl⟩) rfl rfl (fun r2 S3 h => ?_)
  refine pw_if_eq (pc := 76) (tgt := 80) C dX12_member_76 rfl ⟨fun hc => ?_, fun hc => ?_⟩
  · replace h := h.1 hc
    refine pw_aload_n (pc := 80) C 0 dX12_member_80 rfl rfl ?_
    obtain ⟨hk4, h⟩ := h
    obtain ⟨o5, ho5, h⟩ := h
    refine pw_getR (pc := 81) (ref := "SupportSolverModel") (k := 2) (index := 13) C pCl10 iX12_member_X12 hk4 rfl (by decide +kernel) (Or.inl rfl) (o := o5) ho5 dX12_member_81 ?_
    refine pw_iload_n (pc := 84) C 1 dX12_member_84 rfl rfl ?_
    refine pw_iconst (pc := 85) (v := 2 ) C dX12_member_85 (by decide) ?_
    refine pw_iadd (pc := 86) C dX12_member_86 ?_
    refine pw_aload_n (pc := 87) C 0 dX12_member_87 rfl rfl ?_
    refine pw_getR (pc := 88) (ref := "SupportSolverModel") (k := 2) (index := 13) C pCl10 iX12_member_X12 hk4 rfl (by decide +kernel) (Or.inl rfl) (o := o5) ho5 dX12_member_88 ?_
    refine pw_iload_n (pc := 91) C 1 dX12_member_91 rfl rfl ?_
    refine pw_iconst (pc := 92) (v := 1 ) C dX12_member_92 (by decide) ?_
    refine pw_iadd (pc := 93) C dX12_member_93 ?_
    obtain ⟨hk6, h⟩ := h
    obtain ⟨hi7, h⟩ := h
    refine pw_iald (pc := 94) C hk6 hi7 dX12_member_94 ?_
    refine pw_iadd (pc := 95) C dX12_member_95 ?_
    refine pw_iload_n (pc := 96) C 2 dX12_member_96 rfl rfl ?_
    obtain ⟨hi8, h⟩ := h
    refine pw_iast (pc := 97) C hk6 hi8 dX12_member_97 ?_
    refine pw_aload_n (pc := 98) (S := (sI S3 o5 (((x1 + (2 : Int32)) + (pI S3 o5 ((x1 + (1 : Int32))).toNatClampNeg))).toNatClampNeg x2)) C 0 dX12_member_98 rfl rfl ?_
    refine pw_getR (pc := 99) (S := (sI S3 o5 (((x1 + (2 : Int32)) + (pI S3 o5 ((x1 + (1 : Int32))).toNatClampNeg))).toNatClampNeg x2)) (ref := "SupportSolverModel") (k := 2) (index := 13) C pCl10 iX12_member_X12 hk4 rfl (by decide +kernel) (Or.inl rfl) (o := o5) ho5 dX12_member_99 ?_
    refine pw_iload_n (pc := 102) (S := (sI S3 o5 (((x1 + (2 : Int32)) + (pI S3 o5 ((x1 + (1 : Int32))).toNatClampNeg))).toNatClampNeg x2)) C 1 dX12_member_102 rfl rfl ?_
    refine pw_iconst (pc := 103) (S := (sI S3 o5 (((x1 + (2 : Int32)) + (pI S3 o5 ((x1 + (1 : Int32))).toNatClampNeg))).toNatClampNeg x2)) (v := 1 ) C dX12_member_103 (by decide) ?_
    refine pw_iadd (pc := 104) (S := (sI S3 o5 (((x1 + (2 : Int32)) + (pI S3 o5 ((x1 + (1 : Int32))).toNatClampNeg))).toNatClampNeg x2)) C dX12_member_104 ?_
    refine pw_dup2_11 (pc := 105) (S := (sI S3 o5 (((x1 + (2 : Int32)) + (pI S3 o5 ((x1 + (1 : Int32))).toNatClampNeg))).toNatClampNeg x2)) C dX12_member_105 rfl rfl ?_
    obtain ⟨hi9, h⟩ := h
    refine pw_iald (pc := 106) (S := (sI S3 o5 (((x1 + (2 : Int32)) + (pI S3 o5 ((x1 + (1 : Int32))).toNatClampNeg))).toNatClampNeg x2)) C hk6 hi9 dX12_member_106 ?_
    refine pw_iconst (pc := 107) (S := (sI S3 o5 (((x1 + (2 : Int32)) + (pI S3 o5 ((x1 + (1 : Int32))).toNatClampNeg))).toNatClampNeg x2)) (v := 1 ) C dX12_member_107 (by decide) ?_
    refine pw_iadd (pc := 108) (S := (sI S3 o5 (((x1 + (2 : Int32)) + (pI S3 o5 ((x1 + (1 : Int32))).toNatClampNeg))).toNatClampNeg x2)) C dX12_member_108 ?_
    obtain ⟨hi10, h⟩ := h
    refine pw_iast (pc := 109) (S := (sI S3 o5 (((x1 + (2 : Int32)) + (pI S3 o5 ((x1 + (1 : Int32))).toNatClampNeg))).toNatClampNeg x2)) C hk6 hi10 dX12_member_109 ?_
    refine pw_aload_n (pc := 110) (S := (sI (sI S3 o5 (((x1 + (2 : Int32)) + (pI S3 o5 ((x1 + (1 : Int32))).toNatClampNeg))).toNatClampNeg x2) o5 ((x1 + (1 : Int32))).toNatClampNeg ((pI (sI S3 o5 (((x1 + (2 : Int32)) + (pI S3 o5 ((x1 + (1 : Int32))).toNatClampNeg))).toNatClampNeg x2) o5 ((x1 + (1 : Int32))).toNatClampNeg) + (1 : Int32)))) C 0 dX12_member_110 rfl rfl ?_
    refine pw_callv (pc := 111) (S := (sI (sI S3 o5 (((x1 + (2 : Int32)) + (pI S3 o5 ((x1 + (1 : Int32))).toNatClampNeg))).toNatClampNeg x2) o5 ((x1 + (1 : Int32))).toNatClampNeg ((pI (sI S3 o5 (((x1 + (2 : Int32)) + (pI S3 o5 ((x1 + (1 : Int32))).toNatClampNeg))).toNatClampNeg x2) o5 ((x1 + (1 : Int32))).toNatClampNeg) + (1 : Int32)))) (kc2 := 0) (kn2 := 0) (pRunV (pc := 111) (S := (sI (sI S3 o5 (((x1 + (2 : Int32)) + (pI S3 o5 ((x1 + (1 : Int32))).toNatClampNeg))).toNatClampNeg x2) o5 ((x1 + (1 : Int32))).toNatClampNeg ((pI (sI S3 o5 (((x1 + (2 : Int32)) + (pI S3 o5 ((x1 + (1 : Int32))).toNatClampNeg))).toNatClampNeg x2) o5 ((x1 + (1 : Int32))).toNatClampNeg) + (1 : Int32)))) C (ctX12_token l G  _ x0 _ h) (cwV 0 C.2.2.2.2.1 gX12_member_X12_token rfl rfl rfl (by decide +kernel) ⟨Nat.le_of_ble_eq_true rfl, Nat.le_of_ble_eq_true rfl⟩) pCl10 hk4 rfl rfl (Nat.le_of_ble_eq_true rfl) dX12_member_111 ⟨Nat.le_of_ble_eq_true rfl, Nat.le_of_ble_eq_true rfl⟩) rfl rfl (fun S12 h => ?_)
    exact pw_vret (pc := 114) C hr h dX12_member_114
  · replace h := h.2 hc
    exact pw_vret (pc := 79) C hr h dX12_member_79
set_option maxRecDepth 100000 in
set_option maxHeartbeats 4000000 in
theorem cbX12_member_b19 {p : Program} {l : Launch} {e : Env} {s : State} {m : MethodId} {args : Array Value} {below : List Frame} {meth : Method} {c : Code} {G : PG} {Q : PS → Prop} (C : pCx p s m args meth c G cX12_member 5 yX12_member.cls wsX12_member) (hr : meth.sig.returnType = none) (hin : meth.name = yX12_member.name) (hZ : pZa G)  (n : Nat) : ∀ (S : PS) (x0 : Nat) (x1 : Int32) (x2 : Int32) (x3 : Int32) (x4 : Int32), wpX12_member_b19  Q n S x0 x1 x2 x3 x4 → PW p l e rmX12_member s m args below meth c (MQ below (va_Qv Q (pB G) (pFr G)) args s rmX12_member.cells rmX12_member.slots (pFr G)) G 5 S 0 0 [(0, .ref (G.2.2 + x0)), (1, .int x1), (2, .int x2), (3, .int x3), (4, .int x4)] 19 ([]) := by
  induction n with
  | zero => intro S x0 x1 x2 x3 x4 h; exact h.elim
  | succ n ih =>
    intro S x0 x1 x2 x3 x4 h
    unfold wpX12_member_b19 at h
    refine pw_iload (pc := 19) C 4 dX12_member_19 rfl ?_
    refine pw_aload_n (pc := 21) C 0 dX12_member_21 rfl rfl ?_
    obtain ⟨hk13, h⟩ := h
    obtain ⟨o14, ho14, h⟩ := h
    refine pw_getR (pc := 22) (ref := "SupportSolverModel") (k := 2) (index := 13) C pCl10 iX12_member_X12 hk13 rfl (by decide +kernel) (Or.inl rfl) (o := o14) ho14 dX12_member_22 ?_
    refine pw_iload_n (pc := 25) C 1 dX12_member_25 rfl rfl ?_
    refine pw_iconst (pc := 26) (v := 1 ) C dX12_member_26 (by decide) ?_
    refine pw_iadd (pc := 27) C dX12_member_27 ?_
    obtain ⟨hk15, h⟩ := h
    obtain ⟨hi16, h⟩ := h
    refine pw_iald (pc := 28) C hk15 hi16 dX12_member_28 ?_
    refine pw_icmp_ge (pc := 29) (tgt := 63) C dX12_member_29 rfl ⟨fun hc => ?_, fun hc => ?_⟩
    · replace h := h.1 hc
      refine pw_iload_n (pc := 63) C 3 dX12_member_63 rfl rfl ?_
      refine pw_if_eq (pc := 64) (tgt := 72) C dX12_member_64 rfl ⟨fun hc => ?_, fun hc => ?_⟩
      · replace h := h.1 hc
        exact cbX12_member_b72 C hr hin hZ  _ _ _ _ _ _ h
      · replace h := h.2 hc
        refine pw_aload_n (pc := 67) C 0 dX12_member_67 rfl rfl ?_
        refine pw_iconst (pc := 68) (v := 3 ) C dX12_member_68 (by decide) ?_
        refine pw_callv (pc := 69) (kc2 := 0) (kn2 := 0) (pRunV (pc := 69) C (ctX12_fails l G  _ x0 (3 : Int32) _ h) (cwV 1 C.2.2.2.2.1 gX12_member_X12_fails rfl rfl rfl (by decide +kernel) ⟨Nat.le_of_ble_eq_true rfl, Nat.le_of_ble_eq_true rfl⟩) pCl10 hk13 rfl rfl (Nat.le_of_ble_eq_true rfl) dX12_member_69 ⟨Nat.le_of_ble_eq_true rfl, Nat.le_of_ble_eq_true rfl⟩) rfl rfl (fun S18 h => ?_)
        exact cbX12_member_b72 C hr hin hZ  _ _ _ _ _ _ h
    · replace h := h.2 hc
      refine pw_iload_n (pc := 32) C 3 dX12_member_32 rfl rfl ?_
      refine pw_if_ne (pc := 33) (tgt := 51) C dX12_member_33 rfl ⟨fun hc => ?_, fun hc => ?_⟩
      · replace h := h.1 hc
        exact cbX12_member_b51 C hr hin hZ ih _ _ _ _ _ _ h
      · replace h := h.2 hc
        refine pw_aload_n (pc := 36) C 0 dX12_member_36 rfl rfl ?_
        refine pw_getR (pc := 37) (ref := "SupportSolverModel") (k := 2) (index := 13) C pCl10 iX12_member_X12 hk13 rfl (by decide +kernel) (Or.inl rfl) (o := o14) ho14 dX12_member_37 ?_
        refine pw_iload_n (pc := 40) C 1 dX12_member_40 rfl rfl ?_
        refine pw_iconst (pc := 41) (v := 2 ) C dX12_member_41 (by decide) ?_
        refine pw_iadd (pc := 42) C dX12_member_42 ?_
        refine pw_iload (pc := 43) C 4 dX12_member_43 rfl ?_
        refine pw_iadd (pc := 45) C dX12_member_45 ?_
        obtain ⟨hi19, h⟩ := h
        refine pw_iald (pc := 46) C hk15 hi19 dX12_member_46 ?_
        refine pw_iload_n (pc := 47) C 2 dX12_member_47 rfl rfl ?_
        refine pw_icmp_ne (pc := 48) (tgt := 55) C dX12_member_48 rfl ⟨fun hc => ?_, fun hc => ?_⟩
        · replace h := h.1 hc
          refine pw_iconst (pc := 55) (v := 0 ) C dX12_member_55 (by decide) ?_
          refine pw_istore_n (pc := 56) C [(3, .int (0 : Int32)), (0, .ref (G.2.2 + x0)), (1, .int x1), (2, .int x2), (4, .int x4)] dX12_member_56 rfl (by decide) rfl ?_
          refine pw_iincK (pc := 57) (w := 1) C [(4, .int (x4 + 1)), (3, .int (0 : Int32)), (0, .ref (G.2.2 + x0)), (1, .int x1), (2, .int x2)] 4 dX12_member_57 (by decide) rfl (by decide) rfl ?_
          refine pw_goto (pc := 60) (tgt := 19) C dX12_member_60 rfl ?_
          refine pw_sub [2, 3, 4, 1, 0] (LV2 := [(0, .ref (G.2.2 + x0)), (1, .int x1), (2, .int x2), (3, .int (0 : Int32)), (4, .int (x4 + 1))]) rfl ?_
          exact ih _ _ _ _ _ _ h
        · replace h := h.2 hc
          exact cbX12_member_b51 C hr hin hZ ih _ _ _ _ _ _ h
set_option maxRecDepth 100000 in
set_option maxHeartbeats 4000000 in
theorem ctX12_member (l : Launch) (G : PG) (hZ : pZa G) (S : PS) (x0 : Nat) (x1 : Int32) (Q : PS → Prop) (h : wpX12_member S x0 x1 Q) : mV l yX12_member wsX12_member rmX12_member G S [.ref (G.2.2 + x0), .int x1] Q := by
  unfold mV
  refine met_of (cc := cX12_member) (maxL := 5) (ret := none) (by decide) rfl (Nat.le_of_ble_eq_true rfl) ?_
  intro p e s m args below meth c C hr hin
  unfold wpX12_member at h
  show PW p l e _ s m args below meth c _ G 5 S 0 0 [(0, .ref (G.2.2 + x0)), (1, .int x1)] 0 []
  refine pw_aload_n (pc := 0) C 0 dX12_member_0 rfl rfl ?_
  obtain ⟨hk20, h⟩ := h
  refine pw_calli (pc := 1) (kc2 := 0) (kn2 := 0) (pRunV (pc := 1) C (ctX12_named l G hZ  _ x0 _ h) (cwV 0 C.2.2.2.2.1 gX12_member_X12_named rfl rfl rfl (by decide +kernel) ⟨Nat.le_of_ble_eq_true rfl, Nat.le_of_ble_eq_true rfl⟩) pCl10 hk20 rfl rfl (Nat.le_of_ble_eq_true rfl) dX12_member_1 ⟨Nat.le_of_ble_eq_true rfl, Nat.le_of_ble_eq_true rfl⟩) rfl rfl (fun r21 S22 h => ?_)
  refine pw_istore_n (pc := 4) C [(2, .int r21), (0, .ref (G.2.2 + x0)), (1, .int x1)] dX12_member_4 rfl (by decide) rfl ?_
  refine pw_iload_n (pc := 5) C 0 dX12_member_5 rfl rfl ?_
  refine pw_iconst (pc := 6) (v := (-1)) C dX12_member_6 (by decide) ?_
  refine pw_icmp_ne (pc := 7) (tgt := 14) C dX12_member_7 rfl ⟨fun hc => ?_, fun hc => ?_⟩
  · replace h := h.1 hc
    refine pw_iconst (pc := 14) (v := 0 ) C dX12_member_14 (by decide) ?_
    refine pw_istore_n (pc := 15) C [(3, .int (0 : Int32)), (2, .int r21), (0, .ref (G.2.2 + x0)), (1, .int x1)] dX12_member_15 rfl (by decide) rfl ?_
    refine pw_iconst (pc := 16) (v := 0 ) C dX12_member_16 (by decide) ?_
    refine pw_istore (pc := 17) C [(4, .int (0 : Int32)), (3, .int (0 : Int32)), (2, .int r21), (0, .ref (G.2.2 + x0)), (1, .int x1)] dX12_member_17 (by decide) rfl ?_
    refine pw_sub [3, 4, 2, 1, 0] (LV2 := [(0, .ref (G.2.2 + x0)), (1, .int x1), (2, .int r21), (3, .int (0 : Int32)), (4, .int (0 : Int32))]) rfl ?_
    obtain ⟨n9, h⟩ := h
    exact cbX12_member_b19 C hr hin hZ  n9 _ _ _ _ _ _ h
  · replace h := h.2 hc
    refine pw_iconst (pc := 10) (v := 1 ) C dX12_member_10 (by decide) ?_
    refine pw_goto (pc := 11) (tgt := 15) C dX12_member_11 rfl ?_
    refine pw_istore_n (pc := 15) C [(3, .int (1 : Int32)), (2, .int r21), (0, .ref (G.2.2 + x0)), (1, .int x1)] dX12_member_15 rfl (by decide) rfl ?_
    refine pw_iconst (pc := 16) (v := 0 ) C dX12_member_16 (by decide) ?_
    refine pw_istore (pc := 17) C [(4, .int (0 : Int32)), (3, .int (1 : Int32)), (2, .int r21), (0, .ref (G.2.2 + x0)), (1, .int x1)] dX12_member_17 (by decide) rfl ?_
    refine pw_sub [3, 4, 2, 1, 0] (LV2 := [(0, .ref (G.2.2 + x0)), (1, .int x1), (2, .int r21), (3, .int (1 : Int32)), (4, .int (0 : Int32))]) rfl ?_
    obtain ⟨n9, h⟩ := h
    exact cbX12_member_b19 C hr hin hZ  n9 _ _ _ _ _ _ h

abbrev rmX12_count : Room := { frames := 3, cells := 0, slots := 0, locals := 65 }
theorem iX12_count_X12 : ∀ w ∈ u_ws RX12 TX12 32, w ∈ wsX12_count := fun _ h => List.mem_cons_of_mem _ (List.mem_append_right _ h)
def wpX12_count_b51  (Q : PS → Prop) (S : PS) (x0 : Nat) (x1 : Int32) : Prop := (pK S x0 = 11 ∧ (wpX12_figure S x0 (0 : Int32) (4 : Int32) (fun r2 S3 => (pK S3 x0 = 11 ∧ (wpX12_isWrong S3 x0 (fun r5 S6 => ((r5 = 0 → (pK S6 x0 = 11 ∧ (∃ o8, pR S6 x0 2 = some o8 ∧ (pK S6 o8 = 13 ∧ (vp_in (x1 + (19 : Int32)) (pL S6 o8) ∧ (vp_in (x1 + (19 : Int32)) (pL S6 o8) ∧ (wpX12_figure (sI S6 o8 ((x1 + (19 : Int32))).toNatClampNeg ((pI S6 o8 ((x1 + (19 : Int32))).toNatClampNeg) ||| ((1 : Int32) <<< (r2 &&& 31)))) x0 (0 : Int32) (7 : Int32) (fun r12 S13 => (pK S13 o8 = 13 ∧ (vp_in ((x1 + (9 : Int32)) + r2) (pL S13 o8) ∧ (pK S13 x0 = 11 ∧ (∃ o17, pR S13 x0 2 = some o17 ∧ (pK S13 o17 = 13 ∧ (vp_in ((x1 + (9 : Int32)) + r2) (pL S13 o17) ∧ (wpX12_figure (sI S13 o8 (((x1 + (9 : Int32)) + r2)).toNatClampNeg r12) x0 (pI (sI S13 o8 (((x1 + (9 : Int32)) + r2)).toNatClampNeg r12) o17 (((x1 + (9 : Int32)) + r2)).toNatClampNeg) (7 : Int32) (fun r20 S21 => (pK S21 o17 = 13 ∧ (vp_in ((x1 + (14 : Int32)) + r2) (pL S21 o17) ∧ (Q (sI S21 o17 (((x1 + (14 : Int32)) + r2)).toNatClampNeg r20)))))))))))))))))))) ∧ (¬ r5 = 0 → (Q S6)))))))))
def wpX12_count (S : PS) (x0 : Nat) (x1 : Int32) (Q : PS → Prop) : Prop := (pK S x0 = 11 ∧ (wpX12_token S x0 (fun S26 => (pK S26 x0 = 11 ∧ (wpX12_isWrong S26 x0 (fun r28 S29 => ((¬ r28 = 0 → (wpX12_count_b51 Q S29 x0 x1)) ∧ (r28 = 0 → (pK S29 x0 = 11 ∧ ((¬ (pI S29 x0 17) = (2 : Int32) → (wpX12_count_b51 Q S29 x0 x1)) ∧ ((pI S29 x0 17) = (2 : Int32) → (((5 : Int32) ≤ (pI S29 x0 18) → (wpX12_count_b51 Q S29 x0 x1)) ∧ (¬ (5 : Int32) ≤ (pI S29 x0 18) → (∃ o31, pR S29 x0 2 = some o31 ∧ (pK S29 o31 = 13 ∧ (vp_in (x1 + (19 : Int32)) (pL S29 o31) ∧ (wpX12_has S29 (pI S29 o31 ((x1 + (19 : Int32))).toNatClampNeg) (pI S29 x0 18) (fun r34 S35 => ((r34 = 0 → (wpX12_count_b51 Q S35 x0 x1)) ∧ (¬ r34 = 0 → (pK S35 x0 = 11 ∧ (wpX12_fails S35 x0 (3 : Int32) (fun S38 => (wpX12_count_b51 Q S38 x0 x1))))))))))))))))))))))))
set_option maxRecDepth 100000 in
set_option maxHeartbeats 4000000 in
theorem cbX12_count_b51 {p : Program} {l : Launch} {e : Env} {s : State} {m : MethodId} {args : Array Value} {below : List Frame} {meth : Method} {c : Code} {G : PG} {Q : PS → Prop} (C : pCx p s m args meth c G cX12_count 3 yX12_count.cls wsX12_count) (hr : meth.sig.returnType = none) (hin : meth.name = yX12_count.name) (hZ : pZa G)  : ∀ (S : PS) (x0 : Nat) (x1 : Int32), wpX12_count_b51  Q S x0 x1 → PW p l e rmX12_count s m args below meth c (MQ below (va_Qv Q (pB G) (pFr G)) args s rmX12_count.cells rmX12_count.slots (pFr G)) G 3 S 0 0 [(0, .ref (G.2.2 + x0)), (1, .int x1)] 51 ([]) := by
  intro S x0 x1 h
  unfold wpX12_count_b51 at h
  refine pw_aload_n (pc := 51) C 0 dX12_count_51 rfl rfl ?_
  refine pw_iconst (pc := 52) (v := 0 ) C dX12_count_52 (by decide) ?_
  refine pw_iconst (pc := 53) (v := 4 ) C dX12_count_53 (by decide) ?_
  obtain ⟨hk1, h⟩ := h
  refine pw_calli (pc := 54) (kc2 := 0) (kn2 := 0) (pRunV (pc := 54) C (ctX12_figure l G  _ x0 (0 : Int32) (4 : Int32) _ h) (cwV 2 C.2.2.2.2.1 gX12_count_X12_figure rfl rfl rfl (by decide +kernel) ⟨Nat.le_of_ble_eq_true rfl, Nat.le_of_ble_eq_true rfl⟩) pCl10 hk1 rfl rfl (Nat.le_of_ble_eq_true rfl) dX12_count_54 ⟨Nat.le_of_ble_eq_true rfl, Nat.le_of_ble_eq_true rfl⟩) rfl rfl (fun r2 S3 h => ?_)
  refine pw_istore_n (pc := 57) C [(2, .int r2), (0, .ref (G.2.2 + x0)), (1, .int x1)] dX12_count_57 rfl (by decide) rfl ?_
  refine pw_aload_n (pc := 58) C 1 dX12_count_58 rfl rfl ?_
  obtain ⟨hk4, h⟩ := h
  refine pw_calli (pc := 59) (kc2 := 0) (kn2 := 0) (pRunV (pc := 59) C (ctX12_isWrong l G  _ x0 _ h) (cwV 0 C.2.2.2.2.1 gX12_count_X12_isWrong rfl rfl rfl (by decide +kernel) ⟨Nat.le_of_ble_eq_true rfl, Nat.le_of_ble_eq_true rfl⟩) pCl10 hk4 rfl rfl (Nat.le_of_ble_eq_true rfl) dX12_count_59 ⟨Nat.le_of_ble_eq_true rfl, Nat.le_of_ble_eq_true rfl⟩) rfl rfl (fun r5 S6 h => ?_)
  refine pw_if_eq (pc := 62) (tgt := 66) C dX12_count_62 rfl ⟨fun hc => ?_, fun hc => ?_⟩
  · replace h := h.1 hc
    refine pw_aload_n (pc := 66) C 1 dX12_count_66 rfl rfl ?_
    obtain ⟨hk7, h⟩ := h
    obtain ⟨o8, ho8, h⟩ := h
    refine pw_getR (pc := 67) (ref := "SupportSolverModel") (k := 2) (index := 13) C pCl10 iX12_count_X12 hk7 rfl (by decide +kernel) (Or.inl rfl) (o := o8) ho8 dX12_count_67 ?_
    refine pw_iload_n (pc := 70) C 2 dX12_count_70 rfl rfl ?_
    refine pw_bipush (pc := 71) (v := 19 ) C dX12_count_71 (by decide) ?_
    refine pw_iadd (pc := 73) C dX12_count_73 ?_
    refine pw_dup2_11 (pc := 74) C dX12_count_74 rfl rfl ?_
    obtain ⟨hk9, h⟩ := h
    obtain ⟨hi10, h⟩ := h
    refine pw_iald (pc := 75) C hk9 hi10 dX12_count_75 ?_
    refine pw_iconst (pc := 76) (v := 1 ) C dX12_count_76 (by decide) ?_
    refine pw_iload_n (pc := 77) C 0 dX12_count_77 rfl rfl ?_
    refine pw_ishl (pc := 78) C dX12_count_78 ?_
    refine pw_ior (pc := 79) C dX12_count_79 ?_
    obtain ⟨hi11, h⟩ := h
    refine pw_iast (pc := 80) C hk9 hi11 dX12_count_80 ?_
    refine pw_aload_n (pc := 81) (S := (sI S6 o8 ((x1 + (19 : Int32))).toNatClampNeg ((pI S6 o8 ((x1 + (19 : Int32))).toNatClampNeg) ||| ((1 : Int32) <<< (r2 &&& 31))))) C 1 dX12_count_81 rfl rfl ?_
    refine pw_getR (pc := 82) (S := (sI S6 o8 ((x1 + (19 : Int32))).toNatClampNeg ((pI S6 o8 ((x1 + (19 : Int32))).toNatClampNeg) ||| ((1 : Int32) <<< (r2 &&& 31))))) (ref := "SupportSolverModel") (k := 2) (index := 13) C pCl10 iX12_count_X12 hk7 rfl (by decide +kernel) (Or.inl rfl) (o := o8) ho8 dX12_count_82 ?_
    refine pw_iload_n (pc := 85) (S := (sI S6 o8 ((x1 + (19 : Int32))).toNatClampNeg ((pI S6 o8 ((x1 + (19 : Int32))).toNatClampNeg) ||| ((1 : Int32) <<< (r2 &&& 31))))) C 2 dX12_count_85 rfl rfl ?_
    refine pw_bipush (pc := 86) (S := (sI S6 o8 ((x1 + (19 : Int32))).toNatClampNeg ((pI S6 o8 ((x1 + (19 : Int32))).toNatClampNeg) ||| ((1 : Int32) <<< (r2 &&& 31))))) (v := 9 ) C dX12_count_86 (by decide) ?_
    refine pw_iadd (pc := 88) (S := (sI S6 o8 ((x1 + (19 : Int32))).toNatClampNeg ((pI S6 o8 ((x1 + (19 : Int32))).toNatClampNeg) ||| ((1 : Int32) <<< (r2 &&& 31))))) C dX12_count_88 ?_
    refine pw_iload_n (pc := 89) (S := (sI S6 o8 ((x1 + (19 : Int32))).toNatClampNeg ((pI S6 o8 ((x1 + (19 : Int32))).toNatClampNeg) ||| ((1 : Int32) <<< (r2 &&& 31))))) C 0 dX12_count_89 rfl rfl ?_
    refine pw_iadd (pc := 90) (S := (sI S6 o8 ((x1 + (19 : Int32))).toNatClampNeg ((pI S6 o8 ((x1 + (19 : Int32))).toNatClampNeg) ||| ((1 : Int32) <<< (r2 &&& 31))))) C dX12_count_90 ?_
    refine pw_aload_n (pc := 91) (S := (sI S6 o8 ((x1 + (19 : Int32))).toNatClampNeg ((pI S6 o8 ((x1 + (19 : Int32))).toNatClampNeg) ||| ((1 : Int32) <<< (r2 &&& 31))))) C 1 dX12_count_91 rfl rfl ?_
    refine pw_iconst (pc := 92) (S := (sI S6 o8 ((x1 + (19 : Int32))).toNatClampNeg ((pI S6 o8 ((x1 + (19 : Int32))).toNatClampNeg) ||| ((1 : Int32) <<< (r2 &&& 31))))) (v := 0 ) C dX12_count_92 (by decide) ?_
    refine pw_bipush (pc := 93) (S := (sI S6 o8 ((x1 + (19 : Int32))).toNatClampNeg ((pI S6 o8 ((x1 + (19 : Int32))).toNatClampNeg) ||| ((1 : Int32) <<< (r2 &&& 31))))) (v := 7 ) C dX12_count_93 (by decide) ?_
    refine pw_calli (pc := 95) (S := (sI S6 o8 ((x1 + (19 : Int32))).toNatClampNeg ((pI S6 o8 ((x1 + (19 : Int32))).toNatClampNeg) ||| ((1 : Int32) <<< (r2 &&& 31))))) (kc2 := 0) (kn2 := 0) (pRunV (pc := 95) (S := (sI S6 o8 ((x1 + (19 : Int32))).toNatClampNeg ((pI S6 o8 ((x1 + (19 : Int32))).toNatClampNeg) ||| ((1 : Int32) <<< (r2 &&& 31))))) C (ctX12_figure l G  _ x0 (0 : Int32) (7 : Int32) _ h) (cwV 2 C.2.2.2.2.1 gX12_count_X12_figure rfl rfl rfl (by decide +kernel) ⟨Nat.le_of_ble_eq_true rfl, Nat.le_of_ble_eq_true rfl⟩) pCl10 hk7 rfl rfl (Nat.le_of_ble_eq_true rfl) dX12_count_95 ⟨Nat.le_of_ble_eq_true rfl, Nat.le_of_ble_eq_true rfl⟩) rfl rfl (fun r12 S13 h => ?_)
    obtain ⟨hk14, h⟩ := h
    obtain ⟨hi15, h⟩ := h
    refine pw_iast (pc := 98) C hk14 hi15 dX12_count_98 ?_
    refine pw_aload_n (pc := 99) (S := (sI S13 o8 (((x1 + (9 : Int32)) + r2)).toNatClampNeg r12)) C 1 dX12_count_99 rfl rfl ?_
    obtain ⟨hk16, h⟩ := h
    obtain ⟨o17, ho17, h⟩ := h
    refine pw_getR (pc := 100) (S := (sI S13 o8 (((x1 + (9 : Int32)) + r2)).toNatClampNeg r12)) (ref := "SupportSolverModel") (k := 2) (index := 13) C pCl10 iX12_count_X12 hk16 rfl (by decide +kernel) (Or.inl rfl) (o := o17) ho17 dX12_count_100 ?_
    refine pw_iload_n (pc := 103) (S := (sI S13 o8 (((x1 + (9 : Int32)) + r2)).toNatClampNeg r12)) C 2 dX12_count_103 rfl rfl ?_
    refine pw_bipush (pc := 104) (S := (sI S13 o8 (((x1 + (9 : Int32)) + r2)).toNatClampNeg r12)) (v := 14 ) C dX12_count_104 (by decide) ?_
    refine pw_iadd (pc := 106) (S := (sI S13 o8 (((x1 + (9 : Int32)) + r2)).toNatClampNeg r12)) C dX12_count_106 ?_
    refine pw_iload_n (pc := 107) (S := (sI S13 o8 (((x1 + (9 : Int32)) + r2)).toNatClampNeg r12)) C 0 dX12_count_107 rfl rfl ?_
    refine pw_iadd (pc := 108) (S := (sI S13 o8 (((x1 + (9 : Int32)) + r2)).toNatClampNeg r12)) C dX12_count_108 ?_
    refine pw_aload_n (pc := 109) (S := (sI S13 o8 (((x1 + (9 : Int32)) + r2)).toNatClampNeg r12)) C 1 dX12_count_109 rfl rfl ?_
    refine pw_aload_n (pc := 110) (S := (sI S13 o8 (((x1 + (9 : Int32)) + r2)).toNatClampNeg r12)) C 1 dX12_count_110 rfl rfl ?_
    refine pw_getR (pc := 111) (S := (sI S13 o8 (((x1 + (9 : Int32)) + r2)).toNatClampNeg r12)) (ref := "SupportSolverModel") (k := 2) (index := 13) C pCl10 iX12_count_X12 hk16 rfl (by decide +kernel) (Or.inl rfl) (o := o17) ho17 dX12_count_111 ?_
    refine pw_iload_n (pc := 114) (S := (sI S13 o8 (((x1 + (9 : Int32)) + r2)).toNatClampNeg r12)) C 2 dX12_count_114 rfl rfl ?_
    refine pw_bipush (pc := 115) (S := (sI S13 o8 (((x1 + (9 : Int32)) + r2)).toNatClampNeg r12)) (v := 9 ) C dX12_count_115 (by decide) ?_
    refine pw_iadd (pc := 117) (S := (sI S13 o8 (((x1 + (9 : Int32)) + r2)).toNatClampNeg r12)) C dX12_count_117 ?_
    refine pw_iload_n (pc := 118) (S := (sI S13 o8 (((x1 + (9 : Int32)) + r2)).toNatClampNeg r12)) C 0 dX12_count_118 rfl rfl ?_
    refine pw_iadd (pc := 119) (S := (sI S13 o8 (((x1 + (9 : Int32)) + r2)).toNatClampNeg r12)) C dX12_count_119 ?_
    obtain ⟨hk18, h⟩ := h
    obtain ⟨hi19, h⟩ := h
    refine pw_iald (pc := 120) (S := (sI S13 o8 (((x1 + (9 : Int32)) + r2)).toNatClampNeg r12)) C hk18 hi19 dX12_count_120 ?_
    refine pw_bipush (pc := 121) (S := (sI S13 o8 (((x1 + (9 : Int32)) + r2)).toNatClampNeg r12)) (v := 7 ) C dX12_count_121 (by decide) ?_
    refine pw_calli (pc := 123) (S := (sI S13 o8 (((x1 + (9 : Int32)) + r2)).toNatClampNeg r12)) (kc2 := 0) (kn2 := 0) (pRunV (pc := 123) (S := (sI S13 o8 (((x1 + (9 : Int32)) + r2)).toNatClampNeg r12)) C (ctX12_figure l G  _ x0 (pI (sI S13 o8 (((x1 + (9 : Int32)) + r2)).toNatClampNeg r12) o17 (((x1 + (9 : Int32)) + r2)).toNatClampNeg) (7 : Int32) _ h) (cwV 2 C.2.2.2.2.1 gX12_count_X12_figure rfl rfl rfl (by decide +kernel) ⟨Nat.le_of_ble_eq_true rfl, Nat.le_of_ble_eq_true rfl⟩) pCl10 hk16 rfl rfl (Nat.le_of_ble_eq_true rfl) dX12_count_123 ⟨Nat.le_of_ble_eq_true rfl, Nat.le_of_ble_eq_true rfl⟩) rfl rfl (fun r20 S21 h => ?_)
    obtain ⟨hk22, h⟩ := h
    obtain ⟨hi23, h⟩ := h
    refine pw_iast (pc := 126) C hk22 hi23 dX12_count_126 ?_
    exact pw_vret (pc := 127) (S := (sI S21 o17 (((x1 + (14 : Int32)) + r2)).toNatClampNeg r20)) C hr h dX12_count_127
  · replace h := h.2 hc
    exact pw_vret (pc := 65) C hr h dX12_count_65
set_option maxRecDepth 100000 in
set_option maxHeartbeats 4000000 in
theorem ctX12_count (l : Launch) (G : PG) (hZ : pZa G) (S : PS) (x0 : Nat) (x1 : Int32) (Q : PS → Prop) (h : wpX12_count S x0 x1 Q) : mV l yX12_count wsX12_count rmX12_count G S [.ref (G.2.2 + x0), .int x1] Q := by
  unfold mV
  refine met_of (cc := cX12_count) (maxL := 3) (ret := none) (by decide) rfl (Nat.le_of_ble_eq_true rfl) ?_
  intro p e s m args below meth c C hr hin
  unfold wpX12_count at h
  show PW p l e _ s m args below meth c _ G 3 S 0 0 [(0, .ref (G.2.2 + x0)), (1, .int x1)] 0 []
  refine pw_aload_n (pc := 0) C 0 dX12_count_0 rfl rfl ?_
  obtain ⟨hk24, h⟩ := h
  refine pw_callv (pc := 1) (kc2 := 0) (kn2 := 0) (pRunV (pc := 1) C (ctX12_token l G  _ x0 _ h) (cwV 0 C.2.2.2.2.1 gX12_count_X12_token rfl rfl rfl (by decide +kernel) ⟨Nat.le_of_ble_eq_true rfl, Nat.le_of_ble_eq_true rfl⟩) pCl10 hk24 rfl rfl (Nat.le_of_ble_eq_true rfl) dX12_count_1 ⟨Nat.le_of_ble_eq_true rfl, Nat.le_of_ble_eq_true rfl⟩) rfl rfl (fun S26 h => ?_)
  refine pw_aload_n (pc := 4) C 0 dX12_count_4 rfl rfl ?_
  obtain ⟨hk27, h⟩ := h
  refine pw_calli (pc := 5) (kc2 := 0) (kn2 := 0) (pRunV (pc := 5) C (ctX12_isWrong l G  _ x0 _ h) (cwV 0 C.2.2.2.2.1 gX12_count_X12_isWrong rfl rfl rfl (by decide +kernel) ⟨Nat.le_of_ble_eq_true rfl, Nat.le_of_ble_eq_true rfl⟩) pCl10 hk27 rfl rfl (Nat.le_of_ble_eq_true rfl) dX12_count_5 ⟨Nat.le_of_ble_eq_true rfl, Nat.le_of_ble_eq_true rfl⟩) rfl rfl (fun r28 S29 h => ?_)
  refine pw_if_ne (pc := 8) (tgt := 51) C dX12_count_8 rfl ⟨fun hc => ?_, fun hc => ?_⟩
  · replace h := h.1 hc
    exact cbX12_count_b51 C hr hin hZ  _ _ _ h
  · replace h := h.2 hc
    refine pw_aload_n (pc := 11) C 0 dX12_count_11 rfl rfl ?_
    obtain ⟨hk30, h⟩ := h
    refine pw_getI (pc := 12) (ref := "SupportSolverModel") (k := 17) (index := 117) C pCl10 iX12_count_X12 hk30 rfl (by decide +kernel) (Or.inl rfl) dX12_count_12 ?_
    refine pw_iconst (pc := 15) (v := 2 ) C dX12_count_15 (by decide) ?_
    refine pw_icmp_ne (pc := 16) (tgt := 51) C dX12_count_16 rfl ⟨fun hc => ?_, fun hc => ?_⟩
    · replace h := h.1 hc
      exact cbX12_count_b51 C hr hin hZ  _ _ _ h
    · replace h := h.2 hc
      refine pw_aload_n (pc := 19) C 0 dX12_count_19 rfl rfl ?_
      refine pw_getI (pc := 20) (ref := "SupportSolverModel") (k := 18) (index := 135) C pCl10 iX12_count_X12 hk30 rfl (by decide +kernel) (Or.inl rfl) dX12_count_20 ?_
      refine pw_iconst (pc := 23) (v := 5 ) C dX12_count_23 (by decide) ?_
      refine pw_icmp_ge (pc := 24) (tgt := 51) C dX12_count_24 rfl ⟨fun hc => ?_, fun hc => ?_⟩
      · replace h := h.1 hc
        exact cbX12_count_b51 C hr hin hZ  _ _ _ h
      · replace h := h.2 hc
        refine pw_aload_n (pc := 27) C 0 dX12_count_27 rfl rfl ?_
        obtain ⟨o31, ho31, h⟩ := h
        refine pw_getR (pc := 28) (ref := "SupportSolverModel") (k := 2) (index := 13) C pCl10 iX12_count_X12 hk30 rfl (by decide +kernel) (Or.inl rfl) (o := o31) ho31 dX12_count_28 ?_
        refine pw_iload_n (pc := 31) C 1 dX12_count_31 rfl rfl ?_
        refine pw_bipush (pc := 32) (v := 19 ) C dX12_count_32 (by decide) ?_
        refine pw_iadd (pc := 34) C dX12_count_34 ?_
        obtain ⟨hk32, h⟩ := h
        obtain ⟨hi33, h⟩ := h
        refine pw_iald (pc := 35) C hk32 hi33 dX12_count_35 ?_
        refine pw_aload_n (pc := 36) C 0 dX12_count_36 rfl rfl ?_
        refine pw_getI (pc := 37) (ref := "SupportSolverModel") (k := 18) (index := 135) C pCl10 iX12_count_X12 hk30 rfl (by decide +kernel) (Or.inl rfl) dX12_count_37 ?_
        refine pw_calli (pc := 40) (kc2 := 0) (kn2 := 0) (pRunS (pc := 40) C (ctX12_has l G  _ (pI S29 o31 ((x1 + (19 : Int32))).toNatClampNeg) (pI S29 x0 18) _ h) (va_cwS 2 C.2.2.2.2.1 gX12_count_X12_has rfl rfl rfl (by decide +kernel) ⟨Nat.le_of_ble_eq_true rfl, Nat.le_of_ble_eq_true rfl⟩) rfl rfl (Nat.le_of_ble_eq_true rfl) dX12_count_40 ⟨Nat.le_of_ble_eq_true rfl, Nat.le_of_ble_eq_true rfl⟩) rfl rfl (fun r34 S35 h => ?_)
        refine pw_if_eq (pc := 43) (tgt := 51) C dX12_count_43 rfl ⟨fun hc => ?_, fun hc => ?_⟩
        · replace h := h.1 hc
          exact cbX12_count_b51 C hr hin hZ  _ _ _ h
        · replace h := h.2 hc
          refine pw_aload_n (pc := 46) C 0 dX12_count_46 rfl rfl ?_
          refine pw_iconst (pc := 47) (v := 3 ) C dX12_count_47 (by decide) ?_
          obtain ⟨hk36, h⟩ := h
          refine pw_callv (pc := 48) (kc2 := 0) (kn2 := 0) (pRunV (pc := 48) C (ctX12_fails l G  _ x0 (3 : Int32) _ h) (cwV 1 C.2.2.2.2.1 gX12_count_X12_fails rfl rfl rfl (by decide +kernel) ⟨Nat.le_of_ble_eq_true rfl, Nat.le_of_ble_eq_true rfl⟩) pCl10 hk36 rfl rfl (Nat.le_of_ble_eq_true rfl) dX12_count_48 ⟨Nat.le_of_ble_eq_true rfl, Nat.le_of_ble_eq_true rfl⟩) rfl rfl (fun S38 h => ?_)
          exact cbX12_count_b51 C hr hin hZ  _ _ _ h

abbrev rmX12_counts : Room := { frames := 7, cells := 0, slots := 0, locals := 152 }
theorem iX12_counts_X12 : ∀ w ∈ u_ws RX12 TX12 32, w ∈ wsX12_counts := fun _ h => List.mem_cons_of_mem _ (List.mem_append_right _ h)
def wpX12_counts_b77  (Q : PS → Prop) : Nat → PS → Nat → Int32 → Int32 → Prop
  | 0 => fun _ _ _ _ => False
  | n + 1 => fun S x0 x1 x2 => (pK S x0 = 11 ∧ (wpX12_isWord S x0 [118, 97, 108, 117, 101] (fun r5 S6 => ((r5 = 0 → (Q S6)) ∧ (¬ r5 = 0 → (pK S6 x0 = 11 ∧ (wpX12_count S6 x0 x1 (fun S9 => (wpX12_counts_b77 Q n S9 x0 x1 x2)))))))))
def wpX12_counts_b63  (Q : PS → Prop) (S : PS) (x0 : Nat) (x1 : Int32) (x2 : Int32) : Prop := (pK S x0 = 11 ∧ (wpX12_isWord S x0 [118, 97, 108, 117, 101] (fun r14 S15 => ((¬ r14 = 0 → (∃ n9 : Nat, wpX12_counts_b77 Q n9 S15 x0 x1 x2)) ∧ (r14 = 0 → (pK S15 x0 = 11 ∧ (wpX12_fails S15 x0 (1 : Int32) (fun S18 => (∃ n9 : Nat, wpX12_counts_b77 Q n9 S18 x0 x1 x2)))))))))
def wpX12_counts_b31  (Q : PS → Prop) : Nat → PS → Nat → Int32 → Int32 → Prop
  | 0 => fun _ _ _ _ => False
  | n + 1 => fun S x0 x1 x2 => (pK S x0 = 11 ∧ (wpX12_isWrong S x0 (fun r20 S21 => ((¬ r20 = 0 → (wpX12_counts_b63 Q S21 x0 x1 x2)) ∧ (r20 = 0 → (pK S21 x0 = 11 ∧ ((¬ (pI S21 x0 17) = (1 : Int32) → (wpX12_counts_b63 Q S21 x0 x1 x2)) ∧ ((pI S21 x0 17) = (1 : Int32) → (wpX12_isWord S21 x0 [118, 97, 108, 117, 101] (fun r26 S27 => ((¬ r26 = 0 → (wpX12_counts_b63 Q S27 x0 x1 x2)) ∧ (r26 = 0 → (pK S27 x0 = 11 ∧ (wpX12_member S27 x0 x1 (fun S30 => (wpX12_counts_b31 Q n S30 x0 x1 x2))))))))))))))))
def wpX12_counts_b2  (Q : PS → Prop) : Nat → PS → Nat → Int32 → Int32 → Prop
  | 0 => fun _ _ _ _ => False
  | n + 1 => fun S x0 x1 x2 => (((5 : Int32) ≤ x2 → (pK S x0 = 11 ∧ (wpX12_member S x0 x1 (fun S33 => (∃ n9 : Nat, wpX12_counts_b31 Q n9 S33 x0 x1 x2))))) ∧ (¬ (5 : Int32) ≤ x2 → (pK S x0 = 11 ∧ (∃ o35, pR S x0 2 = some o35 ∧ (pK S o35 = 13 ∧ (vp_in ((x1 + (14 : Int32)) + x2) (pL S o35) ∧ (wpX12_counts_b2 Q n (sI S o35 (((x1 + (14 : Int32)) + x2)).toNatClampNeg (7 : Int32)) x0 x1 (x2 + 1))))))))
def wpX12_counts (S : PS) (x0 : Nat) (x1 : Int32) (Q : PS → Prop) : Prop := (∃ n9 : Nat, wpX12_counts_b2 Q n9 S x0 x1 (0 : Int32))
set_option maxRecDepth 100000 in
set_option maxHeartbeats 4000000 in
theorem cbX12_counts_b77 {p : Program} {l : Launch} {e : Env} {s : State} {m : MethodId} {args : Array Value} {below : List Frame} {meth : Method} {c : Code} {G : PG} {Q : PS → Prop} (C : pCx p s m args meth c G cX12_counts 3 yX12_counts.cls wsX12_counts) (hr : meth.sig.returnType = none) (hin : meth.name = yX12_counts.name) (hZ : pZa G)  (n : Nat) : ∀ (S : PS) (x0 : Nat) (x1 : Int32) (x2 : Int32), wpX12_counts_b77  Q n S x0 x1 x2 → PW p l e rmX12_counts s m args below meth c (MQ below (va_Qv Q (pB G) (pFr G)) args s rmX12_counts.cells rmX12_counts.slots (pFr G)) G 3 S 0 0 [(0, .ref (G.2.2 + x0)), (1, .int x1), (2, .int x2)] 77 ([]) := by
  induction n with
  | zero => intro S x0 x1 x2 h; exact h.elim
  | succ n ih =>
    intro S x0 x1 x2 h
    unfold wpX12_counts_b77 at h
    refine pw_aload_n (pc := 77) C 0 dX12_counts_77 rfl rfl ?_
    obtain ⟨q1, z2, hq3⟩ := (hZ.2.2.2.2.2.2.2.2.2.2.2.2.2.2.2.2.2.2.2.2.2.2.2.2.2.2.1)
    refine pw_ldcS (pc := 78) C z2 dX12_counts_78 ?_
    obtain ⟨hk4, h⟩ := h
    refine pw_calli (pc := 80) (kc2 := 0) (kn2 := 0) (pRunV (pc := 80) C (ctX12_isWord l G hZ [118, 97, 108, 117, 101] q1 hq3 (by decide)  _ x0 _ h) (cwV 1 C.2.2.2.2.1 gX12_counts_X12_isWord rfl rfl rfl (by decide +kernel) ⟨Nat.le_of_ble_eq_true rfl, Nat.le_of_ble_eq_true rfl⟩) pCl10 hk4 rfl rfl (Nat.le_of_ble_eq_true rfl) dX12_counts_80 ⟨Nat.le_of_ble_eq_true rfl, Nat.le_of_ble_eq_true rfl⟩) rfl rfl (fun r5 S6 h => ?_)
    refine pw_if_eq (pc := 83) (tgt := 94) C dX12_counts_83 rfl ⟨fun hc => ?_, fun hc => ?_⟩
    · replace h := h.1 hc
      exact pw_vret (pc := 94) C hr h dX12_counts_94
    · replace h := h.2 hc
      refine pw_aload_n (pc := 86) C 0 dX12_counts_86 rfl rfl ?_
      refine pw_iload_n (pc := 87) C 1 dX12_counts_87 rfl rfl ?_
      obtain ⟨hk7, h⟩ := h
      refine pw_callv (pc := 88) (kc2 := 0) (kn2 := 0) (pRunV (pc := 88) C (ctX12_count l G hZ  _ x0 x1 _ h) (cwV 1 C.2.2.2.2.1 gX12_counts_X12_count rfl rfl rfl (by decide +kernel) ⟨Nat.le_of_ble_eq_true rfl, Nat.le_of_ble_eq_true rfl⟩) pCl10 hk7 rfl rfl (Nat.le_of_ble_eq_true rfl) dX12_counts_88 ⟨Nat.le_of_ble_eq_true rfl, Nat.le_of_ble_eq_true rfl⟩) rfl rfl (fun S9 h => ?_)
      refine pw_goto (pc := 91) (tgt := 77) C dX12_counts_91 rfl ?_
      exact ih _ _ _ _ h
set_option maxRecDepth 100000 in
set_option maxHeartbeats 4000000 in
theorem cbX12_counts_b63 {p : Program} {l : Launch} {e : Env} {s : State} {m : MethodId} {args : Array Value} {below : List Frame} {meth : Method} {c : Code} {G : PG} {Q : PS → Prop} (C : pCx p s m args meth c G cX12_counts 3 yX12_counts.cls wsX12_counts) (hr : meth.sig.returnType = none) (hin : meth.name = yX12_counts.name) (hZ : pZa G)  : ∀ (S : PS) (x0 : Nat) (x1 : Int32) (x2 : Int32), wpX12_counts_b63  Q S x0 x1 x2 → PW p l e rmX12_counts s m args below meth c (MQ below (va_Qv Q (pB G) (pFr G)) args s rmX12_counts.cells rmX12_counts.slots (pFr G)) G 3 S 0 0 [(0, .ref (G.2.2 + x0)), (1, .int x1), (2, .int x2)] 63 ([]) := by
  intro S x0 x1 x2 h
  unfold wpX12_counts_b63 at h
  refine pw_aload_n (pc := 63) C 0 dX12_counts_63 rfl rfl ?_
  obtain ⟨q10, z11, hq12⟩ := (hZ.2.2.2.2.2.2.2.2.2.2.2.2.2.2.2.2.2.2.2.2.2.2.2.2.2.2.1)
  refine pw_ldcS (pc := 64) C z11 dX12_counts_64 ?_
  obtain ⟨hk13, h⟩ := h
  refine pw_calli (pc := 66) (kc2 := 0) (kn2 := 0) (pRunV (pc := 66) C (ctX12_isWord l G hZ [118, 97, 108, 117, 101] q10 hq12 (by decide)  _ x0 _ h) (cwV 1 C.2.2.2.2.1 gX12_counts_X12_isWord rfl rfl rfl (by decide +kernel) ⟨Nat.le_of_ble_eq_true rfl, Nat.le_of_ble_eq_true rfl⟩) pCl10 hk13 rfl rfl (Nat.le_of_ble_eq_true rfl) dX12_counts_66 ⟨Nat.le_of_ble_eq_true rfl, Nat.le_of_ble_eq_true rfl⟩) rfl rfl (fun r14 S15 h => ?_)
  refine pw_if_ne (pc := 69) (tgt := 77) C dX12_counts_69 rfl ⟨fun hc => ?_, fun hc => ?_⟩
  · replace h := h.1 hc
    obtain ⟨n9, h⟩ := h
    exact cbX12_counts_b77 C hr hin hZ  n9 _ _ _ _ h
  · replace h := h.2 hc
    refine pw_aload_n (pc := 72) C 0 dX12_counts_72 rfl rfl ?_
    refine pw_iconst (pc := 73) (v := 1 ) C dX12_counts_73 (by decide) ?_
    obtain ⟨hk16, h⟩ := h
    refine pw_callv (pc := 74) (kc2 := 0) (kn2 := 0) (pRunV (pc := 74) C (ctX12_fails l G  _ x0 (1 : Int32) _ h) (cwV 1 C.2.2.2.2.1 gX12_counts_X12_fails rfl rfl rfl (by decide +kernel) ⟨Nat.le_of_ble_eq_true rfl, Nat.le_of_ble_eq_true rfl⟩) pCl10 hk16 rfl rfl (Nat.le_of_ble_eq_true rfl) dX12_counts_74 ⟨Nat.le_of_ble_eq_true rfl, Nat.le_of_ble_eq_true rfl⟩) rfl rfl (fun S18 h => ?_)
    obtain ⟨n9, h⟩ := h
    exact cbX12_counts_b77 C hr hin hZ  n9 _ _ _ _ h
set_option maxRecDepth 100000 in
set_option maxHeartbeats 4000000 in
theorem cbX12_counts_b31 {p : Program} {l : Launch} {e : Env} {s : State} {m : MethodId} {args : Array Value} {below : List Frame} {meth : Method} {c : Code} {G : PG} {Q : PS → Prop} (C : pCx p s m args meth c G cX12_counts 3 yX12_counts.cls wsX12_counts) (hr : meth.sig.returnType = none) (hin : meth.name = yX12_counts.name) (hZ : pZa G)  (n : Nat) : ∀ (S : PS) (x0 : Nat) (x1 : Int32) (x2 : Int32), wpX12_counts_b31  Q n S x0 x1 x2 → PW p l e rmX12_counts s m args below meth c (MQ below (va_Qv Q (pB G) (pFr G)) args s rmX12_counts.cells rmX12_counts.slots (pFr G)) G 3 S 0 0 [(0, .ref (G.2.2 + x0)), (1, .int x1), (2, .int x2)] 31 ([]) := by
  induction n with
  | zero => intro S x0 x1 x2 h; exact h.elim
  | succ n ih =>
    intro S x0 x1 x2 h
    unfold wpX12_counts_b31 at h
    refine pw_aload_n (pc := 31) C 0 dX12_counts_31 rfl rfl ?_
    obtain ⟨hk19, h⟩ := h
    refine pw_calli (pc := 32) (kc2 := 0) (kn2 := 0) (pRunV (pc := 32) C (ctX12_isWrong l G  _ x0 _ h) (cwV 0 C.2.2.2.2.1 gX12_counts_X12_isWrong rfl rfl rfl (by decide +kernel) ⟨Nat.le_of_ble_eq_true rfl, Nat.le_of_ble_eq_true rfl⟩) pCl10 hk19 rfl rfl (Nat.le_of_ble_eq_true rfl) dX12_counts_32 ⟨Nat.le_of_ble_eq_true rfl, Nat.le_of_ble_eq_true rfl⟩) rfl rfl (fun r20 S21 h => ?_)
    refine pw_if_ne (pc := 35) (tgt := 63) C dX12_counts_35 rfl ⟨fun hc => ?_, fun hc => ?_⟩
    · replace h := h.1 hc
      exact cbX12_counts_b63 C hr hin hZ  _ _ _ _ h
    · replace h := h.2 hc
      refine pw_aload_n (pc := 38) C 0 dX12_counts_38 rfl rfl ?_
      obtain ⟨hk22, h⟩ := h
      refine pw_getI (pc := 39) (ref := "SupportSolverModel") (k := 17) (index := 117) C pCl10 iX12_counts_X12 hk22 rfl (by decide +kernel) (Or.inl rfl) dX12_counts_39 ?_
      refine pw_iconst (pc := 42) (v := 1 ) C dX12_counts_42 (by decide) ?_
      refine pw_icmp_ne (pc := 43) (tgt := 63) C dX12_counts_43 rfl ⟨fun hc => ?_, fun hc => ?_⟩
      · replace h := h.1 hc
        exact cbX12_counts_b63 C hr hin hZ  _ _ _ _ h
      · replace h := h.2 hc
        refine pw_aload_n (pc := 46) C 0 dX12_counts_46 rfl rfl ?_
        obtain ⟨q23, z24, hq25⟩ := (hZ.2.2.2.2.2.2.2.2.2.2.2.2.2.2.2.2.2.2.2.2.2.2.2.2.2.2.1)
        refine pw_ldcS (pc := 47) C z24 dX12_counts_47 ?_
        refine pw_calli (pc := 49) (kc2 := 0) (kn2 := 0) (pRunV (pc := 49) C (ctX12_isWord l G hZ [118, 97, 108, 117, 101] q23 hq25 (by decide)  _ x0 _ h) (cwV 1 C.2.2.2.2.1 gX12_counts_X12_isWord rfl rfl rfl (by decide +kernel) ⟨Nat.le_of_ble_eq_true rfl, Nat.le_of_ble_eq_true rfl⟩) pCl10 hk22 rfl rfl (Nat.le_of_ble_eq_true rfl) dX12_counts_49 ⟨Nat.le_of_ble_eq_true rfl, Nat.le_of_ble_eq_true rfl⟩) rfl rfl (fun r26 S27 h => ?_)
        refine pw_if_ne (pc := 52) (tgt := 63) C dX12_counts_52 rfl ⟨fun hc => ?_, fun hc => ?_⟩
        · replace h := h.1 hc
          exact cbX12_counts_b63 C hr hin hZ  _ _ _ _ h
        · replace h := h.2 hc
          refine pw_aload_n (pc := 55) C 0 dX12_counts_55 rfl rfl ?_
          refine pw_iload_n (pc := 56) C 1 dX12_counts_56 rfl rfl ?_
          obtain ⟨hk28, h⟩ := h
          refine pw_callv (pc := 57) (kc2 := 0) (kn2 := 0) (pRunV (pc := 57) C (ctX12_member l G hZ  _ x0 x1 _ h) (cwV 1 C.2.2.2.2.1 gX12_counts_X12_member rfl rfl rfl (by decide +kernel) ⟨Nat.le_of_ble_eq_true rfl, Nat.le_of_ble_eq_true rfl⟩) pCl10 hk28 rfl rfl (Nat.le_of_ble_eq_true rfl) dX12_counts_57 ⟨Nat.le_of_ble_eq_true rfl, Nat.le_of_ble_eq_true rfl⟩) rfl rfl (fun S30 h => ?_)
          refine pw_goto (pc := 60) (tgt := 31) C dX12_counts_60 rfl ?_
          exact ih _ _ _ _ h
set_option maxRecDepth 100000 in
set_option maxHeartbeats 4000000 in
theorem cbX12_counts_b2 {p : Program} {l : Launch} {e : Env} {s : State} {m : MethodId} {args : Array Value} {below : List Frame} {meth : Method} {c : Code} {G : PG} {Q : PS → Prop} (C : pCx p s m args meth c G cX12_counts 3 yX12_counts.cls wsX12_counts) (hr : meth.sig.returnType = none) (hin : meth.name = yX12_counts.name) (hZ : pZa G)  (n : Nat) : ∀ (S : PS) (x0 : Nat) (x1 : Int32) (x2 : Int32), wpX12_counts_b2  Q n S x0 x1 x2 → PW p l e rmX12_counts s m args below meth c (MQ below (va_Qv Q (pB G) (pFr G)) args s rmX12_counts.cells rmX12_counts.slots (pFr G)) G 3 S 0 0 [(0, .ref (G.2.2 + x0)), (1, .int x1), (2, .int x2)] 2 ([]) := by
  induction n with
  | zero => intro S x0 x1 x2 h; exact h.elim
  | succ n ih =>
    intro S x0 x1 x2 h
    unfold wpX12_counts_b2 at h
    refine pw_iload_n (pc := 2) C 2 dX12_counts_2 rfl rfl ?_
    refine pw_iconst (pc := 3) (v := 5 ) C dX12_counts_3 (by decide) ?_
    refine pw_icmp_ge (pc := 4) (tgt := 26) C dX12_counts_4 rfl ⟨fun hc => ?_, fun hc => ?_⟩
    · replace h := h.1 hc
      refine pw_aload_n (pc := 26) C 0 dX12_counts_26 rfl rfl ?_
      refine pw_iload_n (pc := 27) C 1 dX12_counts_27 rfl rfl ?_
      obtain ⟨hk31, h⟩ := h
      refine pw_callv (pc := 28) (kc2 := 0) (kn2 := 0) (pRunV (pc := 28) C (ctX12_member l G hZ  _ x0 x1 _ h) (cwV 1 C.2.2.2.2.1 gX12_counts_X12_member rfl rfl rfl (by decide +kernel) ⟨Nat.le_of_ble_eq_true rfl, Nat.le_of_ble_eq_true rfl⟩) pCl10 hk31 rfl rfl (Nat.le_of_ble_eq_true rfl) dX12_counts_28 ⟨Nat.le_of_ble_eq_true rfl, Nat.le_of_ble_eq_true rfl⟩) rfl rfl (fun S33 h => ?_)
      obtain ⟨n9, h⟩ := h
      exact cbX12_counts_b31 C hr hin hZ  n9 _ _ _ _ h
    · replace h := h.2 hc
      refine pw_aload_n (pc := 7) C 0 dX12_counts_7 rfl rfl ?_
      obtain ⟨hk34, h⟩ := h
      obtain ⟨o35, ho35, h⟩ := h
      refine pw_getR (pc := 8) (ref := "SupportSolverModel") (k := 2) (index := 13) C pCl10 iX12_counts_X12 hk34 rfl (by decide +kernel) (Or.inl rfl) (o := o35) ho35 dX12_counts_8 ?_
      refine pw_iload_n (pc := 11) C 1 dX12_counts_11 rfl rfl ?_
      refine pw_bipush (pc := 12) (v := 14 ) C dX12_counts_12 (by decide) ?_
      refine pw_iadd (pc := 14) C dX12_counts_14 ?_
      refine pw_iload_n (pc := 15) C 2 dX12_counts_15 rfl rfl ?_
      refine pw_iadd (pc := 16) C dX12_counts_16 ?_
      refine pw_bipush (pc := 17) (v := 7 ) C dX12_counts_17 (by decide) ?_
      obtain ⟨hk36, h⟩ := h
      obtain ⟨hi37, h⟩ := h
      refine pw_iast (pc := 19) C hk36 hi37 dX12_counts_19 ?_
      refine pw_iincK (pc := 20) (S := (sI S o35 (((x1 + (14 : Int32)) + x2)).toNatClampNeg (7 : Int32))) (w := 1) C [(2, .int (x2 + 1)), (0, .ref (G.2.2 + x0)), (1, .int x1)] 2 dX12_counts_20 (by decide) rfl (by decide) rfl ?_
      refine pw_goto (pc := 23) (S := (sI S o35 (((x1 + (14 : Int32)) + x2)).toNatClampNeg (7 : Int32))) (tgt := 2) C dX12_counts_23 rfl ?_
      refine pw_sub [1, 2, 0] (LV2 := [(0, .ref (G.2.2 + x0)), (1, .int x1), (2, .int (x2 + 1))]) rfl ?_
      exact ih _ _ _ _ h
set_option maxRecDepth 100000 in
set_option maxHeartbeats 4000000 in
theorem ctX12_counts (l : Launch) (G : PG) (hZ : pZa G) (S : PS) (x0 : Nat) (x1 : Int32) (Q : PS → Prop) (h : wpX12_counts S x0 x1 Q) : mV l yX12_counts wsX12_counts rmX12_counts G S [.ref (G.2.2 + x0), .int x1] Q := by
  unfold mV
  refine met_of (cc := cX12_counts) (maxL := 3) (ret := none) (by decide) rfl (Nat.le_of_ble_eq_true rfl) ?_
  intro p e s m args below meth c C hr hin
  unfold wpX12_counts at h
  show PW p l e _ s m args below meth c _ G 3 S 0 0 [(0, .ref (G.2.2 + x0)), (1, .int x1)] 0 []
  refine pw_iconst (pc := 0) (v := 0 ) C dX12_counts_0 (by decide) ?_
  refine pw_istore_n (pc := 1) C [(2, .int (0 : Int32)), (0, .ref (G.2.2 + x0)), (1, .int x1)] dX12_counts_1 rfl (by decide) rfl ?_
  refine pw_sub [1, 2, 0] (LV2 := [(0, .ref (G.2.2 + x0)), (1, .int x1), (2, .int (0 : Int32))]) rfl ?_
  obtain ⟨n9, h⟩ := h
  exact cbX12_counts_b2 C hr hin hZ  n9 _ _ _ _ h

abbrev rmX12_window : Room := { frames := 7, cells := 0, slots := 0, locals := 152 }
theorem iX12_window_X12 : ∀ w ∈ u_ws RX12 TX12 32, w ∈ wsX12_window := fun _ h => List.mem_cons_of_mem _ (List.mem_append_right _ h)
def wpX12_window_b98  (Q : PS → Prop) : Nat → PS → Nat → Int32 → Prop
  | 0 => fun _ _ _ => False
  | n + 1 => fun S x0 x1 => (pK S x0 = 11 ∧ (wpX12_isWrong S x0 (fun r2 S3 => ((¬ r2 = 0 → (Q S3)) ∧ (r2 = 0 → (pK S3 x0 = 11 ∧ ((¬ (pI S3 x0 17) = (1 : Int32) → (Q S3)) ∧ ((pI S3 x0 17) = (1 : Int32) → (wpX12_member S3 x0 x1 (fun S6 => (wpX12_window_b98 Q n S6 x0 x1)))))))))))
def wpX12_window (S : PS) (x0 : Nat) (x1 : Int32) (Q : PS → Prop) : Prop := (pK S x0 = 11 ∧ (∃ o8, pR S x0 2 = some o8 ∧ (wpX12_figure S x0 (1 : Int32) (4 : Int32) (fun r9 S10 => (pK S10 o8 = 13 ∧ (vp_in (x1 + (9 : Int32)) (pL S10 o8) ∧ (pK S10 x0 = 11 ∧ (∃ o14, pR S10 x0 2 = some o14 ∧ (wpX12_figure (sI S10 o8 ((x1 + (9 : Int32))).toNatClampNeg r9) x0 (1 : Int32) (31 : Int32) (fun r15 S16 => (pK S16 o14 = 13 ∧ (vp_in ((x1 + (9 : Int32)) + (1 : Int32)) (pL S16 o14) ∧ (pK S16 x0 = 11 ∧ (∃ o20, pR S16 x0 2 = some o20 ∧ (pK S16 o20 = 13 ∧ (vp_in (x1 + (9 : Int32)) (pL S16 o20) ∧ (wpX12_figure (sI S16 o14 (((x1 + (9 : Int32)) + (1 : Int32))).toNatClampNeg r15) x0 (0 : Int32) (pI (sI S16 o14 (((x1 + (9 : Int32)) + (1 : Int32))).toNatClampNeg r15) o20 ((x1 + (9 : Int32))).toNatClampNeg) (fun r23 S24 => (pK S24 o20 = 13 ∧ (vp_in ((x1 + (9 : Int32)) + (2 : Int32)) (pL S24 o20) ∧ (pK S24 x0 = 11 ∧ (∃ o28, pR S24 x0 2 = some o28 ∧ (pK S24 o28 = 13 ∧ (vp_in ((x1 + (9 : Int32)) + (2 : Int32)) (pL S24 o28) ∧ (vp_in (x1 + (9 : Int32)) (pL S24 o28) ∧ (wpX12_figure (sI S24 o20 (((x1 + (9 : Int32)) + (2 : Int32))).toNatClampNeg r23) x0 (pI (sI S24 o20 (((x1 + (9 : Int32)) + (2 : Int32))).toNatClampNeg r23) o28 (((x1 + (9 : Int32)) + (2 : Int32))).toNatClampNeg) (pI (sI S24 o20 (((x1 + (9 : Int32)) + (2 : Int32))).toNatClampNeg r23) o28 ((x1 + (9 : Int32))).toNatClampNeg) (fun r32 S33 => (pK S33 o28 = 13 ∧ (vp_in ((x1 + (9 : Int32)) + (3 : Int32)) (pL S33 o28) ∧ (pK S33 x0 = 11 ∧ (wpX12_member (sI S33 o28 (((x1 + (9 : Int32)) + (3 : Int32))).toNatClampNeg r32) x0 x1 (fun S38 => (∃ n9 : Nat, wpX12_window_b98 Q n9 S38 x0 x1)))))))))))))))))))))))))))))))))
set_option maxRecDepth 100000 in
set_option maxHeartbeats 4000000 in
theorem cbX12_window_b98 {p : Program} {l : Launch} {e : Env} {s : State} {m : MethodId} {args : Array Value} {below : List Frame} {meth : Method} {c : Code} {G : PG} {Q : PS → Prop} (C : pCx p s m args meth c G cX12_window 2 yX12_window.cls wsX12_window) (hr : meth.sig.returnType = none) (hin : meth.name = yX12_window.name) (hZ : pZa G)  (n : Nat) : ∀ (S : PS) (x0 : Nat) (x1 : Int32), wpX12_window_b98  Q n S x0 x1 → PW p l e rmX12_window s m args below meth c (MQ below (va_Qv Q (pB G) (pFr G)) args s rmX12_window.cells rmX12_window.slots (pFr G)) G 2 S 0 0 [(0, .ref (G.2.2 + x0)), (1, .int x1)] 98 ([]) := by
  induction n with
  | zero => intro S x0 x1 h; exact h.elim
  | succ n ih =>
    intro S x0 x1 h
    unfold wpX12_window_b98 at h
    refine pw_aload_n (pc := 98) C 0 dX12_window_98 rfl rfl ?_
    obtain ⟨hk1, h⟩ := h
    refine pw_calli (pc := 99) (kc2 := 0) (kn2 := 0) (pRunV (pc := 99) C (ctX12_isWrong l G  _ x0 _ h) (cwV 0 C.2.2.2.2.1 gX12_window_X12_isWrong rfl rfl rfl (by decide +kernel) ⟨Nat.le_of_ble_eq_true rfl, Nat.le_of_ble_eq_true rfl⟩) pCl10 hk1 rfl rfl (Nat.le_of_ble_eq_true rfl) dX12_window_99 ⟨Nat.le_of_ble_eq_true rfl, Nat.le_of_ble_eq_true rfl⟩) rfl rfl (fun r2 S3 h => ?_)
    refine pw_if_ne (pc := 102) (tgt := 121) C dX12_window_102 rfl ⟨fun hc => ?_, fun hc => ?_⟩
    · replace h := h.1 hc
      exact pw_vret (pc := 121) C hr h dX12_window_121
    · replace h := h.2 hc
      refine pw_aload_n (pc := 105) C 0 dX12_window_105 rfl rfl ?_
      obtain ⟨hk4, h⟩ := h
      refine pw_getI (pc := 106) (ref := "SupportSolverModel") (k := 17) (index := 117) C pCl10 iX12_window_X12 hk4 rfl (by decide +kernel) (Or.inl rfl) dX12_window_106 ?_
      refine pw_iconst (pc := 109) (v := 1 ) C dX12_window_109 (by decide) ?_
      refine pw_icmp_ne (pc := 110) (tgt := 121) C dX12_window_110 rfl ⟨fun hc => ?_, fun hc => ?_⟩
      · replace h := h.1 hc
        exact pw_vret (pc := 121) C hr h dX12_window_121
      · replace h := h.2 hc
        refine pw_aload_n (pc := 113) C 0 dX12_window_113 rfl rfl ?_
        refine pw_iload_n (pc := 114) C 1 dX12_window_114 rfl rfl ?_
        refine pw_callv (pc := 115) (kc2 := 0) (kn2 := 0) (pRunV (pc := 115) C (ctX12_member l G hZ  _ x0 x1 _ h) (cwV 1 C.2.2.2.2.1 gX12_window_X12_member rfl rfl rfl (by decide +kernel) ⟨Nat.le_of_ble_eq_true rfl, Nat.le_of_ble_eq_true rfl⟩) pCl10 hk4 rfl rfl (Nat.le_of_ble_eq_true rfl) dX12_window_115 ⟨Nat.le_of_ble_eq_true rfl, Nat.le_of_ble_eq_true rfl⟩) rfl rfl (fun S6 h => ?_)
        refine pw_goto (pc := 118) (tgt := 98) C dX12_window_118 rfl ?_
        exact ih _ _ _ h
set_option maxRecDepth 100000 in
set_option maxHeartbeats 4000000 in
theorem ctX12_window (l : Launch) (G : PG) (hZ : pZa G) (S : PS) (x0 : Nat) (x1 : Int32) (Q : PS → Prop) (h : wpX12_window S x0 x1 Q) : mV l yX12_window wsX12_window rmX12_window G S [.ref (G.2.2 + x0), .int x1] Q := by
  unfold mV
  refine met_of (cc := cX12_window) (maxL := 2) (ret := none) (by decide) rfl (Nat.le_of_ble_eq_true rfl) ?_
  intro p e s m args below meth c C hr hin
  unfold wpX12_window at h
  show PW p l e _ s m args below meth c _ G 2 S 0 0 [(0, .ref (G.2.2 + x0)), (1, .int x1)] 0 []
  refine pw_aload_n (pc := 0) C 0 dX12_window_0 rfl rfl ?_
  obtain ⟨hk7, h⟩ := h
  obtain ⟨o8, ho8, h⟩ := h
  refine pw_getR (pc := 1) (ref := "SupportSolverModel") (k := 2) (index := 13) C pCl10 iX12_window_X12 hk7 rfl (by decide +kernel) (Or.inl rfl) (o := o8) ho8 dX12_window_1 ?_
  refine pw_iload_n (pc := 4) C 1 dX12_window_4 rfl rfl ?_
  refine pw_bipush (pc := 5) (v := 9 ) C dX12_window_5 (by decide) ?_
  refine pw_iadd (pc := 7) C dX12_window_7 ?_
  refine pw_aload_n (pc := 8) C 0 dX12_window_8 rfl rfl ?_
  refine pw_iconst (pc := 9) (v := 1 ) C dX12_window_9 (by decide) ?_
  refine pw_iconst (pc := 10) (v := 4 ) C dX12_window_10 (by decide) ?_
  refine pw_calli (pc := 11) (kc2 := 0) (kn2 := 0) (pRunV (pc := 11) C (ctX12_figure l G  _ x0 (1 : Int32) (4 : Int32) _ h) (cwV 2 C.2.2.2.2.1 gX12_window_X12_figure rfl rfl rfl (by decide +kernel) ⟨Nat.le_of_ble_eq_true rfl, Nat.le_of_ble_eq_true rfl⟩) pCl10 hk7 rfl rfl (Nat.le_of_ble_eq_true rfl) dX12_window_11 ⟨Nat.le_of_ble_eq_true rfl, Nat.le_of_ble_eq_true rfl⟩) rfl rfl (fun r9 S10 h => ?_)
  obtain ⟨hk11, h⟩ := h
  obtain ⟨hi12, h⟩ := h
  refine pw_iast (pc := 14) C hk11 hi12 dX12_window_14 ?_
  refine pw_aload_n (pc := 15) (S := (sI S10 o8 ((x1 + (9 : Int32))).toNatClampNeg r9)) C 0 dX12_window_15 rfl rfl ?_
  obtain ⟨hk13, h⟩ := h
  obtain ⟨o14, ho14, h⟩ := h
  refine pw_getR (pc := 16) (S := (sI S10 o8 ((x1 + (9 : Int32))).toNatClampNeg r9)) (ref := "SupportSolverModel") (k := 2) (index := 13) C pCl10 iX12_window_X12 hk13 rfl (by decide +kernel) (Or.inl rfl) (o := o14) ho14 dX12_window_16 ?_
  refine pw_iload_n (pc := 19) (S := (sI S10 o8 ((x1 + (9 : Int32))).toNatClampNeg r9)) C 1 dX12_window_19 rfl rfl ?_
  refine pw_bipush (pc := 20) (S := (sI S10 o8 ((x1 + (9 : Int32))).toNatClampNeg r9)) (v := 9 ) C dX12_window_20 (by decide) ?_
  refine pw_iadd (pc := 22) (S := (sI S10 o8 ((x1 + (9 : Int32))).toNatClampNeg r9)) C dX12_window_22 ?_
  refine pw_iconst (pc := 23) (S := (sI S10 o8 ((x1 + (9 : Int32))).toNatClampNeg r9)) (v := 1 ) C dX12_window_23 (by decide) ?_
  refine pw_iadd (pc := 24) (S := (sI S10 o8 ((x1 + (9 : Int32))).toNatClampNeg r9)) C dX12_window_24 ?_
  refine pw_aload_n (pc := 25) (S := (sI S10 o8 ((x1 + (9 : Int32))).toNatClampNeg r9)) C 0 dX12_window_25 rfl rfl ?_
  refine pw_iconst (pc := 26) (S := (sI S10 o8 ((x1 + (9 : Int32))).toNatClampNeg r9)) (v := 1 ) C dX12_window_26 (by decide) ?_
  refine pw_bipush (pc := 27) (S := (sI S10 o8 ((x1 + (9 : Int32))).toNatClampNeg r9)) (v := 31 ) C dX12_window_27 (by decide) ?_
  refine pw_calli (pc := 29) (S := (sI S10 o8 ((x1 + (9 : Int32))).toNatClampNeg r9)) (kc2 := 0) (kn2 := 0) (pRunV (pc := 29) (S := (sI S10 o8 ((x1 + (9 : Int32))).toNatClampNeg r9)) C (ctX12_figure l G  _ x0 (1 : Int32) (31 : Int32) _ h) (cwV 2 C.2.2.2.2.1 gX12_window_X12_figure rfl rfl rfl (by decide +kernel) ⟨Nat.le_of_ble_eq_true rfl, Nat.le_of_ble_eq_true rfl⟩) pCl10 hk13 rfl rfl (Nat.le_of_ble_eq_true rfl) dX12_window_29 ⟨Nat.le_of_ble_eq_true rfl, Nat.le_of_ble_eq_true rfl⟩) rfl rfl (fun r15 S16 h => ?_)
  obtain ⟨hk17, h⟩ := h
  obtain ⟨hi18, h⟩ := h
  refine pw_iast (pc := 32) C hk17 hi18 dX12_window_32 ?_
  refine pw_aload_n (pc := 33) (S := (sI S16 o14 (((x1 + (9 : Int32)) + (1 : Int32))).toNatClampNeg r15)) C 0 dX12_window_33 rfl rfl ?_
  obtain ⟨hk19, h⟩ := h
  obtain ⟨o20, ho20, h⟩ := h
  refine pw_getR (pc := 34) (S := (sI S16 o14 (((x1 + (9 : Int32)) + (1 : Int32))).toNatClampNeg r15)) (ref := "SupportSolverModel") (k := 2) (index := 13) C pCl10 iX12_window_X12 hk19 rfl (by decide +kernel) (Or.inl rfl) (o := o20) ho20 dX12_window_34 ?_
  refine pw_iload_n (pc := 37) (S := (sI S16 o14 (((x1 + (9 : Int32)) + (1 : Int32))).toNatClampNeg r15)) C 1 dX12_window_37 rfl rfl ?_
  refine pw_bipush (pc := 38) (S := (sI S16 o14 (((x1 + (9 : Int32)) + (1 : Int32))).toNatClampNeg r15)) (v := 9 ) C dX12_window_38 (by decide) ?_
  refine pw_iadd (pc := 40) (S := (sI S16 o14 (((x1 + (9 : Int32)) + (1 : Int32))).toNatClampNeg r15)) C dX12_window_40 ?_
  refine pw_iconst (pc := 41) (S := (sI S16 o14 (((x1 + (9 : Int32)) + (1 : Int32))).toNatClampNeg r15)) (v := 2 ) C dX12_window_41 (by decide) ?_
  refine pw_iadd (pc := 42) (S := (sI S16 o14 (((x1 + (9 : Int32)) + (1 : Int32))).toNatClampNeg r15)) C dX12_window_42 ?_
  refine pw_aload_n (pc := 43) (S := (sI S16 o14 (((x1 + (9 : Int32)) + (1 : Int32))).toNatClampNeg r15)) C 0 dX12_window_43 rfl rfl ?_
  refine pw_iconst (pc := 44) (S := (sI S16 o14 (((x1 + (9 : Int32)) + (1 : Int32))).toNatClampNeg r15)) (v := 0 ) C dX12_window_44 (by decide) ?_
  refine pw_aload_n (pc := 45) (S := (sI S16 o14 (((x1 + (9 : Int32)) + (1 : Int32))).toNatClampNeg r15)) C 0 dX12_window_45 rfl rfl ?_
  refine pw_getR (pc := 46) (S := (sI S16 o14 (((x1 + (9 : Int32)) + (1 : Int32))).toNatClampNeg r15)) (ref := "SupportSolverModel") (k := 2) (index := 13) C pCl10 iX12_window_X12 hk19 rfl (by decide +kernel) (Or.inl rfl) (o := o20) ho20 dX12_window_46 ?_
  refine pw_iload_n (pc := 49) (S := (sI S16 o14 (((x1 + (9 : Int32)) + (1 : Int32))).toNatClampNeg r15)) C 1 dX12_window_49 rfl rfl ?_
  refine pw_bipush (pc := 50) (S := (sI S16 o14 (((x1 + (9 : Int32)) + (1 : Int32))).toNatClampNeg r15)) (v := 9 ) C dX12_window_50 (by decide) ?_
  refine pw_iadd (pc := 52) (S := (sI S16 o14 (((x1 + (9 : Int32)) + (1 : Int32))).toNatClampNeg r15)) C dX12_window_52 ?_
  obtain ⟨hk21, h⟩ := h
  obtain ⟨hi22, h⟩ := h
  refine pw_iald (pc := 53) (S := (sI S16 o14 (((x1 + (9 : Int32)) + (1 : Int32))).toNatClampNeg r15)) C hk21 hi22 dX12_window_53 ?_
  refine pw_calli (pc := 54) (S := (sI S16 o14 (((x1 + (9 : Int32)) + (1 : Int32))).toNatClampNeg r15)) (kc2 := 0) (kn2 := 0) (pRunV (pc := 54) (S := (sI S16 o14 (((x1 + (9 : Int32)) + (1 : Int32))).toNatClampNeg r15)) C (ctX12_figure l G  _ x0 (0 : Int32) (pI (sI S16 o14 (((x1 + (9 : Int32)) + (1 : Int32))).toNatClampNeg r15) o20 ((x1 + (9 : Int32))).toNatClampNeg) _ h) (cwV 2 C.2.2.2.2.1 gX12_window_X12_figure rfl rfl rfl (by decide +kernel) ⟨Nat.le_of_ble_eq_true rfl, Nat.le_of_ble_eq_true rfl⟩) pCl10 hk19 rfl rfl (Nat.le_of_ble_eq_true rfl) dX12_window_54 ⟨Nat.le_of_ble_eq_true rfl, Nat.le_of_ble_eq_true rfl⟩) rfl rfl (fun r23 S24 h => ?_)
  obtain ⟨hk25, h⟩ := h
  obtain ⟨hi26, h⟩ := h
  refine pw_iast (pc := 57) C hk25 hi26 dX12_window_57 ?_
  refine pw_aload_n (pc := 58) (S := (sI S24 o20 (((x1 + (9 : Int32)) + (2 : Int32))).toNatClampNeg r23)) C 0 dX12_window_58 rfl rfl ?_
  obtain ⟨hk27, h⟩ := h
  obtain ⟨o28, ho28, h⟩ := h
  refine pw_getR (pc := 59) (S := (sI S24 o20 (((x1 + (9 : Int32)) + (2 : Int32))).toNatClampNeg r23)) (ref := "SupportSolverModel") (k := 2) (index := 13) C pCl10 iX12_window_X12 hk27 rfl (by decide +kernel) (Or.inl rfl) (o := o28) ho28 dX12_window_59 ?_
  refine pw_iload_n (pc := 62) (S := (sI S24 o20 (((x1 + (9 : Int32)) + (2 : Int32))).toNatClampNeg r23)) C 1 dX12_window_62 rfl rfl ?_
  refine pw_bipush (pc := 63) (S := (sI S24 o20 (((x1 + (9 : Int32)) + (2 : Int32))).toNatClampNeg r23)) (v := 9 ) C dX12_window_63 (by decide) ?_
  refine pw_iadd (pc := 65) (S := (sI S24 o20 (((x1 + (9 : Int32)) + (2 : Int32))).toNatClampNeg r23)) C dX12_window_65 ?_
  refine pw_iconst (pc := 66) (S := (sI S24 o20 (((x1 + (9 : Int32)) + (2 : Int32))).toNatClampNeg r23)) (v := 3 ) C dX12_window_66 (by decide) ?_
  refine pw_iadd (pc := 67) (S := (sI S24 o20 (((x1 + (9 : Int32)) + (2 : Int32))).toNatClampNeg r23)) C dX12_window_67 ?_
  refine pw_aload_n (pc := 68) (S := (sI S24 o20 (((x1 + (9 : Int32)) + (2 : Int32))).toNatClampNeg r23)) C 0 dX12_window_68 rfl rfl ?_
  refine pw_aload_n (pc := 69) (S := (sI S24 o20 (((x1 + (9 : Int32)) + (2 : Int32))).toNatClampNeg r23)) C 0 dX12_window_69 rfl rfl ?_
  refine pw_getR (pc := 70) (S := (sI S24 o20 (((x1 + (9 : Int32)) + (2 : Int32))).toNatClampNeg r23)) (ref := "SupportSolverModel") (k := 2) (index := 13) C pCl10 iX12_window_X12 hk27 rfl (by decide +kernel) (Or.inl rfl) (o := o28) ho28 dX12_window_70 ?_
  refine pw_iload_n (pc := 73) (S := (sI S24 o20 (((x1 + (9 : Int32)) + (2 : Int32))).toNatClampNeg r23)) C 1 dX12_window_73 rfl rfl ?_
  refine pw_bipush (pc := 74) (S := (sI S24 o20 (((x1 + (9 : Int32)) + (2 : Int32))).toNatClampNeg r23)) (v := 9 ) C dX12_window_74 (by decide) ?_
  refine pw_iadd (pc := 76) (S := (sI S24 o20 (((x1 + (9 : Int32)) + (2 : Int32))).toNatClampNeg r23)) C dX12_window_76 ?_
  refine pw_iconst (pc := 77) (S := (sI S24 o20 (((x1 + (9 : Int32)) + (2 : Int32))).toNatClampNeg r23)) (v := 2 ) C dX12_window_77 (by decide) ?_
  refine pw_iadd (pc := 78) (S := (sI S24 o20 (((x1 + (9 : Int32)) + (2 : Int32))).toNatClampNeg r23)) C dX12_window_78 ?_
  obtain ⟨hk29, h⟩ := h
  obtain ⟨hi30, h⟩ := h
  refine pw_iald (pc := 79) (S := (sI S24 o20 (((x1 + (9 : Int32)) + (2 : Int32))).toNatClampNeg r23)) C hk29 hi30 dX12_window_79 ?_
  refine pw_aload_n (pc := 80) (S := (sI S24 o20 (((x1 + (9 : Int32)) + (2 : Int32))).toNatClampNeg r23)) C 0 dX12_window_80 rfl rfl ?_
  refine pw_getR (pc := 81) (S := (sI S24 o20 (((x1 + (9 : Int32)) + (2 : Int32))).toNatClampNeg r23)) (ref := "SupportSolverModel") (k := 2) (index := 13) C pCl10 iX12_window_X12 hk27 rfl (by decide +kernel) (Or.inl rfl) (o := o28) ho28 dX12_window_81 ?_
  refine pw_iload_n (pc := 84) (S := (sI S24 o20 (((x1 + (9 : Int32)) + (2 : Int32))).toNatClampNeg r23)) C 1 dX12_window_84 rfl rfl ?_
  refine pw_bipush (pc := 85) (S := (sI S24 o20 (((x1 + (9 : Int32)) + (2 : Int32))).toNatClampNeg r23)) (v := 9 ) C dX12_window_85 (by decide) ?_
  refine pw_iadd (pc := 87) (S := (sI S24 o20 (((x1 + (9 : Int32)) + (2 : Int32))).toNatClampNeg r23)) C dX12_window_87 ?_
  obtain ⟨hi31, h⟩ := h
  refine pw_iald (pc := 88) (S := (sI S24 o20 (((x1 + (9 : Int32)) + (2 : Int32))).toNatClampNeg r23)) C hk29 hi31 dX12_window_88 ?_
  refine pw_calli (pc := 89) (S := (sI S24 o20 (((x1 + (9 : Int32)) + (2 : Int32))).toNatClampNeg r23)) (kc2 := 0) (kn2 := 0) (pRunV (pc := 89) (S := (sI S24 o20 (((x1 + (9 : Int32)) + (2 : Int32))).toNatClampNeg r23)) C (ctX12_figure l G  _ x0 (pI (sI S24 o20 (((x1 + (9 : Int32)) + (2 : Int32))).toNatClampNeg r23) o28 (((x1 + (9 : Int32)) + (2 : Int32))).toNatClampNeg) (pI (sI S24 o20 (((x1 + (9 : Int32)) + (2 : Int32))).toNatClampNeg r23) o28 ((x1 + (9 : Int32))).toNatClampNeg) _ h) (cwV 2 C.2.2.2.2.1 gX12_window_X12_figure rfl rfl rfl (by decide +kernel) ⟨Nat.le_of_ble_eq_true rfl, Nat.le_of_ble_eq_true rfl⟩) pCl10 hk27 rfl rfl (Nat.le_of_ble_eq_true rfl) dX12_window_89 ⟨Nat.le_of_ble_eq_true rfl, Nat.le_of_ble_eq_true rfl⟩) rfl rfl (fun r32 S33 h => ?_)
  obtain ⟨hk34, h⟩ := h
  obtain ⟨hi35, h⟩ := h
  refine pw_iast (pc := 92) C hk34 hi35 dX12_window_92 ?_
  refine pw_aload_n (pc := 93) (S := (sI S33 o28 (((x1 + (9 : Int32)) + (3 : Int32))).toNatClampNeg r32)) C 0 dX12_window_93 rfl rfl ?_
  refine pw_iload_n (pc := 94) (S := (sI S33 o28 (((x1 + (9 : Int32)) + (3 : Int32))).toNatClampNeg r32)) C 1 dX12_window_94 rfl rfl ?_
  obtain ⟨hk36, h⟩ := h
  refine pw_callv (pc := 95) (S := (sI S33 o28 (((x1 + (9 : Int32)) + (3 : Int32))).toNatClampNeg r32)) (kc2 := 0) (kn2 := 0) (pRunV (pc := 95) (S := (sI S33 o28 (((x1 + (9 : Int32)) + (3 : Int32))).toNatClampNeg r32)) C (ctX12_member l G hZ  _ x0 x1 _ h) (cwV 1 C.2.2.2.2.1 gX12_window_X12_member rfl rfl rfl (by decide +kernel) ⟨Nat.le_of_ble_eq_true rfl, Nat.le_of_ble_eq_true rfl⟩) pCl10 hk36 rfl rfl (Nat.le_of_ble_eq_true rfl) dX12_window_95 ⟨Nat.le_of_ble_eq_true rfl, Nat.le_of_ble_eq_true rfl⟩) rfl rfl (fun S38 h => ?_)
  obtain ⟨n9, h⟩ := h
  exact cbX12_window_b98 C hr hin hZ  n9 _ _ _ h

abbrev rmX12_constraint : Room := { frames := 8, cells := 0, slots := 0, locals := 174 }
theorem iX12_constraint_X12 : ∀ w ∈ u_ws RX12 TX12 32, w ∈ wsX12_constraint := fun _ h => List.mem_cons_of_mem _ (List.mem_append_right _ h)
def wpX12_constraint_b152  (Q : PS → Prop) (S : PS) (x0 : Nat) (x1 : Int32) (x2 : Int32) : Prop := (pK S x0 = 11 ∧ (∃ o2, pR S x0 2 = some o2 ∧ (pK S o2 = 13 ∧ (vp_in (1 : Int32) (pL S o2) ∧ (vp_in (1 : Int32) (pL S o2) ∧ (wpX12_ends (sI S o2 ((1 : Int32)).toNatClampNeg ((pI S o2 ((1 : Int32)).toNatClampNeg) + (1 : Int32))) x0 (fun S7 => (Q S7))))))))
def wpX12_constraint_b83  (Q : PS → Prop) (S : PS) (x0 : Nat) (x1 : Int32) : Prop := (pK S x0 = 11 ∧ (wpX12_isWrong S x0 (fun r9 S10 => ((r9 = 0 → (pK S10 x0 = 11 ∧ (∃ o12, pR S10 x0 2 = some o12 ∧ (pK S10 o12 = 13 ∧ (vp_in (1 : Int32) (pL S10 o12) ∧ (vp_in (((9 : Int32) + ((20 : Int32) * (pI S10 o12 ((1 : Int32)).toNatClampNeg))) + (0 : Int32)) (pL S10 o12) ∧ (wpX12_token (sI S10 o12 ((((9 : Int32) + ((20 : Int32) * (pI S10 o12 ((1 : Int32)).toNatClampNeg))) + (0 : Int32))).toNatClampNeg x1) x0 (fun S17 => ((¬ x1 = 0 → ((¬ x1 = (1 : Int32) → (pK S17 x0 = 11 ∧ (wpX12_member S17 x0 ((9 : Int32) + ((20 : Int32) * (pI S10 o12 ((1 : Int32)).toNatClampNeg))) (fun S20 => (pK S20 x0 = 11 ∧ (wpX12_member S20 x0 ((9 : Int32) + ((20 : Int32) * (pI S10 o12 ((1 : Int32)).toNatClampNeg))) (fun S23 => (wpX12_constraint_b152 Q S23 x0 x1 ((9 : Int32) + ((20 : Int32) * (pI S10 o12 ((1 : Int32)).toNatClampNeg))))))))))) ∧ (x1 = (1 : Int32) → (pK S17 x0 = 11 ∧ (wpX12_window S17 x0 ((9 : Int32) + ((20 : Int32) * (pI S10 o12 ((1 : Int32)).toNatClampNeg))) (fun S26 => (wpX12_constraint_b152 Q S26 x0 x1 ((9 : Int32) + ((20 : Int32) * (pI S10 o12 ((1 : Int32)).toNatClampNeg)))))))))) ∧ (x1 = 0 → (pK S17 x0 = 11 ∧ (wpX12_counts S17 x0 ((9 : Int32) + ((20 : Int32) * (pI S10 o12 ((1 : Int32)).toNatClampNeg))) (fun S29 => (wpX12_constraint_b152 Q S29 x0 x1 ((9 : Int32) + ((20 : Int32) * (pI S10 o12 ((1 : Int32)).toNatClampNeg))))))))))))))))) ∧ (¬ r9 = 0 → (Q S10))))))
def wpX12_constraint_b53  (Q : PS → Prop) (S : PS) (x0 : Nat) (t0 : Int32) : Prop := ((¬ t0 = (-1 : Int32) → (pK S x0 = 11 ∧ (∃ o31, pR S x0 2 = some o31 ∧ (pK S o31 = 13 ∧ (vp_in (1 : Int32) (pL S o31) ∧ ((¬ (pI S o31 ((1 : Int32)).toNatClampNeg) = (8 : Int32) → (wpX12_constraint_b83 Q S x0 t0)) ∧ ((pI S o31 ((1 : Int32)).toNatClampNeg) = (8 : Int32) → (wpX12_fails S x0 (4 : Int32) (fun S35 => (wpX12_constraint_b83 Q S35 x0 t0)))))))))) ∧ (t0 = (-1 : Int32) → (pK S x0 = 11 ∧ (wpX12_fails S x0 (1 : Int32) (fun S38 => (wpX12_constraint_b83 Q S38 x0 t0))))))
def wpX12_constraint (S : PS) (x0 : Nat) (Q : PS → Prop) : Prop := (pK S x0 = 11 ∧ (wpX12_isWord S x0 [99, 111, 117, 110, 116, 115] (fun r43 S44 => ((r43 = 0 → (pK S44 x0 = 11 ∧ (wpX12_isWord S44 x0 [119, 105, 110, 100, 111, 119] (fun r49 S50 => ((r49 = 0 → (pK S50 x0 = 11 ∧ (wpX12_isWord S50 x0 [108, 101, 115, 115] (fun r55 S56 => ((r55 = 0 → (pK S56 x0 = 11 ∧ (wpX12_isWord S56 x0 [100, 105, 102, 102, 101, 114] (fun r61 S62 => ((r61 = 0 → (wpX12_constraint_b53 Q S62 x0 (-1 : Int32))) ∧ (¬ r61 = 0 → (wpX12_constraint_b53 Q S62 x0 (3 : Int32)))))))) ∧ (¬ r55 = 0 → (wpX12_constraint_b53 Q S56 x0 (2 : Int32)))))))) ∧ (¬ r49 = 0 → (wpX12_constraint_b53 Q S50 x0 (1 : Int32)))))))) ∧ (¬ r43 = 0 → (wpX12_constraint_b53 Q S44 x0 (0 : Int32)))))))
set_option maxRecDepth 100000 in
set_option maxHeartbeats 4000000 in
theorem cbX12_constraint_b152 {p : Program} {l : Launch} {e : Env} {s : State} {m : MethodId} {args : Array Value} {below : List Frame} {meth : Method} {c : Code} {G : PG} {Q : PS → Prop} (C : pCx p s m args meth c G cX12_constraint 3 yX12_constraint.cls wsX12_constraint) (hr : meth.sig.returnType = none) (hin : meth.name = yX12_constraint.name) (hZ : pZa G)  : ∀ (S : PS) (x0 : Nat) (x1 : Int32) (x2 : Int32), wpX12_constraint_b152  Q S x0 x1 x2 → PW p l e rmX12_constraint s m args below meth c (MQ below (va_Qv Q (pB G) (pFr G)) args s rmX12_constraint.cells rmX12_constraint.slots (pFr G)) G 3 S 0 0 [(0, .ref (G.2.2 + x0)), (1, .int x1), (2, .int x2)] 152 ([]) := by
  intro S x0 x1 x2 h
  unfold wpX12_constraint_b152 at h
  refine pw_aload_n (pc := 152) C 0 dX12_constraint_152 rfl rfl ?_
  obtain ⟨hk1, h⟩ := h
  obtain ⟨o2, ho2, h⟩ := h
  refine pw_getR (pc := 153) (ref := "SupportSolverModel") (k := 2) (index := 13) C pCl10 iX12_constraint_X12 hk1 rfl (by decide +kernel) (Or.inl rfl) (o := o2) ho2 dX12_constraint_153 ?_
  refine pw_iconst (pc := 156) (v := 1 ) C dX12_constraint_156 (by decide) ?_
  refine pw_dup2_11 (pc := 157) C dX12_constraint_157 rfl rfl ?_
  obtain ⟨hk3, h⟩ := h
  obtain ⟨hi4, h⟩ := h
  refine pw_iald (pc := 158) C hk3 hi4 dX12_constraint_158 ?_
  refine pw_iconst (pc := 159) (v := 1 ) C dX12_constraint_159 (by decide) ?_
  refine pw_iadd (pc := 160) C dX12_constraint_160 ?_
  obtain ⟨hi5, h⟩ := h
  refine pw_iast (pc := 161) C hk3 hi5 dX12_constraint_161 ?_
  refine pw_aload_n (pc := 162) (S := (sI S o2 ((1 : Int32)).toNatClampNeg ((pI S o2 ((1 : Int32)).toNatClampNeg) + (1 : Int32)))) C 0 dX12_constraint_162 rfl rfl ?_
  refine pw_callv (pc := 163) (S := (sI S o2 ((1 : Int32)).toNatClampNeg ((pI S o2 ((1 : Int32)).toNatClampNeg) + (1 : Int32)))) (kc2 := 0) (kn2 := 0) (pRunV (pc := 163) (S := (sI S o2 ((1 : Int32)).toNatClampNeg ((pI S o2 ((1 : Int32)).toNatClampNeg) + (1 : Int32)))) C (ctX12_ends l G  _ x0 _ h) (cwV 0 C.2.2.2.2.1 gX12_constraint_X12_ends rfl rfl rfl (by decide +kernel) ⟨Nat.le_of_ble_eq_true rfl, Nat.le_of_ble_eq_true rfl⟩) pCl10 hk1 rfl rfl (Nat.le_of_ble_eq_true rfl) dX12_constraint_163 ⟨Nat.le_of_ble_eq_true rfl, Nat.le_of_ble_eq_true rfl⟩) rfl rfl (fun S7 h => ?_)
  exact pw_vret (pc := 166) C hr h dX12_constraint_166
set_option maxRecDepth 100000 in
set_option maxHeartbeats 4000000 in
theorem cbX12_constraint_b83 {p : Program} {l : Launch} {e : Env} {s : State} {m : MethodId} {args : Array Value} {below : List Frame} {meth : Method} {c : Code} {G : PG} {Q : PS → Prop} (C : pCx p s m args meth c G cX12_constraint 3 yX12_constraint.cls wsX12_constraint) (hr : meth.sig.returnType = none) (hin : meth.name = yX12_constraint.name) (hZ : pZa G)  : ∀ (S : PS) (x0 : Nat) (x1 : Int32), wpX12_constraint_b83  Q S x0 x1 → PW p l e rmX12_constraint s m args below meth c (MQ below (va_Qv Q (pB G) (pFr G)) args s rmX12_constraint.cells rmX12_constraint.slots (pFr G)) G 3 S 0 0 [(0, .ref (G.2.2 + x0)), (1, .int x1)] 83 ([]) := by
  intro S x0 x1 h
  unfold wpX12_constraint_b83 at h
  refine pw_aload_n (pc := 83) C 0 dX12_constraint_83 rfl rfl ?_
  obtain ⟨hk8, h⟩ := h
  refine pw_calli (pc := 84) (kc2 := 0) (kn2 := 0) (pRunV (pc := 84) C (ctX12_isWrong l G  _ x0 _ h) (cwV 0 C.2.2.2.2.1 gX12_constraint_X12_isWrong rfl rfl rfl (by decide +kernel) ⟨Nat.le_of_ble_eq_true rfl, Nat.le_of_ble_eq_true rfl⟩) pCl10 hk8 rfl rfl (Nat.le_of_ble_eq_true rfl) dX12_constraint_84 ⟨Nat.le_of_ble_eq_true rfl, Nat.le_of_ble_eq_true rfl⟩) rfl rfl (fun r9 S10 h => ?_)
  refine pw_if_eq (pc := 87) (tgt := 91) C dX12_constraint_87 rfl ⟨fun hc => ?_, fun hc => ?_⟩
  · replace h := h.1 hc
    refine pw_bipush (pc := 91) (v := 9 ) C dX12_constraint_91 (by decide) ?_
    refine pw_bipush (pc := 93) (v := 20 ) C dX12_constraint_93 (by decide) ?_
    refine pw_aload_n (pc := 95) C 0 dX12_constraint_95 rfl rfl ?_
    obtain ⟨hk11, h⟩ := h
    obtain ⟨o12, ho12, h⟩ := h
    refine pw_getR (pc := 96) (ref := "SupportSolverModel") (k := 2) (index := 13) C pCl10 iX12_constraint_X12 hk11 rfl (by decide +kernel) (Or.inl rfl) (o := o12) ho12 dX12_constraint_96 ?_
    refine pw_iconst (pc := 99) (v := 1 ) C dX12_constraint_99 (by decide) ?_
    obtain ⟨hk13, h⟩ := h
    obtain ⟨hi14, h⟩ := h
    refine pw_iald (pc := 100) C hk13 hi14 dX12_constraint_100 ?_
    refine pw_imul (pc := 101) C dX12_constraint_101 ?_
    refine pw_iadd (pc := 102) C dX12_constraint_102 ?_
    refine pw_istore_n (pc := 103) C [(2, .int ((9 : Int32) + ((20 : Int32) * (pI S10 o12 ((1 : Int32)).toNatClampNeg)))), (0, .ref (G.2.2 + x0)), (1, .int x1)] dX12_constraint_103 rfl (by decide) rfl ?_
    refine pw_aload_n (pc := 104) C 1 dX12_constraint_104 rfl rfl ?_
    refine pw_getR (pc := 105) (ref := "SupportSolverModel") (k := 2) (index := 13) C pCl10 iX12_constraint_X12 hk11 rfl (by decide +kernel) (Or.inl rfl) (o := o12) ho12 dX12_constraint_105 ?_
    refine pw_iload_n (pc := 108) C 0 dX12_constraint_108 rfl rfl ?_
    refine pw_iconst (pc := 109) (v := 0 ) C dX12_constraint_109 (by decide) ?_
    refine pw_iadd (pc := 110) C dX12_constraint_110 ?_
    refine pw_iload_n (pc := 111) C 2 dX12_constraint_111 rfl rfl ?_
    obtain ⟨hi15, h⟩ := h
    refine pw_iast (pc := 112) C hk13 hi15 dX12_constraint_112 ?_
    refine pw_aload_n (pc := 113) (S := (sI S10 o12 ((((9 : Int32) + ((20 : Int32) * (pI S10 o12 ((1 : Int32)).toNatClampNeg))) + (0 : Int32))).toNatClampNeg x1)) C 1 dX12_constraint_113 rfl rfl ?_
    refine pw_callv (pc := 114) (S := (sI S10 o12 ((((9 : Int32) + ((20 : Int32) * (pI S10 o12 ((1 : Int32)).toNatClampNeg))) + (0 : Int32))).toNatClampNeg x1)) (kc2 := 0) (kn2 := 0) (pRunV (pc := 114) (S := (sI S10 o12 ((((9 : Int32) + ((20 : Int32) * (pI S10 o12 ((1 : Int32)).toNatClampNeg))) + (0 : Int32))).toNatClampNeg x1)) C (ctX12_token l G  _ x0 _ h) (cwV 0 C.2.2.2.2.1 gX12_constraint_X12_token rfl rfl rfl (by decide +kernel) ⟨Nat.le_of_ble_eq_true rfl, Nat.le_of_ble_eq_true rfl⟩) pCl10 hk11 rfl rfl (Nat.le_of_ble_eq_true rfl) dX12_constraint_114 ⟨Nat.le_of_ble_eq_true rfl, Nat.le_of_ble_eq_true rfl⟩) rfl rfl (fun S17 h => ?_)
    refine pw_iload_n (pc := 117) C 2 dX12_constraint_117 rfl rfl ?_
    refine pw_if_ne (pc := 118) (tgt := 129) C dX12_constraint_118 rfl ⟨fun hc => ?_, fun hc => ?_⟩
    · replace h := h.1 hc
      refine pw_iload_n (pc := 129) C 2 dX12_constraint_129 rfl rfl ?_
      refine pw_iconst (pc := 130) (v := 1 ) C dX12_constraint_130 (by decide) ?_
      refine pw_icmp_ne (pc := 131) (tgt := 142) C dX12_constraint_131 rfl ⟨fun hc => ?_, fun hc => ?_⟩
      · replace h := h.1 hc
        refine pw_aload_n (pc := 142) C 1 dX12_constraint_142 rfl rfl ?_
        refine pw_iload_n (pc := 143) C 0 dX12_constraint_143 rfl rfl ?_
        obtain ⟨hk18, h⟩ := h
        refine pw_callv (pc := 144) (kc2 := 0) (kn2 := 0) (pRunV (pc := 144) C (ctX12_member l G hZ  _ x0 ((9 : Int32) + ((20 : Int32) * (pI S10 o12 ((1 : Int32)).toNatClampNeg))) _ h) (cwV 1 C.2.2.2.2.1 gX12_constraint_X12_member rfl rfl rfl (by decide +kernel) ⟨Nat.le_of_ble_eq_true rfl, Nat.le_of_ble_eq_true rfl⟩) pCl10 hk18 rfl rfl (Nat.le_of_ble_eq_true rfl) dX12_constraint_144 ⟨Nat.le_of_ble_eq_true rfl, Nat.le_of_ble_eq_true rfl⟩) rfl rfl (fun S20 h => ?_)
        refine pw_aload_n (pc := 147) C 1 dX12_constraint_147 rfl rfl ?_
        refine pw_iload_n (pc := 148) C 0 dX12_constraint_148 rfl rfl ?_
        obtain ⟨hk21, h⟩ := h
        refine pw_callv (pc := 149) (kc2 := 0) (kn2 := 0) (pRunV (pc := 149) C (ctX12_member l G hZ  _ x0 ((9 : Int32) + ((20 : Int32) * (pI S10 o12 ((1 : Int32)).toNatClampNeg))) _ h) (cwV 1 C.2.2.2.2.1 gX12_constraint_X12_member rfl rfl rfl (by decide +kernel) ⟨Nat.le_of_ble_eq_true rfl, Nat.le_of_ble_eq_true rfl⟩) pCl10 hk21 rfl rfl (Nat.le_of_ble_eq_true rfl) dX12_constraint_149 ⟨Nat.le_of_ble_eq_true rfl, Nat.le_of_ble_eq_true rfl⟩) rfl rfl (fun S23 h => ?_)
        refine pw_sub [1, 2, 0] (LV2 := [(0, .ref (G.2.2 + x0)), (1, .int x1), (2, .int ((9 : Int32) + ((20 : Int32) * (pI S10 o12 ((1 : Int32)).toNatClampNeg))))]) rfl ?_
        exact cbX12_constraint_b152 C hr hin hZ  _ _ _ _ h
      · replace h := h.2 hc
        refine pw_aload_n (pc := 134) C 1 dX12_constraint_134 rfl rfl ?_
        refine pw_iload_n (pc := 135) C 0 dX12_constraint_135 rfl rfl ?_
        obtain ⟨hk24, h⟩ := h
        refine pw_callv (pc := 136) (kc2 := 0) (kn2 := 0) (pRunV (pc := 136) C (ctX12_window l G hZ  _ x0 ((9 : Int32) + ((20 : Int32) * (pI S10 o12 ((1 : Int32)).toNatClampNeg))) _ h) (cwV 1 C.2.2.2.2.1 gX12_constraint_X12_window rfl rfl rfl (by decide +kernel) ⟨Nat.le_of_ble_eq_true rfl, Nat.le_of_ble_eq_true rfl⟩) pCl10 hk24 rfl rfl (Nat.le_of_ble_eq_true rfl) dX12_constraint_136 ⟨Nat.le_of_ble_eq_true rfl, Nat.le_of_ble_eq_true rfl⟩) rfl rfl (fun S26 h => ?_)
        refine pw_goto (pc := 139) (tgt := 152) C dX12_constraint_139 rfl ?_
        refine pw_sub [1, 2, 0] (LV2 := [(0, .ref (G.2.2 + x0)), (1, .int x1), (2, .int ((9 : Int32) + ((20 : Int32) * (pI S10 o12 ((1 : Int32)).toNatClampNeg))))]) rfl ?_
        exact cbX12_constraint_b152 C hr hin hZ  _ _ _ _ h
    · replace h := h.2 hc
      refine pw_aload_n (pc := 121) C 1 dX12_constraint_121 rfl rfl ?_
      refine pw_iload_n (pc := 122) C 0 dX12_constraint_122 rfl rfl ?_
      obtain ⟨hk27, h⟩ := h
      refine pw_callv (pc := 123) (kc2 := 0) (kn2 := 0) (pRunV (pc := 123) C (ctX12_counts l G hZ  _ x0 ((9 : Int32) + ((20 : Int32) * (pI S10 o12 ((1 : Int32)).toNatClampNeg))) _ h) (cwV 1 C.2.2.2.2.1 gX12_constraint_X12_counts rfl rfl rfl (by decide +kernel) ⟨Nat.le_of_ble_eq_true rfl, Nat.le_of_ble_eq_true rfl⟩) pCl10 hk27 rfl rfl (Nat.le_of_ble_eq_true rfl) dX12_constraint_123 ⟨Nat.le_of_ble_eq_true rfl, Nat.le_of_ble_eq_true rfl⟩) rfl rfl (fun S29 h => ?_)
      refine pw_goto (pc := 126) (tgt := 152) C dX12_constraint_126 rfl ?_
      refine pw_sub [1, 2, 0] (LV2 := [(0, .ref (G.2.2 + x0)), (1, .int x1), (2, .int ((9 : Int32) + ((20 : Int32) * (pI S10 o12 ((1 : Int32)).toNatClampNeg))))]) rfl ?_
      exact cbX12_constraint_b152 C hr hin hZ  _ _ _ _ h
  · replace h := h.2 hc
    exact pw_vret (pc := 90) C hr h dX12_constraint_90
set_option maxRecDepth 100000 in
set_option maxHeartbeats 4000000 in
theorem cbX12_constraint_b53 {p : Program} {l : Launch} {e : Env} {s : State} {m : MethodId} {args : Array Value} {below : List Frame} {meth : Method} {c : Code} {G : PG} {Q : PS → Prop} (C : pCx p s m args meth c G cX12_constraint 3 yX12_constraint.cls wsX12_constraint) (hr : meth.sig.returnType = none) (hin : meth.name = yX12_constraint.name) (hZ : pZa G)  : ∀ (S : PS) (x0 : Nat) (t0 : Int32), wpX12_constraint_b53  Q S x0 t0 → PW p l e rmX12_constraint s m args below meth c (MQ below (va_Qv Q (pB G) (pFr G)) args s rmX12_constraint.cells rmX12_constraint.slots (pFr G)) G 3 S 0 0 [(0, .ref (G.2.2 + x0))] 53 (.int t0 :: []) := by
  intro S x0 t0 h
  unfold wpX12_constraint_b53 at h
  refine pw_istore_n (pc := 53) C [(1, .int t0), (0, .ref (G.2.2 + x0))] dX12_constraint_53 rfl (by decide) rfl ?_
  refine pw_iload_n (pc := 54) C 0 dX12_constraint_54 rfl rfl ?_
  refine pw_iconst (pc := 55) (v := (-1)) C dX12_constraint_55 (by decide) ?_
  refine pw_icmp_ne (pc := 56) (tgt := 67) C dX12_constraint_56 rfl ⟨fun hc => ?_, fun hc => ?_⟩
  · replace h := h.1 hc
    refine pw_aload_n (pc := 67) C 1 dX12_constraint_67 rfl rfl ?_
    obtain ⟨hk30, h⟩ := h
    obtain ⟨o31, ho31, h⟩ := h
    refine pw_getR (pc := 68) (ref := "SupportSolverModel") (k := 2) (index := 13) C pCl10 iX12_constraint_X12 hk30 rfl (by decide +kernel) (Or.inl rfl) (o := o31) ho31 dX12_constraint_68 ?_
    refine pw_iconst (pc := 71) (v := 1 ) C dX12_constraint_71 (by decide) ?_
    obtain ⟨hk32, h⟩ := h
    obtain ⟨hi33, h⟩ := h
    refine pw_iald (pc := 72) C hk32 hi33 dX12_constraint_72 ?_
    refine pw_bipush (pc := 73) (v := 8 ) C dX12_constraint_73 (by decide) ?_
    refine pw_icmp_ne (pc := 75) (tgt := 83) C dX12_constraint_75 rfl ⟨fun hc => ?_, fun hc => ?_⟩
    · replace h := h.1 hc
      refine pw_sub [1, 0] (LV2 := [(0, .ref (G.2.2 + x0)), (1, .int t0)]) rfl ?_
      exact cbX12_constraint_b83 C hr hin hZ  _ _ _ h
    · replace h := h.2 hc
      refine pw_aload_n (pc := 78) C 1 dX12_constraint_78 rfl rfl ?_
      refine pw_iconst (pc := 79) (v := 4 ) C dX12_constraint_79 (by decide) ?_
      refine pw_callv (pc := 80) (kc2 := 0) (kn2 := 0) (pRunV (pc := 80) C (ctX12_fails l G  _ x0 (4 : Int32) _ h) (cwV 1 C.2.2.2.2.1 gX12_constraint_X12_fails rfl rfl rfl (by decide +kernel) ⟨Nat.le_of_ble_eq_true rfl, Nat.le_of_ble_eq_true rfl⟩) pCl10 hk30 rfl rfl (Nat.le_of_ble_eq_true rfl) dX12_constraint_80 ⟨Nat.le_of_ble_eq_true rfl, Nat.le_of_ble_eq_true rfl⟩) rfl rfl (fun S35 h => ?_)
      refine pw_sub [1, 0] (LV2 := [(0, .ref (G.2.2 + x0)), (1, .int t0)]) rfl ?_
      exact cbX12_constraint_b83 C hr hin hZ  _ _ _ h
  · replace h := h.2 hc
    refine pw_aload_n (pc := 59) C 1 dX12_constraint_59 rfl rfl ?_
    refine pw_iconst (pc := 60) (v := 1 ) C dX12_constraint_60 (by decide) ?_
    obtain ⟨hk36, h⟩ := h
    refine pw_callv (pc := 61) (kc2 := 0) (kn2 := 0) (pRunV (pc := 61) C (ctX12_fails l G  _ x0 (1 : Int32) _ h) (cwV 1 C.2.2.2.2.1 gX12_constraint_X12_fails rfl rfl rfl (by decide +kernel) ⟨Nat.le_of_ble_eq_true rfl, Nat.le_of_ble_eq_true rfl⟩) pCl10 hk36 rfl rfl (Nat.le_of_ble_eq_true rfl) dX12_constraint_61 ⟨Nat.le_of_ble_eq_true rfl, Nat.le_of_ble_eq_true rfl⟩) rfl rfl (fun S38 h => ?_)
    refine pw_goto (pc := 64) (tgt := 83) C dX12_constraint_64 rfl ?_
    refine pw_sub [1, 0] (LV2 := [(0, .ref (G.2.2 + x0)), (1, .int t0)]) rfl ?_
    exact cbX12_constraint_b83 C hr hin hZ  _ _ _ h
set_option maxRecDepth 100000 in
set_option maxHeartbeats 4000000 in
theorem ctX12_constraint (l : Launch) (G : PG) (hZ : pZa G) (S : PS) (x0 : Nat) (Q : PS → Prop) (h : wpX12_constraint S x0 Q) : mV l yX12_constraint wsX12_constraint rmX12_constraint G S [.ref (G.2.2 + x0)] Q := by
  unfold mV
  refine met_of (cc := cX12_constraint) (maxL := 3) (ret := none) (by decide) rfl (Nat.le_of_ble_eq_true rfl) ?_
  intro p e s m args below meth c C hr hin
  unfold wpX12_constraint at h
  show PW p l e _ s m args below meth c _ G 3 S 0 0 [(0, .ref (G.2.2 + x0))] 0 []
  refine pw_aload_n (pc := 0) C 0 dX12_constraint_0 rfl rfl ?_
  obtain ⟨q39, z40, hq41⟩ := (hZ.2.2.2.2.2.2.2.2.2.2.2.2.2.2.2.2.2.2.2.2.2.2.2.2.2.2.2.1)
  refine pw_ldcS (pc := 1) C z40 dX12_constraint_1 ?_
  obtain ⟨hk42, h⟩ := h
  refine pw_calli (pc := 3) (kc2 := 0) (kn2 := 0) (pRunV (pc := 3) C (ctX12_isWord l G hZ [99, 111, 117, 110, 116, 115] q39 hq41 (by decide)  _ x0 _ h) (cwV 1 C.2.2.2.2.1 gX12_constraint_X12_isWord rfl rfl rfl (by decide +kernel) ⟨Nat.le_of_ble_eq_true rfl, Nat.le_of_ble_eq_true rfl⟩) pCl10 hk42 rfl rfl (Nat.le_of_ble_eq_true rfl) dX12_constraint_3 ⟨Nat.le_of_ble_eq_true rfl, Nat.le_of_ble_eq_true rfl⟩) rfl rfl (fun r43 S44 h => ?_)
  refine pw_if_eq (pc := 6) (tgt := 13) C dX12_constraint_6 rfl ⟨fun hc => ?_, fun hc => ?_⟩
  · replace h := h.1 hc
    refine pw_aload_n (pc := 13) C 0 dX12_constraint_13 rfl rfl ?_
    obtain ⟨q45, z46, hq47⟩ := (hZ.2.2.2.2.2.2.2.2.2.2.2.2.2.2.2.2.2.2.2.2.2.2.2.2.2.2.2.2.1)
    refine pw_ldcS (pc := 14) C z46 dX12_constraint_14 ?_
    obtain ⟨hk48, h⟩ := h
    refine pw_calli (pc := 16) (kc2 := 0) (kn2 := 0) (pRunV (pc := 16) C (ctX12_isWord l G hZ [119, 105, 110, 100, 111, 119] q45 hq47 (by decide)  _ x0 _ h) (cwV 1 C.2.2.2.2.1 gX12_constraint_X12_isWord rfl rfl rfl (by decide +kernel) ⟨Nat.le_of_ble_eq_true rfl, Nat.le_of_ble_eq_true rfl⟩) pCl10 hk48 rfl rfl (Nat.le_of_ble_eq_true rfl) dX12_constraint_16 ⟨Nat.le_of_ble_eq_true rfl, Nat.le_of_ble_eq_true rfl⟩) rfl rfl (fun r49 S50 h => ?_)
    refine pw_if_eq (pc := 19) (tgt := 26) C dX12_constraint_19 rfl ⟨fun hc => ?_, fun hc => ?_⟩
    · replace h := h.1 hc
      refine pw_aload_n (pc := 26) C 0 dX12_constraint_26 rfl rfl ?_
      obtain ⟨q51, z52, hq53⟩ := (hZ.2.2.2.2.2.2.2.2.2.2.2.2.2.2.2.2.2.2.2.2.2.2.2.2.2.2.2.2.2.1)
      refine pw_ldcS (pc := 27) C z52 dX12_constraint_27 ?_
      obtain ⟨hk54, h⟩ := h
      refine pw_calli (pc := 29) (kc2 := 0) (kn2 := 0) (pRunV (pc := 29) C (ctX12_isWord l G hZ [108, 101, 115, 115] q51 hq53 (by decide)  _ x0 _ h) (cwV 1 C.2.2.2.2.1 gX12_constraint_X12_isWord rfl rfl rfl (by decide +kernel) ⟨Nat.le_of_ble_eq_true rfl, Nat.le_of_ble_eq_true rfl⟩) pCl10 hk54 rfl rfl (Nat.le_of_ble_eq_true rfl) dX12_constraint_29 ⟨Nat.le_of_ble_eq_true rfl, Nat.le_of_ble_eq_true rfl⟩) rfl rfl (fun r55 S56 h => ?_)
      refine pw_if_eq (pc := 32) (tgt := 39) C dX12_constraint_32 rfl ⟨fun hc => ?_, fun hc => ?_⟩
      · replace h := h.1 hc
        refine pw_aload_n (pc := 39) C 0 dX12_constraint_39 rfl rfl ?_
        obtain ⟨q57, z58, hq59⟩ := (hZ.2.2.2.2.2.2.2.2.2.2.2.2.2.2.2.2.2.2.2.2.2.2.2.2.2.2.2.2.2.2.1)
        refine pw_ldcS (pc := 40) C z58 dX12_constraint_40 ?_
        obtain ⟨hk60, h⟩ := h
        refine pw_calli (pc := 42) (kc2 := 0) (kn2 := 0) (pRunV (pc := 42) C (ctX12_isWord l G hZ [100, 105, 102, 102, 101, 114] q57 hq59 (by decide)  _ x0 _ h) (cwV 1 C.2.2.2.2.1 gX12_constraint_X12_isWord rfl rfl rfl (by decide +kernel) ⟨Nat.le_of_ble_eq_true rfl, Nat.le_of_ble_eq_true rfl⟩) pCl10 hk60 rfl rfl (Nat.le_of_ble_eq_true rfl) dX12_constraint_42 ⟨Nat.le_of_ble_eq_true rfl, Nat.le_of_ble_eq_true rfl⟩) rfl rfl (fun r61 S62 h => ?_)
        refine pw_if_eq (pc := 45) (tgt := 52) C dX12_constraint_45 rfl ⟨fun hc => ?_, fun hc => ?_⟩
        · replace h := h.1 hc
          refine pw_iconst (pc := 52) (v := (-1)) C dX12_constraint_52 (by decide) ?_
          exact cbX12_constraint_b53 C hr hin hZ  _ _ _ h
        · replace h := h.2 hc
          refine pw_iconst (pc := 48) (v := 3 ) C dX12_constraint_48 (by decide) ?_
          refine pw_goto (pc := 49) (tgt := 53) C dX12_constraint_49 rfl ?_
          exact cbX12_constraint_b53 C hr hin hZ  _ _ _ h
      · replace h := h.2 hc
        refine pw_iconst (pc := 35) (v := 2 ) C dX12_constraint_35 (by decide) ?_
        refine pw_goto (pc := 36) (tgt := 53) C dX12_constraint_36 rfl ?_
        exact cbX12_constraint_b53 C hr hin hZ  _ _ _ h
    · replace h := h.2 hc
      refine pw_iconst (pc := 22) (v := 1 ) C dX12_constraint_22 (by decide) ?_
      refine pw_goto (pc := 23) (tgt := 53) C dX12_constraint_23 rfl ?_
      exact cbX12_constraint_b53 C hr hin hZ  _ _ _ h
  · replace h := h.2 hc
    refine pw_iconst (pc := 9) (v := 0 ) C dX12_constraint_9 (by decide) ?_
    refine pw_goto (pc := 10) (tgt := 53) C dX12_constraint_10 rfl ?_
    exact cbX12_constraint_b53 C hr hin hZ  _ _ _ h

abbrev rmX12_load : Room := { frames := 9, cells := 0, slots := 0, locals := 196 }
theorem iX12_load_X12 : ∀ w ∈ u_ws RX12 TX12 32, w ∈ wsX12_load := fun _ h => List.mem_cons_of_mem _ (List.mem_append_right _ h)
def wpX12_load_b109  (Q : Int32 → PS → Prop) (S : PS) (x0 : Nat) (x1 : Int32) (t0 : Nat) (t1 : Int32) : Prop := (pK S t0 = 11 ∧ (wpX12_may S t0 t1 (1 : Int32) (fun r2 S3 => ((¬ r2 = 0 → (pK S3 x0 = 11 ∧ (wpX12_begins S3 x0 (fun S6 => (pK S6 x0 = 11 ∧ (Q (pI S6 x0 7) S6)))))) ∧ (r2 = 0 → (Q (0 : Int32) S3))))))
def wpX12_load_b96  (Q : Int32 → PS → Prop) (S : PS) (x0 : Nat) (x1 : Int32) : Prop := (pK S x0 = 11 ∧ (wpX12_isWrong S x0 (fun r9 S10 => ((¬ r9 = 0 → (wpX12_load_b109 Q S10 x0 x1 x0 (0 : Int32))) ∧ (r9 = 0 → (wpX12_load_b109 Q S10 x0 x1 x0 (1 : Int32)))))))
def wpX12_load_b75  (Q : Int32 → PS → Prop) : Nat → PS → Nat → Int32 → Prop
  | 0 => fun _ _ _ => False
  | n + 1 => fun S x0 x1 => (pK S x0 = 11 ∧ (wpX12_isWrong S x0 (fun r12 S13 => ((¬ r12 = 0 → (wpX12_load_b96 Q S13 x0 x1)) ∧ (r12 = 0 → (pK S13 x0 = 11 ∧ (((pI S13 x0 17) = 0 → (wpX12_load_b96 Q S13 x0 x1)) ∧ (¬ (pI S13 x0 17) = 0 → (wpX12_constraint S13 x0 (fun S16 => (wpX12_load_b75 Q n S16 x0 x1)))))))))))
def wpX12_load_b59  (Q : Int32 → PS → Prop) : Nat → PS → Nat → Int32 → Prop
  | 0 => fun _ _ _ => False
  | n + 1 => fun S x0 x1 => (pK S x0 = 11 ∧ (wpX12_isWord S x0 [118, 97, 114] (fun r21 S22 => ((r21 = 0 → (∃ n9 : Nat, wpX12_load_b75 Q n9 S22 x0 x1)) ∧ (¬ r21 = 0 → (pK S22 x0 = 11 ∧ (wpX12_variable S22 x0 (fun S25 => (wpX12_load_b59 Q n S25 x0 x1)))))))))
def wpX12_load_b35  (Q : Int32 → PS → Prop) : Nat → PS → Nat → Int32 → Prop
  | 0 => fun _ _ _ => False
  | n + 1 => fun S x0 x1 => (((169 : Int32) ≤ x1 → (pK S x0 = 11 ∧ (wpX12_token S x0 (fun S28 => (∃ n9 : Nat, wpX12_load_b59 Q n9 S28 x0 x1))))) ∧ (¬ (169 : Int32) ≤ x1 → (pK S x0 = 11 ∧ (∃ o30, pR S x0 2 = some o30 ∧ (pK S o30 = 13 ∧ (vp_in x1 (pL S o30) ∧ (wpX12_load_b35 Q n (sI S o30 (x1).toNatClampNeg (0 : Int32)) x0 (x1 + 1))))))))
def wpX12_load (S : PS) (x0 : Nat) (Q : Int32 → PS → Prop) : Prop := (pK S x0 = 11 ∧ (∃ n9 : Nat, wpX12_load_b35 Q n9 (sI (sI (sI (sI (sI (sI S x0 0 (0 : Int32)) x0 14 (pI (sI S x0 0 (0 : Int32)) x0 13)) x0 13 (0 : Int32)) x0 15 (0 : Int32)) x0 19 (0 : Int32)) x0 20 (-1 : Int32)) x0 (0 : Int32)))
set_option maxRecDepth 100000 in
set_option maxHeartbeats 4000000 in
theorem cbX12_load_b109 {p : Program} {l : Launch} {e : Env} {s : State} {m : MethodId} {args : Array Value} {below : List Frame} {meth : Method} {c : Code} {G : PG} {Q : Int32 → PS → Prop} (C : pCx p s m args meth c G cX12_load 2 yX12_load.cls wsX12_load) (hr : meth.sig.returnType = (some .int)) (hin : meth.name = yX12_load.name) (hZ : pZa G)  : ∀ (S : PS) (x0 : Nat) (x1 : Int32) (t0 : Nat) (t1 : Int32), wpX12_load_b109  Q S x0 x1 t0 t1 → PW p l e rmX12_load s m args below meth c (MQ below (va_Qi Q (pB G) (pFr G)) args s rmX12_load.cells rmX12_load.slots (pFr G)) G 2 S 0 0 [(0, .ref (G.2.2 + x0)), (1, .int x1)] 109 (.int t1 :: .ref (G.2.2 + t0) :: []) := by
  intro S x0 x1 t0 t1 h
  unfold wpX12_load_b109 at h
  refine pw_iconst (pc := 109) (v := 1 ) C dX12_load_109 (by decide) ?_
  obtain ⟨hk1, h⟩ := h
  refine pw_calli (pc := 110) (kc2 := 0) (kn2 := 0) (pRunV (pc := 110) C (ctX12_may l G  _ t0 t1 (1 : Int32) _ h) (cwV 2 C.2.2.2.2.1 gX12_load_X12_may rfl rfl rfl (by decide +kernel) ⟨Nat.le_of_ble_eq_true rfl, Nat.le_of_ble_eq_true rfl⟩) pCl10 hk1 rfl rfl (Nat.le_of_ble_eq_true rfl) dX12_load_110 ⟨Nat.le_of_ble_eq_true rfl, Nat.le_of_ble_eq_true rfl⟩) rfl rfl (fun r2 S3 h => ?_)
  refine pw_if_ne (pc := 113) (tgt := 118) C dX12_load_113 rfl ⟨fun hc => ?_, fun hc => ?_⟩
  · replace h := h.1 hc
    refine pw_aload_n (pc := 118) C 0 dX12_load_118 rfl rfl ?_
    obtain ⟨hk4, h⟩ := h
    refine pw_callv (pc := 119) (kc2 := 0) (kn2 := 0) (pRunV (pc := 119) C (ctX12_begins l G  _ x0 _ h) (cwV 0 C.2.2.2.2.1 gX12_load_X12_begins rfl rfl rfl (by decide +kernel) ⟨Nat.le_of_ble_eq_true rfl, Nat.le_of_ble_eq_true rfl⟩) pCl10 hk4 rfl rfl (Nat.le_of_ble_eq_true rfl) dX12_load_119 ⟨Nat.le_of_ble_eq_true rfl, Nat.le_of_ble_eq_true rfl⟩) rfl rfl (fun S6 h => ?_)
    refine pw_aload_n (pc := 122) C 0 dX12_load_122 rfl rfl ?_
    obtain ⟨hk7, h⟩ := h
    refine pw_getI (pc := 123) (ref := "SupportSolverModel") (k := 7) (index := 73) C pCl10 iX12_load_X12 hk7 rfl (by decide +kernel) (Or.inl rfl) dX12_load_123 ?_
    exact pw_iret (pc := 126) C hr h dX12_load_126
  · replace h := h.2 hc
    refine pw_iconst (pc := 116) (v := 0 ) C dX12_load_116 (by decide) ?_
    exact pw_iret (pc := 117) C hr h dX12_load_117
set_option maxRecDepth 100000 in
set_option maxHeartbeats 4000000 in
theorem cbX12_load_b96 {p : Program} {l : Launch} {e : Env} {s : State} {m : MethodId} {args : Array Value} {below : List Frame} {meth : Method} {c : Code} {G : PG} {Q : Int32 → PS → Prop} (C : pCx p s m args meth c G cX12_load 2 yX12_load.cls wsX12_load) (hr : meth.sig.returnType = (some .int)) (hin : meth.name = yX12_load.name) (hZ : pZa G)  : ∀ (S : PS) (x0 : Nat) (x1 : Int32), wpX12_load_b96  Q S x0 x1 → PW p l e rmX12_load s m args below meth c (MQ below (va_Qi Q (pB G) (pFr G)) args s rmX12_load.cells rmX12_load.slots (pFr G)) G 2 S 0 0 [(0, .ref (G.2.2 + x0)), (1, .int x1)] 96 ([]) := by
  intro S x0 x1 h
  unfold wpX12_load_b96 at h
  refine pw_aload_n (pc := 96) C 0 dX12_load_96 rfl rfl ?_
  refine pw_aload_n (pc := 97) C 0 dX12_load_97 rfl rfl ?_
  obtain ⟨hk8, h⟩ := h
  refine pw_calli (pc := 98) (kc2 := 0) (kn2 := 0) (pRunV (pc := 98) C (ctX12_isWrong l G  _ x0 _ h) (cwV 0 C.2.2.2.2.1 gX12_load_X12_isWrong rfl rfl rfl (by decide +kernel) ⟨Nat.le_of_ble_eq_true rfl, Nat.le_of_ble_eq_true rfl⟩) pCl10 hk8 rfl rfl (Nat.le_of_ble_eq_true rfl) dX12_load_98 ⟨Nat.le_of_ble_eq_true rfl, Nat.le_of_ble_eq_true rfl⟩) rfl rfl (fun r9 S10 h => ?_)
  refine pw_if_ne (pc := 101) (tgt := 108) C dX12_load_101 rfl ⟨fun hc => ?_, fun hc => ?_⟩
  · replace h := h.1 hc
    refine pw_iconst (pc := 108) (v := 0 ) C dX12_load_108 (by decide) ?_
    exact cbX12_load_b109 C hr hin hZ  _ _ _ _ _ h
  · replace h := h.2 hc
    refine pw_iconst (pc := 104) (v := 1 ) C dX12_load_104 (by decide) ?_
    refine pw_goto (pc := 105) (tgt := 109) C dX12_load_105 rfl ?_
    exact cbX12_load_b109 C hr hin hZ  _ _ _ _ _ h
set_option maxRecDepth 100000 in
set_option maxHeartbeats 4000000 in
theorem cbX12_load_b75 {p : Program} {l : Launch} {e : Env} {s : State} {m : MethodId} {args : Array Value} {below : List Frame} {meth : Method} {c : Code} {G : PG} {Q : Int32 → PS → Prop} (C : pCx p s m args meth c G cX12_load 2 yX12_load.cls wsX12_load) (hr : meth.sig.returnType = (some .int)) (hin : meth.name = yX12_load.name) (hZ : pZa G)  (n : Nat) : ∀ (S : PS) (x0 : Nat) (x1 : Int32), wpX12_load_b75  Q n S x0 x1 → PW p l e rmX12_load s m args below meth c (MQ below (va_Qi Q (pB G) (pFr G)) args s rmX12_load.cells rmX12_load.slots (pFr G)) G 2 S 0 0 [(0, .ref (G.2.2 + x0)), (1, .int x1)] 75 ([]) := by
  induction n with
  | zero => intro S x0 x1 h; exact h.elim
  | succ n ih =>
    intro S x0 x1 h
    unfold wpX12_load_b75 at h
    refine pw_aload_n (pc := 75) C 0 dX12_load_75 rfl rfl ?_
    obtain ⟨hk11, h⟩ := h
    refine pw_calli (pc := 76) (kc2 := 0) (kn2 := 0) (pRunV (pc := 76) C (ctX12_isWrong l G  _ x0 _ h) (cwV 0 C.2.2.2.2.1 gX12_load_X12_isWrong rfl rfl rfl (by decide +kernel) ⟨Nat.le_of_ble_eq_true rfl, Nat.le_of_ble_eq_true rfl⟩) pCl10 hk11 rfl rfl (Nat.le_of_ble_eq_true rfl) dX12_load_76 ⟨Nat.le_of_ble_eq_true rfl, Nat.le_of_ble_eq_true rfl⟩) rfl rfl (fun r12 S13 h => ?_)
    refine pw_if_ne (pc := 79) (tgt := 96) C dX12_load_79 rfl ⟨fun hc => ?_, fun hc => ?_⟩
    · replace h := h.1 hc
      exact cbX12_load_b96 C hr hin hZ  _ _ _ h
    · replace h := h.2 hc
      refine pw_aload_n (pc := 82) C 0 dX12_load_82 rfl rfl ?_
      obtain ⟨hk14, h⟩ := h
      refine pw_getI (pc := 83) (ref := "SupportSolverModel") (k := 17) (index := 117) C pCl10 iX12_load_X12 hk14 rfl (by decide +kernel) (Or.inl rfl) dX12_load_83 ?_
      refine pw_if_eq (pc := 86) (tgt := 96) C dX12_load_86 rfl ⟨fun hc => ?_, fun hc => ?_⟩
      · replace h := h.1 hc
        exact cbX12_load_b96 C hr hin hZ  _ _ _ h
      · replace h := h.2 hc
        refine pw_aload_n (pc := 89) C 0 dX12_load_89 rfl rfl ?_
        refine pw_callv (pc := 90) (kc2 := 0) (kn2 := 0) (pRunV (pc := 90) C (ctX12_constraint l G hZ  _ x0 _ h) (cwV 0 C.2.2.2.2.1 gX12_load_X12_constraint rfl rfl rfl (by decide +kernel) ⟨Nat.le_of_ble_eq_true rfl, Nat.le_of_ble_eq_true rfl⟩) pCl10 hk14 rfl rfl (Nat.le_of_ble_eq_true rfl) dX12_load_90 ⟨Nat.le_of_ble_eq_true rfl, Nat.le_of_ble_eq_true rfl⟩) rfl rfl (fun S16 h => ?_)
        refine pw_goto (pc := 93) (tgt := 75) C dX12_load_93 rfl ?_
        exact ih _ _ _ h
set_option maxRecDepth 100000 in
set_option maxHeartbeats 4000000 in
theorem cbX12_load_b59 {p : Program} {l : Launch} {e : Env} {s : State} {m : MethodId} {args : Array Value} {below : List Frame} {meth : Method} {c : Code} {G : PG} {Q : Int32 → PS → Prop} (C : pCx p s m args meth c G cX12_load 2 yX12_load.cls wsX12_load) (hr : meth.sig.returnType = (some .int)) (hin : meth.name = yX12_load.name) (hZ : pZa G)  (n : Nat) : ∀ (S : PS) (x0 : Nat) (x1 : Int32), wpX12_load_b59  Q n S x0 x1 → PW p l e rmX12_load s m args below meth c (MQ below (va_Qi Q (pB G) (pFr G)) args s rmX12_load.cells rmX12_load.slots (pFr G)) G 2 S 0 0 [(0, .ref (G.2.2 + x0)), (1, .int x1)] 59 ([]) := by
  induction n with
  | zero => intro S x0 x1 h; exact h.elim
  | succ n ih =>
    intro S x0 x1 h
    unfold wpX12_load_b59 at h
    refine pw_aload_n (pc := 59) C 0 dX12_load_59 rfl rfl ?_
    obtain ⟨q17, z18, hq19⟩ := (hZ.2.2.2.2.2.2.2.2.2.2.2.2.2.2.2.2.2.2.2.2.2.2.2.2.2.1)
    refine pw_ldcS (pc := 60) C z18 dX12_load_60 ?_
    obtain ⟨hk20, h⟩ := h
    refine pw_calli (pc := 62) (kc2 := 0) (kn2 := 0) (pRunV (pc := 62) C (ctX12_isWord l G hZ [118, 97, 114] q17 hq19 (by decide)  _ x0 _ h) (cwV 1 C.2.2.2.2.1 gX12_load_X12_isWord rfl rfl rfl (by decide +kernel) ⟨Nat.le_of_ble_eq_true rfl, Nat.le_of_ble_eq_true rfl⟩) pCl10 hk20 rfl rfl (Nat.le_of_ble_eq_true rfl) dX12_load_62 ⟨Nat.le_of_ble_eq_true rfl, Nat.le_of_ble_eq_true rfl⟩) rfl rfl (fun r21 S22 h => ?_)
    refine pw_if_eq (pc := 65) (tgt := 75) C dX12_load_65 rfl ⟨fun hc => ?_, fun hc => ?_⟩
    · replace h := h.1 hc
      obtain ⟨n9, h⟩ := h
      exact cbX12_load_b75 C hr hin hZ  n9 _ _ _ h
    · replace h := h.2 hc
      refine pw_aload_n (pc := 68) C 0 dX12_load_68 rfl rfl ?_
      obtain ⟨hk23, h⟩ := h
      refine pw_callv (pc := 69) (kc2 := 0) (kn2 := 0) (pRunV (pc := 69) C (ctX12_variable l G hZ  _ x0 _ h) (cwV 0 C.2.2.2.2.1 gX12_load_X12_variable rfl rfl rfl (by decide +kernel) ⟨Nat.le_of_ble_eq_true rfl, Nat.le_of_ble_eq_true rfl⟩) pCl10 hk23 rfl rfl (Nat.le_of_ble_eq_true rfl) dX12_load_69 ⟨Nat.le_of_ble_eq_true rfl, Nat.le_of_ble_eq_true rfl⟩) rfl rfl (fun S25 h => ?_)
      refine pw_goto (pc := 72) (tgt := 59) C dX12_load_72 rfl ?_
      exact ih _ _ _ h
set_option maxRecDepth 100000 in
set_option maxHeartbeats 4000000 in
theorem cbX12_load_b35 {p : Program} {l : Launch} {e : Env} {s : State} {m : MethodId} {args : Array Value} {below : List Frame} {meth : Method} {c : Code} {G : PG} {Q : Int32 → PS → Prop} (C : pCx p s m args meth c G cX12_load 2 yX12_load.cls wsX12_load) (hr : meth.sig.returnType = (some .int)) (hin : meth.name = yX12_load.name) (hZ : pZa G)  (n : Nat) : ∀ (S : PS) (x0 : Nat) (x1 : Int32), wpX12_load_b35  Q n S x0 x1 → PW p l e rmX12_load s m args below meth c (MQ below (va_Qi Q (pB G) (pFr G)) args s rmX12_load.cells rmX12_load.slots (pFr G)) G 2 S 0 0 [(0, .ref (G.2.2 + x0)), (1, .int x1)] 35 ([]) := by
  induction n with
  | zero => intro S x0 x1 h; exact h.elim
  | succ n ih =>
    intro S x0 x1 h
    unfold wpX12_load_b35 at h
    refine pw_iload_n (pc := 35) C 1 dX12_load_35 rfl rfl ?_
    refine pw_sipush (pc := 36) (v := 169 ) C dX12_load_36 (by decide) ?_
    refine pw_icmp_ge (pc := 39) (tgt := 55) C dX12_load_39 rfl ⟨fun hc => ?_, fun hc => ?_⟩
    · replace h := h.1 hc
      refine pw_aload_n (pc := 55) C 0 dX12_load_55 rfl rfl ?_
      obtain ⟨hk26, h⟩ := h
      refine pw_callv (pc := 56) (kc2 := 0) (kn2 := 0) (pRunV (pc := 56) C (ctX12_token l G  _ x0 _ h) (cwV 0 C.2.2.2.2.1 gX12_load_X12_token rfl rfl rfl (by decide +kernel) ⟨Nat.le_of_ble_eq_true rfl, Nat.le_of_ble_eq_true rfl⟩) pCl10 hk26 rfl rfl (Nat.le_of_ble_eq_true rfl) dX12_load_56 ⟨Nat.le_of_ble_eq_true rfl, Nat.le_of_ble_eq_true rfl⟩) rfl rfl (fun S28 h => ?_)
      obtain ⟨n9, h⟩ := h
      exact cbX12_load_b59 C hr hin hZ  n9 _ _ _ h
    · replace h := h.2 hc
      refine pw_aload_n (pc := 42) C 0 dX12_load_42 rfl rfl ?_
      obtain ⟨hk29, h⟩ := h
      obtain ⟨o30, ho30, h⟩ := h
      refine pw_getR (pc := 43) (ref := "SupportSolverModel") (k := 2) (index := 13) C pCl10 iX12_load_X12 hk29 rfl (by decide +kernel) (Or.inl rfl) (o := o30) ho30 dX12_load_43 ?_
      refine pw_iload_n (pc := 46) C 1 dX12_load_46 rfl rfl ?_
      refine pw_iconst (pc := 47) (v := 0 ) C dX12_load_47 (by decide) ?_
      obtain ⟨hk31, h⟩ := h
      obtain ⟨hi32, h⟩ := h
      refine pw_iast (pc := 48) C hk31 hi32 dX12_load_48 ?_
      refine pw_iincK (pc := 49) (S := (sI S o30 (x1).toNatClampNeg (0 : Int32))) (w := 1) C [(1, .int (x1 + 1)), (0, .ref (G.2.2 + x0))] 1 dX12_load_49 (by decide) rfl (by decide) rfl ?_
      refine pw_goto (pc := 52) (S := (sI S o30 (x1).toNatClampNeg (0 : Int32))) (tgt := 35) C dX12_load_52 rfl ?_
      refine pw_sub [1, 0] (LV2 := [(0, .ref (G.2.2 + x0)), (1, .int (x1 + 1))]) rfl ?_
      exact ih _ _ _ h
set_option maxRecDepth 100000 in
set_option maxHeartbeats 4000000 in
theorem ctX12_load (l : Launch) (G : PG) (hZ : pZa G) (S : PS) (x0 : Nat) (Q : Int32 → PS → Prop) (h : wpX12_load S x0 Q) : mI l yX12_load wsX12_load rmX12_load G S [.ref (G.2.2 + x0)] Q := by
  unfold mI
  refine met_of (cc := cX12_load) (maxL := 2) (ret := (some .int)) (by decide) rfl (Nat.le_of_ble_eq_true rfl) ?_
  intro p e s m args below meth c C hr hin
  unfold wpX12_load at h
  show PW p l e _ s m args below meth c _ G 2 S 0 0 [(0, .ref (G.2.2 + x0))] 0 []
  refine pw_aload_n (pc := 0) C 0 dX12_load_0 rfl rfl ?_
  refine pw_iconst (pc := 1) (v := 0 ) C dX12_load_1 (by decide) ?_
  obtain ⟨hk33, h⟩ := h
  refine pw_putI (pc := 2) (ref := "SupportSolverModel") (k := 0) (index := 70) C pCl10 iX12_load_X12 hk33 rfl (by decide +kernel) (Or.inl rfl) (Or.inl rfl) rfl rfl dX12_load_2 ?_
  refine pw_aload_n (pc := 5) (S := (sI S x0 0 (0 : Int32))) C 0 dX12_load_5 rfl rfl ?_
  refine pw_aload_n (pc := 6) (S := (sI S x0 0 (0 : Int32))) C 0 dX12_load_6 rfl rfl ?_
  refine pw_getI (pc := 7) (S := (sI S x0 0 (0 : Int32))) (ref := "SupportSolverModel") (k := 13) (index := 93) C pCl10 iX12_load_X12 hk33 rfl (by decide +kernel) (Or.inl rfl) dX12_load_7 ?_
  refine pw_putI (pc := 10) (S := (sI S x0 0 (0 : Int32))) (ref := "SupportSolverModel") (k := 14) (index := 104) C pCl10 iX12_load_X12 hk33 rfl (by decide +kernel) (Or.inl rfl) (Or.inl rfl) rfl rfl dX12_load_10 ?_
  refine pw_aload_n (pc := 13) (S := (sI (sI S x0 0 (0 : Int32)) x0 14 (pI (sI S x0 0 (0 : Int32)) x0 13))) C 0 dX12_load_13 rfl rfl ?_
  refine pw_iconst (pc := 14) (S := (sI (sI S x0 0 (0 : Int32)) x0 14 (pI (sI S x0 0 (0 : Int32)) x0 13))) (v := 0 ) C dX12_load_14 (by decide) ?_
  refine pw_putI (pc := 15) (S := (sI (sI S x0 0 (0 : Int32)) x0 14 (pI (sI S x0 0 (0 : Int32)) x0 13))) (ref := "SupportSolverModel") (k := 13) (index := 93) C pCl10 iX12_load_X12 hk33 rfl (by decide +kernel) (Or.inl rfl) (Or.inl rfl) rfl rfl dX12_load_15 ?_
  refine pw_aload_n (pc := 18) (S := (sI (sI (sI S x0 0 (0 : Int32)) x0 14 (pI (sI S x0 0 (0 : Int32)) x0 13)) x0 13 (0 : Int32))) C 0 dX12_load_18 rfl rfl ?_
  refine pw_iconst (pc := 19) (S := (sI (sI (sI S x0 0 (0 : Int32)) x0 14 (pI (sI S x0 0 (0 : Int32)) x0 13)) x0 13 (0 : Int32))) (v := 0 ) C dX12_load_19 (by decide) ?_
  refine pw_putI (pc := 20) (S := (sI (sI (sI S x0 0 (0 : Int32)) x0 14 (pI (sI S x0 0 (0 : Int32)) x0 13)) x0 13 (0 : Int32))) (ref := "SupportSolverModel") (k := 15) (index := 107) C pCl10 iX12_load_X12 hk33 rfl (by decide +kernel) (Or.inl rfl) (Or.inl rfl) rfl rfl dX12_load_20 ?_
  refine pw_aload_n (pc := 23) (S := (sI (sI (sI (sI S x0 0 (0 : Int32)) x0 14 (pI (sI S x0 0 (0 : Int32)) x0 13)) x0 13 (0 : Int32)) x0 15 (0 : Int32))) C 0 dX12_load_23 rfl rfl ?_
  refine pw_iconst (pc := 24) (S := (sI (sI (sI (sI S x0 0 (0 : Int32)) x0 14 (pI (sI S x0 0 (0 : Int32)) x0 13)) x0 13 (0 : Int32)) x0 15 (0 : Int32))) (v := 0 ) C dX12_load_24 (by decide) ?_
  refine pw_putI (pc := 25) (S := (sI (sI (sI (sI S x0 0 (0 : Int32)) x0 14 (pI (sI S x0 0 (0 : Int32)) x0 13)) x0 13 (0 : Int32)) x0 15 (0 : Int32))) (ref := "SupportSolverModel") (k := 19) (index := 138) C pCl10 iX12_load_X12 hk33 rfl (by decide +kernel) (Or.inl rfl) (Or.inl rfl) rfl rfl dX12_load_25 ?_
  refine pw_aload_n (pc := 28) (S := (sI (sI (sI (sI (sI S x0 0 (0 : Int32)) x0 14 (pI (sI S x0 0 (0 : Int32)) x0 13)) x0 13 (0 : Int32)) x0 15 (0 : Int32)) x0 19 (0 : Int32))) C 0 dX12_load_28 rfl rfl ?_
  refine pw_iconst (pc := 29) (S := (sI (sI (sI (sI (sI S x0 0 (0 : Int32)) x0 14 (pI (sI S x0 0 (0 : Int32)) x0 13)) x0 13 (0 : Int32)) x0 15 (0 : Int32)) x0 19 (0 : Int32))) (v := (-1)) C dX12_load_29 (by decide) ?_
  refine pw_putI (pc := 30) (S := (sI (sI (sI (sI (sI S x0 0 (0 : Int32)) x0 14 (pI (sI S x0 0 (0 : Int32)) x0 13)) x0 13 (0 : Int32)) x0 15 (0 : Int32)) x0 19 (0 : Int32))) (ref := "SupportSolverModel") (k := 20) (index := 31) C pCl10 iX12_load_X12 hk33 rfl (by decide +kernel) (Or.inl rfl) (Or.inl rfl) rfl rfl dX12_load_30 ?_
  refine pw_iconst (pc := 33) (S := (sI (sI (sI (sI (sI (sI S x0 0 (0 : Int32)) x0 14 (pI (sI S x0 0 (0 : Int32)) x0 13)) x0 13 (0 : Int32)) x0 15 (0 : Int32)) x0 19 (0 : Int32)) x0 20 (-1 : Int32))) (v := 0 ) C dX12_load_33 (by decide) ?_
  refine pw_istore_n (pc := 34) (S := (sI (sI (sI (sI (sI (sI S x0 0 (0 : Int32)) x0 14 (pI (sI S x0 0 (0 : Int32)) x0 13)) x0 13 (0 : Int32)) x0 15 (0 : Int32)) x0 19 (0 : Int32)) x0 20 (-1 : Int32))) C [(1, .int (0 : Int32)), (0, .ref (G.2.2 + x0))] dX12_load_34 rfl (by decide) rfl ?_
  refine pw_sub [1, 0] (LV2 := [(0, .ref (G.2.2 + x0)), (1, .int (0 : Int32))]) rfl ?_
  obtain ⟨n9, h⟩ := h
  exact cbX12_load_b35 C hr hin hZ  n9 _ _ _ h

abbrev rmX12_tightness : Room := { frames := 5, cells := 0, slots := 0, locals := 118 }
theorem iX12_tightness_X12 : ∀ w ∈ u_ws RX12 TX12 32, w ∈ wsX12_tightness := fun _ h => List.mem_cons_of_mem _ (List.mem_append_right _ h)
def wpX12_tightness_b69  (Q : UInt64 → PS → Prop) (S : PS) (x0 : Nat) (x1 : Int32) (x2 : Int32) (x3 : Int32) (t0 : Nat) (t1 : Int32) : Prop := (pK S t0 = 11 ∧ (wpX12_may S t0 t1 (2 : Int32) (fun r2 S3 => ((r2 = 0 → (Q FP.dconst0 S3)) ∧ (¬ r2 = 0 → (pK S3 x0 = 11 ∧ (wpX12_tuplesOf S3 x0 x1 (fun r5 S6 => (vf_n64 (FP.ddiv (FP.i2d (x2 - r5)) (FP.i2d x2)) ∧ (Q (FP.ddiv (FP.i2d (x2 - r5)) (FP.i2d x2)) S6))))))))))
def wpX12_tightness_b24  (Q : UInt64 → PS → Prop) : Nat → PS → Nat → Int32 → Int32 → Int32 → Prop
  | 0 => fun _ _ _ _ _ => False
  | n + 1 => fun S x0 x1 x2 x3 => (pK S x0 = 11 ∧ (wpX12_of S x0 x1 (1 : Int32) (fun r9 S10 => ((r9 ≤ x3 → ((x2 ≤ 0 → (wpX12_tightness_b69 Q S10 x0 x1 x2 x3 x0 (0 : Int32))) ∧ (¬ x2 ≤ 0 → (wpX12_tightness_b69 Q S10 x0 x1 x2 x3 x0 (1 : Int32))))) ∧ (¬ r9 ≤ x3 → (pK S10 x0 = 11 ∧ (∃ o12, pR S10 x0 3 = some o12 ∧ (wpX12_of S10 x0 x1 ((2 : Int32) + x3) (fun r13 S14 => (pK S14 o12 = 13 ∧ (vp_in r13 (pL S14 o12) ∧ (wpX12_sizeOf S14 (pI S14 o12 (r13).toNatClampNeg) (fun r17 S18 => (wpX12_tightness_b24 Q n S18 x0 x1 (x2 * r17) (x3 + 1)))))))))))))))
def wpX12_tightness (S : PS) (x0 : Nat) (x1 : Int32) (Q : UInt64 → PS → Prop) : Prop := (pK S x0 = 11 ∧ (wpX12_isConstraint (sI S x0 0 (0 : Int32)) x0 x1 (fun r20 S21 => (pK S21 x0 = 11 ∧ (wpX12_may S21 x0 r20 (1 : Int32) (fun r23 S24 => ((¬ r23 = 0 → (∃ n9 : Nat, wpX12_tightness_b24 Q n9 S24 x0 x1 (1 : Int32) (0 : Int32))) ∧ (r23 = 0 → (Q FP.dconst0 S24)))))))))
set_option maxRecDepth 100000 in
set_option maxHeartbeats 4000000 in
theorem cbX12_tightness_b69 {p : Program} {l : Launch} {e : Env} {s : State} {m : MethodId} {args : Array Value} {below : List Frame} {meth : Method} {c : Code} {G : PG} {Q : UInt64 → PS → Prop} (C : pCx p s m args meth c G cX12_tightness 4 yX12_tightness.cls wsX12_tightness) (hr : meth.sig.returnType = (some .double)) (hin : meth.name = yX12_tightness.name)  : ∀ (S : PS) (x0 : Nat) (x1 : Int32) (x2 : Int32) (x3 : Int32) (t0 : Nat) (t1 : Int32), wpX12_tightness_b69  Q S x0 x1 x2 x3 t0 t1 → PW p l e rmX12_tightness s m args below meth c (MQ below (va_Qd Q (pB G) (pFr G)) args s rmX12_tightness.cells rmX12_tightness.slots (pFr G)) G 4 S 0 0 [(0, .ref (G.2.2 + x0)), (1, .int x1), (2, .int x2), (3, .int x3)] 69 (.int t1 :: .ref (G.2.2 + t0) :: []) := by
  intro S x0 x1 x2 x3 t0 t1 h
  unfold wpX12_tightness_b69 at h
  refine pw_iconst (pc := 69) (v := 2 ) C dX12_tightness_69 (by decide) ?_
  obtain ⟨hk1, h⟩ := h
  refine pw_calli (pc := 70) (kc2 := 0) (kn2 := 0) (pRunV (pc := 70) C (ctX12_may l G  _ t0 t1 (2 : Int32) _ h) (cwV 2 C.2.2.2.2.1 gX12_tightness_X12_may rfl rfl rfl (by decide +kernel) ⟨Nat.le_of_ble_eq_true rfl, Nat.le_of_ble_eq_true rfl⟩) pCl10 hk1 rfl rfl (Nat.le_of_ble_eq_true rfl) dX12_tightness_70 ⟨Nat.le_of_ble_eq_true rfl, Nat.le_of_ble_eq_true rfl⟩) rfl rfl (fun r2 S3 h => ?_)
  refine pw_if_eq (pc := 73) (tgt := 90) C dX12_tightness_73 rfl ⟨fun hc => ?_, fun hc => ?_⟩
  · replace h := h.1 hc
    refine pw_dconst0 (pc := 90) C dX12_tightness_90 ?_
    exact pw_dret (pc := 91) C hr h dX12_tightness_91
  · replace h := h.2 hc
    refine pw_iload_n (pc := 76) C 2 dX12_tightness_76 rfl rfl ?_
    refine pw_aload_n (pc := 77) C 0 dX12_tightness_77 rfl rfl ?_
    refine pw_iload_n (pc := 78) C 1 dX12_tightness_78 rfl rfl ?_
    obtain ⟨hk4, h⟩ := h
    refine pw_calli (pc := 79) (kc2 := 0) (kn2 := 0) (pRunV (pc := 79) C (ctX12_tuplesOf l G  _ x0 x1 _ h) (cwV 1 C.2.2.2.2.1 gX12_tightness_X12_tuplesOf rfl rfl rfl (by decide +kernel) ⟨Nat.le_of_ble_eq_true rfl, Nat.le_of_ble_eq_true rfl⟩) pCl10 hk4 rfl rfl (Nat.le_of_ble_eq_true rfl) dX12_tightness_79 ⟨Nat.le_of_ble_eq_true rfl, Nat.le_of_ble_eq_true rfl⟩) rfl rfl (fun r5 S6 h => ?_)
    refine pw_isub (pc := 82) C dX12_tightness_82 ?_
    refine pw_i2d (pc := 83) C dX12_tightness_83 ?_
    refine pw_iload_n (pc := 84) C 2 dX12_tightness_84 rfl rfl ?_
    refine pw_i2d (pc := 85) C dX12_tightness_85 ?_
    obtain ⟨hn7, h⟩ := h
    refine pw_ddiv (pc := 86) C dX12_tightness_86 hn7 ?_
    refine pw_goto (pc := 87) (tgt := 91) C dX12_tightness_87 rfl ?_
    exact pw_dret (pc := 91) C hr h dX12_tightness_91
set_option maxRecDepth 100000 in
set_option maxHeartbeats 4000000 in
theorem cbX12_tightness_b24 {p : Program} {l : Launch} {e : Env} {s : State} {m : MethodId} {args : Array Value} {below : List Frame} {meth : Method} {c : Code} {G : PG} {Q : UInt64 → PS → Prop} (C : pCx p s m args meth c G cX12_tightness 4 yX12_tightness.cls wsX12_tightness) (hr : meth.sig.returnType = (some .double)) (hin : meth.name = yX12_tightness.name)  (n : Nat) : ∀ (S : PS) (x0 : Nat) (x1 : Int32) (x2 : Int32) (x3 : Int32), wpX12_tightness_b24  Q n S x0 x1 x2 x3 → PW p l e rmX12_tightness s m args below meth c (MQ below (va_Qd Q (pB G) (pFr G)) args s rmX12_tightness.cells rmX12_tightness.slots (pFr G)) G 4 S 0 0 [(0, .ref (G.2.2 + x0)), (1, .int x1), (2, .int x2), (3, .int x3)] 24 ([]) := by
  induction n with
  | zero => intro S x0 x1 x2 x3 h; exact h.elim
  | succ n ih =>
    intro S x0 x1 x2 x3 h
    unfold wpX12_tightness_b24 at h
    refine pw_iload_n (pc := 24) C 3 dX12_tightness_24 rfl rfl ?_
    refine pw_aload_n (pc := 25) C 0 dX12_tightness_25 rfl rfl ?_
    refine pw_iload_n (pc := 26) C 1 dX12_tightness_26 rfl rfl ?_
    refine pw_iconst (pc := 27) (v := 1 ) C dX12_tightness_27 (by decide) ?_
    obtain ⟨hk8, h⟩ := h
    refine pw_calli (pc := 28) (kc2 := 0) (kn2 := 0) (pRunV (pc := 28) C (ctX12_of l G  _ x0 x1 (1 : Int32) _ h) (cwV 2 C.2.2.2.2.1 gX12_tightness_X12_of rfl rfl rfl (by decide +kernel) ⟨Nat.le_of_ble_eq_true rfl, Nat.le_of_ble_eq_true rfl⟩) pCl10 hk8 rfl rfl (Nat.le_of_ble_eq_true rfl) dX12_tightness_28 ⟨Nat.le_of_ble_eq_true rfl, Nat.le_of_ble_eq_true rfl⟩) rfl rfl (fun r9 S10 h => ?_)
    refine pw_icmp_ge (pc := 31) (tgt := 59) C dX12_tightness_31 rfl ⟨fun hc => ?_, fun hc => ?_⟩
    · replace h := h.1 hc
      refine pw_aload_n (pc := 59) C 0 dX12_tightness_59 rfl rfl ?_
      refine pw_iload_n (pc := 60) C 2 dX12_tightness_60 rfl rfl ?_
      refine pw_if_le (pc := 61) (tgt := 68) C dX12_tightness_61 rfl ⟨fun hc => ?_, fun hc => ?_⟩
      · replace h := h.1 hc
        refine pw_iconst (pc := 68) (v := 0 ) C dX12_tightness_68 (by decide) ?_
        exact cbX12_tightness_b69 C hr hin  _ _ _ _ _ _ _ h
      · replace h := h.2 hc
        refine pw_iconst (pc := 64) (v := 1 ) C dX12_tightness_64 (by decide) ?_
        refine pw_goto (pc := 65) (tgt := 69) C dX12_tightness_65 rfl ?_
        exact cbX12_tightness_b69 C hr hin  _ _ _ _ _ _ _ h
    · replace h := h.2 hc
      refine pw_iload_n (pc := 34) C 2 dX12_tightness_34 rfl rfl ?_
      refine pw_aload_n (pc := 35) C 0 dX12_tightness_35 rfl rfl ?_
      obtain ⟨hk11, h⟩ := h
      obtain ⟨o12, ho12, h⟩ := h
      refine pw_getR (pc := 36) (ref := "SupportSolverModel") (k := 3) (index := 16) C pCl10 iX12_tightness_X12 hk11 rfl (by decide +kernel) (Or.inl rfl) (o := o12) ho12 dX12_tightness_36 ?_
      refine pw_aload_n (pc := 39) C 0 dX12_tightness_39 rfl rfl ?_
      refine pw_iload_n (pc := 40) C 1 dX12_tightness_40 rfl rfl ?_
      refine pw_iconst (pc := 41) (v := 2 ) C dX12_tightness_41 (by decide) ?_
      refine pw_iload_n (pc := 42) C 3 dX12_tightness_42 rfl rfl ?_
      refine pw_iadd (pc := 43) C dX12_tightness_43 ?_
      refine pw_calli (pc := 44) (kc2 := 0) (kn2 := 0) (pRunV (pc := 44) C (ctX12_of l G  _ x0 x1 ((2 : Int32) + x3) _ h) (cwV 2 C.2.2.2.2.1 gX12_tightness_X12_of rfl rfl rfl (by decide +kernel) ⟨Nat.le_of_ble_eq_true rfl, Nat.le_of_ble_eq_true rfl⟩) pCl10 hk11 rfl rfl (Nat.le_of_ble_eq_true rfl) dX12_tightness_44 ⟨Nat.le_of_ble_eq_true rfl, Nat.le_of_ble_eq_true rfl⟩) rfl rfl (fun r13 S14 h => ?_)
      obtain ⟨hk15, h⟩ := h
      obtain ⟨hi16, h⟩ := h
      refine pw_iald (pc := 47) C hk15 hi16 dX12_tightness_47 ?_
      refine pw_calli (pc := 48) (kc2 := 0) (kn2 := 0) (pRunS (pc := 48) C (ctX12_sizeOf l G  _ (pI S14 o12 (r13).toNatClampNeg) _ h) (va_cwS 1 C.2.2.2.2.1 gX12_tightness_X12_sizeOf rfl rfl rfl (by decide +kernel) ⟨Nat.le_of_ble_eq_true rfl, Nat.le_of_ble_eq_true rfl⟩) rfl rfl (Nat.le_of_ble_eq_true rfl) dX12_tightness_48 ⟨Nat.le_of_ble_eq_true rfl, Nat.le_of_ble_eq_true rfl⟩) rfl rfl (fun r17 S18 h => ?_)
      refine pw_imul (pc := 51) C dX12_tightness_51 ?_
      refine pw_istore_n (pc := 52) C [(2, .int (x2 * r17)), (0, .ref (G.2.2 + x0)), (1, .int x1), (3, .int x3)] dX12_tightness_52 rfl (by decide) rfl ?_
      refine pw_iincK (pc := 53) (w := 1) C [(3, .int (x3 + 1)), (2, .int (x2 * r17)), (0, .ref (G.2.2 + x0)), (1, .int x1)] 3 dX12_tightness_53 (by decide) rfl (by decide) rfl ?_
      refine pw_goto (pc := 56) (tgt := 24) C dX12_tightness_56 rfl ?_
      refine pw_sub [2, 3, 1, 0] (LV2 := [(0, .ref (G.2.2 + x0)), (1, .int x1), (2, .int (x2 * r17)), (3, .int (x3 + 1))]) rfl ?_
      exact ih _ _ _ _ _ h
set_option maxRecDepth 100000 in
set_option maxHeartbeats 4000000 in
theorem ctX12_tightness (l : Launch) (G : PG) (S : PS) (x0 : Nat) (x1 : Int32) (Q : UInt64 → PS → Prop) (h : wpX12_tightness S x0 x1 Q) : mD l yX12_tightness wsX12_tightness rmX12_tightness G S [.ref (G.2.2 + x0), .int x1] Q := by
  unfold mD
  refine met_of (cc := cX12_tightness) (maxL := 4) (ret := (some .double)) (by decide) rfl (Nat.le_of_ble_eq_true rfl) ?_
  intro p e s m args below meth c C hr hin
  unfold wpX12_tightness at h
  show PW p l e _ s m args below meth c _ G 4 S 0 0 [(0, .ref (G.2.2 + x0)), (1, .int x1)] 0 []
  refine pw_aload_n (pc := 0) C 0 dX12_tightness_0 rfl rfl ?_
  refine pw_iconst (pc := 1) (v := 0 ) C dX12_tightness_1 (by decide) ?_
  obtain ⟨hk19, h⟩ := h
  refine pw_putI (pc := 2) (ref := "SupportSolverModel") (k := 0) (index := 70) C pCl10 iX12_tightness_X12 hk19 rfl (by decide +kernel) (Or.inl rfl) (Or.inl rfl) rfl rfl dX12_tightness_2 ?_
  refine pw_aload_n (pc := 5) (S := (sI S x0 0 (0 : Int32))) C 0 dX12_tightness_5 rfl rfl ?_
  refine pw_aload_n (pc := 6) (S := (sI S x0 0 (0 : Int32))) C 0 dX12_tightness_6 rfl rfl ?_
  refine pw_iload_n (pc := 7) (S := (sI S x0 0 (0 : Int32))) C 1 dX12_tightness_7 rfl rfl ?_
  refine pw_calli (pc := 8) (S := (sI S x0 0 (0 : Int32))) (kc2 := 0) (kn2 := 0) (pRunV (pc := 8) (S := (sI S x0 0 (0 : Int32))) C (ctX12_isConstraint l G  _ x0 x1 _ h) (cwV 1 C.2.2.2.2.1 gX12_tightness_X12_isConstraint rfl rfl rfl (by decide +kernel) ⟨Nat.le_of_ble_eq_true rfl, Nat.le_of_ble_eq_true rfl⟩) pCl10 hk19 rfl rfl (Nat.le_of_ble_eq_true rfl) dX12_tightness_8 ⟨Nat.le_of_ble_eq_true rfl, Nat.le_of_ble_eq_true rfl⟩) rfl rfl (fun r20 S21 h => ?_)
  refine pw_iconst (pc := 11) (v := 1 ) C dX12_tightness_11 (by decide) ?_
  obtain ⟨hk22, h⟩ := h
  refine pw_calli (pc := 12) (kc2 := 0) (kn2 := 0) (pRunV (pc := 12) C (ctX12_may l G  _ x0 r20 (1 : Int32) _ h) (cwV 2 C.2.2.2.2.1 gX12_tightness_X12_may rfl rfl rfl (by decide +kernel) ⟨Nat.le_of_ble_eq_true rfl, Nat.le_of_ble_eq_true rfl⟩) pCl10 hk22 rfl rfl (Nat.le_of_ble_eq_true rfl) dX12_tightness_12 ⟨Nat.le_of_ble_eq_true rfl, Nat.le_of_ble_eq_true rfl⟩) rfl rfl (fun r23 S24 h => ?_)
  refine pw_if_ne (pc := 15) (tgt := 20) C dX12_tightness_15 rfl ⟨fun hc => ?_, fun hc => ?_⟩
  · replace h := h.1 hc
    refine pw_iconst (pc := 20) (v := 1 ) C dX12_tightness_20 (by decide) ?_
    refine pw_istore_n (pc := 21) C [(2, .int (1 : Int32)), (0, .ref (G.2.2 + x0)), (1, .int x1)] dX12_tightness_21 rfl (by decide) rfl ?_
    refine pw_iconst (pc := 22) (v := 0 ) C dX12_tightness_22 (by decide) ?_
    refine pw_istore_n (pc := 23) C [(3, .int (0 : Int32)), (2, .int (1 : Int32)), (0, .ref (G.2.2 + x0)), (1, .int x1)] dX12_tightness_23 rfl (by decide) rfl ?_
    refine pw_sub [2, 3, 1, 0] (LV2 := [(0, .ref (G.2.2 + x0)), (1, .int x1), (2, .int (1 : Int32)), (3, .int (0 : Int32))]) rfl ?_
    obtain ⟨n9, h⟩ := h
    exact cbX12_tightness_b24 C hr hin  n9 _ _ _ _ _ h
  · replace h := h.2 hc
    refine pw_dconst0 (pc := 18) C dX12_tightness_18 ?_
    exact pw_dret (pc := 19) C hr h dX12_tightness_19

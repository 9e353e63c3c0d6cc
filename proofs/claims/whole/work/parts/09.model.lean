abbrev rmX12_of : Room := { frames := 0, cells := 0, slots := 0, locals := 0 }
theorem iX12_of_X12 : ∀ w ∈ u_ws RX12 TX12 32, w ∈ wsX12_of := fun _ h => List.mem_cons_of_mem _ (List.mem_append_right _ h)
def wpX12_of (S : PS) (x0 : Nat) (x1 : Int32) (x2 : Int32) (Q : Int32 → PS → Prop) : Prop := (pK S x0 = 11 ∧ (∃ o2, pR S x0 1 = some o2 ∧ (pK S o2 = 13 ∧ (vp_in (((9 : Int32) + ((20 : Int32) * x1)) + x2) (pL S o2) ∧ (Q (pI S o2 ((((9 : Int32) + ((20 : Int32) * x1)) + x2)).toNatClampNeg) S)))))
set_option maxRecDepth 100000 in
set_option maxHeartbeats 4000000 in
theorem ctX12_of (l : Launch) (G : PG) (S : PS) (x0 : Nat) (x1 : Int32) (x2 : Int32) (Q : Int32 → PS → Prop) (h : wpX12_of S x0 x1 x2 Q) : mI l yX12_of wsX12_of rmX12_of G S [.ref (G.2.2 + x0), .int x1, .int x2] Q := by
  unfold mI
  refine met_of (cc := cX12_of) (maxL := 3) (ret := (some .int)) (by decide) rfl (Nat.le_of_ble_eq_true rfl) ?_
  intro p e s m args below meth c C hr hin
  unfold wpX12_of at h
  show PW p l e _ s m args below meth c _ G 3 S 0 0 [(0, .ref (G.2.2 + x0)), (1, .int x1), (2, .int x2)] 0 []
  refine pw_aload_n (pc := 0) C 0 dX12_of_0 rfl rfl ?_
  obtain ⟨hk1, h⟩ := h
  obtain ⟨o2, ho2, h⟩ := h
  refine pw_getR (pc := 1) (ref := "SupportSolverModel") (k := 1) (index := 7) C pCl10 iX12_of_X12 hk1 rfl (by decide +kernel) (Or.inl rfl) (o := o2) ho2 dX12_of_1 ?_
  refine pw_bipush (pc := 4) (v := 9 ) C dX12_of_4 (by decide) ?_
  refine pw_bipush (pc := 6) (v := 20 ) C dX12_of_6 (by decide) ?_
  refine pw_iload_n (pc := 8) C 1 dX12_of_8 rfl rfl ?_
  refine pw_imul (pc := 9) C dX12_of_9 ?_
  refine pw_iadd (pc := 10) C dX12_of_10 ?_
  refine pw_iload_n (pc := 11) C 2 dX12_of_11 rfl rfl ?_
  refine pw_iadd (pc := 12) C dX12_of_12 ?_
  obtain ⟨hk3, h⟩ := h
  obtain ⟨hi4, h⟩ := h
  refine pw_iald (pc := 13) C hk3 hi4 dX12_of_13 ?_
  exact pw_iret (pc := 14) C hr h dX12_of_14

abbrev rmX12_valueIn : Room := { frames := 0, cells := 0, slots := 0, locals := 0 }
def wpX12_valueIn (S : PS) (x0 : Int32) (x1 : Int32) (Q : Int32 → PS → Prop) : Prop := (Q (((x0 >>> (((3 : Int32) * x1) &&& 31)) &&& (7 : Int32)) - (1 : Int32)) S)
set_option maxRecDepth 100000 in
set_option maxHeartbeats 4000000 in
theorem ctX12_valueIn (l : Launch) (G : PG) (S : PS) (x0 : Int32) (x1 : Int32) (Q : Int32 → PS → Prop) (h : wpX12_valueIn S x0 x1 Q) : mI l yX12_valueIn wsX12_valueIn rmX12_valueIn G S [.int x0, .int x1] Q := by
  unfold mI
  refine met_of (cc := cX12_valueIn) (maxL := 2) (ret := (some .int)) (by decide) rfl (Nat.le_of_ble_eq_true rfl) ?_
  intro p e s m args below meth c C hr hin
  unfold wpX12_valueIn at h
  show PW p l e _ s m args below meth c _ G 2 S 0 0 [(0, .int x0), (1, .int x1)] 0 []
  refine pw_iload_n (pc := 0) C 0 dX12_valueIn_0 rfl rfl ?_
  refine pw_iconst (pc := 1) (v := 3 ) C dX12_valueIn_1 (by decide) ?_
  refine pw_iload_n (pc := 2) C 1 dX12_valueIn_2 rfl rfl ?_
  refine pw_imul (pc := 3) C dX12_valueIn_3 ?_
  refine pw_ishr (pc := 4) C dX12_valueIn_4 ?_
  refine pw_bipush (pc := 5) (v := 7 ) C dX12_valueIn_5 (by decide) ?_
  refine pw_iand (pc := 7) C dX12_valueIn_7 ?_
  refine pw_iconst (pc := 8) (v := 1 ) C dX12_valueIn_8 (by decide) ?_
  refine pw_isub (pc := 9) C dX12_valueIn_9 ?_
  exact pw_iret (pc := 10) C hr h dX12_valueIn_10

abbrev rmX12_manyIn : Room := { frames := 1, cells := 0, slots := 0, locals := 22 }
def wpX12_manyIn_b15  (Q : Int32 → PS → Prop) : Nat → PS → Nat → Int32 → Int32 → Int32 → Prop
  | 0 => fun _ _ _ _ _ => False
  | n + 1 => fun S x0 x1 x2 x3 => (((7 : Int32) ≤ x3 → (Q x2 S)) ∧ (¬ (7 : Int32) ≤ x3 → (wpX12_valueIn S (-x1) x3 (fun r1 S2 => ((r1 < 0 → (wpX12_manyIn_b15 Q n S2 x0 x1 (x2 + (0 : Int32)) (x3 + 1))) ∧ (¬ r1 < 0 → (wpX12_manyIn_b15 Q n S2 x0 x1 (x2 + (1 : Int32)) (x3 + 1))))))))
def wpX12_manyIn (S : PS) (x0 : Nat) (x1 : Int32) (Q : Int32 → PS → Prop) : Prop := ((x1 < 0 → (∃ n9 : Nat, wpX12_manyIn_b15 Q n9 S x0 x1 (0 : Int32) (0 : Int32))) ∧ (¬ x1 < 0 → (pK S x0 = 11 ∧ (wpX12_of S x0 x1 (1 : Int32) (fun r4 S5 => (Q r4 S5))))))
set_option maxRecDepth 100000 in
set_option maxHeartbeats 4000000 in
theorem cbX12_manyIn_b15 {p : Program} {l : Launch} {e : Env} {s : State} {m : MethodId} {args : Array Value} {below : List Frame} {meth : Method} {c : Code} {G : PG} {Q : Int32 → PS → Prop} (C : pCx p s m args meth c G cX12_manyIn 4 yX12_manyIn.cls wsX12_manyIn) (hr : meth.sig.returnType = (some .int)) (hin : meth.name = yX12_manyIn.name)  (n : Nat) : ∀ (S : PS) (x0 : Nat) (x1 : Int32) (x2 : Int32) (x3 : Int32), wpX12_manyIn_b15  Q n S x0 x1 x2 x3 → PW p l e rmX12_manyIn s m args below meth c (MQ below (va_Qi Q (pB G) (pFr G)) args s rmX12_manyIn.cells rmX12_manyIn.slots (pFr G)) G 4 S 0 0 [(0, .ref (G.2.2 + x0)), (1, .int x1), (2, .int x2), (3, .int x3)] 15 ([]) := by
  induction n with
  | zero => intro S x0 x1 x2 x3 h; exact h.elim
  | succ n ih =>
    intro S x0 x1 x2 x3 h
    unfold wpX12_manyIn_b15 at h
    refine pw_iload_n (pc := 15) C 3 dX12_manyIn_15 rfl rfl ?_
    refine pw_bipush (pc := 16) (v := 7 ) C dX12_manyIn_16 (by decide) ?_
    refine pw_icmp_ge (pc := 18) (tgt := 44) C dX12_manyIn_18 rfl ⟨fun hc => ?_, fun hc => ?_⟩
    · replace h := h.1 hc
      refine pw_iload_n (pc := 44) C 2 dX12_manyIn_44 rfl rfl ?_
      exact pw_iret (pc := 45) C hr h dX12_manyIn_45
    · replace h := h.2 hc
      refine pw_iload_n (pc := 21) C 2 dX12_manyIn_21 rfl rfl ?_
      refine pw_iload_n (pc := 22) C 1 dX12_manyIn_22 rfl rfl ?_
      refine pw_ineg (pc := 23) C dX12_manyIn_23 ?_
      refine pw_iload_n (pc := 24) C 3 dX12_manyIn_24 rfl rfl ?_
      refine pw_calli (pc := 25) (kc2 := 0) (kn2 := 0) (pRunS (pc := 25) C (ctX12_valueIn l G  _ (-x1) x3 _ h) (va_cwS 2 C.2.2.2.2.1 gX12_manyIn_X12_valueIn rfl rfl rfl (by decide +kernel) ⟨Nat.le_of_ble_eq_true rfl, Nat.le_of_ble_eq_true rfl⟩) rfl rfl (Nat.le_of_ble_eq_true rfl) dX12_manyIn_25 ⟨Nat.le_of_ble_eq_true rfl, Nat.le_of_ble_eq_true rfl⟩) rfl rfl (fun r1 S2 h => ?_)
      refine pw_if_lt (pc := 28) (tgt := 35) C dX12_manyIn_28 rfl ⟨fun hc => ?_, fun hc => ?_⟩
      · replace h := h.1 hc
        refine pw_iconst (pc := 35) (v := 0 ) C dX12_manyIn_35 (by decide) ?_
        refine pw_iadd (pc := 36) C dX12_manyIn_36 ?_
        refine pw_istore_n (pc := 37) C [(2, .int (x2 + (0 : Int32))), (0, .ref (G.2.2 + x0)), (1, .int x1), (3, .int x3)] dX12_manyIn_37 rfl (by decide) rfl ?_
        refine pw_iincK (pc := 38) (w := 1) C [(3, .int (x3 + 1)), (2, .int (x2 + (0 : Int32))), (0, .ref (G.2.2 + x0)), (1, .int x1)] 3 dX12_manyIn_38 (by decide) rfl (by decide) rfl ?_
        refine pw_goto (pc := 41) (tgt := 15) C dX12_manyIn_41 rfl ?_
        refine pw_sub [2, 3, 1, 0] (LV2 := [(0, .ref (G.2.2 + x0)), (1, .int x1), (2, .int (x2 + (0 : Int32))), (3, .int (x3 + 1))]) rfl ?_
        exact ih _ _ _ _ _ h
      · replace h := h.2 hc
        refine pw_iconst (pc := 31) (v := 1 ) C dX12_manyIn_31 (by decide) ?_
        refine pw_goto (pc := 32) (tgt := 36) C dX12_manyIn_32 rfl ?_
        refine pw_iadd (pc := 36) C dX12_manyIn_36 ?_
        refine pw_istore_n (pc := 37) C [(2, .int (x2 + (1 : Int32))), (0, .ref (G.2.2 + x0)), (1, .int x1), (3, .int x3)] dX12_manyIn_37 rfl (by decide) rfl ?_
        refine pw_iincK (pc := 38) (w := 1) C [(3, .int (x3 + 1)), (2, .int (x2 + (1 : Int32))), (0, .ref (G.2.2 + x0)), (1, .int x1)] 3 dX12_manyIn_38 (by decide) rfl (by decide) rfl ?_
        refine pw_goto (pc := 41) (tgt := 15) C dX12_manyIn_41 rfl ?_
        refine pw_sub [2, 3, 1, 0] (LV2 := [(0, .ref (G.2.2 + x0)), (1, .int x1), (2, .int (x2 + (1 : Int32))), (3, .int (x3 + 1))]) rfl ?_
        exact ih _ _ _ _ _ h
set_option maxRecDepth 100000 in
set_option maxHeartbeats 4000000 in
theorem ctX12_manyIn (l : Launch) (G : PG) (S : PS) (x0 : Nat) (x1 : Int32) (Q : Int32 → PS → Prop) (h : wpX12_manyIn S x0 x1 Q) : mI l yX12_manyIn wsX12_manyIn rmX12_manyIn G S [.ref (G.2.2 + x0), .int x1] Q := by
  unfold mI
  refine met_of (cc := cX12_manyIn) (maxL := 4) (ret := (some .int)) (by decide) rfl (Nat.le_of_ble_eq_true rfl) ?_
  intro p e s m args below meth c C hr hin
  unfold wpX12_manyIn at h
  show PW p l e _ s m args below meth c _ G 4 S 0 0 [(0, .ref (G.2.2 + x0)), (1, .int x1)] 0 []
  refine pw_iload_n (pc := 0) C 1 dX12_manyIn_0 rfl rfl ?_
  refine pw_if_lt (pc := 1) (tgt := 11) C dX12_manyIn_1 rfl ⟨fun hc => ?_, fun hc => ?_⟩
  · replace h := h.1 hc
    refine pw_iconst (pc := 11) (v := 0 ) C dX12_manyIn_11 (by decide) ?_
    refine pw_istore_n (pc := 12) C [(2, .int (0 : Int32)), (0, .ref (G.2.2 + x0)), (1, .int x1)] dX12_manyIn_12 rfl (by decide) rfl ?_
    refine pw_iconst (pc := 13) (v := 0 ) C dX12_manyIn_13 (by decide) ?_
    refine pw_istore_n (pc := 14) C [(3, .int (0 : Int32)), (2, .int (0 : Int32)), (0, .ref (G.2.2 + x0)), (1, .int x1)] dX12_manyIn_14 rfl (by decide) rfl ?_
    refine pw_sub [2, 3, 1, 0] (LV2 := [(0, .ref (G.2.2 + x0)), (1, .int x1), (2, .int (0 : Int32)), (3, .int (0 : Int32))]) rfl ?_
    obtain ⟨n9, h⟩ := h
    exact cbX12_manyIn_b15 C hr hin  n9 _ _ _ _ _ h
  · replace h := h.2 hc
    refine pw_aload_n (pc := 4) C 0 dX12_manyIn_4 rfl rfl ?_
    refine pw_iload_n (pc := 5) C 1 dX12_manyIn_5 rfl rfl ?_
    refine pw_iconst (pc := 6) (v := 1 ) C dX12_manyIn_6 (by decide) ?_
    obtain ⟨hk3, h⟩ := h
    refine pw_calli (pc := 7) (kc2 := 0) (kn2 := 0) (pRunV (pc := 7) C (ctX12_of l G  _ x0 x1 (1 : Int32) _ h) (cwV 2 C.2.2.2.2.1 gX12_manyIn_X12_of rfl rfl rfl (by decide +kernel) ⟨Nat.le_of_ble_eq_true rfl, Nat.le_of_ble_eq_true rfl⟩) pCl10 hk3 rfl rfl (Nat.le_of_ble_eq_true rfl) dX12_manyIn_7 ⟨Nat.le_of_ble_eq_true rfl, Nat.le_of_ble_eq_true rfl⟩) rfl rfl (fun r4 S5 h => ?_)
    exact pw_iret (pc := 10) C hr h dX12_manyIn_10

abbrev rmX12_memberOf : Room := { frames := 1, cells := 0, slots := 0, locals := 22 }
def wpX12_memberOf_b32 (K18 : PS → Nat → Int32 → Int32 → Int32 → Int32 → Prop) (Q : Int32 → PS → Prop) (S : PS) (x0 : Nat) (x1 : Int32) (x2 : Int32) (x3 : Int32) (x4 : Int32) : Prop := (wpX12_valueIn S (-x1) x3 (fun r1 S2 => ((r1 < 0 → (K18 S2 x0 x1 x2 (x3 + 1) (x4 - (0 : Int32)))) ∧ (¬ r1 < 0 → (K18 S2 x0 x1 x2 (x3 + 1) (x4 - (1 : Int32)))))))
def wpX12_memberOf_b18  (Q : Int32 → PS → Prop) : Nat → PS → Nat → Int32 → Int32 → Int32 → Int32 → Prop
  | 0 => fun _ _ _ _ _ _ => False
  | n + 1 => fun S x0 x1 x2 x3 x4 => ((0 < x4 → (wpX12_memberOf_b32 (wpX12_memberOf_b18 Q n) Q S x0 x1 x2 x3 x4)) ∧ (¬ 0 < x4 → (wpX12_valueIn S (-x1) x3 (fun r3 S4 => ((0 ≤ r3 → (Q x3 S4)) ∧ (¬ 0 ≤ r3 → (wpX12_memberOf_b32 (wpX12_memberOf_b18 Q n) Q S4 x0 x1 x2 x3 x4)))))))
def wpX12_memberOf (S : PS) (x0 : Nat) (x1 : Int32) (x2 : Int32) (Q : Int32 → PS → Prop) : Prop := ((x1 < 0 → (∃ n9 : Nat, wpX12_memberOf_b18 Q n9 S x0 x1 x2 (0 : Int32) x2)) ∧ (¬ x1 < 0 → (pK S x0 = 11 ∧ (wpX12_of S x0 x1 ((2 : Int32) + x2) (fun r6 S7 => (Q r6 S7))))))
set_option maxRecDepth 100000 in
set_option maxHeartbeats 4000000 in
theorem cbX12_memberOf_b32 {p : Program} {l : Launch} {e : Env} {s : State} {m : MethodId} {args : Array Value} {below : List Frame} {meth : Method} {c : Code} {G : PG} {Q : Int32 → PS → Prop} (C : pCx p s m args meth c G cX12_memberOf 5 yX12_memberOf.cls wsX12_memberOf) (hr : meth.sig.returnType = (some .int)) (hin : meth.name = yX12_memberOf.name) {K18 : PS → Nat → Int32 → Int32 → Int32 → Int32 → Prop} (hK18 : ∀ (S : PS) (x0 : Nat) (x1 : Int32) (x2 : Int32) (x3 : Int32) (x4 : Int32), K18 S x0 x1 x2 x3 x4 → PW p l e rmX12_memberOf s m args below meth c (MQ below (va_Qi Q (pB G) (pFr G)) args s rmX12_memberOf.cells rmX12_memberOf.slots (pFr G)) G 5 S 0 0 [(0, .ref (G.2.2 + x0)), (1, .int x1), (2, .int x2), (3, .int x3), (4, .int x4)] 18 ([])) : ∀ (S : PS) (x0 : Nat) (x1 : Int32) (x2 : Int32) (x3 : Int32) (x4 : Int32), wpX12_memberOf_b32 K18 Q S x0 x1 x2 x3 x4 → PW p l e rmX12_memberOf s m args below meth c (MQ below (va_Qi Q (pB G) (pFr G)) args s rmX12_memberOf.cells rmX12_memberOf.slots (pFr G)) G 5 S 0 0 [(0, .ref (G.2.2 + x0)), (1, .int x1), (2, .int x2), (3, .int x3), (4, .int x4)] 32 ([]) := by
  intro S x0 x1 x2 x3 x4 h
  unfold wpX12_memberOf_b32 at h
  refine pw_iload (pc := 32) C 4 dX12_memberOf_32 rfl ?_
  refine pw_iload_n (pc := 34) C 1 dX12_memberOf_34 rfl rfl ?_
  refine pw_ineg (pc := 35) C dX12_memberOf_35 ?_
  refine pw_iload_n (pc := 36) C 3 dX12_memberOf_36 rfl rfl ?_
  refine pw_calli (pc := 37) (kc2 := 0) (kn2 := 0) (pRunS (pc := 37) C (ctX12_valueIn l G  _ (-x1) x3 _ h) (va_cwS 2 C.2.2.2.2.1 gX12_memberOf_X12_valueIn rfl rfl rfl (by decide +kernel) ⟨Nat.le_of_ble_eq_true rfl, Nat.le_of_ble_eq_true rfl⟩) rfl rfl (Nat.le_of_ble_eq_true rfl) dX12_memberOf_37 ⟨Nat.le_of_ble_eq_true rfl, Nat.le_of_ble_eq_true rfl⟩) rfl rfl (fun r1 S2 h => ?_)
  refine pw_if_lt (pc := 40) (tgt := 47) C dX12_memberOf_40 rfl ⟨fun hc => ?_, fun hc => ?_⟩
  · replace h := h.1 hc
    refine pw_iconst (pc := 47) (v := 0 ) C dX12_memberOf_47 (by decide) ?_
    refine pw_isub (pc := 48) C dX12_memberOf_48 ?_
    refine pw_istore (pc := 49) C [(4, .int (x4 - (0 : Int32))), (0, .ref (G.2.2 + x0)), (1, .int x1), (2, .int x2), (3, .int x3)] dX12_memberOf_49 (by decide) rfl ?_
    refine pw_iincK (pc := 51) (w := 1) C [(3, .int (x3 + 1)), (4, .int (x4 - (0 : Int32))), (0, .ref (G.2.2 + x0)), (1, .int x1), (2, .int x2)] 4 dX12_memberOf_51 (by decide) rfl (by decide) rfl ?_
    refine pw_goto (pc := 54) (tgt := 18) C dX12_memberOf_54 rfl ?_
    refine pw_sub [2, 3, 4, 0, 1] (LV2 := [(0, .ref (G.2.2 + x0)), (1, .int x1), (2, .int x2), (3, .int (x3 + 1)), (4, .int (x4 - (0 : Int32)))]) rfl ?_
    exact hK18 _ _ _ _ _ _ h
  · replace h := h.2 hc
    refine pw_iconst (pc := 43) (v := 1 ) C dX12_memberOf_43 (by decide) ?_
    refine pw_goto (pc := 44) (tgt := 48) C dX12_memberOf_44 rfl ?_
    refine pw_isub (pc := 48) C dX12_memberOf_48 ?_
    refine pw_istore (pc := 49) C [(4, .int (x4 - (1 : Int32))), (0, .ref (G.2.2 + x0)), (1, .int x1), (2, .int x2), (3, .int x3)] dX12_memberOf_49 (by decide) rfl ?_
    refine pw_iincK (pc := 51) (w := 1) C [(3, .int (x3 + 1)), (4, .int (x4 - (1 : Int32))), (0, .ref (G.2.2 + x0)), (1, .int x1), (2, .int x2)] 4 dX12_memberOf_51 (by decide) rfl (by decide) rfl ?_
    refine pw_goto (pc := 54) (tgt := 18) C dX12_memberOf_54 rfl ?_
    refine pw_sub [2, 3, 4, 0, 1] (LV2 := [(0, .ref (G.2.2 + x0)), (1, .int x1), (2, .int x2), (3, .int (x3 + 1)), (4, .int (x4 - (1 : Int32)))]) rfl ?_
    exact hK18 _ _ _ _ _ _ h
set_option maxRecDepth 100000 in
set_option maxHeartbeats 4000000 in
theorem cbX12_memberOf_b18 {p : Program} {l : Launch} {e : Env} {s : State} {m : MethodId} {args : Array Value} {below : List Frame} {meth : Method} {c : Code} {G : PG} {Q : Int32 → PS → Prop} (C : pCx p s m args meth c G cX12_memberOf 5 yX12_memberOf.cls wsX12_memberOf) (hr : meth.sig.returnType = (some .int)) (hin : meth.name = yX12_memberOf.name)  (n : Nat) : ∀ (S : PS) (x0 : Nat) (x1 : Int32) (x2 : Int32) (x3 : Int32) (x4 : Int32), wpX12_memberOf_b18  Q n S x0 x1 x2 x3 x4 → PW p l e rmX12_memberOf s m args below meth c (MQ below (va_Qi Q (pB G) (pFr G)) args s rmX12_memberOf.cells rmX12_memberOf.slots (pFr G)) G 5 S 0 0 [(0, .ref (G.2.2 + x0)), (1, .int x1), (2, .int x2), (3, .int x3), (4, .int x4)] 18 ([]) := by
  induction n with
  | zero => intro S x0 x1 x2 x3 x4 h; exact h.elim
  | succ n ih =>
    intro S x0 x1 x2 x3 x4 h
    unfold wpX12_memberOf_b18 at h
    refine pw_iload (pc := 18) C 4 dX12_memberOf_18 rfl ?_
    refine pw_if_gt (pc := 20) (tgt := 32) C dX12_memberOf_20 rfl ⟨fun hc => ?_, fun hc => ?_⟩
    · replace h := h.1 hc
      exact cbX12_memberOf_b32 C hr hin ih _ _ _ _ _ _ h
    · replace h := h.2 hc
      refine pw_iload_n (pc := 23) C 1 dX12_memberOf_23 rfl rfl ?_
      refine pw_ineg (pc := 24) C dX12_memberOf_24 ?_
      refine pw_iload_n (pc := 25) C 3 dX12_memberOf_25 rfl rfl ?_
      refine pw_calli (pc := 26) (kc2 := 0) (kn2 := 0) (pRunS (pc := 26) C (ctX12_valueIn l G  _ (-x1) x3 _ h) (va_cwS 2 C.2.2.2.2.1 gX12_memberOf_X12_valueIn rfl rfl rfl (by decide +kernel) ⟨Nat.le_of_ble_eq_true rfl, Nat.le_of_ble_eq_true rfl⟩) rfl rfl (Nat.le_of_ble_eq_true rfl) dX12_memberOf_26 ⟨Nat.le_of_ble_eq_true rfl, Nat.le_of_ble_eq_true rfl⟩) rfl rfl (fun r3 S4 h => ?_)
      refine pw_if_ge (pc := 29) (tgt := 57) C dX12_memberOf_29 rfl ⟨fun hc => ?_, fun hc => ?_⟩
      · replace h := h.1 hc
        refine pw_iload_n (pc := 57) C 3 dX12_memberOf_57 rfl rfl ?_
        exact pw_iret (pc := 58) C hr h dX12_memberOf_58
      · replace h := h.2 hc
        exact cbX12_memberOf_b32 C hr hin ih _ _ _ _ _ _ h
set_option maxRecDepth 100000 in
set_option maxHeartbeats 4000000 in
theorem ctX12_memberOf (l : Launch) (G : PG) (S : PS) (x0 : Nat) (x1 : Int32) (x2 : Int32) (Q : Int32 → PS → Prop) (h : wpX12_memberOf S x0 x1 x2 Q) : mI l yX12_memberOf wsX12_memberOf rmX12_memberOf G S [.ref (G.2.2 + x0), .int x1, .int x2] Q := by
  unfold mI
  refine met_of (cc := cX12_memberOf) (maxL := 5) (ret := (some .int)) (by decide) rfl (Nat.le_of_ble_eq_true rfl) ?_
  intro p e s m args below meth c C hr hin
  unfold wpX12_memberOf at h
  show PW p l e _ s m args below meth c _ G 5 S 0 0 [(0, .ref (G.2.2 + x0)), (1, .int x1), (2, .int x2)] 0 []
  refine pw_iload_n (pc := 0) C 1 dX12_memberOf_0 rfl rfl ?_
  refine pw_if_lt (pc := 1) (tgt := 13) C dX12_memberOf_1 rfl ⟨fun hc => ?_, fun hc => ?_⟩
  · replace h := h.1 hc
    refine pw_iconst (pc := 13) (v := 0 ) C dX12_memberOf_13 (by decide) ?_
    refine pw_istore_n (pc := 14) C [(3, .int (0 : Int32)), (0, .ref (G.2.2 + x0)), (1, .int x1), (2, .int x2)] dX12_memberOf_14 rfl (by decide) rfl ?_
    refine pw_iload_n (pc := 15) C 3 dX12_memberOf_15 rfl rfl ?_
    refine pw_istore (pc := 16) C [(4, .int x2), (3, .int (0 : Int32)), (0, .ref (G.2.2 + x0)), (1, .int x1), (2, .int x2)] dX12_memberOf_16 (by decide) rfl ?_
    refine pw_sub [2, 3, 4, 1, 0] (LV2 := [(0, .ref (G.2.2 + x0)), (1, .int x1), (2, .int x2), (3, .int (0 : Int32)), (4, .int x2)]) rfl ?_
    obtain ⟨n9, h⟩ := h
    exact cbX12_memberOf_b18 C hr hin  n9 _ _ _ _ _ _ h
  · replace h := h.2 hc
    refine pw_aload_n (pc := 4) C 0 dX12_memberOf_4 rfl rfl ?_
    refine pw_iload_n (pc := 5) C 1 dX12_memberOf_5 rfl rfl ?_
    refine pw_iconst (pc := 6) (v := 2 ) C dX12_memberOf_6 (by decide) ?_
    refine pw_iload_n (pc := 7) C 2 dX12_memberOf_7 rfl rfl ?_
    refine pw_iadd (pc := 8) C dX12_memberOf_8 ?_
    obtain ⟨hk5, h⟩ := h
    refine pw_calli (pc := 9) (kc2 := 0) (kn2 := 0) (pRunV (pc := 9) C (ctX12_of l G  _ x0 x1 ((2 : Int32) + x2) _ h) (cwV 2 C.2.2.2.2.1 gX12_memberOf_X12_of rfl rfl rfl (by decide +kernel) ⟨Nat.le_of_ble_eq_true rfl, Nat.le_of_ble_eq_true rfl⟩) pCl10 hk5 rfl rfl (Nat.le_of_ble_eq_true rfl) dX12_memberOf_9 ⟨Nat.le_of_ble_eq_true rfl, Nat.le_of_ble_eq_true rfl⟩) rfl rfl (fun r6 S7 h => ?_)
    exact pw_iret (pc := 12) C hr h dX12_memberOf_12

abbrev rmX12_has : Room := { frames := 0, cells := 0, slots := 0, locals := 0 }
def wpX12_has (S : PS) (x0 : Int32) (x1 : Int32) (Q : Int32 → PS → Prop) : Prop := ((¬ ((x0 >>> (x1 &&& 31)) &&& (1 : Int32)) = (1 : Int32) → (Q (0 : Int32) S)) ∧ (((x0 >>> (x1 &&& 31)) &&& (1 : Int32)) = (1 : Int32) → (Q (1 : Int32) S)))
set_option maxRecDepth 100000 in
set_option maxHeartbeats 4000000 in
theorem ctX12_has (l : Launch) (G : PG) (S : PS) (x0 : Int32) (x1 : Int32) (Q : Int32 → PS → Prop) (h : wpX12_has S x0 x1 Q) : mI l yX12_has wsX12_has rmX12_has G S [.int x0, .int x1] Q := by
  unfold mI
  refine met_of (cc := cX12_has) (maxL := 2) (ret := (some .boolean)) (by decide) rfl (Nat.le_of_ble_eq_true rfl) ?_
  intro p e s m args below meth c C hr hin
  unfold wpX12_has at h
  show PW p l e _ s m args below meth c _ G 2 S 0 0 [(0, .int x0), (1, .int x1)] 0 []
  refine pw_iload_n (pc := 0) C 0 dX12_has_0 rfl rfl ?_
  refine pw_iload_n (pc := 1) C 1 dX12_has_1 rfl rfl ?_
  refine pw_ishr (pc := 2) C dX12_has_2 ?_
  refine pw_iconst (pc := 3) (v := 1 ) C dX12_has_3 (by decide) ?_
  refine pw_iand (pc := 4) C dX12_has_4 ?_
  refine pw_iconst (pc := 5) (v := 1 ) C dX12_has_5 (by decide) ?_
  refine pw_icmp_ne (pc := 6) (tgt := 13) C dX12_has_6 rfl ⟨fun hc => ?_, fun hc => ?_⟩
  · replace h := h.1 hc
    refine pw_iconst (pc := 13) (v := 0 ) C dX12_has_13 (by decide) ?_
    exact pw_zret (pc := 14) C hr rfl h dX12_has_14
  · replace h := h.2 hc
    refine pw_iconst (pc := 9) (v := 1 ) C dX12_has_9 (by decide) ?_
    refine pw_goto (pc := 10) (tgt := 14) C dX12_has_10 rfl ?_
    exact pw_zret (pc := 14) C hr rfl h dX12_has_14

abbrev rmX12_canLeave : Room := { frames := 1, cells := 0, slots := 0, locals := 21 }
def wpX12_canLeave_b55 (K5 : PS → Nat → Int32 → Nat → Int32 → Int32 → Prop) (Q : Int32 → PS → Prop) (S : PS) (x0 : Nat) (x1 : Int32) (x2 : Nat) (x3 : Int32) (x4 : Int32) (x5 : Int32) : Prop := (K5 S x0 x1 x2 (1 : Int32) (x4 + 1))
def wpX12_canLeave_b5  (Q : Int32 → PS → Prop) : Nat → PS → Nat → Int32 → Nat → Int32 → Int32 → Prop
  | 0 => fun _ _ _ _ _ _ => False
  | n + 1 => fun S x0 x1 x2 x3 x4 => (((7 : Int32) ≤ x4 → ((x3 = 0 ∨ x3 = 1) ∧ (Q x3 S))) ∧ (¬ (7 : Int32) ≤ x4 → (wpX12_valueIn S x1 x4 (fun r2 S3 => ((0 ≤ r2 → (pK S3 x2 = 13 ∧ (vp_in x4 (pL S3 x2) ∧ ((¬ (pI S3 x2 (x4).toNatClampNeg) = 0 → ((¬ x3 = 0 → (wpX12_canLeave_b55 (wpX12_canLeave_b5 Q n) Q S3 x0 x1 x2 x3 x4 r2)) ∧ (x3 = 0 → (vp_in x4 (pL S3 x2) ∧ ((((pI S3 x2 (x4).toNatClampNeg) &&& (((1 : Int32) <<< (r2 &&& 31)) ^^^ (-1 : Int32))) = 0 → (wpX12_canLeave_b5 Q n S3 x0 x1 x2 (0 : Int32) (x4 + 1))) ∧ (¬ ((pI S3 x2 (x4).toNatClampNeg) &&& (((1 : Int32) <<< (r2 &&& 31)) ^^^ (-1 : Int32))) = 0 → (wpX12_canLeave_b55 (wpX12_canLeave_b5 Q n) Q S3 x0 x1 x2 x3 x4 r2))))))) ∧ ((pI S3 x2 (x4).toNatClampNeg) = 0 → (Q (0 : Int32) S3)))))) ∧ (¬ 0 ≤ r2 → (wpX12_canLeave_b5 Q n S3 x0 x1 x2 x3 (x4 + 1))))))))
def wpX12_canLeave (S : PS) (x0 : Nat) (x1 : Int32) (x2 : Nat) (Q : Int32 → PS → Prop) : Prop := (∃ n9 : Nat, wpX12_canLeave_b5 Q n9 S x0 x1 x2 (0 : Int32) (0 : Int32))
set_option maxRecDepth 100000 in
set_option maxHeartbeats 4000000 in
theorem cbX12_canLeave_b55 {p : Program} {l : Launch} {e : Env} {s : State} {m : MethodId} {args : Array Value} {below : List Frame} {meth : Method} {c : Code} {G : PG} {Q : Int32 → PS → Prop} (C : pCx p s m args meth c G cX12_canLeave 6 yX12_canLeave.cls wsX12_canLeave) (hr : meth.sig.returnType = (some .boolean)) (hin : meth.name = yX12_canLeave.name) {K5 : PS → Nat → Int32 → Nat → Int32 → Int32 → Prop} (hK5 : ∀ (S : PS) (x0 : Nat) (x1 : Int32) (x2 : Nat) (x3 : Int32) (x4 : Int32), K5 S x0 x1 x2 x3 x4 → PW p l e rmX12_canLeave s m args below meth c (MQ below (va_Qi Q (pB G) (pFr G)) args s rmX12_canLeave.cells rmX12_canLeave.slots (pFr G)) G 6 S 0 0 [(0, .ref (G.2.2 + x0)), (1, .int x1), (2, .ref (G.2.2 + x2)), (3, .int x3), (4, .int x4)] 5 ([])) : ∀ (S : PS) (x0 : Nat) (x1 : Int32) (x2 : Nat) (x3 : Int32) (x4 : Int32) (x5 : Int32), wpX12_canLeave_b55 K5 Q S x0 x1 x2 x3 x4 x5 → PW p l e rmX12_canLeave s m args below meth c (MQ below (va_Qi Q (pB G) (pFr G)) args s rmX12_canLeave.cells rmX12_canLeave.slots (pFr G)) G 6 S 0 0 [(0, .ref (G.2.2 + x0)), (1, .int x1), (2, .ref (G.2.2 + x2)), (3, .int x3), (4, .int x4), (5, .int x5)] 55 ([]) := by
  intro S x0 x1 x2 x3 x4 x5 h
  unfold wpX12_canLeave_b55 at h
  refine pw_iconst (pc := 55) (v := 1 ) C dX12_canLeave_55 (by decide) ?_
  refine pw_goto (pc := 56) (tgt := 60) C dX12_canLeave_56 rfl ?_
  refine pw_istore_n (pc := 60) C [(3, .int (1 : Int32)), (0, .ref (G.2.2 + x0)), (1, .int x1), (2, .ref (G.2.2 + x2)), (4, .int x4), (5, .int x5)] dX12_canLeave_60 rfl (by decide) rfl ?_
  refine pw_iincK (pc := 61) (w := 1) C [(4, .int (x4 + 1)), (3, .int (1 : Int32)), (0, .ref (G.2.2 + x0)), (1, .int x1), (2, .ref (G.2.2 + x2)), (5, .int x5)] 4 dX12_canLeave_61 (by decide) rfl (by decide) rfl ?_
  refine pw_goto (pc := 64) (tgt := 5) C dX12_canLeave_64 rfl ?_
  refine pw_sub [2, 3, 4, 1, 0] (LV2 := [(0, .ref (G.2.2 + x0)), (1, .int x1), (2, .ref (G.2.2 + x2)), (3, .int (1 : Int32)), (4, .int (x4 + 1))]) rfl ?_
  exact hK5 _ _ _ _ _ _ h
set_option maxRecDepth 100000 in
set_option maxHeartbeats 4000000 in
theorem cbX12_canLeave_b5 {p : Program} {l : Launch} {e : Env} {s : State} {m : MethodId} {args : Array Value} {below : List Frame} {meth : Method} {c : Code} {G : PG} {Q : Int32 → PS → Prop} (C : pCx p s m args meth c G cX12_canLeave 6 yX12_canLeave.cls wsX12_canLeave) (hr : meth.sig.returnType = (some .boolean)) (hin : meth.name = yX12_canLeave.name)  (n : Nat) : ∀ (S : PS) (x0 : Nat) (x1 : Int32) (x2 : Nat) (x3 : Int32) (x4 : Int32), wpX12_canLeave_b5  Q n S x0 x1 x2 x3 x4 → PW p l e rmX12_canLeave s m args below meth c (MQ below (va_Qi Q (pB G) (pFr G)) args s rmX12_canLeave.cells rmX12_canLeave.slots (pFr G)) G 6 S 0 0 [(0, .ref (G.2.2 + x0)), (1, .int x1), (2, .ref (G.2.2 + x2)), (3, .int x3), (4, .int x4)] 5 ([]) := by
  induction n with
  | zero => intro S x0 x1 x2 x3 x4 h; exact h.elim
  | succ n ih =>
    intro S x0 x1 x2 x3 x4 h
    unfold wpX12_canLeave_b5 at h
    refine pw_iload (pc := 5) C 4 dX12_canLeave_5 rfl ?_
    refine pw_bipush (pc := 7) (v := 7 ) C dX12_canLeave_7 (by decide) ?_
    refine pw_icmp_ge (pc := 9) (tgt := 67) C dX12_canLeave_9 rfl ⟨fun hc => ?_, fun hc => ?_⟩
    · replace h := h.1 hc
      refine pw_iload_n (pc := 67) C 3 dX12_canLeave_67 rfl rfl ?_
      obtain ⟨hb1, h⟩ := h
      exact pw_zret (pc := 68) C hr (nar_bool hb1) h dX12_canLeave_68
    · replace h := h.2 hc
      refine pw_iload_n (pc := 12) C 1 dX12_canLeave_12 rfl rfl ?_
      refine pw_iload (pc := 13) C 4 dX12_canLeave_13 rfl ?_
      refine pw_calli (pc := 15) (kc2 := 0) (kn2 := 0) (pRunS (pc := 15) C (ctX12_valueIn l G  _ x1 x4 _ h) (va_cwS 2 C.2.2.2.2.1 gX12_canLeave_X12_valueIn rfl rfl rfl (by decide +kernel) ⟨Nat.le_of_ble_eq_true rfl, Nat.le_of_ble_eq_true rfl⟩) rfl rfl (Nat.le_of_ble_eq_true rfl) dX12_canLeave_15 ⟨Nat.le_of_ble_eq_true rfl, Nat.le_of_ble_eq_true rfl⟩) rfl rfl (fun r2 S3 h => ?_)
      refine pw_istore (pc := 18) C [(5, .int r2), (0, .ref (G.2.2 + x0)), (1, .int x1), (2, .ref (G.2.2 + x2)), (3, .int x3), (4, .int x4)] dX12_canLeave_18 (by decide) rfl ?_
      refine pw_iload (pc := 20) C 0 dX12_canLeave_20 rfl ?_
      refine pw_if_ge (pc := 22) (tgt := 28) C dX12_canLeave_22 rfl ⟨fun hc => ?_, fun hc => ?_⟩
      · replace h := h.1 hc
        refine pw_aload_n (pc := 28) C 3 dX12_canLeave_28 rfl rfl ?_
        refine pw_iload (pc := 29) C 5 dX12_canLeave_29 rfl ?_
        obtain ⟨hk4, h⟩ := h
        obtain ⟨hi5, h⟩ := h
        refine pw_iald (pc := 31) C hk4 hi5 dX12_canLeave_31 ?_
        refine pw_if_ne (pc := 32) (tgt := 37) C dX12_canLeave_32 rfl ⟨fun hc => ?_, fun hc => ?_⟩
        · replace h := h.1 hc
          refine pw_iload_n (pc := 37) C 4 dX12_canLeave_37 rfl rfl ?_
          refine pw_if_ne (pc := 38) (tgt := 55) C dX12_canLeave_38 rfl ⟨fun hc => ?_, fun hc => ?_⟩
          · replace h := h.1 hc
            refine pw_sub [1, 2, 3, 4, 5, 0] (LV2 := [(0, .ref (G.2.2 + x0)), (1, .int x1), (2, .ref (G.2.2 + x2)), (3, .int x3), (4, .int x4), (5, .int r2)]) rfl ?_
            exact cbX12_canLeave_b55 C hr hin ih _ _ _ _ _ _ _ h
          · replace h := h.2 hc
            refine pw_aload_n (pc := 41) C 3 dX12_canLeave_41 rfl rfl ?_
            refine pw_iload (pc := 42) C 5 dX12_canLeave_42 rfl ?_
            obtain ⟨hi6, h⟩ := h
            refine pw_iald (pc := 44) C hk4 hi6 dX12_canLeave_44 ?_
            refine pw_iconst (pc := 45) (v := 1 ) C dX12_canLeave_45 (by decide) ?_
            refine pw_iload (pc := 46) C 0 dX12_canLeave_46 rfl ?_
            refine pw_ishl (pc := 48) C dX12_canLeave_48 ?_
            refine pw_iconst (pc := 49) (v := (-1)) C dX12_canLeave_49 (by decide) ?_
            refine pw_ixor (pc := 50) C dX12_canLeave_50 ?_
            refine pw_iand (pc := 51) C dX12_canLeave_51 ?_
            refine pw_if_eq (pc := 52) (tgt := 59) C dX12_canLeave_52 rfl ⟨fun hc => ?_, fun hc => ?_⟩
            · replace h := h.1 hc
              refine pw_iconst (pc := 59) (v := 0 ) C dX12_canLeave_59 (by decide) ?_
              refine pw_istore_n (pc := 60) C [(3, .int (0 : Int32)), (5, .int r2), (0, .ref (G.2.2 + x0)), (1, .int x1), (2, .ref (G.2.2 + x2)), (4, .int x4)] dX12_canLeave_60 rfl (by decide) rfl ?_
              refine pw_iincK (pc := 61) (w := 1) C [(4, .int (x4 + 1)), (3, .int (0 : Int32)), (5, .int r2), (0, .ref (G.2.2 + x0)), (1, .int x1), (2, .ref (G.2.2 + x2))] 5 dX12_canLeave_61 (by decide) rfl (by decide) rfl ?_
              refine pw_goto (pc := 64) (tgt := 5) C dX12_canLeave_64 rfl ?_
              refine pw_sub [3, 4, 5, 1, 0] (LV2 := [(0, .ref (G.2.2 + x0)), (1, .int x1), (2, .ref (G.2.2 + x2)), (3, .int (0 : Int32)), (4, .int (x4 + 1))]) rfl ?_
              exact ih _ _ _ _ _ _ h
            · replace h := h.2 hc
              refine pw_sub [1, 2, 3, 4, 5, 0] (LV2 := [(0, .ref (G.2.2 + x0)), (1, .int x1), (2, .ref (G.2.2 + x2)), (3, .int x3), (4, .int x4), (5, .int r2)]) rfl ?_
              exact cbX12_canLeave_b55 C hr hin ih _ _ _ _ _ _ _ h
        · replace h := h.2 hc
          refine pw_iconst (pc := 35) (v := 0 ) C dX12_canLeave_35 (by decide) ?_
          exact pw_zret (pc := 36) C hr rfl h dX12_canLeave_36
      · replace h := h.2 hc
        refine pw_goto (pc := 25) (tgt := 61) C dX12_canLeave_25 rfl ?_
        refine pw_iincK (pc := 61) (w := 1) C [(4, .int (x4 + 1)), (5, .int r2), (0, .ref (G.2.2 + x0)), (1, .int x1), (2, .ref (G.2.2 + x2)), (3, .int x3)] 5 dX12_canLeave_61 (by decide) rfl (by decide) rfl ?_
        refine pw_goto (pc := 64) (tgt := 5) C dX12_canLeave_64 rfl ?_
        refine pw_sub [2, 3, 4, 5, 0] (LV2 := [(0, .ref (G.2.2 + x0)), (1, .int x1), (2, .ref (G.2.2 + x2)), (3, .int x3), (4, .int (x4 + 1))]) rfl ?_
        exact ih _ _ _ _ _ _ h
set_option maxRecDepth 100000 in
set_option maxHeartbeats 4000000 in
theorem ctX12_canLeave (l : Launch) (G : PG) (S : PS) (x0 : Nat) (x1 : Int32) (x2 : Nat) (Q : Int32 → PS → Prop) (h : wpX12_canLeave S x0 x1 x2 Q) : mI l yX12_canLeave wsX12_canLeave rmX12_canLeave G S [.ref (G.2.2 + x0), .int x1, .ref (G.2.2 + x2)] Q := by
  unfold mI
  refine met_of (cc := cX12_canLeave) (maxL := 6) (ret := (some .boolean)) (by decide) rfl (Nat.le_of_ble_eq_true rfl) ?_
  intro p e s m args below meth c C hr hin
  unfold wpX12_canLeave at h
  show PW p l e _ s m args below meth c _ G 6 S 0 0 [(0, .ref (G.2.2 + x0)), (1, .int x1), (2, .ref (G.2.2 + x2))] 0 []
  refine pw_iconst (pc := 0) (v := 0 ) C dX12_canLeave_0 (by decide) ?_
  refine pw_istore_n (pc := 1) C [(3, .int (0 : Int32)), (0, .ref (G.2.2 + x0)), (1, .int x1), (2, .ref (G.2.2 + x2))] dX12_canLeave_1 rfl (by decide) rfl ?_
  refine pw_iconst (pc := 2) (v := 0 ) C dX12_canLeave_2 (by decide) ?_
  refine pw_istore (pc := 3) C [(4, .int (0 : Int32)), (3, .int (0 : Int32)), (0, .ref (G.2.2 + x0)), (1, .int x1), (2, .ref (G.2.2 + x2))] dX12_canLeave_3 (by decide) rfl ?_
  refine pw_sub [2, 3, 4, 1, 0] (LV2 := [(0, .ref (G.2.2 + x0)), (1, .int x1), (2, .ref (G.2.2 + x2)), (3, .int (0 : Int32)), (4, .int (0 : Int32))]) rfl ?_
  obtain ⟨n9, h⟩ := h
  exact cbX12_canLeave_b5 C hr hin  n9 _ _ _ _ _ _ h

abbrev rmX12_canCount : Room := { frames := 1, cells := 0, slots := 0, locals := 22 }
def wpX12_canCount_b63 (K2 : PS → Nat → Int32 → Nat → Int32 → Prop) (K23 : PS → Nat → Int32 → Nat → Int32 → Int32 → Int32 → Int32 → Int32 → Int32 → Prop) (Q : Int32 → PS → Prop) (S : PS) (x0 : Nat) (x1 : Int32) (x2 : Nat) (x3 : Int32) (x4 : Int32) (x5 : Int32) (x6 : Int32) (x7 : Int32) (x8 : Int32) (x9 : Int32) (t0 : Int32) (t1 : Int32) : Prop := (((x9 &&& x3) = 0 → (K23 S x0 x1 x2 x3 (t0 + t1) (x5 + (0 : Int32)) x6 x7 (x8 + 1))) ∧ (¬ (x9 &&& x3) = 0 → (K23 S x0 x1 x2 x3 (t0 + t1) (x5 + (1 : Int32)) x6 x7 (x8 + 1))))
def wpX12_canCount_b123 (K2 : PS → Nat → Int32 → Nat → Int32 → Prop) (K92 : PS → Nat → Int32 → Nat → Int32 → Int32 → Int32 → Int32 → Int32 → Int32 → Prop) (Q : Int32 → PS → Prop) (S : PS) (x0 : Nat) (x1 : Int32) (x2 : Nat) (x3 : Int32) (x4 : Int32) (x5 : Int32) (x6 : Int32) (x7 : Int32) (x8 : Int32) (t0 : Int32) (t1 : Int32) : Prop := (wpX12_has S x3 x8 (fun r1 S2 => ((r1 = 0 → (K92 S2 x0 x1 x2 x3 x4 x5 (t0 + t1) (x7 + (0 : Int32)) (x8 + 1))) ∧ (¬ r1 = 0 → (pK S2 x0 = 11 ∧ (wpX12_of S2 x0 x1 ((14 : Int32) + x8) (fun r4 S5 => (K92 S5 x0 x1 x2 x3 x4 x5 (t0 + t1) (x7 + r4) (x8 + 1)))))))))
def wpX12_canCount_b92 (K2 : PS → Nat → Int32 → Nat → Int32 → Prop) (Q : Int32 → PS → Prop) : Nat → PS → Nat → Int32 → Nat → Int32 → Int32 → Int32 → Int32 → Int32 → Int32 → Prop
  | 0 => fun _ _ _ _ _ _ _ _ _ _ => False
  | n + 1 => fun S x0 x1 x2 x3 x4 x5 x6 x7 x8 => (((5 : Int32) ≤ x8 → ((x7 < x4 → (Q (0 : Int32) S)) ∧ (¬ x7 < x4 → ((x6 ≤ x5 → (K2 S x0 x1 x2 (x3 + 1))) ∧ (¬ x6 ≤ x5 → (Q (0 : Int32) S)))))) ∧ (¬ (5 : Int32) ≤ x8 → (wpX12_has S x3 x8 (fun r6 S7 => ((r6 = 0 → (wpX12_canCount_b123 K2 (wpX12_canCount_b92 K2 Q n) Q S7 x0 x1 x2 x3 x4 x5 x6 x7 x8 x6 (0 : Int32))) ∧ (¬ r6 = 0 → (pK S7 x0 = 11 ∧ (wpX12_of S7 x0 x1 ((9 : Int32) + x8) (fun r9 S10 => (wpX12_canCount_b123 K2 (wpX12_canCount_b92 K2 Q n) Q S10 x0 x1 x2 x3 x4 x5 x6 x7 x8 x6 r9))))))))))
def wpX12_canCount_b23 (K2 : PS → Nat → Int32 → Nat → Int32 → Prop) (Q : Int32 → PS → Prop) : Nat → PS → Nat → Int32 → Nat → Int32 → Int32 → Int32 → Int32 → Int32 → Int32 → Prop
  | 0 => fun _ _ _ _ _ _ _ _ _ _ => False
  | n + 1 => fun S x0 x1 x2 x3 x4 x5 x6 x7 x8 => (pK S x0 = 11 ∧ (wpX12_of S x0 x1 (1 : Int32) (fun r12 S13 => ((r12 ≤ x8 → (∃ n9 : Nat, wpX12_canCount_b92 K2 Q n9 S13 x0 x1 x2 x3 x4 x5 x6 x7 (0 : Int32))) ∧ (¬ r12 ≤ x8 → (pK S13 x0 = 11 ∧ (wpX12_of S13 x0 x1 ((2 : Int32) + x8) (fun r15 S16 => (pK S16 x2 = 13 ∧ (vp_in r15 (pL S16 x2) ∧ ((¬ ((pI S16 x2 (r15).toNatClampNeg) &&& (x3 ^^^ (-1 : Int32))) = 0 → (wpX12_canCount_b63 K2 (wpX12_canCount_b23 K2 Q n) Q S16 x0 x1 x2 x3 x4 x5 x6 x7 x8 (pI S16 x2 (r15).toNatClampNeg) x4 (0 : Int32))) ∧ (((pI S16 x2 (r15).toNatClampNeg) &&& (x3 ^^^ (-1 : Int32))) = 0 → (wpX12_canCount_b63 K2 (wpX12_canCount_b23 K2 Q n) Q S16 x0 x1 x2 x3 x4 x5 x6 x7 x8 (pI S16 x2 (r15).toNatClampNeg) x4 (1 : Int32))))))))))))))
def wpX12_canCount_b2  (Q : Int32 → PS → Prop) : Nat → PS → Nat → Int32 → Nat → Int32 → Prop
  | 0 => fun _ _ _ _ _ => False
  | n + 1 => fun S x0 x1 x2 x3 => (((32 : Int32) ≤ x3 → (Q (1 : Int32) S)) ∧ (¬ (32 : Int32) ≤ x3 → (∃ n9 : Nat, wpX12_canCount_b23 (wpX12_canCount_b2 Q n) Q n9 S x0 x1 x2 x3 (0 : Int32) (0 : Int32) (0 : Int32) (0 : Int32) (0 : Int32))))
def wpX12_canCount (S : PS) (x0 : Nat) (x1 : Int32) (x2 : Nat) (Q : Int32 → PS → Prop) : Prop := (∃ n9 : Nat, wpX12_canCount_b2 Q n9 S x0 x1 x2 (0 : Int32))
set_option maxRecDepth 100000 in
set_option maxHeartbeats 4000000 in
theorem cbX12_canCount_b63 {p : Program} {l : Launch} {e : Env} {s : State} {m : MethodId} {args : Array Value} {below : List Frame} {meth : Method} {c : Code} {G : PG} {Q : Int32 → PS → Prop} (C : pCx p s m args meth c G cX12_canCount 10 yX12_canCount.cls wsX12_canCount) (hr : meth.sig.returnType = (some .boolean)) (hin : meth.name = yX12_canCount.name) {K2 : PS → Nat → Int32 → Nat → Int32 → Prop} (hK2 : ∀ (S : PS) (x0 : Nat) (x1 : Int32) (x2 : Nat) (x3 : Int32), K2 S x0 x1 x2 x3 → PW p l e rmX12_canCount s m args below meth c (MQ below (va_Qi Q (pB G) (pFr G)) args s rmX12_canCount.cells rmX12_canCount.slots (pFr G)) G 10 S 0 0 [(0, .ref (G.2.2 + x0)), (1, .int x1), (2, .ref (G.2.2 + x2)), (3, .int x3)] 2 ([])) {K23 : PS → Nat → Int32 → Nat → Int32 → Int32 → Int32 → Int32 → Int32 → Int32 → Prop} (hK23 : ∀ (S : PS) (x0 : Nat) (x1 : Int32) (x2 : Nat) (x3 : Int32) (x4 : Int32) (x5 : Int32) (x6 : Int32) (x7 : Int32) (x8 : Int32), K23 S x0 x1 x2 x3 x4 x5 x6 x7 x8 → PW p l e rmX12_canCount s m args below meth c (MQ below (va_Qi Q (pB G) (pFr G)) args s rmX12_canCount.cells rmX12_canCount.slots (pFr G)) G 10 S 0 0 [(0, .ref (G.2.2 + x0)), (1, .int x1), (2, .ref (G.2.2 + x2)), (3, .int x3), (4, .int x4), (5, .int x5), (6, .int x6), (7, .int x7), (8, .int x8)] 23 ([])) : ∀ (S : PS) (x0 : Nat) (x1 : Int32) (x2 : Nat) (x3 : Int32) (x4 : Int32) (x5 : Int32) (x6 : Int32) (x7 : Int32) (x8 : Int32) (x9 : Int32) (t0 : Int32) (t1 : Int32), wpX12_canCount_b63 K2 K23 Q S x0 x1 x2 x3 x4 x5 x6 x7 x8 x9 t0 t1 → PW p l e rmX12_canCount s m args below meth c (MQ below (va_Qi Q (pB G) (pFr G)) args s rmX12_canCount.cells rmX12_canCount.slots (pFr G)) G 10 S 0 0 [(0, .ref (G.2.2 + x0)), (1, .int x1), (2, .ref (G.2.2 + x2)), (3, .int x3), (4, .int x4), (5, .int x5), (6, .int x6), (7, .int x7), (8, .int x8), (9, .int x9)] 63 (.int t1 :: .int t0 :: []) := by
  intro S x0 x1 x2 x3 x4 x5 x6 x7 x8 x9 t0 t1 h
  unfold wpX12_canCount_b63 at h
  refine pw_iadd (pc := 63) C dX12_canCount_63 ?_
  refine pw_istore (pc := 64) C [(4, .int (t0 + t1)), (0, .ref (G.2.2 + x0)), (1, .int x1), (2, .ref (G.2.2 + x2)), (3, .int x3), (5, .int x5), (6, .int x6), (7, .int x7), (8, .int x8), (9, .int x9)] dX12_canCount_64 (by decide) rfl ?_
  refine pw_iload (pc := 66) C 5 dX12_canCount_66 rfl ?_
  refine pw_iload (pc := 68) C 9 dX12_canCount_68 rfl ?_
  refine pw_iload_n (pc := 70) C 4 dX12_canCount_70 rfl rfl ?_
  refine pw_iand (pc := 71) C dX12_canCount_71 ?_
  refine pw_if_eq (pc := 72) (tgt := 79) C dX12_canCount_72 rfl ⟨fun hc => ?_, fun hc => ?_⟩
  · replace h := h.1 hc
    refine pw_iconst (pc := 79) (v := 0 ) C dX12_canCount_79 (by decide) ?_
    refine pw_iadd (pc := 80) C dX12_canCount_80 ?_
    refine pw_istore (pc := 81) C [(5, .int (x5 + (0 : Int32))), (4, .int (t0 + t1)), (0, .ref (G.2.2 + x0)), (1, .int x1), (2, .ref (G.2.2 + x2)), (3, .int x3), (6, .int x6), (7, .int x7), (8, .int x8), (9, .int x9)] dX12_canCount_81 (by decide) rfl ?_
    refine pw_iincK (pc := 83) (w := 1) C [(8, .int (x8 + 1)), (5, .int (x5 + (0 : Int32))), (4, .int (t0 + t1)), (0, .ref (G.2.2 + x0)), (1, .int x1), (2, .ref (G.2.2 + x2)), (3, .int x3), (6, .int x6), (7, .int x7), (9, .int x9)] 8 dX12_canCount_83 (by decide) rfl (by decide) rfl ?_
    refine pw_goto (pc := 86) (tgt := 23) C dX12_canCount_86 rfl ?_
    refine pw_sub [3, 4, 5, 6, 2, 1, 7, 8, 0] (LV2 := [(0, .ref (G.2.2 + x0)), (1, .int x1), (2, .ref (G.2.2 + x2)), (3, .int x3), (4, .int (t0 + t1)), (5, .int (x5 + (0 : Int32))), (6, .int x6), (7, .int x7), (8, .int (x8 + 1))]) rfl ?_
    exact hK23 _ _ _ _ _ _ _ _ _ _ h
  · replace h := h.2 hc
    refine pw_iconst (pc := 75) (v := 1 ) C dX12_canCount_75 (by decide) ?_
    refine pw_goto (pc := 76) (tgt := 80) C dX12_canCount_76 rfl ?_
    refine pw_iadd (pc := 80) C dX12_canCount_80 ?_
    refine pw_istore (pc := 81) C [(5, .int (x5 + (1 : Int32))), (4, .int (t0 + t1)), (0, .ref (G.2.2 + x0)), (1, .int x1), (2, .ref (G.2.2 + x2)), (3, .int x3), (6, .int x6), (7, .int x7), (8, .int x8), (9, .int x9)] dX12_canCount_81 (by decide) rfl ?_
    refine pw_iincK (pc := 83) (w := 1) C [(8, .int (x8 + 1)), (5, .int (x5 + (1 : Int32))), (4, .int (t0 + t1)), (0, .ref (G.2.2 + x0)), (1, .int x1), (2, .ref (G.2.2 + x2)), (3, .int x3), (6, .int x6), (7, .int x7), (9, .int x9)] 8 dX12_canCount_83 (by decide) rfl (by decide) rfl ?_
    refine pw_goto (pc := 86) (tgt := 23) C dX12_canCount_86 rfl ?_
    refine pw_sub [3, 4, 5, 6, 2, 1, 7, 8, 0] (LV2 := [(0, .ref (G.2.2 + x0)), (1, .int x1), (2, .ref (G.2.2 + x2)), (3, .int x3), (4, .int (t0 + t1)), (5, .int (x5 + (1 : Int32))), (6, .int x6), (7, .int x7), (8, .int (x8 + 1))]) rfl ?_
    exact hK23 _ _ _ _ _ _ _ _ _ _ h
set_option maxRecDepth 100000 in
set_option maxHeartbeats 4000000 in
theorem cbX12_canCount_b123 {p : Program} {l : Launch} {e : Env} {s : State} {m : MethodId} {args : Array Value} {below : List Frame} {meth : Method} {c : Code} {G : PG} {Q : Int32 → PS → Prop} (C : pCx p s m args meth c G cX12_canCount 10 yX12_canCount.cls wsX12_canCount) (hr : meth.sig.returnType = (some .boolean)) (hin : meth.name = yX12_canCount.name) {K2 : PS → Nat → Int32 → Nat → Int32 → Prop} (hK2 : ∀ (S : PS) (x0 : Nat) (x1 : Int32) (x2 : Nat) (x3 : Int32), K2 S x0 x1 x2 x3 → PW p l e rmX12_canCount s m args below meth c (MQ below (va_Qi Q (pB G) (pFr G)) args s rmX12_canCount.cells rmX12_canCount.slots (pFr G)) G 10 S 0 0 [(0, .ref (G.2.2 + x0)), (1, .int x1), (2, .ref (G.2.2 + x2)), (3, .int x3)] 2 ([])) {K92 : PS → Nat → Int32 → Nat → Int32 → Int32 → Int32 → Int32 → Int32 → Int32 → Prop} (hK92 : ∀ (S : PS) (x0 : Nat) (x1 : Int32) (x2 : Nat) (x3 : Int32) (x4 : Int32) (x5 : Int32) (x6 : Int32) (x7 : Int32) (x8 : Int32), K92 S x0 x1 x2 x3 x4 x5 x6 x7 x8 → PW p l e rmX12_canCount s m args below meth c (MQ below (va_Qi Q (pB G) (pFr G)) args s rmX12_canCount.cells rmX12_canCount.slots (pFr G)) G 10 S 0 0 [(0, .ref (G.2.2 + x0)), (1, .int x1), (2, .ref (G.2.2 + x2)), (3, .int x3), (4, .int x4), (5, .int x5), (6, .int x6), (7, .int x7), (8, .int x8)] 92 ([])) : ∀ (S : PS) (x0 : Nat) (x1 : Int32) (x2 : Nat) (x3 : Int32) (x4 : Int32) (x5 : Int32) (x6 : Int32) (x7 : Int32) (x8 : Int32) (t0 : Int32) (t1 : Int32), wpX12_canCount_b123 K2 K92 Q S x0 x1 x2 x3 x4 x5 x6 x7 x8 t0 t1 → PW p l e rmX12_canCount s m args below meth c (MQ below (va_Qi Q (pB G) (pFr G)) args s rmX12_canCount.cells rmX12_canCount.slots (pFr G)) G 10 S 0 0 [(0, .ref (G.2.2 + x0)), (1, .int x1), (2, .ref (G.2.2 + x2)), (3, .int x3), (4, .int x4), (5, .int x5), (6, .int x6), (7, .int x7), (8, .int x8)] 123 (.int t1 :: .int t0 :: []) := by
  intro S x0 x1 x2 x3 x4 x5 x6 x7 x8 t0 t1 h
  unfold wpX12_canCount_b123 at h
  refine pw_iadd (pc := 123) C dX12_canCount_123 ?_
  refine pw_istore (pc := 124) C [(6, .int (t0 + t1)), (0, .ref (G.2.2 + x0)), (1, .int x1), (2, .ref (G.2.2 + x2)), (3, .int x3), (4, .int x4), (5, .int x5), (7, .int x7), (8, .int x8)] dX12_canCount_124 (by decide) rfl ?_
  refine pw_iload (pc := 126) C 7 dX12_canCount_126 rfl ?_
  refine pw_iload_n (pc := 128) C 4 dX12_canCount_128 rfl rfl ?_
  refine pw_iload (pc := 129) C 8 dX12_canCount_129 rfl ?_
  refine pw_calli (pc := 131) (kc2 := 0) (kn2 := 0) (pRunS (pc := 131) C (ctX12_has l G  _ x3 x8 _ h) (va_cwS 2 C.2.2.2.2.1 gX12_canCount_X12_has rfl rfl rfl (by decide +kernel) ⟨Nat.le_of_ble_eq_true rfl, Nat.le_of_ble_eq_true rfl⟩) rfl rfl (Nat.le_of_ble_eq_true rfl) dX12_canCount_131 ⟨Nat.le_of_ble_eq_true rfl, Nat.le_of_ble_eq_true rfl⟩) rfl rfl (fun r1 S2 h => ?_)
  refine pw_if_eq (pc := 134) (tgt := 150) C dX12_canCount_134 rfl ⟨fun hc => ?_, fun hc => ?_⟩
  · replace h := h.1 hc
    refine pw_iconst (pc := 150) (v := 0 ) C dX12_canCount_150 (by decide) ?_
    refine pw_iadd (pc := 151) C dX12_canCount_151 ?_
    refine pw_istore (pc := 152) C [(7, .int (x7 + (0 : Int32))), (6, .int (t0 + t1)), (0, .ref (G.2.2 + x0)), (1, .int x1), (2, .ref (G.2.2 + x2)), (3, .int x3), (4, .int x4), (5, .int x5), (8, .int x8)] dX12_canCount_152 (by decide) rfl ?_
    refine pw_iincK (pc := 154) (w := 1) C [(8, .int (x8 + 1)), (7, .int (x7 + (0 : Int32))), (6, .int (t0 + t1)), (0, .ref (G.2.2 + x0)), (1, .int x1), (2, .ref (G.2.2 + x2)), (3, .int x3), (4, .int x4), (5, .int x5)] 8 dX12_canCount_154 (by decide) rfl (by decide) rfl ?_
    refine pw_goto (pc := 157) (tgt := 92) C dX12_canCount_157 rfl ?_
    refine pw_sub [3, 4, 5, 6, 7, 8, 2, 1, 0] (LV2 := [(0, .ref (G.2.2 + x0)), (1, .int x1), (2, .ref (G.2.2 + x2)), (3, .int x3), (4, .int x4), (5, .int x5), (6, .int (t0 + t1)), (7, .int (x7 + (0 : Int32))), (8, .int (x8 + 1))]) rfl ?_
    exact hK92 _ _ _ _ _ _ _ _ _ _ h
  · replace h := h.2 hc
    refine pw_aload_n (pc := 137) C 1 dX12_canCount_137 rfl rfl ?_
    refine pw_iload_n (pc := 138) C 2 dX12_canCount_138 rfl rfl ?_
    refine pw_bipush (pc := 139) (v := 14 ) C dX12_canCount_139 (by decide) ?_
    refine pw_iload (pc := 141) C 8 dX12_canCount_141 rfl ?_
    refine pw_iadd (pc := 143) C dX12_canCount_143 ?_
    obtain ⟨hk3, h⟩ := h
    refine pw_calli (pc := 144) (kc2 := 0) (kn2 := 0) (pRunV (pc := 144) C (ctX12_of l G  _ x0 x1 ((14 : Int32) + x8) _ h) (cwV 2 C.2.2.2.2.1 gX12_canCount_X12_of rfl rfl rfl (by decide +kernel) ⟨Nat.le_of_ble_eq_true rfl, Nat.le_of_ble_eq_true rfl⟩) pCl10 hk3 rfl rfl (Nat.le_of_ble_eq_true rfl) dX12_canCount_144 ⟨Nat.le_of_ble_eq_true rfl, Nat.le_of_ble_eq_true rfl⟩) rfl rfl (fun r4 S5 h => ?_)
    refine pw_goto (pc := 147) (tgt := 151) C dX12_canCount_147 rfl ?_
    refine pw_iadd (pc := 151) C dX12_canCount_151 ?_
    refine pw_istore (pc := 152) C [(7, .int (x7 + r4)), (6, .int (t0 + t1)), (0, .ref (G.2.2 + x0)), (1, .int x1), (2, .ref (G.2.2 + x2)), (3, .int x3), (4, .int x4), (5, .int x5), (8, .int x8)] dX12_canCount_152 (by decide) rfl ?_
    refine pw_iincK (pc := 154) (w := 1) C [(8, .int (x8 + 1)), (7, .int (x7 + r4)), (6, .int (t0 + t1)), (0, .ref (G.2.2 + x0)), (1, .int x1), (2, .ref (G.2.2 + x2)), (3, .int x3), (4, .int x4), (5, .int x5)] 8 dX12_canCount_154 (by decide) rfl (by decide) rfl ?_
    refine pw_goto (pc := 157) (tgt := 92) C dX12_canCount_157 rfl ?_
    refine pw_sub [3, 4, 5, 6, 7, 8, 2, 1, 0] (LV2 := [(0, .ref (G.2.2 + x0)), (1, .int x1), (2, .ref (G.2.2 + x2)), (3, .int x3), (4, .int x4), (5, .int x5), (6, .int (t0 + t1)), (7, .int (x7 + r4)), (8, .int (x8 + 1))]) rfl ?_
    exact hK92 _ _ _ _ _ _ _ _ _ _ h
set_option maxRecDepth 100000 in
set_option maxHeartbeats 4000000 in
theorem cbX12_canCount_b92 {p : Program} {l : Launch} {e : Env} {s : State} {m : MethodId} {args : Array Value} {below : List Frame} {meth : Method} {c : Code} {G : PG} {Q : Int32 → PS → Prop} (C : pCx p s m args meth c G cX12_canCount 10 yX12_canCount.cls wsX12_canCount) (hr : meth.sig.returnType = (some .boolean)) (hin : meth.name = yX12_canCount.name) {K2 : PS → Nat → Int32 → Nat → Int32 → Prop} (hK2 : ∀ (S : PS) (x0 : Nat) (x1 : Int32) (x2 : Nat) (x3 : Int32), K2 S x0 x1 x2 x3 → PW p l e rmX12_canCount s m args below meth c (MQ below (va_Qi Q (pB G) (pFr G)) args s rmX12_canCount.cells rmX12_canCount.slots (pFr G)) G 10 S 0 0 [(0, .ref (G.2.2 + x0)), (1, .int x1), (2, .ref (G.2.2 + x2)), (3, .int x3)] 2 ([])) (n : Nat) : ∀ (S : PS) (x0 : Nat) (x1 : Int32) (x2 : Nat) (x3 : Int32) (x4 : Int32) (x5 : Int32) (x6 : Int32) (x7 : Int32) (x8 : Int32), wpX12_canCount_b92 K2 Q n S x0 x1 x2 x3 x4 x5 x6 x7 x8 → PW p l e rmX12_canCount s m args below meth c (MQ below (va_Qi Q (pB G) (pFr G)) args s rmX12_canCount.cells rmX12_canCount.slots (pFr G)) G 10 S 0 0 [(0, .ref (G.2.2 + x0)), (1, .int x1), (2, .ref (G.2.2 + x2)), (3, .int x3), (4, .int x4), (5, .int x5), (6, .int x6), (7, .int x7), (8, .int x8)] 92 ([]) := by
  induction n with
  | zero => intro S x0 x1 x2 x3 x4 x5 x6 x7 x8 h; exact h.elim
  | succ n ih =>
    intro S x0 x1 x2 x3 x4 x5 x6 x7 x8 h
    unfold wpX12_canCount_b92 at h
    refine pw_iload (pc := 92) C 8 dX12_canCount_92 rfl ?_
    refine pw_iconst (pc := 94) (v := 5 ) C dX12_canCount_94 (by decide) ?_
    refine pw_icmp_ge (pc := 95) (tgt := 160) C dX12_canCount_95 rfl ⟨fun hc => ?_, fun hc => ?_⟩
    · replace h := h.1 hc
      refine pw_iload (pc := 160) C 4 dX12_canCount_160 rfl ?_
      refine pw_iload (pc := 162) C 7 dX12_canCount_162 rfl ?_
      refine pw_icmp_gt (pc := 164) (tgt := 174) C dX12_canCount_164 rfl ⟨fun hc => ?_, fun hc => ?_⟩
      · replace h := h.1 hc
        refine pw_iconst (pc := 174) (v := 0 ) C dX12_canCount_174 (by decide) ?_
        exact pw_zret (pc := 175) C hr rfl h dX12_canCount_175
      · replace h := h.2 hc
        refine pw_iload (pc := 167) C 5 dX12_canCount_167 rfl ?_
        refine pw_iload (pc := 169) C 6 dX12_canCount_169 rfl ?_
        refine pw_icmp_ge (pc := 171) (tgt := 176) C dX12_canCount_171 rfl ⟨fun hc => ?_, fun hc => ?_⟩
        · replace h := h.1 hc
          refine pw_iincK (pc := 176) (w := 1) C [(3, .int (x3 + 1)), (0, .ref (G.2.2 + x0)), (1, .int x1), (2, .ref (G.2.2 + x2)), (4, .int x4), (5, .int x5), (6, .int x6), (7, .int x7), (8, .int x8)] 3 dX12_canCount_176 (by decide) rfl (by decide) rfl ?_
          refine pw_goto (pc := 179) (tgt := 2) C dX12_canCount_179 rfl ?_
          refine pw_sub [1, 2, 3, 0] (LV2 := [(0, .ref (G.2.2 + x0)), (1, .int x1), (2, .ref (G.2.2 + x2)), (3, .int (x3 + 1))]) rfl ?_
          exact hK2 _ _ _ _ _ h
        · replace h := h.2 hc
          refine pw_iconst (pc := 174) (v := 0 ) C dX12_canCount_174 (by decide) ?_
          exact pw_zret (pc := 175) C hr rfl h dX12_canCount_175
    · replace h := h.2 hc
      refine pw_iload (pc := 98) C 6 dX12_canCount_98 rfl ?_
      refine pw_iload_n (pc := 100) C 3 dX12_canCount_100 rfl rfl ?_
      refine pw_iload (pc := 101) C 8 dX12_canCount_101 rfl ?_
      refine pw_calli (pc := 103) (kc2 := 0) (kn2 := 0) (pRunS (pc := 103) C (ctX12_has l G  _ x3 x8 _ h) (va_cwS 2 C.2.2.2.2.1 gX12_canCount_X12_has rfl rfl rfl (by decide +kernel) ⟨Nat.le_of_ble_eq_true rfl, Nat.le_of_ble_eq_true rfl⟩) rfl rfl (Nat.le_of_ble_eq_true rfl) dX12_canCount_103 ⟨Nat.le_of_ble_eq_true rfl, Nat.le_of_ble_eq_true rfl⟩) rfl rfl (fun r6 S7 h => ?_)
      refine pw_if_eq (pc := 106) (tgt := 122) C dX12_canCount_106 rfl ⟨fun hc => ?_, fun hc => ?_⟩
      · replace h := h.1 hc
        refine pw_iconst (pc := 122) (v := 0 ) C dX12_canCount_122 (by decide) ?_
        exact cbX12_canCount_b123 C hr hin hK2 ih _ _ _ _ _ _ _ _ _ _ _ _ h
      · replace h := h.2 hc
        refine pw_aload_n (pc := 109) C 0 dX12_canCount_109 rfl rfl ?_
        refine pw_iload_n (pc := 110) C 1 dX12_canCount_110 rfl rfl ?_
        refine pw_bipush (pc := 111) (v := 9 ) C dX12_canCount_111 (by decide) ?_
        refine pw_iload (pc := 113) C 8 dX12_canCount_113 rfl ?_
        refine pw_iadd (pc := 115) C dX12_canCount_115 ?_
        obtain ⟨hk8, h⟩ := h
        refine pw_calli (pc := 116) (kc2 := 0) (kn2 := 0) (pRunV (pc := 116) C (ctX12_of l G  _ x0 x1 ((9 : Int32) + x8) _ h) (cwV 2 C.2.2.2.2.1 gX12_canCount_X12_of rfl rfl rfl (by decide +kernel) ⟨Nat.le_of_ble_eq_true rfl, Nat.le_of_ble_eq_true rfl⟩) pCl10 hk8 rfl rfl (Nat.le_of_ble_eq_true rfl) dX12_canCount_116 ⟨Nat.le_of_ble_eq_true rfl, Nat.le_of_ble_eq_true rfl⟩) rfl rfl (fun r9 S10 h => ?_)
        refine pw_goto (pc := 119) (tgt := 123) C dX12_canCount_119 rfl ?_
        exact cbX12_canCount_b123 C hr hin hK2 ih _ _ _ _ _ _ _ _ _ _ _ _ h
set_option maxRecDepth 100000 in
set_option maxHeartbeats 4000000 in
theorem cbX12_canCount_b23 {p : Program} {l : Launch} {e : Env} {s : State} {m : MethodId} {args : Array Value} {below : List Frame} {meth : Method} {c : Code} {G : PG} {Q : Int32 → PS → Prop} (C : pCx p s m args meth c G cX12_canCount 10 yX12_canCount.cls wsX12_canCount) (hr : meth.sig.returnType = (some .boolean)) (hin : meth.name = yX12_canCount.name) {K2 : PS → Nat → Int32 → Nat → Int32 → Prop} (hK2 : ∀ (S : PS) (x0 : Nat) (x1 : Int32) (x2 : Nat) (x3 : Int32), K2 S x0 x1 x2 x3 → PW p l e rmX12_canCount s m args below meth c (MQ below (va_Qi Q (pB G) (pFr G)) args s rmX12_canCount.cells rmX12_canCount.slots (pFr G)) G 10 S 0 0 [(0, .ref (G.2.2 + x0)), (1, .int x1), (2, .ref (G.2.2 + x2)), (3, .int x3)] 2 ([])) (n : Nat) : ∀ (S : PS) (x0 : Nat) (x1 : Int32) (x2 : Nat) (x3 : Int32) (x4 : Int32) (x5 : Int32) (x6 : Int32) (x7 : Int32) (x8 : Int32), wpX12_canCount_b23 K2 Q n S x0 x1 x2 x3 x4 x5 x6 x7 x8 → PW p l e rmX12_canCount s m args below meth c (MQ below (va_Qi Q (pB G) (pFr G)) args s rmX12_canCount.cells rmX12_canCount.slots (pFr G)) G 10 S 0 0 [(0, .ref (G.2.2 + x0)), (1, .int x1), (2, .ref (G.2.2 + x2)), (3, .int x3), (4, .int x4), (5, .int x5), (6, .int x6), (7, .int x7), (8, .int x8)] 23 ([]) := by
  induction n with
  | zero => intro S x0 x1 x2 x3 x4 x5 x6 x7 x8 h; exact h.elim
  | succ n ih =>
    intro S x0 x1 x2 x3 x4 x5 x6 x7 x8 h
    unfold wpX12_canCount_b23 at h
    refine pw_iload (pc := 23) C 8 dX12_canCount_23 rfl ?_
    refine pw_aload_n (pc := 25) C 0 dX12_canCount_25 rfl rfl ?_
    refine pw_iload_n (pc := 26) C 1 dX12_canCount_26 rfl rfl ?_
    refine pw_iconst (pc := 27) (v := 1 ) C dX12_canCount_27 (by decide) ?_
    obtain ⟨hk11, h⟩ := h
    refine pw_calli (pc := 28) (kc2 := 0) (kn2 := 0) (pRunV (pc := 28) C (ctX12_of l G  _ x0 x1 (1 : Int32) _ h) (cwV 2 C.2.2.2.2.1 gX12_canCount_X12_of rfl rfl rfl (by decide +kernel) ⟨Nat.le_of_ble_eq_true rfl, Nat.le_of_ble_eq_true rfl⟩) pCl10 hk11 rfl rfl (Nat.le_of_ble_eq_true rfl) dX12_canCount_28 ⟨Nat.le_of_ble_eq_true rfl, Nat.le_of_ble_eq_true rfl⟩) rfl rfl (fun r12 S13 h => ?_)
    refine pw_icmp_ge (pc := 31) (tgt := 89) C dX12_canCount_31 rfl ⟨fun hc => ?_, fun hc => ?_⟩
    · replace h := h.1 hc
      refine pw_iconst (pc := 89) (v := 0 ) C dX12_canCount_89 (by decide) ?_
      refine pw_istore (pc := 90) C [(8, .int (0 : Int32)), (0, .ref (G.2.2 + x0)), (1, .int x1), (2, .ref (G.2.2 + x2)), (3, .int x3), (4, .int x4), (5, .int x5), (6, .int x6), (7, .int x7)] dX12_canCount_90 (by decide) rfl ?_
      refine pw_sub [1, 2, 3, 4, 5, 6, 7, 8, 0] (LV2 := [(0, .ref (G.2.2 + x0)), (1, .int x1), (2, .ref (G.2.2 + x2)), (3, .int x3), (4, .int x4), (5, .int x5), (6, .int x6), (7, .int x7), (8, .int (0 : Int32))]) rfl ?_
      obtain ⟨n9, h⟩ := h
      exact cbX12_canCount_b92 C hr hin hK2 n9 _ _ _ _ _ _ _ _ _ _ h
    · replace h := h.2 hc
      refine pw_aload_n (pc := 34) C 2 dX12_canCount_34 rfl rfl ?_
      refine pw_aload_n (pc := 35) C 0 dX12_canCount_35 rfl rfl ?_
      refine pw_iload_n (pc := 36) C 1 dX12_canCount_36 rfl rfl ?_
      refine pw_iconst (pc := 37) (v := 2 ) C dX12_canCount_37 (by decide) ?_
      refine pw_iload (pc := 38) C 8 dX12_canCount_38 rfl ?_
      refine pw_iadd (pc := 40) C dX12_canCount_40 ?_
      obtain ⟨hk14, h⟩ := h
      refine pw_calli (pc := 41) (kc2 := 0) (kn2 := 0) (pRunV (pc := 41) C (ctX12_of l G  _ x0 x1 ((2 : Int32) + x8) _ h) (cwV 2 C.2.2.2.2.1 gX12_canCount_X12_of rfl rfl rfl (by decide +kernel) ⟨Nat.le_of_ble_eq_true rfl, Nat.le_of_ble_eq_true rfl⟩) pCl10 hk14 rfl rfl (Nat.le_of_ble_eq_true rfl) dX12_canCount_41 ⟨Nat.le_of_ble_eq_true rfl, Nat.le_of_ble_eq_true rfl⟩) rfl rfl (fun r15 S16 h => ?_)
      obtain ⟨hk17, h⟩ := h
      obtain ⟨hi18, h⟩ := h
      refine pw_iald (pc := 44) C hk17 hi18 dX12_canCount_44 ?_
      refine pw_istore (pc := 45) C [(9, .int (pI S16 x2 (r15).toNatClampNeg)), (0, .ref (G.2.2 + x0)), (1, .int x1), (2, .ref (G.2.2 + x2)), (3, .int x3), (4, .int x4), (5, .int x5), (6, .int x6), (7, .int x7), (8, .int x8)] dX12_canCount_45 (by decide) rfl ?_
      refine pw_iload (pc := 47) C 5 dX12_canCount_47 rfl ?_
      refine pw_iload (pc := 49) C 0 dX12_canCount_49 rfl ?_
      refine pw_iload_n (pc := 51) C 4 dX12_canCount_51 rfl rfl ?_
      refine pw_iconst (pc := 52) (v := (-1)) C dX12_canCount_52 (by decide) ?_
      refine pw_ixor (pc := 53) C dX12_canCount_53 ?_
      refine pw_iand (pc := 54) C dX12_canCount_54 ?_
      refine pw_if_ne (pc := 55) (tgt := 62) C dX12_canCount_55 rfl ⟨fun hc => ?_, fun hc => ?_⟩
      · replace h := h.1 hc
        refine pw_iconst (pc := 62) (v := 0 ) C dX12_canCount_62 (by decide) ?_
        refine pw_sub [1, 2, 3, 4, 5, 6, 7, 8, 9, 0] (LV2 := [(0, .ref (G.2.2 + x0)), (1, .int x1), (2, .ref (G.2.2 + x2)), (3, .int x3), (4, .int x4), (5, .int x5), (6, .int x6), (7, .int x7), (8, .int x8), (9, .int (pI S16 x2 (r15).toNatClampNeg))]) rfl ?_
        exact cbX12_canCount_b63 C hr hin hK2 ih _ _ _ _ _ _ _ _ _ _ _ _ _ h
      · replace h := h.2 hc
        refine pw_iconst (pc := 58) (v := 1 ) C dX12_canCount_58 (by decide) ?_
        refine pw_goto (pc := 59) (tgt := 63) C dX12_canCount_59 rfl ?_
        refine pw_sub [1, 2, 3, 4, 5, 6, 7, 8, 9, 0] (LV2 := [(0, .ref (G.2.2 + x0)), (1, .int x1), (2, .ref (G.2.2 + x2)), (3, .int x3), (4, .int x4), (5, .int x5), (6, .int x6), (7, .int x7), (8, .int x8), (9, .int (pI S16 x2 (r15).toNatClampNeg))]) rfl ?_
        exact cbX12_canCount_b63 C hr hin hK2 ih _ _ _ _ _ _ _ _ _ _ _ _ _ h
set_option maxRecDepth 100000 in
set_option maxHeartbeats 4000000 in
theorem cbX12_canCount_b2 {p : Program} {l : Launch} {e : Env} {s : State} {m : MethodId} {args : Array Value} {below : List Frame} {meth : Method} {c : Code} {G : PG} {Q : Int32 → PS → Prop} (C : pCx p s m args meth c G cX12_canCount 10 yX12_canCount.cls wsX12_canCount) (hr : meth.sig.returnType = (some .boolean)) (hin : meth.name = yX12_canCount.name)  (n : Nat) : ∀ (S : PS) (x0 : Nat) (x1 : Int32) (x2 : Nat) (x3 : Int32), wpX12_canCount_b2  Q n S x0 x1 x2 x3 → PW p l e rmX12_canCount s m args below meth c (MQ below (va_Qi Q (pB G) (pFr G)) args s rmX12_canCount.cells rmX12_canCount.slots (pFr G)) G 10 S 0 0 [(0, .ref (G.2.2 + x0)), (1, .int x1), (2, .ref (G.2.2 + x2)), (3, .int x3)] 2 ([]) := by
  induction n with
  | zero => intro S x0 x1 x2 x3 h; exact h.elim
  | succ n ih =>
    intro S x0 x1 x2 x3 h
    unfold wpX12_canCount_b2 at h
    refine pw_iload_n (pc := 2) C 3 dX12_canCount_2 rfl rfl ?_
    refine pw_bipush (pc := 3) (v := 32 ) C dX12_canCount_3 (by decide) ?_
    refine pw_icmp_ge (pc := 5) (tgt := 182) C dX12_canCount_5 rfl ⟨fun hc => ?_, fun hc => ?_⟩
    · replace h := h.1 hc
      refine pw_iconst (pc := 182) (v := 1 ) C dX12_canCount_182 (by decide) ?_
      exact pw_zret (pc := 183) C hr rfl h dX12_canCount_183
    · replace h := h.2 hc
      refine pw_iconst (pc := 8) (v := 0 ) C dX12_canCount_8 (by decide) ?_
      refine pw_istore (pc := 9) C [(4, .int (0 : Int32)), (0, .ref (G.2.2 + x0)), (1, .int x1), (2, .ref (G.2.2 + x2)), (3, .int x3)] dX12_canCount_9 (by decide) rfl ?_
      refine pw_iconst (pc := 11) (v := 0 ) C dX12_canCount_11 (by decide) ?_
      refine pw_istore (pc := 12) C [(5, .int (0 : Int32)), (4, .int (0 : Int32)), (0, .ref (G.2.2 + x0)), (1, .int x1), (2, .ref (G.2.2 + x2)), (3, .int x3)] dX12_canCount_12 (by decide) rfl ?_
      refine pw_iconst (pc := 14) (v := 0 ) C dX12_canCount_14 (by decide) ?_
      refine pw_istore (pc := 15) C [(6, .int (0 : Int32)), (5, .int (0 : Int32)), (4, .int (0 : Int32)), (0, .ref (G.2.2 + x0)), (1, .int x1), (2, .ref (G.2.2 + x2)), (3, .int x3)] dX12_canCount_15 (by decide) rfl ?_
      refine pw_iconst (pc := 17) (v := 0 ) C dX12_canCount_17 (by decide) ?_
      refine pw_istore (pc := 18) C [(7, .int (0 : Int32)), (6, .int (0 : Int32)), (5, .int (0 : Int32)), (4, .int (0 : Int32)), (0, .ref (G.2.2 + x0)), (1, .int x1), (2, .ref (G.2.2 + x2)), (3, .int x3)] dX12_canCount_18 (by decide) rfl ?_
      refine pw_iconst (pc := 20) (v := 0 ) C dX12_canCount_20 (by decide) ?_
      refine pw_istore (pc := 21) C [(8, .int (0 : Int32)), (7, .int (0 : Int32)), (6, .int (0 : Int32)), (5, .int (0 : Int32)), (4, .int (0 : Int32)), (0, .ref (G.2.2 + x0)), (1, .int x1), (2, .ref (G.2.2 + x2)), (3, .int x3)] dX12_canCount_21 (by decide) rfl ?_
      refine pw_sub [5, 6, 7, 8, 4, 3, 2, 1, 0] (LV2 := [(0, .ref (G.2.2 + x0)), (1, .int x1), (2, .ref (G.2.2 + x2)), (3, .int x3), (4, .int (0 : Int32)), (5, .int (0 : Int32)), (6, .int (0 : Int32)), (7, .int (0 : Int32)), (8, .int (0 : Int32))]) rfl ?_
      obtain ⟨n9, h⟩ := h
      exact cbX12_canCount_b23 C hr hin ih n9 _ _ _ _ _ _ _ _ _ _ h
set_option maxRecDepth 100000 in
set_option maxHeartbeats 4000000 in
theorem ctX12_canCount (l : Launch) (G : PG) (S : PS) (x0 : Nat) (x1 : Int32) (x2 : Nat) (Q : Int32 → PS → Prop) (h : wpX12_canCount S x0 x1 x2 Q) : mI l yX12_canCount wsX12_canCount rmX12_canCount G S [.ref (G.2.2 + x0), .int x1, .ref (G.2.2 + x2)] Q := by
  unfold mI
  refine met_of (cc := cX12_canCount) (maxL := 10) (ret := (some .boolean)) (by decide) rfl (Nat.le_of_ble_eq_true rfl) ?_
  intro p e s m args below meth c C hr hin
  unfold wpX12_canCount at h
  show PW p l e _ s m args below meth c _ G 10 S 0 0 [(0, .ref (G.2.2 + x0)), (1, .int x1), (2, .ref (G.2.2 + x2))] 0 []
  refine pw_iconst (pc := 0) (v := 0 ) C dX12_canCount_0 (by decide) ?_
  refine pw_istore_n (pc := 1) C [(3, .int (0 : Int32)), (0, .ref (G.2.2 + x0)), (1, .int x1), (2, .ref (G.2.2 + x2))] dX12_canCount_1 rfl (by decide) rfl ?_
  refine pw_sub [1, 2, 3, 0] (LV2 := [(0, .ref (G.2.2 + x0)), (1, .int x1), (2, .ref (G.2.2 + x2)), (3, .int (0 : Int32))]) rfl ?_
  obtain ⟨n9, h⟩ := h
  exact cbX12_canCount_b2 C hr hin  n9 _ _ _ _ _ h

abbrev rmX12_sizeOf : Room := { frames := 0, cells := 0, slots := 0, locals := 0 }
def wpX12_sizeOf_b4  (Q : Int32 → PS → Prop) : Nat → PS → Int32 → Int32 → Int32 → Prop
  | 0 => fun _ _ _ _ => False
  | n + 1 => fun S x0 x1 x2 => ((x2 ≤ 0 → (Q x1 S)) ∧ (¬ x2 ≤ 0 → (wpX12_sizeOf_b4 Q n S x0 (x1 + (x2 &&& (1 : Int32))) (x2 >>> ((1 : Int32) &&& 31)))))
def wpX12_sizeOf (S : PS) (x0 : Int32) (Q : Int32 → PS → Prop) : Prop := (∃ n9 : Nat, wpX12_sizeOf_b4 Q n9 S x0 (0 : Int32) x0)
set_option maxRecDepth 100000 in
set_option maxHeartbeats 4000000 in
theorem cbX12_sizeOf_b4 {p : Program} {l : Launch} {e : Env} {s : State} {m : MethodId} {args : Array Value} {below : List Frame} {meth : Method} {c : Code} {G : PG} {Q : Int32 → PS → Prop} (C : pCx p s m args meth c G cX12_sizeOf 3 yX12_sizeOf.cls wsX12_sizeOf) (hr : meth.sig.returnType = (some .int)) (hin : meth.name = yX12_sizeOf.name)  (n : Nat) : ∀ (S : PS) (x0 : Int32) (x1 : Int32) (x2 : Int32), wpX12_sizeOf_b4  Q n S x0 x1 x2 → PW p l e rmX12_sizeOf s m args below meth c (MQ below (va_Qi Q (pB G) (pFr G)) args s rmX12_sizeOf.cells rmX12_sizeOf.slots (pFr G)) G 3 S 0 0 [(0, .int x0), (1, .int x1), (2, .int x2)] 4 ([]) := by
  induction n with
  | zero => intro S x0 x1 x2 h; exact h.elim
  | succ n ih =>
    intro S x0 x1 x2 h
    unfold wpX12_sizeOf_b4 at h
    refine pw_iload_n (pc := 4) C 2 dX12_sizeOf_4 rfl rfl ?_
    refine pw_if_le (pc := 5) (tgt := 21) C dX12_sizeOf_5 rfl ⟨fun hc => ?_, fun hc => ?_⟩
    · replace h := h.1 hc
      refine pw_iload_n (pc := 21) C 1 dX12_sizeOf_21 rfl rfl ?_
      exact pw_iret (pc := 22) C hr h dX12_sizeOf_22
    · replace h := h.2 hc
      refine pw_iload_n (pc := 8) C 1 dX12_sizeOf_8 rfl rfl ?_
      refine pw_iload_n (pc := 9) C 2 dX12_sizeOf_9 rfl rfl ?_
      refine pw_iconst (pc := 10) (v := 1 ) C dX12_sizeOf_10 (by decide) ?_
      refine pw_iand (pc := 11) C dX12_sizeOf_11 ?_
      refine pw_iadd (pc := 12) C dX12_sizeOf_12 ?_
      refine pw_istore_n (pc := 13) C [(1, .int (x1 + (x2 &&& (1 : Int32)))), (0, .int x0), (2, .int x2)] dX12_sizeOf_13 rfl (by decide) rfl ?_
      refine pw_iload_n (pc := 14) C 2 dX12_sizeOf_14 rfl rfl ?_
      refine pw_iconst (pc := 15) (v := 1 ) C dX12_sizeOf_15 (by decide) ?_
      refine pw_ishr (pc := 16) C dX12_sizeOf_16 ?_
      refine pw_istore_n (pc := 17) C [(2, .int (x2 >>> ((1 : Int32) &&& 31))), (1, .int (x1 + (x2 &&& (1 : Int32)))), (0, .int x0)] dX12_sizeOf_17 rfl (by decide) rfl ?_
      refine pw_goto (pc := 18) (tgt := 4) C dX12_sizeOf_18 rfl ?_
      refine pw_sub [2, 1, 0] (LV2 := [(0, .int x0), (1, .int (x1 + (x2 &&& (1 : Int32)))), (2, .int (x2 >>> ((1 : Int32) &&& 31)))]) rfl ?_
      exact ih _ _ _ _ h
set_option maxRecDepth 100000 in
set_option maxHeartbeats 4000000 in
theorem ctX12_sizeOf (l : Launch) (G : PG) (S : PS) (x0 : Int32) (Q : Int32 → PS → Prop) (h : wpX12_sizeOf S x0 Q) : mI l yX12_sizeOf wsX12_sizeOf rmX12_sizeOf G S [.int x0] Q := by
  unfold mI
  refine met_of (cc := cX12_sizeOf) (maxL := 3) (ret := (some .int)) (by decide) rfl (Nat.le_of_ble_eq_true rfl) ?_
  intro p e s m args below meth c C hr hin
  unfold wpX12_sizeOf at h
  show PW p l e _ s m args below meth c _ G 3 S 0 0 [(0, .int x0)] 0 []
  refine pw_iconst (pc := 0) (v := 0 ) C dX12_sizeOf_0 (by decide) ?_
  refine pw_istore_n (pc := 1) C [(1, .int (0 : Int32)), (0, .int x0)] dX12_sizeOf_1 rfl (by decide) rfl ?_
  refine pw_iload_n (pc := 2) C 1 dX12_sizeOf_2 rfl rfl ?_
  refine pw_istore_n (pc := 3) C [(2, .int x0), (1, .int (0 : Int32)), (0, .int x0)] dX12_sizeOf_3 rfl (by decide) rfl ?_
  refine pw_sub [2, 1, 0] (LV2 := [(0, .int x0), (1, .int (0 : Int32)), (2, .int x0)]) rfl ?_
  obtain ⟨n9, h⟩ := h
  exact cbX12_sizeOf_b4 C hr hin  n9 _ _ _ _ h

abbrev rmX12_isIn : Room := { frames := 0, cells := 0, slots := 0, locals := 0 }
def wpX12_isIn (S : PS) (x0 : Int32) (x1 : Int32) (x2 : Int32) (Q : Int32 → PS → Prop) : Prop := ((x0 < x1 → (Q (0 : Int32) S)) ∧ (¬ x0 < x1 → ((x2 < x0 → (Q (0 : Int32) S)) ∧ (¬ x2 < x0 → (Q (1 : Int32) S)))))
set_option maxRecDepth 100000 in
set_option maxHeartbeats 4000000 in
theorem ctX12_isIn (l : Launch) (G : PG) (S : PS) (x0 : Int32) (x1 : Int32) (x2 : Int32) (Q : Int32 → PS → Prop) (h : wpX12_isIn S x0 x1 x2 Q) : mI l yX12_isIn wsX12_isIn rmX12_isIn G S [.int x0, .int x1, .int x2] Q := by
  unfold mI
  refine met_of (cc := cX12_isIn) (maxL := 3) (ret := (some .boolean)) (by decide) rfl (Nat.le_of_ble_eq_true rfl) ?_
  intro p e s m args below meth c C hr hin
  unfold wpX12_isIn at h
  show PW p l e _ s m args below meth c _ G 3 S 0 0 [(0, .int x0), (1, .int x1), (2, .int x2)] 0 []
  refine pw_iload_n (pc := 0) C 0 dX12_isIn_0 rfl rfl ?_
  refine pw_iload_n (pc := 1) C 1 dX12_isIn_1 rfl rfl ?_
  refine pw_icmp_lt (pc := 2) (tgt := 14) C dX12_isIn_2 rfl ⟨fun hc => ?_, fun hc => ?_⟩
  · replace h := h.1 hc
    refine pw_iconst (pc := 14) (v := 0 ) C dX12_isIn_14 (by decide) ?_
    exact pw_zret (pc := 15) C hr rfl h dX12_isIn_15
  · replace h := h.2 hc
    refine pw_iload_n (pc := 5) C 0 dX12_isIn_5 rfl rfl ?_
    refine pw_iload_n (pc := 6) C 2 dX12_isIn_6 rfl rfl ?_
    refine pw_icmp_gt (pc := 7) (tgt := 14) C dX12_isIn_7 rfl ⟨fun hc => ?_, fun hc => ?_⟩
    · replace h := h.1 hc
      refine pw_iconst (pc := 14) (v := 0 ) C dX12_isIn_14 (by decide) ?_
      exact pw_zret (pc := 15) C hr rfl h dX12_isIn_15
    · replace h := h.2 hc
      refine pw_iconst (pc := 10) (v := 1 ) C dX12_isIn_10 (by decide) ?_
      refine pw_goto (pc := 11) (tgt := 15) C dX12_isIn_11 rfl ?_
      exact pw_zret (pc := 15) C hr rfl h dX12_isIn_15

abbrev rmX12_canSlide : Room := { frames := 1, cells := 0, slots := 0, locals := 22 }
def wpX12_canSlide_b185 (K14 : PS → Nat → Int32 → Nat → Int32 → Int32 → Int32 → Prop) (K44 : PS → Nat → Int32 → Nat → Int32 → Int32 → Int32 → Int32 → Int32 → Int32 → Prop) (K67 : PS → Nat → Int32 → Nat → Int32 → Int32 → Int32 → Int32 → Int32 → Int32 → Int32 → Prop) (Q : Int32 → PS → Prop) (S : PS) (x0 : Nat) (x1 : Int32) (x2 : Nat) (x3 : Int32) (x4 : Int32) (x5 : Int32) (x6 : Int32) (x7 : Int32) (x8 : Int32) (x9 : Int32) (x10 : Int32) (x11 : Int32) (x12 : Int32) (t0 : Int32) : Prop := (K67 S x0 x1 x2 x3 x4 x5 x6 (t0 ||| (0 : Int32)) x8 (x9 + 1))
def wpX12_canSlide_b164 (K14 : PS → Nat → Int32 → Nat → Int32 → Int32 → Int32 → Prop) (K44 : PS → Nat → Int32 → Nat → Int32 → Int32 → Int32 → Int32 → Int32 → Int32 → Prop) (K67 : PS → Nat → Int32 → Nat → Int32 → Int32 → Int32 → Int32 → Int32 → Int32 → Int32 → Prop) (Q : Int32 → PS → Prop) (S : PS) (x0 : Nat) (x1 : Int32) (x2 : Nat) (x3 : Int32) (x4 : Int32) (x5 : Int32) (x6 : Int32) (x7 : Int32) (x8 : Int32) (x9 : Int32) (x10 : Int32) (x11 : Int32) (t0 : Int32) : Prop := ((x11 = 0 → (wpX12_canSlide_b185 K14 K44 K67 Q S x0 x1 x2 x3 x4 x5 x6 x7 x8 x9 x10 x11 t0 x7)) ∧ (¬ x11 = 0 → ((t0 = 0 → (wpX12_canSlide_b185 K14 K44 K67 Q S x0 x1 x2 x3 x4 x5 x6 x7 x8 x9 x10 x11 t0 x7)) ∧ (¬ t0 = 0 → (K67 S x0 x1 x2 x3 x4 x5 x6 (x7 ||| ((1 : Int32) <<< (x10 &&& 31))) x8 (x9 + 1))))))
def wpX12_canSlide_b159 (K14 : PS → Nat → Int32 → Nat → Int32 → Int32 → Int32 → Prop) (K44 : PS → Nat → Int32 → Nat → Int32 → Int32 → Int32 → Int32 → Int32 → Int32 → Prop) (K67 : PS → Nat → Int32 → Nat → Int32 → Int32 → Int32 → Int32 → Int32 → Int32 → Int32 → Prop) (Q : Int32 → PS → Prop) (S : PS) (x0 : Nat) (x1 : Int32) (x2 : Nat) (x3 : Int32) (x4 : Int32) (x5 : Int32) (x6 : Int32) (x7 : Int32) (x8 : Int32) (x9 : Int32) (x10 : Int32) (x11 : Int32) : Prop := (wpX12_canSlide_b164 K14 K44 K67 Q S x0 x1 x2 x3 x4 x5 x6 x7 x8 x9 x10 x11 (1 : Int32))
def wpX12_canSlide_b124 (K14 : PS → Nat → Int32 → Nat → Int32 → Int32 → Int32 → Prop) (K44 : PS → Nat → Int32 → Nat → Int32 → Int32 → Int32 → Int32 → Int32 → Int32 → Prop) (K67 : PS → Nat → Int32 → Nat → Int32 → Int32 → Int32 → Int32 → Int32 → Int32 → Int32 → Prop) (Q : Int32 → PS → Prop) (S : PS) (x0 : Nat) (x1 : Int32) (x2 : Nat) (x3 : Int32) (x4 : Int32) (x5 : Int32) (x6 : Int32) (x7 : Int32) (x8 : Int32) (x9 : Int32) (x10 : Int32) (t0 : Int32) : Prop := (((x5 + (1 : Int32)) < x3 → (wpX12_canSlide_b159 K14 K44 K67 Q S x0 x1 x2 x3 x4 x5 x6 x7 x8 x9 x10 t0)) ∧ (¬ (x5 + (1 : Int32)) < x3 → (wpX12_sizeOf S x10 (fun r1 S2 => (pK S2 x0 = 11 ∧ (wpX12_of S2 x0 x1 (11 : Int32) (fun r4 S5 => (pK S5 x0 = 11 ∧ (wpX12_of S5 x0 x1 (12 : Int32) (fun r7 S8 => (wpX12_isIn S8 r1 r4 r7 (fun r9 S10 => ((r9 = 0 → (wpX12_canSlide_b164 K14 K44 K67 Q S10 x0 x1 x2 x3 x4 x5 x6 x7 x8 x9 x10 t0 (0 : Int32))) ∧ (¬ r9 = 0 → (wpX12_canSlide_b159 K14 K44 K67 Q S10 x0 x1 x2 x3 x4 x5 x6 x7 x8 x9 x10 t0)))))))))))))))
def wpX12_canSlide_b115 (K14 : PS → Nat → Int32 → Nat → Int32 → Int32 → Int32 → Prop) (K44 : PS → Nat → Int32 → Nat → Int32 → Int32 → Int32 → Int32 → Int32 → Int32 → Prop) (K67 : PS → Nat → Int32 → Nat → Int32 → Int32 → Int32 → Int32 → Int32 → Int32 → Int32 → Prop) (Q : Int32 → PS → Prop) (S : PS) (x0 : Nat) (x1 : Int32) (x2 : Nat) (x3 : Int32) (x4 : Int32) (x5 : Int32) (x6 : Int32) (x7 : Int32) (x8 : Int32) (x9 : Int32) (x10 : Int32) (t0 : Int32) (t1 : Int32) : Prop := (((t0 &&& t1) = 0 → (wpX12_canSlide_b124 K14 K44 K67 Q S x0 x1 x2 x3 x4 x5 x6 x7 x8 x9 x10 (0 : Int32))) ∧ (¬ (t0 &&& t1) = 0 → (wpX12_canSlide_b124 K14 K44 K67 Q S x0 x1 x2 x3 x4 x5 x6 x7 x8 x9 x10 (1 : Int32))))
def wpX12_canSlide_b67 (K14 : PS → Nat → Int32 → Nat → Int32 → Int32 → Int32 → Prop) (K44 : PS → Nat → Int32 → Nat → Int32 → Int32 → Int32 → Int32 → Int32 → Int32 → Prop) (Q : Int32 → PS → Prop) : Nat → PS → Nat → Int32 → Nat → Int32 → Int32 → Int32 → Int32 → Int32 → Int32 → Int32 → Prop
  | 0 => fun _ _ _ _ _ _ _ _ _ _ _ => False
  | n + 1 => fun S x0 x1 x2 x3 x4 x5 x6 x7 x8 x9 => (((2 : Int32) ≤ x9 → (K44 S x0 x1 x2 x3 x4 x5 x6 x7 (x8 + 1))) ∧ (¬ (2 : Int32) ≤ x9 → ((¬ x9 = (1 : Int32) → (pK S x0 = 11 ∧ (wpX12_of S x0 x1 (10 : Int32) (fun r12 S13 => (wpX12_canSlide_b115 K14 K44 (wpX12_canSlide_b67 K14 K44 Q n) Q S13 x0 x1 x2 x3 x4 x5 x6 x7 x8 x9 (((x8 <<< ((1 : Int32) &&& 31)) ||| x9) &&& (((1 : Int32) <<< (x3 &&& 31)) - (1 : Int32))) x6 (r12 ^^^ (-1 : Int32))))))) ∧ (x9 = (1 : Int32) → (pK S x0 = 11 ∧ (wpX12_of S x0 x1 (10 : Int32) (fun r15 S16 => (wpX12_canSlide_b115 K14 K44 (wpX12_canSlide_b67 K14 K44 Q n) Q S16 x0 x1 x2 x3 x4 x5 x6 x7 x8 x9 (((x8 <<< ((1 : Int32) &&& 31)) ||| x9) &&& (((1 : Int32) <<< (x3 &&& 31)) - (1 : Int32))) x6 r15))))))))
def wpX12_canSlide_b44 (K14 : PS → Nat → Int32 → Nat → Int32 → Int32 → Int32 → Prop) (Q : Int32 → PS → Prop) : Nat → PS → Nat → Int32 → Nat → Int32 → Int32 → Int32 → Int32 → Int32 → Int32 → Prop
  | 0 => fun _ _ _ _ _ _ _ _ _ _ => False
  | n + 1 => fun S x0 x1 x2 x3 x4 x5 x6 x7 x8 => (((16 : Int32) ≤ x8 → (K14 S x0 x1 x2 x3 x7 (x5 + 1))) ∧ (¬ (16 : Int32) ≤ x8 → (wpX12_has S x4 x8 (fun r17 S18 => ((¬ r17 = 0 → (∃ n9 : Nat, wpX12_canSlide_b67 K14 (wpX12_canSlide_b44 K14 Q n) Q n9 S18 x0 x1 x2 x3 x4 x5 x6 x7 x8 (0 : Int32))) ∧ (r17 = 0 → (wpX12_canSlide_b44 K14 Q n S18 x0 x1 x2 x3 x4 x5 x6 x7 (x8 + 1))))))))
def wpX12_canSlide_b14  (Q : Int32 → PS → Prop) : Nat → PS → Nat → Int32 → Nat → Int32 → Int32 → Int32 → Prop
  | 0 => fun _ _ _ _ _ _ _ => False
  | n + 1 => fun S x0 x1 x2 x3 x4 x5 => (pK S x0 = 11 ∧ (wpX12_of S x0 x1 (1 : Int32) (fun r20 S21 => ((r20 ≤ x5 → ((x4 = 0 → (Q (0 : Int32) S21)) ∧ (¬ x4 = 0 → (Q (1 : Int32) S21)))) ∧ (¬ r20 ≤ x5 → (pK S21 x0 = 11 ∧ (wpX12_of S21 x0 x1 ((2 : Int32) + x5) (fun r23 S24 => (pK S24 x2 = 13 ∧ (vp_in r23 (pL S24 x2) ∧ (∃ n9 : Nat, wpX12_canSlide_b44 (wpX12_canSlide_b14 Q n) Q n9 S24 x0 x1 x2 x3 x4 x5 (pI S24 x2 (r23).toNatClampNeg) (0 : Int32) (0 : Int32))))))))))))
def wpX12_canSlide (S : PS) (x0 : Nat) (x1 : Int32) (x2 : Nat) (Q : Int32 → PS → Prop) : Prop := (pK S x0 = 11 ∧ (wpX12_of S x0 x1 (9 : Int32) (fun r28 S29 => (∃ n9 : Nat, wpX12_canSlide_b14 Q n9 S29 x0 x1 x2 r28 (1 : Int32) (0 : Int32)))))
set_option maxRecDepth 100000 in
set_option maxHeartbeats 4000000 in
theorem cbX12_canSlide_b185 {p : Program} {l : Launch} {e : Env} {s : State} {m : MethodId} {args : Array Value} {below : List Frame} {meth : Method} {c : Code} {G : PG} {Q : Int32 → PS → Prop} (C : pCx p s m args meth c G cX12_canSlide 13 yX12_canSlide.cls wsX12_canSlide) (hr : meth.sig.returnType = (some .boolean)) (hin : meth.name = yX12_canSlide.name) {K14 : PS → Nat → Int32 → Nat → Int32 → Int32 → Int32 → Prop} (hK14 : ∀ (S : PS) (x0 : Nat) (x1 : Int32) (x2 : Nat) (x3 : Int32) (x4 : Int32) (x5 : Int32), K14 S x0 x1 x2 x3 x4 x5 → PW p l e rmX12_canSlide s m args below meth c (MQ below (va_Qi Q (pB G) (pFr G)) args s rmX12_canSlide.cells rmX12_canSlide.slots (pFr G)) G 13 S 0 0 [(0, .ref (G.2.2 + x0)), (1, .int x1), (2, .ref (G.2.2 + x2)), (3, .int x3), (4, .int x4), (5, .int x5)] 14 ([])) {K44 : PS → Nat → Int32 → Nat → Int32 → Int32 → Int32 → Int32 → Int32 → Int32 → Prop} (hK44 : ∀ (S : PS) (x0 : Nat) (x1 : Int32) (x2 : Nat) (x3 : Int32) (x4 : Int32) (x5 : Int32) (x6 : Int32) (x7 : Int32) (x8 : Int32), K44 S x0 x1 x2 x3 x4 x5 x6 x7 x8 → PW p l e rmX12_canSlide s m args below meth c (MQ below (va_Qi Q (pB G) (pFr G)) args s rmX12_canSlide.cells rmX12_canSlide.slots (pFr G)) G 13 S 0 0 [(0, .ref (G.2.2 + x0)), (1, .int x1), (2, .ref (G.2.2 + x2)), (3, .int x3), (4, .int x4), (5, .int x5), (6, .int x6), (7, .int x7), (8, .int x8)] 44 ([])) {K67 : PS → Nat → Int32 → Nat → Int32 → Int32 → Int32 → Int32 → Int32 → Int32 → Int32 → Prop} (hK67 : ∀ (S : PS) (x0 : Nat) (x1 : Int32) (x2 : Nat) (x3 : Int32) (x4 : Int32) (x5 : Int32) (x6 : Int32) (x7 : Int32) (x8 : Int32) (x9 : Int32), K67 S x0 x1 x2 x3 x4 x5 x6 x7 x8 x9 → PW p l e rmX12_canSlide s m args below meth c (MQ below (va_Qi Q (pB G) (pFr G)) args s rmX12_canSlide.cells rmX12_canSlide.slots (pFr G)) G 13 S 0 0 [(0, .ref (G.2.2 + x0)), (1, .int x1), (2, .ref (G.2.2 + x2)), (3, .int x3), (4, .int x4), (5, .int x5), (6, .int x6), (7, .int x7), (8, .int x8), (9, .int x9)] 67 ([])) : ∀ (S : PS) (x0 : Nat) (x1 : Int32) (x2 : Nat) (x3 : Int32) (x4 : Int32) (x5 : Int32) (x6 : Int32) (x7 : Int32) (x8 : Int32) (x9 : Int32) (x10 : Int32) (x11 : Int32) (x12 : Int32) (t0 : Int32), wpX12_canSlide_b185 K14 K44 K67 Q S x0 x1 x2 x3 x4 x5 x6 x7 x8 x9 x10 x11 x12 t0 → PW p l e rmX12_canSlide s m args below meth c (MQ below (va_Qi Q (pB G) (pFr G)) args s rmX12_canSlide.cells rmX12_canSlide.slots (pFr G)) G 13 S 0 0 [(0, .ref (G.2.2 + x0)), (1, .int x1), (2, .ref (G.2.2 + x2)), (3, .int x3), (4, .int x4), (5, .int x5), (6, .int x6), (7, .int x7), (8, .int x8), (9, .int x9), (10, .int x10), (11, .int x11), (12, .int x12)] 185 (.int t0 :: []) := by
  intro S x0 x1 x2 x3 x4 x5 x6 x7 x8 x9 x10 x11 x12 t0 h
  unfold wpX12_canSlide_b185 at h
  refine pw_iconst (pc := 185) (v := 0 ) C dX12_canSlide_185 (by decide) ?_
  refine pw_ior (pc := 186) C dX12_canSlide_186 ?_
  refine pw_istore (pc := 187) C [(7, .int (t0 ||| (0 : Int32))), (0, .ref (G.2.2 + x0)), (1, .int x1), (2, .ref (G.2.2 + x2)), (3, .int x3), (4, .int x4), (5, .int x5), (6, .int x6), (8, .int x8), (9, .int x9), (10, .int x10), (11, .int x11), (12, .int x12)] dX12_canSlide_187 (by decide) rfl ?_
  refine pw_iincK (pc := 189) (w := 1) C [(9, .int (x9 + 1)), (7, .int (t0 ||| (0 : Int32))), (0, .ref (G.2.2 + x0)), (1, .int x1), (2, .ref (G.2.2 + x2)), (3, .int x3), (4, .int x4), (5, .int x5), (6, .int x6), (8, .int x8), (10, .int x10), (11, .int x11), (12, .int x12)] 9 dX12_canSlide_189 (by decide) rfl (by decide) rfl ?_
  refine pw_goto (pc := 192) (tgt := 67) C dX12_canSlide_192 rfl ?_
  refine pw_sub [2, 3, 4, 5, 6, 7, 8, 1, 9, 0] (LV2 := [(0, .ref (G.2.2 + x0)), (1, .int x1), (2, .ref (G.2.2 + x2)), (3, .int x3), (4, .int x4), (5, .int x5), (6, .int x6), (7, .int (t0 ||| (0 : Int32))), (8, .int x8), (9, .int (x9 + 1))]) rfl ?_
  exact hK67 _ _ _ _ _ _ _ _ _ _ _ h
set_option maxRecDepth 100000 in
set_option maxHeartbeats 4000000 in
theorem cbX12_canSlide_b164 {p : Program} {l : Launch} {e : Env} {s : State} {m : MethodId} {args : Array Value} {below : List Frame} {meth : Method} {c : Code} {G : PG} {Q : Int32 → PS → Prop} (C : pCx p s m args meth c G cX12_canSlide 13 yX12_canSlide.cls wsX12_canSlide) (hr : meth.sig.returnType = (some .boolean)) (hin : meth.name = yX12_canSlide.name) {K14 : PS → Nat → Int32 → Nat → Int32 → Int32 → Int32 → Prop} (hK14 : ∀ (S : PS) (x0 : Nat) (x1 : Int32) (x2 : Nat) (x3 : Int32) (x4 : Int32) (x5 : Int32), K14 S x0 x1 x2 x3 x4 x5 → PW p l e rmX12_canSlide s m args below meth c (MQ below (va_Qi Q (pB G) (pFr G)) args s rmX12_canSlide.cells rmX12_canSlide.slots (pFr G)) G 13 S 0 0 [(0, .ref (G.2.2 + x0)), (1, .int x1), (2, .ref (G.2.2 + x2)), (3, .int x3), (4, .int x4), (5, .int x5)] 14 ([])) {K44 : PS → Nat → Int32 → Nat → Int32 → Int32 → Int32 → Int32 → Int32 → Int32 → Prop} (hK44 : ∀ (S : PS) (x0 : Nat) (x1 : Int32) (x2 : Nat) (x3 : Int32) (x4 : Int32) (x5 : Int32) (x6 : Int32) (x7 : Int32) (x8 : Int32), K44 S x0 x1 x2 x3 x4 x5 x6 x7 x8 → PW p l e rmX12_canSlide s m args below meth c (MQ below (va_Qi Q (pB G) (pFr G)) args s rmX12_canSlide.cells rmX12_canSlide.slots (pFr G)) G 13 S 0 0 [(0, .ref (G.2.2 + x0)), (1, .int x1), (2, .ref (G.2.2 + x2)), (3, .int x3), (4, .int x4), (5, .int x5), (6, .int x6), (7, .int x7), (8, .int x8)] 44 ([])) {K67 : PS → Nat → Int32 → Nat → Int32 → Int32 → Int32 → Int32 → Int32 → Int32 → Int32 → Prop} (hK67 : ∀ (S : PS) (x0 : Nat) (x1 : Int32) (x2 : Nat) (x3 : Int32) (x4 : Int32) (x5 : Int32) (x6 : Int32) (x7 : Int32) (x8 : Int32) (x9 : Int32), K67 S x0 x1 x2 x3 x4 x5 x6 x7 x8 x9 → PW p l e rmX12_canSlide s m args below meth c (MQ below (va_Qi Q (pB G) (pFr G)) args s rmX12_canSlide.cells rmX12_canSlide.slots (pFr G)) G 13 S 0 0 [(0, .ref (G.2.2 + x0)), (1, .int x1), (2, .ref (G.2.2 + x2)), (3, .int x3), (4, .int x4), (5, .int x5), (6, .int x6), (7, .int x7), (8, .int x8), (9, .int x9)] 67 ([])) : ∀ (S : PS) (x0 : Nat) (x1 : Int32) (x2 : Nat) (x3 : Int32) (x4 : Int32) (x5 : Int32) (x6 : Int32) (x7 : Int32) (x8 : Int32) (x9 : Int32) (x10 : Int32) (x11 : Int32) (t0 : Int32), wpX12_canSlide_b164 K14 K44 K67 Q S x0 x1 x2 x3 x4 x5 x6 x7 x8 x9 x10 x11 t0 → PW p l e rmX12_canSlide s m args below meth c (MQ below (va_Qi Q (pB G) (pFr G)) args s rmX12_canSlide.cells rmX12_canSlide.slots (pFr G)) G 13 S 0 0 [(0, .ref (G.2.2 + x0)), (1, .int x1), (2, .ref (G.2.2 + x2)), (3, .int x3), (4, .int x4), (5, .int x5), (6, .int x6), (7, .int x7), (8, .int x8), (9, .int x9), (10, .int x10), (11, .int x11)] 164 (.int t0 :: []) := by
  intro S x0 x1 x2 x3 x4 x5 x6 x7 x8 x9 x10 x11 t0 h
  unfold wpX12_canSlide_b164 at h
  refine pw_istore (pc := 164) C [(12, .int t0), (0, .ref (G.2.2 + x0)), (1, .int x1), (2, .ref (G.2.2 + x2)), (3, .int x3), (4, .int x4), (5, .int x5), (6, .int x6), (7, .int x7), (8, .int x8), (9, .int x9), (10, .int x10), (11, .int x11)] dX12_canSlide_164 (by decide) rfl ?_
  refine pw_iload (pc := 166) C 8 dX12_canSlide_166 rfl ?_
  refine pw_iload (pc := 168) C 12 dX12_canSlide_168 rfl ?_
  refine pw_if_eq (pc := 170) (tgt := 185) C dX12_canSlide_170 rfl ⟨fun hc => ?_, fun hc => ?_⟩
  · replace h := h.1 hc
    refine pw_sub [1, 2, 3, 4, 5, 6, 7, 8, 9, 10, 11, 12, 0] (LV2 := [(0, .ref (G.2.2 + x0)), (1, .int x1), (2, .ref (G.2.2 + x2)), (3, .int x3), (4, .int x4), (5, .int x5), (6, .int x6), (7, .int x7), (8, .int x8), (9, .int x9), (10, .int x10), (11, .int x11), (12, .int t0)]) rfl ?_
    exact cbX12_canSlide_b185 C hr hin hK14 hK44 hK67 _ _ _ _ _ _ _ _ _ _ _ _ _ _ _ h
  · replace h := h.2 hc
    refine pw_iload (pc := 173) C 0 dX12_canSlide_173 rfl ?_
    refine pw_if_eq (pc := 175) (tgt := 185) C dX12_canSlide_175 rfl ⟨fun hc => ?_, fun hc => ?_⟩
    · replace h := h.1 hc
      refine pw_sub [1, 2, 3, 4, 5, 6, 7, 8, 9, 10, 11, 12, 0] (LV2 := [(0, .ref (G.2.2 + x0)), (1, .int x1), (2, .ref (G.2.2 + x2)), (3, .int x3), (4, .int x4), (5, .int x5), (6, .int x6), (7, .int x7), (8, .int x8), (9, .int x9), (10, .int x10), (11, .int x11), (12, .int t0)]) rfl ?_
      exact cbX12_canSlide_b185 C hr hin hK14 hK44 hK67 _ _ _ _ _ _ _ _ _ _ _ _ _ _ _ h
    · replace h := h.2 hc
      refine pw_iconst (pc := 178) (v := 1 ) C dX12_canSlide_178 (by decide) ?_
      refine pw_iload (pc := 179) C 11 dX12_canSlide_179 rfl ?_
      refine pw_ishl (pc := 181) C dX12_canSlide_181 ?_
      refine pw_goto (pc := 182) (tgt := 186) C dX12_canSlide_182 rfl ?_
      refine pw_ior (pc := 186) C dX12_canSlide_186 ?_
      refine pw_istore (pc := 187) C [(7, .int (x7 ||| ((1 : Int32) <<< (x10 &&& 31)))), (12, .int t0), (0, .ref (G.2.2 + x0)), (1, .int x1), (2, .ref (G.2.2 + x2)), (3, .int x3), (4, .int x4), (5, .int x5), (6, .int x6), (8, .int x8), (9, .int x9), (10, .int x10), (11, .int x11)] dX12_canSlide_187 (by decide) rfl ?_
      refine pw_iincK (pc := 189) (w := 1) C [(9, .int (x9 + 1)), (7, .int (x7 ||| ((1 : Int32) <<< (x10 &&& 31)))), (12, .int t0), (0, .ref (G.2.2 + x0)), (1, .int x1), (2, .ref (G.2.2 + x2)), (3, .int x3), (4, .int x4), (5, .int x5), (6, .int x6), (8, .int x8), (10, .int x10), (11, .int x11)] 10 dX12_canSlide_189 (by decide) rfl (by decide) rfl ?_
      refine pw_goto (pc := 192) (tgt := 67) C dX12_canSlide_192 rfl ?_
      refine pw_sub [3, 4, 5, 6, 7, 8, 9, 1, 10, 0] (LV2 := [(0, .ref (G.2.2 + x0)), (1, .int x1), (2, .ref (G.2.2 + x2)), (3, .int x3), (4, .int x4), (5, .int x5), (6, .int x6), (7, .int (x7 ||| ((1 : Int32) <<< (x10 &&& 31)))), (8, .int x8), (9, .int (x9 + 1))]) rfl ?_
      exact hK67 _ _ _ _ _ _ _ _ _ _ _ h
set_option maxRecDepth 100000 in
set_option maxHeartbeats 4000000 in
theorem cbX12_canSlide_b159 {p : Program} {l : Launch} {e : Env} {s : State} {m : MethodId} {args : Array Value} {below : List Frame} {meth : Method} {c : Code} {G : PG} {Q : Int32 → PS → Prop} (C : pCx p s m args meth c G cX12_canSlide 13 yX12_canSlide.cls wsX12_canSlide) (hr : meth.sig.returnType = (some .boolean)) (hin : meth.name = yX12_canSlide.name) {K14 : PS → Nat → Int32 → Nat → Int32 → Int32 → Int32 → Prop} (hK14 : ∀ (S : PS) (x0 : Nat) (x1 : Int32) (x2 : Nat) (x3 : Int32) (x4 : Int32) (x5 : Int32), K14 S x0 x1 x2 x3 x4 x5 → PW p l e rmX12_canSlide s m args below meth c (MQ below (va_Qi Q (pB G) (pFr G)) args s rmX12_canSlide.cells rmX12_canSlide.slots (pFr G)) G 13 S 0 0 [(0, .ref (G.2.2 + x0)), (1, .int x1), (2, .ref (G.2.2 + x2)), (3, .int x3), (4, .int x4), (5, .int x5)] 14 ([])) {K44 : PS → Nat → Int32 → Nat → Int32 → Int32 → Int32 → Int32 → Int32 → Int32 → Prop} (hK44 : ∀ (S : PS) (x0 : Nat) (x1 : Int32) (x2 : Nat) (x3 : Int32) (x4 : Int32) (x5 : Int32) (x6 : Int32) (x7 : Int32) (x8 : Int32), K44 S x0 x1 x2 x3 x4 x5 x6 x7 x8 → PW p l e rmX12_canSlide s m args below meth c (MQ below (va_Qi Q (pB G) (pFr G)) args s rmX12_canSlide.cells rmX12_canSlide.slots (pFr G)) G 13 S 0 0 [(0, .ref (G.2.2 + x0)), (1, .int x1), (2, .ref (G.2.2 + x2)), (3, .int x3), (4, .int x4), (5, .int x5), (6, .int x6), (7, .int x7), (8, .int x8)] 44 ([])) {K67 : PS → Nat → Int32 → Nat → Int32 → Int32 → Int32 → Int32 → Int32 → Int32 → Int32 → Prop} (hK67 : ∀ (S : PS) (x0 : Nat) (x1 : Int32) (x2 : Nat) (x3 : Int32) (x4 : Int32) (x5 : Int32) (x6 : Int32) (x7 : Int32) (x8 : Int32) (x9 : Int32), K67 S x0 x1 x2 x3 x4 x5 x6 x7 x8 x9 → PW p l e rmX12_canSlide s m args below meth c (MQ below (va_Qi Q (pB G) (pFr G)) args s rmX12_canSlide.cells rmX12_canSlide.slots (pFr G)) G 13 S 0 0 [(0, .ref (G.2.2 + x0)), (1, .int x1), (2, .ref (G.2.2 + x2)), (3, .int x3), (4, .int x4), (5, .int x5), (6, .int x6), (7, .int x7), (8, .int x8), (9, .int x9)] 67 ([])) : ∀ (S : PS) (x0 : Nat) (x1 : Int32) (x2 : Nat) (x3 : Int32) (x4 : Int32) (x5 : Int32) (x6 : Int32) (x7 : Int32) (x8 : Int32) (x9 : Int32) (x10 : Int32) (x11 : Int32), wpX12_canSlide_b159 K14 K44 K67 Q S x0 x1 x2 x3 x4 x5 x6 x7 x8 x9 x10 x11 → PW p l e rmX12_canSlide s m args below meth c (MQ below (va_Qi Q (pB G) (pFr G)) args s rmX12_canSlide.cells rmX12_canSlide.slots (pFr G)) G 13 S 0 0 [(0, .ref (G.2.2 + x0)), (1, .int x1), (2, .ref (G.2.2 + x2)), (3, .int x3), (4, .int x4), (5, .int x5), (6, .int x6), (7, .int x7), (8, .int x8), (9, .int x9), (10, .int x10), (11, .int x11)] 159 ([]) := by
  intro S x0 x1 x2 x3 x4 x5 x6 x7 x8 x9 x10 x11 h
  unfold wpX12_canSlide_b159 at h
  refine pw_iconst (pc := 159) (v := 1 ) C dX12_canSlide_159 (by decide) ?_
  refine pw_goto (pc := 160) (tgt := 164) C dX12_canSlide_160 rfl ?_
  exact cbX12_canSlide_b164 C hr hin hK14 hK44 hK67 _ _ _ _ _ _ _ _ _ _ _ _ _ _ h
set_option maxRecDepth 100000 in
set_option maxHeartbeats 4000000 in
theorem cbX12_canSlide_b124 {p : Program} {l : Launch} {e : Env} {s : State} {m : MethodId} {args : Array Value} {below : List Frame} {meth : Method} {c : Code} {G : PG} {Q : Int32 → PS → Prop} (C : pCx p s m args meth c G cX12_canSlide 13 yX12_canSlide.cls wsX12_canSlide) (hr : meth.sig.returnType = (some .boolean)) (hin : meth.name = yX12_canSlide.name) {K14 : PS → Nat → Int32 → Nat → Int32 → Int32 → Int32 → Prop} (hK14 : ∀ (S : PS) (x0 : Nat) (x1 : Int32) (x2 : Nat) (x3 : Int32) (x4 : Int32) (x5 : Int32), K14 S x0 x1 x2 x3 x4 x5 → PW p l e rmX12_canSlide s m args below meth c (MQ below (va_Qi Q (pB G) (pFr G)) args s rmX12_canSlide.cells rmX12_canSlide.slots (pFr G)) G 13 S 0 0 [(0, .ref (G.2.2 + x0)), (1, .int x1), (2, .ref (G.2.2 + x2)), (3, .int x3), (4, .int x4), (5, .int x5)] 14 ([])) {K44 : PS → Nat → Int32 → Nat → Int32 → Int32 → Int32 → Int32 → Int32 → Int32 → Prop} (hK44 : ∀ (S : PS) (x0 : Nat) (x1 : Int32) (x2 : Nat) (x3 : Int32) (x4 : Int32) (x5 : Int32) (x6 : Int32) (x7 : Int32) (x8 : Int32), K44 S x0 x1 x2 x3 x4 x5 x6 x7 x8 → PW p l e rmX12_canSlide s m args below meth c (MQ below (va_Qi Q (pB G) (pFr G)) args s rmX12_canSlide.cells rmX12_canSlide.slots (pFr G)) G 13 S 0 0 [(0, .ref (G.2.2 + x0)), (1, .int x1), (2, .ref (G.2.2 + x2)), (3, .int x3), (4, .int x4), (5, .int x5), (6, .int x6), (7, .int x7), (8, .int x8)] 44 ([])) {K67 : PS → Nat → Int32 → Nat → Int32 → Int32 → Int32 → Int32 → Int32 → Int32 → Int32 → Prop} (hK67 : ∀ (S : PS) (x0 : Nat) (x1 : Int32) (x2 : Nat) (x3 : Int32) (x4 : Int32) (x5 : Int32) (x6 : Int32) (x7 : Int32) (x8 : Int32) (x9 : Int32), K67 S x0 x1 x2 x3 x4 x5 x6 x7 x8 x9 → PW p l e rmX12_canSlide s m args below meth c (MQ below (va_Qi Q (pB G) (pFr G)) args s rmX12_canSlide.cells rmX12_canSlide.slots (pFr G)) G 13 S 0 0 [(0, .ref (G.2.2 + x0)), (1, .int x1), (2, .ref (G.2.2 + x2)), (3, .int x3), (4, .int x4), (5, .int x5), (6, .int x6), (7, .int x7), (8, .int x8), (9, .int x9)] 67 ([])) : ∀ (S : PS) (x0 : Nat) (x1 : Int32) (x2 : Nat) (x3 : Int32) (x4 : Int32) (x5 : Int32) (x6 : Int32) (x7 : Int32) (x8 : Int32) (x9 : Int32) (x10 : Int32) (t0 : Int32), wpX12_canSlide_b124 K14 K44 K67 Q S x0 x1 x2 x3 x4 x5 x6 x7 x8 x9 x10 t0 → PW p l e rmX12_canSlide s m args below meth c (MQ below (va_Qi Q (pB G) (pFr G)) args s rmX12_canSlide.cells rmX12_canSlide.slots (pFr G)) G 13 S 0 0 [(0, .ref (G.2.2 + x0)), (1, .int x1), (2, .ref (G.2.2 + x2)), (3, .int x3), (4, .int x4), (5, .int x5), (6, .int x6), (7, .int x7), (8, .int x8), (9, .int x9), (10, .int x10)] 124 (.int t0 :: []) := by
  intro S x0 x1 x2 x3 x4 x5 x6 x7 x8 x9 x10 t0 h
  unfold wpX12_canSlide_b124 at h
  refine pw_istore (pc := 124) C [(11, .int t0), (0, .ref (G.2.2 + x0)), (1, .int x1), (2, .ref (G.2.2 + x2)), (3, .int x3), (4, .int x4), (5, .int x5), (6, .int x6), (7, .int x7), (8, .int x8), (9, .int x9), (10, .int x10)] dX12_canSlide_124 (by decide) rfl ?_
  refine pw_iload (pc := 126) C 6 dX12_canSlide_126 rfl ?_
  refine pw_iconst (pc := 128) (v := 1 ) C dX12_canSlide_128 (by decide) ?_
  refine pw_iadd (pc := 129) C dX12_canSlide_129 ?_
  refine pw_iload_n (pc := 130) C 4 dX12_canSlide_130 rfl rfl ?_
  refine pw_icmp_lt (pc := 131) (tgt := 159) C dX12_canSlide_131 rfl ⟨fun hc => ?_, fun hc => ?_⟩
  · replace h := h.1 hc
    refine pw_sub [1, 2, 3, 4, 5, 6, 7, 8, 9, 10, 11, 0] (LV2 := [(0, .ref (G.2.2 + x0)), (1, .int x1), (2, .ref (G.2.2 + x2)), (3, .int x3), (4, .int x4), (5, .int x5), (6, .int x6), (7, .int x7), (8, .int x8), (9, .int x9), (10, .int x10), (11, .int t0)]) rfl ?_
    exact cbX12_canSlide_b159 C hr hin hK14 hK44 hK67 _ _ _ _ _ _ _ _ _ _ _ _ _ h
  · replace h := h.2 hc
    refine pw_iload (pc := 134) C 11 dX12_canSlide_134 rfl ?_
    refine pw_calli (pc := 136) (kc2 := 0) (kn2 := 0) (pRunS (pc := 136) C (ctX12_sizeOf l G  _ x10 _ h) (va_cwS 1 C.2.2.2.2.1 gX12_canSlide_X12_sizeOf rfl rfl rfl (by decide +kernel) ⟨Nat.le_of_ble_eq_true rfl, Nat.le_of_ble_eq_true rfl⟩) rfl rfl (Nat.le_of_ble_eq_true rfl) dX12_canSlide_136 ⟨Nat.le_of_ble_eq_true rfl, Nat.le_of_ble_eq_true rfl⟩) rfl rfl (fun r1 S2 h => ?_)
    refine pw_aload_n (pc := 139) C 1 dX12_canSlide_139 rfl rfl ?_
    refine pw_iload_n (pc := 140) C 2 dX12_canSlide_140 rfl rfl ?_
    refine pw_bipush (pc := 141) (v := 11 ) C dX12_canSlide_141 (by decide) ?_
    obtain ⟨hk3, h⟩ := h
    refine pw_calli (pc := 143) (kc2 := 0) (kn2 := 0) (pRunV (pc := 143) C (ctX12_of l G  _ x0 x1 (11 : Int32) _ h) (cwV 2 C.2.2.2.2.1 gX12_canSlide_X12_of rfl rfl rfl (by decide +kernel) ⟨Nat.le_of_ble_eq_true rfl, Nat.le_of_ble_eq_true rfl⟩) pCl10 hk3 rfl rfl (Nat.le_of_ble_eq_true rfl) dX12_canSlide_143 ⟨Nat.le_of_ble_eq_true rfl, Nat.le_of_ble_eq_true rfl⟩) rfl rfl (fun r4 S5 h => ?_)
    refine pw_aload_n (pc := 146) C 1 dX12_canSlide_146 rfl rfl ?_
    refine pw_iload_n (pc := 147) C 2 dX12_canSlide_147 rfl rfl ?_
    refine pw_bipush (pc := 148) (v := 12 ) C dX12_canSlide_148 (by decide) ?_
    obtain ⟨hk6, h⟩ := h
    refine pw_calli (pc := 150) (kc2 := 0) (kn2 := 0) (pRunV (pc := 150) C (ctX12_of l G  _ x0 x1 (12 : Int32) _ h) (cwV 2 C.2.2.2.2.1 gX12_canSlide_X12_of rfl rfl rfl (by decide +kernel) ⟨Nat.le_of_ble_eq_true rfl, Nat.le_of_ble_eq_true rfl⟩) pCl10 hk6 rfl rfl (Nat.le_of_ble_eq_true rfl) dX12_canSlide_150 ⟨Nat.le_of_ble_eq_true rfl, Nat.le_of_ble_eq_true rfl⟩) rfl rfl (fun r7 S8 h => ?_)
    refine pw_calli (pc := 153) (kc2 := 0) (kn2 := 0) (pRunS (pc := 153) C (ctX12_isIn l G  _ r1 r4 r7 _ h) (va_cwS 3 C.2.2.2.2.1 gX12_canSlide_X12_isIn rfl rfl rfl (by decide +kernel) ⟨Nat.le_of_ble_eq_true rfl, Nat.le_of_ble_eq_true rfl⟩) rfl rfl (Nat.le_of_ble_eq_true rfl) dX12_canSlide_153 ⟨Nat.le_of_ble_eq_true rfl, Nat.le_of_ble_eq_true rfl⟩) rfl rfl (fun r9 S10 h => ?_)
    refine pw_if_eq (pc := 156) (tgt := 163) C dX12_canSlide_156 rfl ⟨fun hc => ?_, fun hc => ?_⟩
    · replace h := h.1 hc
      refine pw_iconst (pc := 163) (v := 0 ) C dX12_canSlide_163 (by decide) ?_
      refine pw_sub [1, 2, 3, 4, 5, 6, 7, 8, 9, 10, 11, 0] (LV2 := [(0, .ref (G.2.2 + x0)), (1, .int x1), (2, .ref (G.2.2 + x2)), (3, .int x3), (4, .int x4), (5, .int x5), (6, .int x6), (7, .int x7), (8, .int x8), (9, .int x9), (10, .int x10), (11, .int t0)]) rfl ?_
      exact cbX12_canSlide_b164 C hr hin hK14 hK44 hK67 _ _ _ _ _ _ _ _ _ _ _ _ _ _ h
    · replace h := h.2 hc
      refine pw_sub [1, 2, 3, 4, 5, 6, 7, 8, 9, 10, 11, 0] (LV2 := [(0, .ref (G.2.2 + x0)), (1, .int x1), (2, .ref (G.2.2 + x2)), (3, .int x3), (4, .int x4), (5, .int x5), (6, .int x6), (7, .int x7), (8, .int x8), (9, .int x9), (10, .int x10), (11, .int t0)]) rfl ?_
      exact cbX12_canSlide_b159 C hr hin hK14 hK44 hK67 _ _ _ _ _ _ _ _ _ _ _ _ _ h
set_option maxRecDepth 100000 in
set_option maxHeartbeats 4000000 in
theorem cbX12_canSlide_b115 {p : Program} {l : Launch} {e : Env} {s : State} {m : MethodId} {args : Array Value} {below : List Frame} {meth : Method} {c : Code} {G : PG} {Q : Int32 → PS → Prop} (C : pCx p s m args meth c G cX12_canSlide 13 yX12_canSlide.cls wsX12_canSlide) (hr : meth.sig.returnType = (some .boolean)) (hin : meth.name = yX12_canSlide.name) {K14 : PS → Nat → Int32 → Nat → Int32 → Int32 → Int32 → Prop} (hK14 : ∀ (S : PS) (x0 : Nat) (x1 : Int32) (x2 : Nat) (x3 : Int32) (x4 : Int32) (x5 : Int32), K14 S x0 x1 x2 x3 x4 x5 → PW p l e rmX12_canSlide s m args below meth c (MQ below (va_Qi Q (pB G) (pFr G)) args s rmX12_canSlide.cells rmX12_canSlide.slots (pFr G)) G 13 S 0 0 [(0, .ref (G.2.2 + x0)), (1, .int x1), (2, .ref (G.2.2 + x2)), (3, .int x3), (4, .int x4), (5, .int x5)] 14 ([])) {K44 : PS → Nat → Int32 → Nat → Int32 → Int32 → Int32 → Int32 → Int32 → Int32 → Prop} (hK44 : ∀ (S : PS) (x0 : Nat) (x1 : Int32) (x2 : Nat) (x3 : Int32) (x4 : Int32) (x5 : Int32) (x6 : Int32) (x7 : Int32) (x8 : Int32), K44 S x0 x1 x2 x3 x4 x5 x6 x7 x8 → PW p l e rmX12_canSlide s m args below meth c (MQ below (va_Qi Q (pB G) (pFr G)) args s rmX12_canSlide.cells rmX12_canSlide.slots (pFr G)) G 13 S 0 0 [(0, .ref (G.2.2 + x0)), (1, .int x1), (2, .ref (G.2.2 + x2)), (3, .int x3), (4, .int x4), (5, .int x5), (6, .int x6), (7, .int x7), (8, .int x8)] 44 ([])) {K67 : PS → Nat → Int32 → Nat → Int32 → Int32 → Int32 → Int32 → Int32 → Int32 → Int32 → Prop} (hK67 : ∀ (S : PS) (x0 : Nat) (x1 : Int32) (x2 : Nat) (x3 : Int32) (x4 : Int32) (x5 : Int32) (x6 : Int32) (x7 : Int32) (x8 : Int32) (x9 : Int32), K67 S x0 x1 x2 x3 x4 x5 x6 x7 x8 x9 → PW p l e rmX12_canSlide s m args below meth c (MQ below (va_Qi Q (pB G) (pFr G)) args s rmX12_canSlide.cells rmX12_canSlide.slots (pFr G)) G 13 S 0 0 [(0, .ref (G.2.2 + x0)), (1, .int x1), (2, .ref (G.2.2 + x2)), (3, .int x3), (4, .int x4), (5, .int x5), (6, .int x6), (7, .int x7), (8, .int x8), (9, .int x9)] 67 ([])) : ∀ (S : PS) (x0 : Nat) (x1 : Int32) (x2 : Nat) (x3 : Int32) (x4 : Int32) (x5 : Int32) (x6 : Int32) (x7 : Int32) (x8 : Int32) (x9 : Int32) (x10 : Int32) (t0 : Int32) (t1 : Int32), wpX12_canSlide_b115 K14 K44 K67 Q S x0 x1 x2 x3 x4 x5 x6 x7 x8 x9 x10 t0 t1 → PW p l e rmX12_canSlide s m args below meth c (MQ below (va_Qi Q (pB G) (pFr G)) args s rmX12_canSlide.cells rmX12_canSlide.slots (pFr G)) G 13 S 0 0 [(0, .ref (G.2.2 + x0)), (1, .int x1), (2, .ref (G.2.2 + x2)), (3, .int x3), (4, .int x4), (5, .int x5), (6, .int x6), (7, .int x7), (8, .int x8), (9, .int x9), (10, .int x10)] 115 (.int t1 :: .int t0 :: []) := by
  intro S x0 x1 x2 x3 x4 x5 x6 x7 x8 x9 x10 t0 t1 h
  unfold wpX12_canSlide_b115 at h
  refine pw_iand (pc := 115) C dX12_canSlide_115 ?_
  refine pw_if_eq (pc := 116) (tgt := 123) C dX12_canSlide_116 rfl ⟨fun hc => ?_, fun hc => ?_⟩
  · replace h := h.1 hc
    refine pw_iconst (pc := 123) (v := 0 ) C dX12_canSlide_123 (by decide) ?_
    exact cbX12_canSlide_b124 C hr hin hK14 hK44 hK67 _ _ _ _ _ _ _ _ _ _ _ _ _ h
  · replace h := h.2 hc
    refine pw_iconst (pc := 119) (v := 1 ) C dX12_canSlide_119 (by decide) ?_
    refine pw_goto (pc := 120) (tgt := 124) C dX12_canSlide_120 rfl ?_
    exact cbX12_canSlide_b124 C hr hin hK14 hK44 hK67 _ _ _ _ _ _ _ _ _ _ _ _ _ h
set_option maxRecDepth 100000 in
set_option maxHeartbeats 4000000 in
theorem cbX12_canSlide_b67 {p : Program} {l : Launch} {e : Env} {s : State} {m : MethodId} {args : Array Value} {below : List Frame} {meth : Method} {c : Code} {G : PG} {Q : Int32 → PS → Prop} (C : pCx p s m args meth c G cX12_canSlide 13 yX12_canSlide.cls wsX12_canSlide) (hr : meth.sig.returnType = (some .boolean)) (hin : meth.name = yX12_canSlide.name) {K14 : PS → Nat → Int32 → Nat → Int32 → Int32 → Int32 → Prop} (hK14 : ∀ (S : PS) (x0 : Nat) (x1 : Int32) (x2 : Nat) (x3 : Int32) (x4 : Int32) (x5 : Int32), K14 S x0 x1 x2 x3 x4 x5 → PW p l e rmX12_canSlide s m args below meth c (MQ below (va_Qi Q (pB G) (pFr G)) args s rmX12_canSlide.cells rmX12_canSlide.slots (pFr G)) G 13 S 0 0 [(0, .ref (G.2.2 + x0)), (1, .int x1), (2, .ref (G.2.2 + x2)), (3, .int x3), (4, .int x4), (5, .int x5)] 14 ([])) {K44 : PS → Nat → Int32 → Nat → Int32 → Int32 → Int32 → Int32 → Int32 → Int32 → Prop} (hK44 : ∀ (S : PS) (x0 : Nat) (x1 : Int32) (x2 : Nat) (x3 : Int32) (x4 : Int32) (x5 : Int32) (x6 : Int32) (x7 : Int32) (x8 : Int32), K44 S x0 x1 x2 x3 x4 x5 x6 x7 x8 → PW p l e rmX12_canSlide s m args below meth c (MQ below (va_Qi Q (pB G) (pFr G)) args s rmX12_canSlide.cells rmX12_canSlide.slots (pFr G)) G 13 S 0 0 [(0, .ref (G.2.2 + x0)), (1, .int x1), (2, .ref (G.2.2 + x2)), (3, .int x3), (4, .int x4), (5, .int x5), (6, .int x6), (7, .int x7), (8, .int x8)] 44 ([])) (n : Nat) : ∀ (S : PS) (x0 : Nat) (x1 : Int32) (x2 : Nat) (x3 : Int32) (x4 : Int32) (x5 : Int32) (x6 : Int32) (x7 : Int32) (x8 : Int32) (x9 : Int32), wpX12_canSlide_b67 K14 K44 Q n S x0 x1 x2 x3 x4 x5 x6 x7 x8 x9 → PW p l e rmX12_canSlide s m args below meth c (MQ below (va_Qi Q (pB G) (pFr G)) args s rmX12_canSlide.cells rmX12_canSlide.slots (pFr G)) G 13 S 0 0 [(0, .ref (G.2.2 + x0)), (1, .int x1), (2, .ref (G.2.2 + x2)), (3, .int x3), (4, .int x4), (5, .int x5), (6, .int x6), (7, .int x7), (8, .int x8), (9, .int x9)] 67 ([]) := by
  induction n with
  | zero => intro S x0 x1 x2 x3 x4 x5 x6 x7 x8 x9 h; exact h.elim
  | succ n ih =>
    intro S x0 x1 x2 x3 x4 x5 x6 x7 x8 x9 h
    unfold wpX12_canSlide_b67 at h
    refine pw_iload (pc := 67) C 9 dX12_canSlide_67 rfl ?_
    refine pw_iconst (pc := 69) (v := 2 ) C dX12_canSlide_69 (by decide) ?_
    refine pw_icmp_ge (pc := 70) (tgt := 195) C dX12_canSlide_70 rfl ⟨fun hc => ?_, fun hc => ?_⟩
    · replace h := h.1 hc
      refine pw_iincK (pc := 195) (w := 1) C [(8, .int (x8 + 1)), (0, .ref (G.2.2 + x0)), (1, .int x1), (2, .ref (G.2.2 + x2)), (3, .int x3), (4, .int x4), (5, .int x5), (6, .int x6), (7, .int x7), (9, .int x9)] 8 dX12_canSlide_195 (by decide) rfl (by decide) rfl ?_
      refine pw_goto (pc := 198) (tgt := 44) C dX12_canSlide_198 rfl ?_
      refine pw_sub [1, 2, 3, 4, 5, 6, 7, 8, 0] (LV2 := [(0, .ref (G.2.2 + x0)), (1, .int x1), (2, .ref (G.2.2 + x2)), (3, .int x3), (4, .int x4), (5, .int x5), (6, .int x6), (7, .int x7), (8, .int (x8 + 1))]) rfl ?_
      exact hK44 _ _ _ _ _ _ _ _ _ _ h
    · replace h := h.2 hc
      refine pw_iload (pc := 73) C 8 dX12_canSlide_73 rfl ?_
      refine pw_iconst (pc := 75) (v := 1 ) C dX12_canSlide_75 (by decide) ?_
      refine pw_ishl (pc := 76) C dX12_canSlide_76 ?_
      refine pw_iload (pc := 77) C 9 dX12_canSlide_77 rfl ?_
      refine pw_ior (pc := 79) C dX12_canSlide_79 ?_
      refine pw_iconst (pc := 80) (v := 1 ) C dX12_canSlide_80 (by decide) ?_
      refine pw_iload_n (pc := 81) C 3 dX12_canSlide_81 rfl rfl ?_
      refine pw_ishl (pc := 82) C dX12_canSlide_82 ?_
      refine pw_iconst (pc := 83) (v := 1 ) C dX12_canSlide_83 (by decide) ?_
      refine pw_isub (pc := 84) C dX12_canSlide_84 ?_
      refine pw_iand (pc := 85) C dX12_canSlide_85 ?_
      refine pw_istore (pc := 86) C [(10, .int (((x8 <<< ((1 : Int32) &&& 31)) ||| x9) &&& (((1 : Int32) <<< (x3 &&& 31)) - (1 : Int32)))), (0, .ref (G.2.2 + x0)), (1, .int x1), (2, .ref (G.2.2 + x2)), (3, .int x3), (4, .int x4), (5, .int x5), (6, .int x6), (7, .int x7), (8, .int x8), (9, .int x9)] dX12_canSlide_86 (by decide) rfl ?_
      refine pw_iload (pc := 88) C 7 dX12_canSlide_88 rfl ?_
      refine pw_iload (pc := 90) C 10 dX12_canSlide_90 rfl ?_
      refine pw_iconst (pc := 92) (v := 1 ) C dX12_canSlide_92 (by decide) ?_
      refine pw_icmp_ne (pc := 93) (tgt := 106) C dX12_canSlide_93 rfl ⟨fun hc => ?_, fun hc => ?_⟩
      · replace h := h.1 hc
        refine pw_aload_n (pc := 106) C 1 dX12_canSlide_106 rfl rfl ?_
        refine pw_iload_n (pc := 107) C 2 dX12_canSlide_107 rfl rfl ?_
        refine pw_bipush (pc := 108) (v := 10 ) C dX12_canSlide_108 (by decide) ?_
        obtain ⟨hk11, h⟩ := h
        refine pw_calli (pc := 110) (kc2 := 0) (kn2 := 0) (pRunV (pc := 110) C (ctX12_of l G  _ x0 x1 (10 : Int32) _ h) (cwV 2 C.2.2.2.2.1 gX12_canSlide_X12_of rfl rfl rfl (by decide +kernel) ⟨Nat.le_of_ble_eq_true rfl, Nat.le_of_ble_eq_true rfl⟩) pCl10 hk11 rfl rfl (Nat.le_of_ble_eq_true rfl) dX12_canSlide_110 ⟨Nat.le_of_ble_eq_true rfl, Nat.le_of_ble_eq_true rfl⟩) rfl rfl (fun r12 S13 h => ?_)
        refine pw_iconst (pc := 113) (v := (-1)) C dX12_canSlide_113 (by decide) ?_
        refine pw_ixor (pc := 114) C dX12_canSlide_114 ?_
        refine pw_sub [1, 2, 3, 4, 5, 6, 7, 8, 9, 10, 0] (LV2 := [(0, .ref (G.2.2 + x0)), (1, .int x1), (2, .ref (G.2.2 + x2)), (3, .int x3), (4, .int x4), (5, .int x5), (6, .int x6), (7, .int x7), (8, .int x8), (9, .int x9), (10, .int (((x8 <<< ((1 : Int32) &&& 31)) ||| x9) &&& (((1 : Int32) <<< (x3 &&& 31)) - (1 : Int32))))]) rfl ?_
        exact cbX12_canSlide_b115 C hr hin hK14 hK44 ih _ _ _ _ _ _ _ _ _ _ _ _ _ _ h
      · replace h := h.2 hc
        refine pw_aload_n (pc := 96) C 1 dX12_canSlide_96 rfl rfl ?_
        refine pw_iload_n (pc := 97) C 2 dX12_canSlide_97 rfl rfl ?_
        refine pw_bipush (pc := 98) (v := 10 ) C dX12_canSlide_98 (by decide) ?_
        obtain ⟨hk14, h⟩ := h
        refine pw_calli (pc := 100) (kc2 := 0) (kn2 := 0) (pRunV (pc := 100) C (ctX12_of l G  _ x0 x1 (10 : Int32) _ h) (cwV 2 C.2.2.2.2.1 gX12_canSlide_X12_of rfl rfl rfl (by decide +kernel) ⟨Nat.le_of_ble_eq_true rfl, Nat.le_of_ble_eq_true rfl⟩) pCl10 hk14 rfl rfl (Nat.le_of_ble_eq_true rfl) dX12_canSlide_100 ⟨Nat.le_of_ble_eq_true rfl, Nat.le_of_ble_eq_true rfl⟩) rfl rfl (fun r15 S16 h => ?_)
        refine pw_goto (pc := 103) (tgt := 115) C dX12_canSlide_103 rfl ?_
        refine pw_sub [1, 2, 3, 4, 5, 6, 7, 8, 9, 10, 0] (LV2 := [(0, .ref (G.2.2 + x0)), (1, .int x1), (2, .ref (G.2.2 + x2)), (3, .int x3), (4, .int x4), (5, .int x5), (6, .int x6), (7, .int x7), (8, .int x8), (9, .int x9), (10, .int (((x8 <<< ((1 : Int32) &&& 31)) ||| x9) &&& (((1 : Int32) <<< (x3 &&& 31)) - (1 : Int32))))]) rfl ?_
        exact cbX12_canSlide_b115 C hr hin hK14 hK44 ih _ _ _ _ _ _ _ _ _ _ _ _ _ _ h
set_option maxRecDepth 100000 in
set_option maxHeartbeats 4000000 in
theorem cbX12_canSlide_b44 {p : Program} {l : Launch} {e : Env} {s : State} {m : MethodId} {args : Array Value} {below : List Frame} {meth : Method} {c : Code} {G : PG} {Q : Int32 → PS → Prop} (C : pCx p s m args meth c G cX12_canSlide 13 yX12_canSlide.cls wsX12_canSlide) (hr : meth.sig.returnType = (some .boolean)) (hin : meth.name = yX12_canSlide.name) {K14 : PS → Nat → Int32 → Nat → Int32 → Int32 → Int32 → Prop} (hK14 : ∀ (S : PS) (x0 : Nat) (x1 : Int32) (x2 : Nat) (x3 : Int32) (x4 : Int32) (x5 : Int32), K14 S x0 x1 x2 x3 x4 x5 → PW p l e rmX12_canSlide s m args below meth c (MQ below (va_Qi Q (pB G) (pFr G)) args s rmX12_canSlide.cells rmX12_canSlide.slots (pFr G)) G 13 S 0 0 [(0, .ref (G.2.2 + x0)), (1, .int x1), (2, .ref (G.2.2 + x2)), (3, .int x3), (4, .int x4), (5, .int x5)] 14 ([])) (n : Nat) : ∀ (S : PS) (x0 : Nat) (x1 : Int32) (x2 : Nat) (x3 : Int32) (x4 : Int32) (x5 : Int32) (x6 : Int32) (x7 : Int32) (x8 : Int32), wpX12_canSlide_b44 K14 Q n S x0 x1 x2 x3 x4 x5 x6 x7 x8 → PW p l e rmX12_canSlide s m args below meth c (MQ below (va_Qi Q (pB G) (pFr G)) args s rmX12_canSlide.cells rmX12_canSlide.slots (pFr G)) G 13 S 0 0 [(0, .ref (G.2.2 + x0)), (1, .int x1), (2, .ref (G.2.2 + x2)), (3, .int x3), (4, .int x4), (5, .int x5), (6, .int x6), (7, .int x7), (8, .int x8)] 44 ([]) := by
  induction n with
  | zero => intro S x0 x1 x2 x3 x4 x5 x6 x7 x8 h; exact h.elim
  | succ n ih =>
    intro S x0 x1 x2 x3 x4 x5 x6 x7 x8 h
    unfold wpX12_canSlide_b44 at h
    refine pw_iload (pc := 44) C 8 dX12_canSlide_44 rfl ?_
    refine pw_bipush (pc := 46) (v := 16 ) C dX12_canSlide_46 (by decide) ?_
    refine pw_icmp_ge (pc := 48) (tgt := 201) C dX12_canSlide_48 rfl ⟨fun hc => ?_, fun hc => ?_⟩
    · replace h := h.1 hc
      refine pw_iload (pc := 201) C 7 dX12_canSlide_201 rfl ?_
      refine pw_istore (pc := 203) C [(4, .int x7), (0, .ref (G.2.2 + x0)), (1, .int x1), (2, .ref (G.2.2 + x2)), (3, .int x3), (5, .int x5), (6, .int x6), (7, .int x7), (8, .int x8)] dX12_canSlide_203 (by decide) rfl ?_
      refine pw_iincK (pc := 205) (w := 1) C [(5, .int (x5 + 1)), (4, .int x7), (0, .ref (G.2.2 + x0)), (1, .int x1), (2, .ref (G.2.2 + x2)), (3, .int x3), (6, .int x6), (7, .int x7), (8, .int x8)] 5 dX12_canSlide_205 (by decide) rfl (by decide) rfl ?_
      refine pw_goto (pc := 208) (tgt := 14) C dX12_canSlide_208 rfl ?_
      refine pw_sub [2, 3, 4, 5, 1, 0] (LV2 := [(0, .ref (G.2.2 + x0)), (1, .int x1), (2, .ref (G.2.2 + x2)), (3, .int x3), (4, .int x7), (5, .int (x5 + 1))]) rfl ?_
      exact hK14 _ _ _ _ _ _ _ h
    · replace h := h.2 hc
      refine pw_iload (pc := 51) C 4 dX12_canSlide_51 rfl ?_
      refine pw_iload (pc := 53) C 8 dX12_canSlide_53 rfl ?_
      refine pw_calli (pc := 55) (kc2 := 0) (kn2 := 0) (pRunS (pc := 55) C (ctX12_has l G  _ x4 x8 _ h) (va_cwS 2 C.2.2.2.2.1 gX12_canSlide_X12_has rfl rfl rfl (by decide +kernel) ⟨Nat.le_of_ble_eq_true rfl, Nat.le_of_ble_eq_true rfl⟩) rfl rfl (Nat.le_of_ble_eq_true rfl) dX12_canSlide_55 ⟨Nat.le_of_ble_eq_true rfl, Nat.le_of_ble_eq_true rfl⟩) rfl rfl (fun r17 S18 h => ?_)
      refine pw_if_ne (pc := 58) (tgt := 64) C dX12_canSlide_58 rfl ⟨fun hc => ?_, fun hc => ?_⟩
      · replace h := h.1 hc
        refine pw_iconst (pc := 64) (v := 0 ) C dX12_canSlide_64 (by decide) ?_
        refine pw_istore (pc := 65) C [(9, .int (0 : Int32)), (0, .ref (G.2.2 + x0)), (1, .int x1), (2, .ref (G.2.2 + x2)), (3, .int x3), (4, .int x4), (5, .int x5), (6, .int x6), (7, .int x7), (8, .int x8)] dX12_canSlide_65 (by decide) rfl ?_
        refine pw_sub [1, 2, 3, 4, 5, 6, 7, 8, 9, 0] (LV2 := [(0, .ref (G.2.2 + x0)), (1, .int x1), (2, .ref (G.2.2 + x2)), (3, .int x3), (4, .int x4), (5, .int x5), (6, .int x6), (7, .int x7), (8, .int x8), (9, .int (0 : Int32))]) rfl ?_
        obtain ⟨n9, h⟩ := h
        exact cbX12_canSlide_b67 C hr hin hK14 ih n9 _ _ _ _ _ _ _ _ _ _ _ h
      · replace h := h.2 hc
        refine pw_goto (pc := 61) (tgt := 195) C dX12_canSlide_61 rfl ?_
        refine pw_iincK (pc := 195) (w := 1) C [(8, .int (x8 + 1)), (0, .ref (G.2.2 + x0)), (1, .int x1), (2, .ref (G.2.2 + x2)), (3, .int x3), (4, .int x4), (5, .int x5), (6, .int x6), (7, .int x7)] 8 dX12_canSlide_195 (by decide) rfl (by decide) rfl ?_
        refine pw_goto (pc := 198) (tgt := 44) C dX12_canSlide_198 rfl ?_
        refine pw_sub [1, 2, 3, 4, 5, 6, 7, 8, 0] (LV2 := [(0, .ref (G.2.2 + x0)), (1, .int x1), (2, .ref (G.2.2 + x2)), (3, .int x3), (4, .int x4), (5, .int x5), (6, .int x6), (7, .int x7), (8, .int (x8 + 1))]) rfl ?_
        exact ih _ _ _ _ _ _ _ _ _ _ h
set_option maxRecDepth 100000 in
set_option maxHeartbeats 4000000 in
theorem cbX12_canSlide_b14 {p : Program} {l : Launch} {e : Env} {s : State} {m : MethodId} {args : Array Value} {below : List Frame} {meth : Method} {c : Code} {G : PG} {Q : Int32 → PS → Prop} (C : pCx p s m args meth c G cX12_canSlide 13 yX12_canSlide.cls wsX12_canSlide) (hr : meth.sig.returnType = (some .boolean)) (hin : meth.name = yX12_canSlide.name)  (n : Nat) : ∀ (S : PS) (x0 : Nat) (x1 : Int32) (x2 : Nat) (x3 : Int32) (x4 : Int32) (x5 : Int32), wpX12_canSlide_b14  Q n S x0 x1 x2 x3 x4 x5 → PW p l e rmX12_canSlide s m args below meth c (MQ below (va_Qi Q (pB G) (pFr G)) args s rmX12_canSlide.cells rmX12_canSlide.slots (pFr G)) G 13 S 0 0 [(0, .ref (G.2.2 + x0)), (1, .int x1), (2, .ref (G.2.2 + x2)), (3, .int x3), (4, .int x4), (5, .int x5)] 14 ([]) := by
  induction n with
  | zero => intro S x0 x1 x2 x3 x4 x5 h; exact h.elim
  | succ n ih =>
    intro S x0 x1 x2 x3 x4 x5 h
    unfold wpX12_canSlide_b14 at h
    refine pw_iload (pc := 14) C 5 dX12_canSlide_14 rfl ?_
    refine pw_aload_n (pc := 16) C 0 dX12_canSlide_16 rfl rfl ?_
    refine pw_iload_n (pc := 17) C 1 dX12_canSlide_17 rfl rfl ?_
    refine pw_iconst (pc := 18) (v := 1 ) C dX12_canSlide_18 (by decide) ?_
    obtain ⟨hk19, h⟩ := h
    refine pw_calli (pc := 19) (kc2 := 0) (kn2 := 0) (pRunV (pc := 19) C (ctX12_of l G  _ x0 x1 (1 : Int32) _ h) (cwV 2 C.2.2.2.2.1 gX12_canSlide_X12_of rfl rfl rfl (by decide +kernel) ⟨Nat.le_of_ble_eq_true rfl, Nat.le_of_ble_eq_true rfl⟩) pCl10 hk19 rfl rfl (Nat.le_of_ble_eq_true rfl) dX12_canSlide_19 ⟨Nat.le_of_ble_eq_true rfl, Nat.le_of_ble_eq_true rfl⟩) rfl rfl (fun r20 S21 h => ?_)
    refine pw_icmp_ge (pc := 22) (tgt := 211) C dX12_canSlide_22 rfl ⟨fun hc => ?_, fun hc => ?_⟩
    · replace h := h.1 hc
      refine pw_iload (pc := 211) C 4 dX12_canSlide_211 rfl ?_
      refine pw_if_eq (pc := 213) (tgt := 220) C dX12_canSlide_213 rfl ⟨fun hc => ?_, fun hc => ?_⟩
      · replace h := h.1 hc
        refine pw_iconst (pc := 220) (v := 0 ) C dX12_canSlide_220 (by decide) ?_
        exact pw_zret (pc := 221) C hr rfl h dX12_canSlide_221
      · replace h := h.2 hc
        refine pw_iconst (pc := 216) (v := 1 ) C dX12_canSlide_216 (by decide) ?_
        refine pw_goto (pc := 217) (tgt := 221) C dX12_canSlide_217 rfl ?_
        exact pw_zret (pc := 221) C hr rfl h dX12_canSlide_221
    · replace h := h.2 hc
      refine pw_aload_n (pc := 25) C 2 dX12_canSlide_25 rfl rfl ?_
      refine pw_aload_n (pc := 26) C 0 dX12_canSlide_26 rfl rfl ?_
      refine pw_iload_n (pc := 27) C 1 dX12_canSlide_27 rfl rfl ?_
      refine pw_iconst (pc := 28) (v := 2 ) C dX12_canSlide_28 (by decide) ?_
      refine pw_iload (pc := 29) C 5 dX12_canSlide_29 rfl ?_
      refine pw_iadd (pc := 31) C dX12_canSlide_31 ?_
      obtain ⟨hk22, h⟩ := h
      refine pw_calli (pc := 32) (kc2 := 0) (kn2 := 0) (pRunV (pc := 32) C (ctX12_of l G  _ x0 x1 ((2 : Int32) + x5) _ h) (cwV 2 C.2.2.2.2.1 gX12_canSlide_X12_of rfl rfl rfl (by decide +kernel) ⟨Nat.le_of_ble_eq_true rfl, Nat.le_of_ble_eq_true rfl⟩) pCl10 hk22 rfl rfl (Nat.le_of_ble_eq_true rfl) dX12_canSlide_32 ⟨Nat.le_of_ble_eq_true rfl, Nat.le_of_ble_eq_true rfl⟩) rfl rfl (fun r23 S24 h => ?_)
      obtain ⟨hk25, h⟩ := h
      obtain ⟨hi26, h⟩ := h
      refine pw_iald (pc := 35) C hk25 hi26 dX12_canSlide_35 ?_
      refine pw_istore (pc := 36) C [(6, .int (pI S24 x2 (r23).toNatClampNeg)), (0, .ref (G.2.2 + x0)), (1, .int x1), (2, .ref (G.2.2 + x2)), (3, .int x3), (4, .int x4), (5, .int x5)] dX12_canSlide_36 (by decide) rfl ?_
      refine pw_iconst (pc := 38) (v := 0 ) C dX12_canSlide_38 (by decide) ?_
      refine pw_istore (pc := 39) C [(7, .int (0 : Int32)), (6, .int (pI S24 x2 (r23).toNatClampNeg)), (0, .ref (G.2.2 + x0)), (1, .int x1), (2, .ref (G.2.2 + x2)), (3, .int x3), (4, .int x4), (5, .int x5)] dX12_canSlide_39 (by decide) rfl ?_
      refine pw_iconst (pc := 41) (v := 0 ) C dX12_canSlide_41 (by decide) ?_
      refine pw_istore (pc := 42) C [(8, .int (0 : Int32)), (7, .int (0 : Int32)), (6, .int (pI S24 x2 (r23).toNatClampNeg)), (0, .ref (G.2.2 + x0)), (1, .int x1), (2, .ref (G.2.2 + x2)), (3, .int x3), (4, .int x4), (5, .int x5)] dX12_canSlide_42 (by decide) rfl ?_
      refine pw_sub [3, 4, 5, 6, 7, 8, 2, 1, 0] (LV2 := [(0, .ref (G.2.2 + x0)), (1, .int x1), (2, .ref (G.2.2 + x2)), (3, .int x3), (4, .int x4), (5, .int x5), (6, .int (pI S24 x2 (r23).toNatClampNeg)), (7, .int (0 : Int32)), (8, .int (0 : Int32))]) rfl ?_
      obtain ⟨n9, h⟩ := h
      exact cbX12_canSlide_b44 C hr hin ih n9 _ _ _ _ _ _ _ _ _ _ h
set_option maxRecDepth 100000 in
set_option maxHeartbeats 4000000 in
theorem ctX12_canSlide (l : Launch) (G : PG) (S : PS) (x0 : Nat) (x1 : Int32) (x2 : Nat) (Q : Int32 → PS → Prop) (h : wpX12_canSlide S x0 x1 x2 Q) : mI l yX12_canSlide wsX12_canSlide rmX12_canSlide G S [.ref (G.2.2 + x0), .int x1, .ref (G.2.2 + x2)] Q := by
  unfold mI
  refine met_of (cc := cX12_canSlide) (maxL := 13) (ret := (some .boolean)) (by decide) rfl (Nat.le_of_ble_eq_true rfl) ?_
  intro p e s m args below meth c C hr hin
  unfold wpX12_canSlide at h
  show PW p l e _ s m args below meth c _ G 13 S 0 0 [(0, .ref (G.2.2 + x0)), (1, .int x1), (2, .ref (G.2.2 + x2))] 0 []
  refine pw_aload_n (pc := 0) C 0 dX12_canSlide_0 rfl rfl ?_
  refine pw_iload_n (pc := 1) C 1 dX12_canSlide_1 rfl rfl ?_
  refine pw_bipush (pc := 2) (v := 9 ) C dX12_canSlide_2 (by decide) ?_
  obtain ⟨hk27, h⟩ := h
  refine pw_calli (pc := 4) (kc2 := 0) (kn2 := 0) (pRunV (pc := 4) C (ctX12_of l G  _ x0 x1 (9 : Int32) _ h) (cwV 2 C.2.2.2.2.1 gX12_canSlide_X12_of rfl rfl rfl (by decide +kernel) ⟨Nat.le_of_ble_eq_true rfl, Nat.le_of_ble_eq_true rfl⟩) pCl10 hk27 rfl rfl (Nat.le_of_ble_eq_true rfl) dX12_canSlide_4 ⟨Nat.le_of_ble_eq_true rfl, Nat.le_of_ble_eq_true rfl⟩) rfl rfl (fun r28 S29 h => ?_)
  refine pw_istore_n (pc := 7) C [(3, .int r28), (0, .ref (G.2.2 + x0)), (1, .int x1), (2, .ref (G.2.2 + x2))] dX12_canSlide_7 rfl (by decide) rfl ?_
  refine pw_iconst (pc := 8) (v := 1 ) C dX12_canSlide_8 (by decide) ?_
  refine pw_istore (pc := 9) C [(4, .int (1 : Int32)), (3, .int r28), (0, .ref (G.2.2 + x0)), (1, .int x1), (2, .ref (G.2.2 + x2))] dX12_canSlide_9 (by decide) rfl ?_
  refine pw_iconst (pc := 11) (v := 0 ) C dX12_canSlide_11 (by decide) ?_
  refine pw_istore (pc := 12) C [(5, .int (0 : Int32)), (4, .int (1 : Int32)), (3, .int r28), (0, .ref (G.2.2 + x0)), (1, .int x1), (2, .ref (G.2.2 + x2))] dX12_canSlide_12 (by decide) rfl ?_
  refine pw_sub [3, 4, 5, 2, 1, 0] (LV2 := [(0, .ref (G.2.2 + x0)), (1, .int x1), (2, .ref (G.2.2 + x2)), (3, .int r28), (4, .int (1 : Int32)), (5, .int (0 : Int32))]) rfl ?_
  obtain ⟨n9, h⟩ := h
  exact cbX12_canSlide_b14 C hr hin  n9 _ _ _ _ _ _ _ h

abbrev rmX12_canBeLess : Room := { frames := 1, cells := 0, slots := 0, locals := 21 }
def wpX12_canBeLess_b2  (Q : Int32 → PS → Prop) : Nat → PS → Nat → Int32 → Int32 → Int32 → Prop
  | 0 => fun _ _ _ _ _ => False
  | n + 1 => fun S x0 x1 x2 x3 => (((5 : Int32) ≤ x3 → (Q (0 : Int32) S)) ∧ (¬ (5 : Int32) ≤ x3 → (wpX12_has S x1 x3 (fun r1 S2 => ((r1 = 0 → (wpX12_canBeLess_b2 Q n S2 x0 x1 x2 (x3 + 1))) ∧ (¬ r1 = 0 → (((x2 >>> ((x3 + (1 : Int32)) &&& 31)) = 0 → (wpX12_canBeLess_b2 Q n S2 x0 x1 x2 (x3 + 1))) ∧ (¬ (x2 >>> ((x3 + (1 : Int32)) &&& 31)) = 0 → (Q (1 : Int32) S2)))))))))
def wpX12_canBeLess (S : PS) (x0 : Nat) (x1 : Int32) (x2 : Int32) (Q : Int32 → PS → Prop) : Prop := (∃ n9 : Nat, wpX12_canBeLess_b2 Q n9 S x0 x1 x2 (0 : Int32))
set_option maxRecDepth 100000 in
set_option maxHeartbeats 4000000 in
theorem cbX12_canBeLess_b2 {p : Program} {l : Launch} {e : Env} {s : State} {m : MethodId} {args : Array Value} {below : List Frame} {meth : Method} {c : Code} {G : PG} {Q : Int32 → PS → Prop} (C : pCx p s m args meth c G cX12_canBeLess 4 yX12_canBeLess.cls wsX12_canBeLess) (hr : meth.sig.returnType = (some .boolean)) (hin : meth.name = yX12_canBeLess.name)  (n : Nat) : ∀ (S : PS) (x0 : Nat) (x1 : Int32) (x2 : Int32) (x3 : Int32), wpX12_canBeLess_b2  Q n S x0 x1 x2 x3 → PW p l e rmX12_canBeLess s m args below meth c (MQ below (va_Qi Q (pB G) (pFr G)) args s rmX12_canBeLess.cells rmX12_canBeLess.slots (pFr G)) G 4 S 0 0 [(0, .ref (G.2.2 + x0)), (1, .int x1), (2, .int x2), (3, .int x3)] 2 ([]) := by
  induction n with
  | zero => intro S x0 x1 x2 x3 h; exact h.elim
  | succ n ih =>
    intro S x0 x1 x2 x3 h
    unfold wpX12_canBeLess_b2 at h
    refine pw_iload_n (pc := 2) C 3 dX12_canBeLess_2 rfl rfl ?_
    refine pw_iconst (pc := 3) (v := 5 ) C dX12_canBeLess_3 (by decide) ?_
    refine pw_icmp_ge (pc := 4) (tgt := 31) C dX12_canBeLess_4 rfl ⟨fun hc => ?_, fun hc => ?_⟩
    · replace h := h.1 hc
      refine pw_iconst (pc := 31) (v := 0 ) C dX12_canBeLess_31 (by decide) ?_
      exact pw_zret (pc := 32) C hr rfl h dX12_canBeLess_32
    · replace h := h.2 hc
      refine pw_iload_n (pc := 7) C 1 dX12_canBeLess_7 rfl rfl ?_
      refine pw_iload_n (pc := 8) C 3 dX12_canBeLess_8 rfl rfl ?_
      refine pw_calli (pc := 9) (kc2 := 0) (kn2 := 0) (pRunS (pc := 9) C (ctX12_has l G  _ x1 x3 _ h) (va_cwS 2 C.2.2.2.2.1 gX12_canBeLess_X12_has rfl rfl rfl (by decide +kernel) ⟨Nat.le_of_ble_eq_true rfl, Nat.le_of_ble_eq_true rfl⟩) rfl rfl (Nat.le_of_ble_eq_true rfl) dX12_canBeLess_9 ⟨Nat.le_of_ble_eq_true rfl, Nat.le_of_ble_eq_true rfl⟩) rfl rfl (fun r1 S2 h => ?_)
      refine pw_if_eq (pc := 12) (tgt := 25) C dX12_canBeLess_12 rfl ⟨fun hc => ?_, fun hc => ?_⟩
      · replace h := h.1 hc
        refine pw_iincK (pc := 25) (w := 1) C [(3, .int (x3 + 1)), (0, .ref (G.2.2 + x0)), (1, .int x1), (2, .int x2)] 3 dX12_canBeLess_25 (by decide) rfl (by decide) rfl ?_
        refine pw_goto (pc := 28) (tgt := 2) C dX12_canBeLess_28 rfl ?_
        refine pw_sub [1, 2, 3, 0] (LV2 := [(0, .ref (G.2.2 + x0)), (1, .int x1), (2, .int x2), (3, .int (x3 + 1))]) rfl ?_
        exact ih _ _ _ _ _ h
      · replace h := h.2 hc
        refine pw_iload_n (pc := 15) C 2 dX12_canBeLess_15 rfl rfl ?_
        refine pw_iload_n (pc := 16) C 3 dX12_canBeLess_16 rfl rfl ?_
        refine pw_iconst (pc := 17) (v := 1 ) C dX12_canBeLess_17 (by decide) ?_
        refine pw_iadd (pc := 18) C dX12_canBeLess_18 ?_
        refine pw_ishr (pc := 19) C dX12_canBeLess_19 ?_
        refine pw_if_eq (pc := 20) (tgt := 25) C dX12_canBeLess_20 rfl ⟨fun hc => ?_, fun hc => ?_⟩
        · replace h := h.1 hc
          refine pw_iincK (pc := 25) (w := 1) C [(3, .int (x3 + 1)), (0, .ref (G.2.2 + x0)), (1, .int x1), (2, .int x2)] 3 dX12_canBeLess_25 (by decide) rfl (by decide) rfl ?_
          refine pw_goto (pc := 28) (tgt := 2) C dX12_canBeLess_28 rfl ?_
          refine pw_sub [1, 2, 3, 0] (LV2 := [(0, .ref (G.2.2 + x0)), (1, .int x1), (2, .int x2), (3, .int (x3 + 1))]) rfl ?_
          exact ih _ _ _ _ _ h
        · replace h := h.2 hc
          refine pw_iconst (pc := 23) (v := 1 ) C dX12_canBeLess_23 (by decide) ?_
          exact pw_zret (pc := 24) C hr rfl h dX12_canBeLess_24
set_option maxRecDepth 100000 in
set_option maxHeartbeats 4000000 in
theorem ctX12_canBeLess (l : Launch) (G : PG) (S : PS) (x0 : Nat) (x1 : Int32) (x2 : Int32) (Q : Int32 → PS → Prop) (h : wpX12_canBeLess S x0 x1 x2 Q) : mI l yX12_canBeLess wsX12_canBeLess rmX12_canBeLess G S [.ref (G.2.2 + x0), .int x1, .int x2] Q := by
  unfold mI
  refine met_of (cc := cX12_canBeLess) (maxL := 4) (ret := (some .boolean)) (by decide) rfl (Nat.le_of_ble_eq_true rfl) ?_
  intro p e s m args below meth c C hr hin
  unfold wpX12_canBeLess at h
  show PW p l e _ s m args below meth c _ G 4 S 0 0 [(0, .ref (G.2.2 + x0)), (1, .int x1), (2, .int x2)] 0 []
  refine pw_iconst (pc := 0) (v := 0 ) C dX12_canBeLess_0 (by decide) ?_
  refine pw_istore_n (pc := 1) C [(3, .int (0 : Int32)), (0, .ref (G.2.2 + x0)), (1, .int x1), (2, .int x2)] dX12_canBeLess_1 rfl (by decide) rfl ?_
  refine pw_sub [1, 2, 3, 0] (LV2 := [(0, .ref (G.2.2 + x0)), (1, .int x1), (2, .int x2), (3, .int (0 : Int32))]) rfl ?_
  obtain ⟨n9, h⟩ := h
  exact cbX12_canBeLess_b2 C hr hin  n9 _ _ _ _ _ h

abbrev rmX12_canDiffer : Room := { frames := 1, cells := 0, slots := 0, locals := 22 }
def wpX12_canDiffer (S : PS) (x0 : Nat) (x1 : Int32) (x2 : Int32) (Q : Int32 → PS → Prop) : Prop := ((x1 = 0 → (Q (0 : Int32) S)) ∧ (¬ x1 = 0 → ((x2 = 0 → (Q (0 : Int32) S)) ∧ (¬ x2 = 0 → ((¬ x1 = x2 → (Q (1 : Int32) S)) ∧ (x1 = x2 → (wpX12_sizeOf S x1 (fun r1 S2 => ((r1 ≤ (1 : Int32) → (Q (0 : Int32) S2)) ∧ (¬ r1 ≤ (1 : Int32) → (Q (1 : Int32) S2)))))))))))
set_option maxRecDepth 100000 in
set_option maxHeartbeats 4000000 in
theorem ctX12_canDiffer (l : Launch) (G : PG) (S : PS) (x0 : Nat) (x1 : Int32) (x2 : Int32) (Q : Int32 → PS → Prop) (h : wpX12_canDiffer S x0 x1 x2 Q) : mI l yX12_canDiffer wsX12_canDiffer rmX12_canDiffer G S [.ref (G.2.2 + x0), .int x1, .int x2] Q := by
  unfold mI
  refine met_of (cc := cX12_canDiffer) (maxL := 3) (ret := (some .boolean)) (by decide) rfl (Nat.le_of_ble_eq_true rfl) ?_
  intro p e s m args below meth c C hr hin
  unfold wpX12_canDiffer at h
  show PW p l e _ s m args below meth c _ G 3 S 0 0 [(0, .ref (G.2.2 + x0)), (1, .int x1), (2, .int x2)] 0 []
  refine pw_iload_n (pc := 0) C 1 dX12_canDiffer_0 rfl rfl ?_
  refine pw_if_eq (pc := 1) (tgt := 25) C dX12_canDiffer_1 rfl ⟨fun hc => ?_, fun hc => ?_⟩
  · replace h := h.1 hc
    refine pw_iconst (pc := 25) (v := 0 ) C dX12_canDiffer_25 (by decide) ?_
    exact pw_zret (pc := 26) C hr rfl h dX12_canDiffer_26
  · replace h := h.2 hc
    refine pw_iload_n (pc := 4) C 2 dX12_canDiffer_4 rfl rfl ?_
    refine pw_if_eq (pc := 5) (tgt := 25) C dX12_canDiffer_5 rfl ⟨fun hc => ?_, fun hc => ?_⟩
    · replace h := h.1 hc
      refine pw_iconst (pc := 25) (v := 0 ) C dX12_canDiffer_25 (by decide) ?_
      exact pw_zret (pc := 26) C hr rfl h dX12_canDiffer_26
    · replace h := h.2 hc
      refine pw_iload_n (pc := 8) C 1 dX12_canDiffer_8 rfl rfl ?_
      refine pw_iload_n (pc := 9) C 2 dX12_canDiffer_9 rfl rfl ?_
      refine pw_icmp_ne (pc := 10) (tgt := 21) C dX12_canDiffer_10 rfl ⟨fun hc => ?_, fun hc => ?_⟩
      · replace h := h.1 hc
        refine pw_iconst (pc := 21) (v := 1 ) C dX12_canDiffer_21 (by decide) ?_
        refine pw_goto (pc := 22) (tgt := 26) C dX12_canDiffer_22 rfl ?_
        exact pw_zret (pc := 26) C hr rfl h dX12_canDiffer_26
      · replace h := h.2 hc
        refine pw_iload_n (pc := 13) C 1 dX12_canDiffer_13 rfl rfl ?_
        refine pw_calli (pc := 14) (kc2 := 0) (kn2 := 0) (pRunS (pc := 14) C (ctX12_sizeOf l G  _ x1 _ h) (va_cwS 1 C.2.2.2.2.1 gX12_canDiffer_X12_sizeOf rfl rfl rfl (by decide +kernel) ⟨Nat.le_of_ble_eq_true rfl, Nat.le_of_ble_eq_true rfl⟩) rfl rfl (Nat.le_of_ble_eq_true rfl) dX12_canDiffer_14 ⟨Nat.le_of_ble_eq_true rfl, Nat.le_of_ble_eq_true rfl⟩) rfl rfl (fun r1 S2 h => ?_)
        refine pw_iconst (pc := 17) (v := 1 ) C dX12_canDiffer_17 (by decide) ?_
        refine pw_icmp_le (pc := 18) (tgt := 25) C dX12_canDiffer_18 rfl ⟨fun hc => ?_, fun hc => ?_⟩
        · replace h := h.1 hc
          refine pw_iconst (pc := 25) (v := 0 ) C dX12_canDiffer_25 (by decide) ?_
          exact pw_zret (pc := 26) C hr rfl h dX12_canDiffer_26
        · replace h := h.2 hc
          refine pw_iconst (pc := 21) (v := 1 ) C dX12_canDiffer_21 (by decide) ?_
          refine pw_goto (pc := 22) (tgt := 26) C dX12_canDiffer_22 rfl ?_
          exact pw_zret (pc := 26) C hr rfl h dX12_canDiffer_26

abbrev rmX12_can : Room := { frames := 2, cells := 0, slots := 0, locals := 54 }
def wpX12_can (S : PS) (x0 : Nat) (x1 : Int32) (x2 : Nat) (Q : Int32 → PS → Prop) : Prop := ((0 ≤ x1 → (pK S x0 = 11 ∧ (wpX12_of S x0 x1 (2 : Int32) (fun r2 S3 => (pK S3 x2 = 13 ∧ (vp_in r2 (pL S3 x2) ∧ (pK S3 x0 = 11 ∧ (wpX12_of S3 x0 x1 (3 : Int32) (fun r7 S8 => (pK S8 x2 = 13 ∧ (vp_in r7 (pL S8 x2) ∧ (pK S8 x0 = 11 ∧ (wpX12_of S8 x0 x1 (0 : Int32) (fun r12 S13 => ((r12 = 0 → (pK S13 x0 = 11 ∧ (wpX12_canCount S13 x0 x1 x2 (fun r15 S16 => ((r15 = 0 ∨ r15 = 1) ∧ (Q r15 S16)))))) ∧ (r12 = 1 → (pK S13 x0 = 11 ∧ (wpX12_canSlide S13 x0 x1 x2 (fun r19 S20 => ((r19 = 0 ∨ r19 = 1) ∧ (Q r19 S20)))))) ∧ (r12 = 2 → (pK S13 x0 = 11 ∧ (wpX12_canBeLess S13 x0 (pI S3 x2 (r2).toNatClampNeg) (pI S8 x2 (r7).toNatClampNeg) (fun r23 S24 => ((r23 = 0 ∨ r23 = 1) ∧ (Q r23 S24)))))) ∧ ((¬ r12 = 0 ∧ ¬ r12 = 1 ∧ ¬ r12 = 2) → (pK S13 x0 = 11 ∧ (wpX12_canDiffer S13 x0 (pI S3 x2 (r2).toNatClampNeg) (pI S8 x2 (r7).toNatClampNeg) (fun r27 S28 => ((r27 = 0 ∨ r27 = 1) ∧ (Q r27 S28))))))))))))))))))))) ∧ (¬ 0 ≤ x1 → (pK S x0 = 11 ∧ (wpX12_canLeave S x0 (-x1) x2 (fun r31 S32 => ((r31 = 0 ∨ r31 = 1) ∧ (Q r31 S32)))))))
set_option maxRecDepth 100000 in
set_option maxHeartbeats 4000000 in
theorem ctX12_can (l : Launch) (G : PG) (S : PS) (x0 : Nat) (x1 : Int32) (x2 : Nat) (Q : Int32 → PS → Prop) (h : wpX12_can S x0 x1 x2 Q) : mI l yX12_can wsX12_can rmX12_can G S [.ref (G.2.2 + x0), .int x1, .ref (G.2.2 + x2)] Q := by
  unfold mI
  refine met_of (cc := cX12_can) (maxL := 5) (ret := (some .boolean)) (by decide) rfl (Nat.le_of_ble_eq_true rfl) ?_
  intro p e s m args below meth c C hr hin
  unfold wpX12_can at h
  show PW p l e _ s m args below meth c _ G 5 S 0 0 [(0, .ref (G.2.2 + x0)), (1, .int x1), (2, .ref (G.2.2 + x2))] 0 []
  refine pw_iload_n (pc := 0) C 1 dX12_can_0 rfl rfl ?_
  refine pw_if_ge (pc := 1) (tgt := 12) C dX12_can_1 rfl ⟨fun hc => ?_, fun hc => ?_⟩
  · replace h := h.1 hc
    refine pw_aload_n (pc := 12) C 2 dX12_can_12 rfl rfl ?_
    refine pw_aload_n (pc := 13) C 0 dX12_can_13 rfl rfl ?_
    refine pw_iload_n (pc := 14) C 1 dX12_can_14 rfl rfl ?_
    refine pw_iconst (pc := 15) (v := 2 ) C dX12_can_15 (by decide) ?_
    obtain ⟨hk1, h⟩ := h
    refine pw_calli (pc := 16) (kc2 := 0) (kn2 := 0) (pRunV (pc := 16) C (ctX12_of l G  _ x0 x1 (2 : Int32) _ h) (cwV 2 C.2.2.2.2.1 gX12_can_X12_of rfl rfl rfl (by decide +kernel) ⟨Nat.le_of_ble_eq_true rfl, Nat.le_of_ble_eq_true rfl⟩) pCl10 hk1 rfl rfl (Nat.le_of_ble_eq_true rfl) dX12_can_16 ⟨Nat.le_of_ble_eq_true rfl, Nat.le_of_ble_eq_true rfl⟩) rfl rfl (fun r2 S3 h => ?_)
    obtain ⟨hk4, h⟩ := h
    obtain ⟨hi5, h⟩ := h
    refine pw_iald (pc := 19) C hk4 hi5 dX12_can_19 ?_
    refine pw_istore_n (pc := 20) C [(3, .int (pI S3 x2 (r2).toNatClampNeg)), (0, .ref (G.2.2 + x0)), (1, .int x1), (2, .ref (G.2.2 + x2))] dX12_can_20 rfl (by decide) rfl ?_
    refine pw_aload_n (pc := 21) C 3 dX12_can_21 rfl rfl ?_
    refine pw_aload_n (pc := 22) C 1 dX12_can_22 rfl rfl ?_
    refine pw_iload_n (pc := 23) C 2 dX12_can_23 rfl rfl ?_
    refine pw_iconst (pc := 24) (v := 3 ) C dX12_can_24 (by decide) ?_
    obtain ⟨hk6, h⟩ := h
    refine pw_calli (pc := 25) (kc2 := 0) (kn2 := 0) (pRunV (pc := 25) C (ctX12_of l G  _ x0 x1 (3 : Int32) _ h) (cwV 2 C.2.2.2.2.1 gX12_can_X12_of rfl rfl rfl (by decide +kernel) ⟨Nat.le_of_ble_eq_true rfl, Nat.le_of_ble_eq_true rfl⟩) pCl10 hk6 rfl rfl (Nat.le_of_ble_eq_true rfl) dX12_can_25 ⟨Nat.le_of_ble_eq_true rfl, Nat.le_of_ble_eq_true rfl⟩) rfl rfl (fun r7 S8 h => ?_)
    obtain ⟨hk9, h⟩ := h
    obtain ⟨hi10, h⟩ := h
    refine pw_iald (pc := 28) C hk9 hi10 dX12_can_28 ?_
    refine pw_istore (pc := 29) C [(4, .int (pI S8 x2 (r7).toNatClampNeg)), (3, .int (pI S3 x2 (r2).toNatClampNeg)), (0, .ref (G.2.2 + x0)), (1, .int x1), (2, .ref (G.2.2 + x2))] dX12_can_29 (by decide) rfl ?_
    refine pw_aload_n (pc := 31) C 2 dX12_can_31 rfl rfl ?_
    refine pw_iload_n (pc := 32) C 3 dX12_can_32 rfl rfl ?_
    refine pw_iconst (pc := 33) (v := 0 ) C dX12_can_33 (by decide) ?_
    obtain ⟨hk11, h⟩ := h
    refine pw_calli (pc := 34) (kc2 := 0) (kn2 := 0) (pRunV (pc := 34) C (ctX12_of l G  _ x0 x1 (0 : Int32) _ h) (cwV 2 C.2.2.2.2.1 gX12_can_X12_of rfl rfl rfl (by decide +kernel) ⟨Nat.le_of_ble_eq_true rfl, Nat.le_of_ble_eq_true rfl⟩) pCl10 hk11 rfl rfl (Nat.le_of_ble_eq_true rfl) dX12_can_34 ⟨Nat.le_of_ble_eq_true rfl, Nat.le_of_ble_eq_true rfl⟩) rfl rfl (fun r12 S13 h => ?_)
    by_cases hc0 : r12 = 0
    · replace h := h.1 hc0
      refine pw_tableIn (pc := 37) (tgt := 64) C dX12_can_37 (by rw [hc0]; decide) (by rw [hc0]; decide) (by rw [hc0]; rfl) rfl ?_
      refine pw_aload_n (pc := 64) C 2 dX12_can_64 rfl rfl ?_
      refine pw_iload_n (pc := 65) C 3 dX12_can_65 rfl rfl ?_
      refine pw_aload_n (pc := 66) C 4 dX12_can_66 rfl rfl ?_
      obtain ⟨hk14, h⟩ := h
      refine pw_calli (pc := 67) (kc2 := 0) (kn2 := 0) (pRunV (pc := 67) C (ctX12_canCount l G  _ x0 x1 x2 _ h) (cwV 2 C.2.2.2.2.1 gX12_can_X12_canCount rfl rfl rfl (by decide +kernel) ⟨Nat.le_of_ble_eq_true rfl, Nat.le_of_ble_eq_true rfl⟩) pCl10 hk14 rfl rfl (Nat.le_of_ble_eq_true rfl) dX12_can_67 ⟨Nat.le_of_ble_eq_true rfl, Nat.le_of_ble_eq_true rfl⟩) rfl rfl (fun r15 S16 h => ?_)
      obtain ⟨hb17, h⟩ := h
      exact pw_zret (pc := 70) C hr (nar_bool hb17) h dX12_can_70
    by_cases hc1 : r12 = 1
    · replace h := h.2.1 hc1
      refine pw_tableIn (pc := 37) (tgt := 71) C dX12_can_37 (by rw [hc1]; decide) (by rw [hc1]; decide) (by rw [hc1]; rfl) rfl ?_
      refine pw_aload_n (pc := 71) C 2 dX12_can_71 rfl rfl ?_
      refine pw_iload_n (pc := 72) C 3 dX12_can_72 rfl rfl ?_
      refine pw_aload_n (pc := 73) C 4 dX12_can_73 rfl rfl ?_
      obtain ⟨hk18, h⟩ := h
      refine pw_calli (pc := 74) (kc2 := 0) (kn2 := 0) (pRunV (pc := 74) C (ctX12_canSlide l G  _ x0 x1 x2 _ h) (cwV 2 C.2.2.2.2.1 gX12_can_X12_canSlide rfl rfl rfl (by decide +kernel) ⟨Nat.le_of_ble_eq_true rfl, Nat.le_of_ble_eq_true rfl⟩) pCl10 hk18 rfl rfl (Nat.le_of_ble_eq_true rfl) dX12_can_74 ⟨Nat.le_of_ble_eq_true rfl, Nat.le_of_ble_eq_true rfl⟩) rfl rfl (fun r19 S20 h => ?_)
      obtain ⟨hb21, h⟩ := h
      exact pw_zret (pc := 77) C hr (nar_bool hb21) h dX12_can_77
    by_cases hc2 : r12 = 2
    · replace h := h.2.2.1 hc2
      refine pw_tableIn (pc := 37) (tgt := 78) C dX12_can_37 (by rw [hc2]; decide) (by rw [hc2]; decide) (by rw [hc2]; rfl) rfl ?_
      refine pw_aload_n (pc := 78) C 2 dX12_can_78 rfl rfl ?_
      refine pw_iload_n (pc := 79) C 1 dX12_can_79 rfl rfl ?_
      refine pw_iload (pc := 80) C 0 dX12_can_80 rfl ?_
      obtain ⟨hk22, h⟩ := h
      refine pw_calli (pc := 82) (kc2 := 0) (kn2 := 0) (pRunV (pc := 82) C (ctX12_canBeLess l G  _ x0 (pI S3 x2 (r2).toNatClampNeg) (pI S8 x2 (r7).toNatClampNeg) _ h) (cwV 2 C.2.2.2.2.1 gX12_can_X12_canBeLess rfl rfl rfl (by decide +kernel) ⟨Nat.le_of_ble_eq_true rfl, Nat.le_of_ble_eq_true rfl⟩) pCl10 hk22 rfl rfl (Nat.le_of_ble_eq_true rfl) dX12_can_82 ⟨Nat.le_of_ble_eq_true rfl, Nat.le_of_ble_eq_true rfl⟩) rfl rfl (fun r23 S24 h => ?_)
      obtain ⟨hb25, h⟩ := h
      exact pw_zret (pc := 85) C hr (nar_bool hb25) h dX12_can_85
    replace h := h.2.2.2 ⟨hc0, hc1, hc2⟩
    refine pw_tableOut (pc := 37) (tgt := 86) C dX12_can_37 (sw_out (r12) 0 2 (fun (j : Int) h1 h2 => Or.elim (show j = 0 ∨ j = 1 ∨ j = 2 by omega) (fun q => by subst q; exact lv_neT hc0 (by decide)) (fun q => q.elim (fun q => by subst q; exact lv_neT hc1 (by decide)) (fun q => by subst q; exact lv_neT hc2 (by decide))))) rfl ?_
    refine pw_aload_n (pc := 86) C 2 dX12_can_86 rfl rfl ?_
    refine pw_iload_n (pc := 87) C 1 dX12_can_87 rfl rfl ?_
    refine pw_iload (pc := 88) C 0 dX12_can_88 rfl ?_
    obtain ⟨hk26, h⟩ := h
    refine pw_calli (pc := 90) (kc2 := 0) (kn2 := 0) (pRunV (pc := 90) C (ctX12_canDiffer l G  _ x0 (pI S3 x2 (r2).toNatClampNeg) (pI S8 x2 (r7).toNatClampNeg) _ h) (cwV 2 C.2.2.2.2.1 gX12_can_X12_canDiffer rfl rfl rfl (by decide +kernel) ⟨Nat.le_of_ble_eq_true rfl, Nat.le_of_ble_eq_true rfl⟩) pCl10 hk26 rfl rfl (Nat.le_of_ble_eq_true rfl) dX12_can_90 ⟨Nat.le_of_ble_eq_true rfl, Nat.le_of_ble_eq_true rfl⟩) rfl rfl (fun r27 S28 h => ?_)
    obtain ⟨hb29, h⟩ := h
    exact pw_zret (pc := 93) C hr (nar_bool hb29) h dX12_can_93
  · replace h := h.2 hc
    refine pw_aload_n (pc := 4) C 0 dX12_can_4 rfl rfl ?_
    refine pw_iload_n (pc := 5) C 1 dX12_can_5 rfl rfl ?_
    refine pw_ineg (pc := 6) C dX12_can_6 ?_
    refine pw_aload_n (pc := 7) C 2 dX12_can_7 rfl rfl ?_
    obtain ⟨hk30, h⟩ := h
    refine pw_calli (pc := 8) (kc2 := 0) (kn2 := 0) (pRunV (pc := 8) C (ctX12_canLeave l G  _ x0 (-x1) x2 _ h) (cwV 2 C.2.2.2.2.1 gX12_can_X12_canLeave rfl rfl rfl (by decide +kernel) ⟨Nat.le_of_ble_eq_true rfl, Nat.le_of_ble_eq_true rfl⟩) pCl10 hk30 rfl rfl (Nat.le_of_ble_eq_true rfl) dX12_can_8 ⟨Nat.le_of_ble_eq_true rfl, Nat.le_of_ble_eq_true rfl⟩) rfl rfl (fun r31 S32 h => ?_)
    obtain ⟨hb33, h⟩ := h
    exact pw_zret (pc := 11) C hr (nar_bool hb33) h dX12_can_11

abbrev rmX12_hasSupport : Room := { frames := 3, cells := 0, slots := 0, locals := 78 }
theorem iX12_hasSupport_X12 : ∀ w ∈ u_ws RX12 TX12 32, w ∈ wsX12_hasSupport := fun _ h => List.mem_cons_of_mem _ (List.mem_append_right _ h)
def wpX12_hasSupport_b3  (Q : Int32 → PS → Prop) : Nat → PS → Nat → Int32 → Int32 → Int32 → Nat → Int32 → Prop
  | 0 => fun _ _ _ _ _ _ _ => False
  | n + 1 => fun S x0 x1 x2 x3 x4 x5 => (((7 : Int32) ≤ x5 → (pK S x0 = 11 ∧ (∃ o2, pR S x0 23 = some o2 ∧ (pK S o2 = 13 ∧ (vp_in x2 (pL S o2) ∧ (wpX12_can (sI S o2 (x2).toNatClampNeg ((1 : Int32) <<< (x3 &&& 31))) x0 x1 o2 (fun r5 S6 => ((r5 = 0 ∨ r5 = 1) ∧ (Q r5 S6))))))))) ∧ (¬ (7 : Int32) ≤ x5 → (pK S x0 = 11 ∧ (∃ o9, pR S x0 23 = some o9 ∧ (pK S x4 = 13 ∧ (vp_in x5 (pL S x4) ∧ (pK S o9 = 13 ∧ (vp_in x5 (pL S o9) ∧ (wpX12_hasSupport_b3 Q n (sI S o9 (x5).toNatClampNeg (pI S x4 (x5).toNatClampNeg)) x0 x1 x2 x3 x4 (x5 + 1))))))))))
def wpX12_hasSupport (S : PS) (x0 : Nat) (x1 : Int32) (x2 : Int32) (x3 : Int32) (x4 : Nat) (Q : Int32 → PS → Prop) : Prop := (∃ n9 : Nat, wpX12_hasSupport_b3 Q n9 S x0 x1 x2 x3 x4 (0 : Int32))
set_option maxRecDepth 100000 in
set_option maxHeartbeats 4000000 in
theorem cbX12_hasSupport_b3 {p : Program} {l : Launch} {e : Env} {s : State} {m : MethodId} {args : Array Value} {below : List Frame} {meth : Method} {c : Code} {G : PG} {Q : Int32 → PS → Prop} (C : pCx p s m args meth c G cX12_hasSupport 6 yX12_hasSupport.cls wsX12_hasSupport) (hr : meth.sig.returnType = (some .boolean)) (hin : meth.name = yX12_hasSupport.name)  (n : Nat) : ∀ (S : PS) (x0 : Nat) (x1 : Int32) (x2 : Int32) (x3 : Int32) (x4 : Nat) (x5 : Int32), wpX12_hasSupport_b3  Q n S x0 x1 x2 x3 x4 x5 → PW p l e rmX12_hasSupport s m args below meth c (MQ below (va_Qi Q (pB G) (pFr G)) args s rmX12_hasSupport.cells rmX12_hasSupport.slots (pFr G)) G 6 S 0 0 [(0, .ref (G.2.2 + x0)), (1, .int x1), (2, .int x2), (3, .int x3), (4, .ref (G.2.2 + x4)), (5, .int x5)] 3 ([]) := by
  induction n with
  | zero => intro S x0 x1 x2 x3 x4 x5 h; exact h.elim
  | succ n ih =>
    intro S x0 x1 x2 x3 x4 x5 h
    unfold wpX12_hasSupport_b3 at h
    refine pw_iload (pc := 3) C 5 dX12_hasSupport_3 rfl ?_
    refine pw_bipush (pc := 5) (v := 7 ) C dX12_hasSupport_5 (by decide) ?_
    refine pw_icmp_ge (pc := 7) (tgt := 28) C dX12_hasSupport_7 rfl ⟨fun hc => ?_, fun hc => ?_⟩
    · replace h := h.1 hc
      refine pw_aload_n (pc := 28) C 0 dX12_hasSupport_28 rfl rfl ?_
      obtain ⟨hk1, h⟩ := h
      obtain ⟨o2, ho2, h⟩ := h
      refine pw_getR (pc := 29) (ref := "SupportSolverModel") (k := 23) (index := 39) C pCl10 iX12_hasSupport_X12 hk1 rfl (by decide +kernel) (Or.inl rfl) (o := o2) ho2 dX12_hasSupport_29 ?_
      refine pw_iload_n (pc := 32) C 2 dX12_hasSupport_32 rfl rfl ?_
      refine pw_iconst (pc := 33) (v := 1 ) C dX12_hasSupport_33 (by decide) ?_
      refine pw_iload_n (pc := 34) C 3 dX12_hasSupport_34 rfl rfl ?_
      refine pw_ishl (pc := 35) C dX12_hasSupport_35 ?_
      obtain ⟨hk3, h⟩ := h
      obtain ⟨hi4, h⟩ := h
      refine pw_iast (pc := 36) C hk3 hi4 dX12_hasSupport_36 ?_
      refine pw_aload_n (pc := 37) (S := (sI S o2 (x2).toNatClampNeg ((1 : Int32) <<< (x3 &&& 31)))) C 0 dX12_hasSupport_37 rfl rfl ?_
      refine pw_iload_n (pc := 38) (S := (sI S o2 (x2).toNatClampNeg ((1 : Int32) <<< (x3 &&& 31)))) C 1 dX12_hasSupport_38 rfl rfl ?_
      refine pw_aload_n (pc := 39) (S := (sI S o2 (x2).toNatClampNeg ((1 : Int32) <<< (x3 &&& 31)))) C 0 dX12_hasSupport_39 rfl rfl ?_
      refine pw_getR (pc := 40) (S := (sI S o2 (x2).toNatClampNeg ((1 : Int32) <<< (x3 &&& 31)))) (ref := "SupportSolverModel") (k := 23) (index := 39) C pCl10 iX12_hasSupport_X12 hk1 rfl (by decide +kernel) (Or.inl rfl) (o := o2) ho2 dX12_hasSupport_40 ?_
      refine pw_calli (pc := 43) (S := (sI S o2 (x2).toNatClampNeg ((1 : Int32) <<< (x3 &&& 31)))) (kc2 := 0) (kn2 := 0) (pRunV (pc := 43) (S := (sI S o2 (x2).toNatClampNeg ((1 : Int32) <<< (x3 &&& 31)))) C (ctX12_can l G  _ x0 x1 o2 _ h) (cwV 2 C.2.2.2.2.1 gX12_hasSupport_X12_can rfl rfl rfl (by decide +kernel) ⟨Nat.le_of_ble_eq_true rfl, Nat.le_of_ble_eq_true rfl⟩) pCl10 hk1 rfl rfl (Nat.le_of_ble_eq_true rfl) dX12_hasSupport_43 ⟨Nat.le_of_ble_eq_true rfl, Nat.le_of_ble_eq_true rfl⟩) rfl rfl (fun r5 S6 h => ?_)
      obtain ⟨hb7, h⟩ := h
      exact pw_zret (pc := 46) C hr (nar_bool hb7) h dX12_hasSupport_46
    · replace h := h.2 hc
      refine pw_aload_n (pc := 10) C 0 dX12_hasSupport_10 rfl rfl ?_
      obtain ⟨hk8, h⟩ := h
      obtain ⟨o9, ho9, h⟩ := h
      refine pw_getR (pc := 11) (ref := "SupportSolverModel") (k := 23) (index := 39) C pCl10 iX12_hasSupport_X12 hk8 rfl (by decide +kernel) (Or.inl rfl) (o := o9) ho9 dX12_hasSupport_11 ?_
      refine pw_iload (pc := 14) C 5 dX12_hasSupport_14 rfl ?_
      refine pw_aload (pc := 16) C 4 dX12_hasSupport_16 rfl ?_
      refine pw_iload (pc := 18) C 5 dX12_hasSupport_18 rfl ?_
      obtain ⟨hk10, h⟩ := h
      obtain ⟨hi11, h⟩ := h
      refine pw_iald (pc := 20) C hk10 hi11 dX12_hasSupport_20 ?_
      obtain ⟨hk12, h⟩ := h
      obtain ⟨hi13, h⟩ := h
      refine pw_iast (pc := 21) C hk12 hi13 dX12_hasSupport_21 ?_
      refine pw_iincK (pc := 22) (S := (sI S o9 (x5).toNatClampNeg (pI S x4 (x5).toNatClampNeg))) (w := 1) C [(5, .int (x5 + 1)), (0, .ref (G.2.2 + x0)), (1, .int x1), (2, .int x2), (3, .int x3), (4, .ref (G.2.2 + x4))] 5 dX12_hasSupport_22 (by decide) rfl (by decide) rfl ?_
      refine pw_goto (pc := 25) (S := (sI S o9 (x5).toNatClampNeg (pI S x4 (x5).toNatClampNeg))) (tgt := 3) C dX12_hasSupport_25 rfl ?_
      refine pw_sub [1, 2, 3, 4, 5, 0] (LV2 := [(0, .ref (G.2.2 + x0)), (1, .int x1), (2, .int x2), (3, .int x3), (4, .ref (G.2.2 + x4)), (5, .int (x5 + 1))]) rfl ?_
      exact ih _ _ _ _ _ _ _ h
set_option maxRecDepth 100000 in
set_option maxHeartbeats 4000000 in
theorem ctX12_hasSupport (l : Launch) (G : PG) (S : PS) (x0 : Nat) (x1 : Int32) (x2 : Int32) (x3 : Int32) (x4 : Nat) (Q : Int32 → PS → Prop) (h : wpX12_hasSupport S x0 x1 x2 x3 x4 Q) : mI l yX12_hasSupport wsX12_hasSupport rmX12_hasSupport G S [.ref (G.2.2 + x0), .int x1, .int x2, .int x3, .ref (G.2.2 + x4)] Q := by
  unfold mI
  refine met_of (cc := cX12_hasSupport) (maxL := 6) (ret := (some .boolean)) (by decide) rfl (Nat.le_of_ble_eq_true rfl) ?_
  intro p e s m args below meth c C hr hin
  unfold wpX12_hasSupport at h
  show PW p l e _ s m args below meth c _ G 6 S 0 0 [(0, .ref (G.2.2 + x0)), (1, .int x1), (2, .int x2), (3, .int x3), (4, .ref (G.2.2 + x4))] 0 []
  refine pw_iconst (pc := 0) (v := 0 ) C dX12_hasSupport_0 (by decide) ?_
  refine pw_istore (pc := 1) C [(5, .int (0 : Int32)), (0, .ref (G.2.2 + x0)), (1, .int x1), (2, .int x2), (3, .int x3), (4, .ref (G.2.2 + x4))] dX12_hasSupport_1 (by decide) rfl ?_
  refine pw_sub [1, 2, 3, 4, 5, 0] (LV2 := [(0, .ref (G.2.2 + x0)), (1, .int x1), (2, .int x2), (3, .int x3), (4, .ref (G.2.2 + x4)), (5, .int (0 : Int32))]) rfl ?_
  obtain ⟨n9, h⟩ := h
  exact cbX12_hasSupport_b3 C hr hin  n9 _ _ _ _ _ _ _ h

abbrev rmX12_lays : Room := { frames := 0, cells := 0, slots := 0, locals := 0 }
theorem iX12_lays_X12 : ∀ w ∈ u_ws RX12 TX12 32, w ∈ wsX12_lays := fun _ h => List.mem_cons_of_mem _ (List.mem_append_right _ h)
def wpX12_lays (S : PS) (x0 : Nat) (x1 : Int32) (x2 : Int32) (x3 : Int32) (x4 : Int32) (Q : PS → Prop) : Prop := (pK S x0 = 11 ∧ (∃ o2, pR S x0 4 = some o2 ∧ (pK S o2 = 13 ∧ (vp_in ((5 : Int32) * (pI S x0 7)) (pL S o2) ∧ (vp_in (((5 : Int32) * (pI S x0 7)) + (1 : Int32)) (pL S o2) ∧ (vp_in (((5 : Int32) * (pI S x0 7)) + (2 : Int32)) (pL S o2) ∧ (vp_in (((5 : Int32) * (pI S x0 7)) + (3 : Int32)) (pL S o2) ∧ (vp_in (((5 : Int32) * (pI S x0 7)) + (4 : Int32)) (pL S o2) ∧ (Q (sI (sI (sI (sI (sI (sI S o2 (((5 : Int32) * (pI S x0 7))).toNatClampNeg x1) o2 ((((5 : Int32) * (pI S x0 7)) + (1 : Int32))).toNatClampNeg x2) o2 ((((5 : Int32) * (pI S x0 7)) + (2 : Int32))).toNatClampNeg x3) o2 ((((5 : Int32) * (pI S x0 7)) + (3 : Int32))).toNatClampNeg (pI (sI (sI (sI S o2 (((5 : Int32) * (pI S x0 7))).toNatClampNeg x1) o2 ((((5 : Int32) * (pI S x0 7)) + (1 : Int32))).toNatClampNeg x2) o2 ((((5 : Int32) * (pI S x0 7)) + (2 : Int32))).toNatClampNeg x3) x0 8)) o2 ((((5 : Int32) * (pI S x0 7)) + (4 : Int32))).toNatClampNeg x4) x0 7 ((pI (sI (sI (sI (sI (sI S o2 (((5 : Int32) * (pI S x0 7))).toNatClampNeg x1) o2 ((((5 : Int32) * (pI S x0 7)) + (1 : Int32))).toNatClampNeg x2) o2 ((((5 : Int32) * (pI S x0 7)) + (2 : Int32))).toNatClampNeg x3) o2 ((((5 : Int32) * (pI S x0 7)) + (3 : Int32))).toNatClampNeg (pI (sI (sI (sI S o2 (((5 : Int32) * (pI S x0 7))).toNatClampNeg x1) o2 ((((5 : Int32) * (pI S x0 7)) + (1 : Int32))).toNatClampNeg x2) o2 ((((5 : Int32) * (pI S x0 7)) + (2 : Int32))).toNatClampNeg x3) x0 8)) o2 ((((5 : Int32) * (pI S x0 7)) + (4 : Int32))).toNatClampNeg x4) x0 7) + (1 : Int32))))))))))))
set_option maxRecDepth 100000 in
set_option maxHeartbeats 4000000 in
theorem ctX12_lays (l : Launch) (G : PG) (S : PS) (x0 : Nat) (x1 : Int32) (x2 : Int32) (x3 : Int32) (x4 : Int32) (Q : PS → Prop) (h : wpX12_lays S x0 x1 x2 x3 x4 Q) : mV l yX12_lays wsX12_lays rmX12_lays G S [.ref (G.2.2 + x0), .int x1, .int x2, .int x3, .int x4] Q := by
  unfold mV
  refine met_of (cc := cX12_lays) (maxL := 6) (ret := none) (by decide) rfl (Nat.le_of_ble_eq_true rfl) ?_
  intro p e s m args below meth c C hr hin
  unfold wpX12_lays at h
  show PW p l e _ s m args below meth c _ G 6 S 0 0 [(0, .ref (G.2.2 + x0)), (1, .int x1), (2, .int x2), (3, .int x3), (4, .int x4)] 0 []
  refine pw_iconst (pc := 0) (v := 5 ) C dX12_lays_0 (by decide) ?_
  refine pw_aload_n (pc := 1) C 0 dX12_lays_1 rfl rfl ?_
  obtain ⟨hk1, h⟩ := h
  refine pw_getI (pc := 2) (ref := "SupportSolverModel") (k := 7) (index := 73) C pCl10 iX12_lays_X12 hk1 rfl (by decide +kernel) (Or.inl rfl) dX12_lays_2 ?_
  refine pw_imul (pc := 5) C dX12_lays_5 ?_
  refine pw_istore (pc := 6) C [(5, .int ((5 : Int32) * (pI S x0 7))), (0, .ref (G.2.2 + x0)), (1, .int x1), (2, .int x2), (3, .int x3), (4, .int x4)] dX12_lays_6 (by decide) rfl ?_
  refine pw_aload_n (pc := 8) C 1 dX12_lays_8 rfl rfl ?_
  obtain ⟨o2, ho2, h⟩ := h
  refine pw_getR (pc := 9) (ref := "SupportSolverModel") (k := 4) (index := 19) C pCl10 iX12_lays_X12 hk1 rfl (by decide +kernel) (Or.inl rfl) (o := o2) ho2 dX12_lays_9 ?_
  refine pw_iload (pc := 12) C 0 dX12_lays_12 rfl ?_
  refine pw_iload_n (pc := 14) C 2 dX12_lays_14 rfl rfl ?_
  obtain ⟨hk3, h⟩ := h
  obtain ⟨hi4, h⟩ := h
  refine pw_iast (pc := 15) C hk3 hi4 dX12_lays_15 ?_
  refine pw_aload_n (pc := 16) (S := (sI S o2 (((5 : Int32) * (pI S x0 7))).toNatClampNeg x1)) C 1 dX12_lays_16 rfl rfl ?_
  refine pw_getR (pc := 17) (S := (sI S o2 (((5 : Int32) * (pI S x0 7))).toNatClampNeg x1)) (ref := "SupportSolverModel") (k := 4) (index := 19) C pCl10 iX12_lays_X12 hk1 rfl (by decide +kernel) (Or.inl rfl) (o := o2) ho2 dX12_lays_17 ?_
  refine pw_iload (pc := 20) (S := (sI S o2 (((5 : Int32) * (pI S x0 7))).toNatClampNeg x1)) C 0 dX12_lays_20 rfl ?_
  refine pw_iconst (pc := 22) (S := (sI S o2 (((5 : Int32) * (pI S x0 7))).toNatClampNeg x1)) (v := 1 ) C dX12_lays_22 (by decide) ?_
  refine pw_iadd (pc := 23) (S := (sI S o2 (((5 : Int32) * (pI S x0 7))).toNatClampNeg x1)) C dX12_lays_23 ?_
  refine pw_iload_n (pc := 24) (S := (sI S o2 (((5 : Int32) * (pI S x0 7))).toNatClampNeg x1)) C 3 dX12_lays_24 rfl rfl ?_
  obtain ⟨hi5, h⟩ := h
  refine pw_iast (pc := 25) (S := (sI S o2 (((5 : Int32) * (pI S x0 7))).toNatClampNeg x1)) C hk3 hi5 dX12_lays_25 ?_
  refine pw_aload_n (pc := 26) (S := (sI (sI S o2 (((5 : Int32) * (pI S x0 7))).toNatClampNeg x1) o2 ((((5 : Int32) * (pI S x0 7)) + (1 : Int32))).toNatClampNeg x2)) C 1 dX12_lays_26 rfl rfl ?_
  refine pw_getR (pc := 27) (S := (sI (sI S o2 (((5 : Int32) * (pI S x0 7))).toNatClampNeg x1) o2 ((((5 : Int32) * (pI S x0 7)) + (1 : Int32))).toNatClampNeg x2)) (ref := "SupportSolverModel") (k := 4) (index := 19) C pCl10 iX12_lays_X12 hk1 rfl (by decide +kernel) (Or.inl rfl) (o := o2) ho2 dX12_lays_27 ?_
  refine pw_iload (pc := 30) (S := (sI (sI S o2 (((5 : Int32) * (pI S x0 7))).toNatClampNeg x1) o2 ((((5 : Int32) * (pI S x0 7)) + (1 : Int32))).toNatClampNeg x2)) C 0 dX12_lays_30 rfl ?_
  refine pw_iconst (pc := 32) (S := (sI (sI S o2 (((5 : Int32) * (pI S x0 7))).toNatClampNeg x1) o2 ((((5 : Int32) * (pI S x0 7)) + (1 : Int32))).toNatClampNeg x2)) (v := 2 ) C dX12_lays_32 (by decide) ?_
  refine pw_iadd (pc := 33) (S := (sI (sI S o2 (((5 : Int32) * (pI S x0 7))).toNatClampNeg x1) o2 ((((5 : Int32) * (pI S x0 7)) + (1 : Int32))).toNatClampNeg x2)) C dX12_lays_33 ?_
  refine pw_iload_n (pc := 34) (S := (sI (sI S o2 (((5 : Int32) * (pI S x0 7))).toNatClampNeg x1) o2 ((((5 : Int32) * (pI S x0 7)) + (1 : Int32))).toNatClampNeg x2)) C 4 dX12_lays_34 rfl rfl ?_
  obtain ⟨hi6, h⟩ := h
  refine pw_iast (pc := 35) (S := (sI (sI S o2 (((5 : Int32) * (pI S x0 7))).toNatClampNeg x1) o2 ((((5 : Int32) * (pI S x0 7)) + (1 : Int32))).toNatClampNeg x2)) C hk3 hi6 dX12_lays_35 ?_
  refine pw_aload_n (pc := 36) (S := (sI (sI (sI S o2 (((5 : Int32) * (pI S x0 7))).toNatClampNeg x1) o2 ((((5 : Int32) * (pI S x0 7)) + (1 : Int32))).toNatClampNeg x2) o2 ((((5 : Int32) * (pI S x0 7)) + (2 : Int32))).toNatClampNeg x3)) C 1 dX12_lays_36 rfl rfl ?_
  refine pw_getR (pc := 37) (S := (sI (sI (sI S o2 (((5 : Int32) * (pI S x0 7))).toNatClampNeg x1) o2 ((((5 : Int32) * (pI S x0 7)) + (1 : Int32))).toNatClampNeg x2) o2 ((((5 : Int32) * (pI S x0 7)) + (2 : Int32))).toNatClampNeg x3)) (ref := "SupportSolverModel") (k := 4) (index := 19) C pCl10 iX12_lays_X12 hk1 rfl (by decide +kernel) (Or.inl rfl) (o := o2) ho2 dX12_lays_37 ?_
  refine pw_iload (pc := 40) (S := (sI (sI (sI S o2 (((5 : Int32) * (pI S x0 7))).toNatClampNeg x1) o2 ((((5 : Int32) * (pI S x0 7)) + (1 : Int32))).toNatClampNeg x2) o2 ((((5 : Int32) * (pI S x0 7)) + (2 : Int32))).toNatClampNeg x3)) C 0 dX12_lays_40 rfl ?_
  refine pw_iconst (pc := 42) (S := (sI (sI (sI S o2 (((5 : Int32) * (pI S x0 7))).toNatClampNeg x1) o2 ((((5 : Int32) * (pI S x0 7)) + (1 : Int32))).toNatClampNeg x2) o2 ((((5 : Int32) * (pI S x0 7)) + (2 : Int32))).toNatClampNeg x3)) (v := 3 ) C dX12_lays_42 (by decide) ?_
  refine pw_iadd (pc := 43) (S := (sI (sI (sI S o2 (((5 : Int32) * (pI S x0 7))).toNatClampNeg x1) o2 ((((5 : Int32) * (pI S x0 7)) + (1 : Int32))).toNatClampNeg x2) o2 ((((5 : Int32) * (pI S x0 7)) + (2 : Int32))).toNatClampNeg x3)) C dX12_lays_43 ?_
  refine pw_aload_n (pc := 44) (S := (sI (sI (sI S o2 (((5 : Int32) * (pI S x0 7))).toNatClampNeg x1) o2 ((((5 : Int32) * (pI S x0 7)) + (1 : Int32))).toNatClampNeg x2) o2 ((((5 : Int32) * (pI S x0 7)) + (2 : Int32))).toNatClampNeg x3)) C 1 dX12_lays_44 rfl rfl ?_
  refine pw_getI (pc := 45) (S := (sI (sI (sI S o2 (((5 : Int32) * (pI S x0 7))).toNatClampNeg x1) o2 ((((5 : Int32) * (pI S x0 7)) + (1 : Int32))).toNatClampNeg x2) o2 ((((5 : Int32) * (pI S x0 7)) + (2 : Int32))).toNatClampNeg x3)) (ref := "SupportSolverModel") (k := 8) (index := 76) C pCl10 iX12_lays_X12 hk1 rfl (by decide +kernel) (Or.inl rfl) dX12_lays_45 ?_
  obtain ⟨hi7, h⟩ := h
  refine pw_iast (pc := 48) (S := (sI (sI (sI S o2 (((5 : Int32) * (pI S x0 7))).toNatClampNeg x1) o2 ((((5 : Int32) * (pI S x0 7)) + (1 : Int32))).toNatClampNeg x2) o2 ((((5 : Int32) * (pI S x0 7)) + (2 : Int32))).toNatClampNeg x3)) C hk3 hi7 dX12_lays_48 ?_
  refine pw_aload_n (pc := 49) (S := (sI (sI (sI (sI S o2 (((5 : Int32) * (pI S x0 7))).toNatClampNeg x1) o2 ((((5 : Int32) * (pI S x0 7)) + (1 : Int32))).toNatClampNeg x2) o2 ((((5 : Int32) * (pI S x0 7)) + (2 : Int32))).toNatClampNeg x3) o2 ((((5 : Int32) * (pI S x0 7)) + (3 : Int32))).toNatClampNeg (pI (sI (sI (sI S o2 (((5 : Int32) * (pI S x0 7))).toNatClampNeg x1) o2 ((((5 : Int32) * (pI S x0 7)) + (1 : Int32))).toNatClampNeg x2) o2 ((((5 : Int32) * (pI S x0 7)) + (2 : Int32))).toNatClampNeg x3) x0 8))) C 1 dX12_lays_49 rfl rfl ?_
  refine pw_getR (pc := 50) (S := (sI (sI (sI (sI S o2 (((5 : Int32) * (pI S x0 7))).toNatClampNeg x1) o2 ((((5 : Int32) * (pI S x0 7)) + (1 : Int32))).toNatClampNeg x2) o2 ((((5 : Int32) * (pI S x0 7)) + (2 : Int32))).toNatClampNeg x3) o2 ((((5 : Int32) * (pI S x0 7)) + (3 : Int32))).toNatClampNeg (pI (sI (sI (sI S o2 (((5 : Int32) * (pI S x0 7))).toNatClampNeg x1) o2 ((((5 : Int32) * (pI S x0 7)) + (1 : Int32))).toNatClampNeg x2) o2 ((((5 : Int32) * (pI S x0 7)) + (2 : Int32))).toNatClampNeg x3) x0 8))) (ref := "SupportSolverModel") (k := 4) (index := 19) C pCl10 iX12_lays_X12 hk1 rfl (by decide +kernel) (Or.inl rfl) (o := o2) ho2 dX12_lays_50 ?_
  refine pw_iload (pc := 53) (S := (sI (sI (sI (sI S o2 (((5 : Int32) * (pI S x0 7))).toNatClampNeg x1) o2 ((((5 : Int32) * (pI S x0 7)) + (1 : Int32))).toNatClampNeg x2) o2 ((((5 : Int32) * (pI S x0 7)) + (2 : Int32))).toNatClampNeg x3) o2 ((((5 : Int32) * (pI S x0 7)) + (3 : Int32))).toNatClampNeg (pI (sI (sI (sI S o2 (((5 : Int32) * (pI S x0 7))).toNatClampNeg x1) o2 ((((5 : Int32) * (pI S x0 7)) + (1 : Int32))).toNatClampNeg x2) o2 ((((5 : Int32) * (pI S x0 7)) + (2 : Int32))).toNatClampNeg x3) x0 8))) C 0 dX12_lays_53 rfl ?_
  refine pw_iconst (pc := 55) (S := (sI (sI (sI (sI S o2 (((5 : Int32) * (pI S x0 7))).toNatClampNeg x1) o2 ((((5 : Int32) * (pI S x0 7)) + (1 : Int32))).toNatClampNeg x2) o2 ((((5 : Int32) * (pI S x0 7)) + (2 : Int32))).toNatClampNeg x3) o2 ((((5 : Int32) * (pI S x0 7)) + (3 : Int32))).toNatClampNeg (pI (sI (sI (sI S o2 (((5 : Int32) * (pI S x0 7))).toNatClampNeg x1) o2 ((((5 : Int32) * (pI S x0 7)) + (1 : Int32))).toNatClampNeg x2) o2 ((((5 : Int32) * (pI S x0 7)) + (2 : Int32))).toNatClampNeg x3) x0 8))) (v := 4 ) C dX12_lays_55 (by decide) ?_
  refine pw_iadd (pc := 56) (S := (sI (sI (sI (sI S o2 (((5 : Int32) * (pI S x0 7))).toNatClampNeg x1) o2 ((((5 : Int32) * (pI S x0 7)) + (1 : Int32))).toNatClampNeg x2) o2 ((((5 : Int32) * (pI S x0 7)) + (2 : Int32))).toNatClampNeg x3) o2 ((((5 : Int32) * (pI S x0 7)) + (3 : Int32))).toNatClampNeg (pI (sI (sI (sI S o2 (((5 : Int32) * (pI S x0 7))).toNatClampNeg x1) o2 ((((5 : Int32) * (pI S x0 7)) + (1 : Int32))).toNatClampNeg x2) o2 ((((5 : Int32) * (pI S x0 7)) + (2 : Int32))).toNatClampNeg x3) x0 8))) C dX12_lays_56 ?_
  refine pw_iload (pc := 57) (S := (sI (sI (sI (sI S o2 (((5 : Int32) * (pI S x0 7))).toNatClampNeg x1) o2 ((((5 : Int32) * (pI S x0 7)) + (1 : Int32))).toNatClampNeg x2) o2 ((((5 : Int32) * (pI S x0 7)) + (2 : Int32))).toNatClampNeg x3) o2 ((((5 : Int32) * (pI S x0 7)) + (3 : Int32))).toNatClampNeg (pI (sI (sI (sI S o2 (((5 : Int32) * (pI S x0 7))).toNatClampNeg x1) o2 ((((5 : Int32) * (pI S x0 7)) + (1 : Int32))).toNatClampNeg x2) o2 ((((5 : Int32) * (pI S x0 7)) + (2 : Int32))).toNatClampNeg x3) x0 8))) C 5 dX12_lays_57 rfl ?_
  obtain ⟨hi8, h⟩ := h
  refine pw_iast (pc := 59) (S := (sI (sI (sI (sI S o2 (((5 : Int32) * (pI S x0 7))).toNatClampNeg x1) o2 ((((5 : Int32) * (pI S x0 7)) + (1 : Int32))).toNatClampNeg x2) o2 ((((5 : Int32) * (pI S x0 7)) + (2 : Int32))).toNatClampNeg x3) o2 ((((5 : Int32) * (pI S x0 7)) + (3 : Int32))).toNatClampNeg (pI (sI (sI (sI S o2 (((5 : Int32) * (pI S x0 7))).toNatClampNeg x1) o2 ((((5 : Int32) * (pI S x0 7)) + (1 : Int32))).toNatClampNeg x2) o2 ((((5 : Int32) * (pI S x0 7)) + (2 : Int32))).toNatClampNeg x3) x0 8))) C hk3 hi8 dX12_lays_59 ?_
  refine pw_aload_n (pc := 60) (S := (sI (sI (sI (sI (sI S o2 (((5 : Int32) * (pI S x0 7))).toNatClampNeg x1) o2 ((((5 : Int32) * (pI S x0 7)) + (1 : Int32))).toNatClampNeg x2) o2 ((((5 : Int32) * (pI S x0 7)) + (2 : Int32))).toNatClampNeg x3) o2 ((((5 : Int32) * (pI S x0 7)) + (3 : Int32))).toNatClampNeg (pI (sI (sI (sI S o2 (((5 : Int32) * (pI S x0 7))).toNatClampNeg x1) o2 ((((5 : Int32) * (pI S x0 7)) + (1 : Int32))).toNatClampNeg x2) o2 ((((5 : Int32) * (pI S x0 7)) + (2 : Int32))).toNatClampNeg x3) x0 8)) o2 ((((5 : Int32) * (pI S x0 7)) + (4 : Int32))).toNatClampNeg x4)) C 1 dX12_lays_60 rfl rfl ?_
  refine pw_dup (pc := 61) (S := (sI (sI (sI (sI (sI S o2 (((5 : Int32) * (pI S x0 7))).toNatClampNeg x1) o2 ((((5 : Int32) * (pI S x0 7)) + (1 : Int32))).toNatClampNeg x2) o2 ((((5 : Int32) * (pI S x0 7)) + (2 : Int32))).toNatClampNeg x3) o2 ((((5 : Int32) * (pI S x0 7)) + (3 : Int32))).toNatClampNeg (pI (sI (sI (sI S o2 (((5 : Int32) * (pI S x0 7))).toNatClampNeg x1) o2 ((((5 : Int32) * (pI S x0 7)) + (1 : Int32))).toNatClampNeg x2) o2 ((((5 : Int32) * (pI S x0 7)) + (2 : Int32))).toNatClampNeg x3) x0 8)) o2 ((((5 : Int32) * (pI S x0 7)) + (4 : Int32))).toNatClampNeg x4)) C dX12_lays_61 rfl ?_
  refine pw_getI (pc := 62) (S := (sI (sI (sI (sI (sI S o2 (((5 : Int32) * (pI S x0 7))).toNatClampNeg x1) o2 ((((5 : Int32) * (pI S x0 7)) + (1 : Int32))).toNatClampNeg x2) o2 ((((5 : Int32) * (pI S x0 7)) + (2 : Int32))).toNatClampNeg x3) o2 ((((5 : Int32) * (pI S x0 7)) + (3 : Int32))).toNatClampNeg (pI (sI (sI (sI S o2 (((5 : Int32) * (pI S x0 7))).toNatClampNeg x1) o2 ((((5 : Int32) * (pI S x0 7)) + (1 : Int32))).toNatClampNeg x2) o2 ((((5 : Int32) * (pI S x0 7)) + (2 : Int32))).toNatClampNeg x3) x0 8)) o2 ((((5 : Int32) * (pI S x0 7)) + (4 : Int32))).toNatClampNeg x4)) (ref := "SupportSolverModel") (k := 7) (index := 73) C pCl10 iX12_lays_X12 hk1 rfl (by decide +kernel) (Or.inl rfl) dX12_lays_62 ?_
  refine pw_iconst (pc := 65) (S := (sI (sI (sI (sI (sI S o2 (((5 : Int32) * (pI S x0 7))).toNatClampNeg x1) o2 ((((5 : Int32) * (pI S x0 7)) + (1 : Int32))).toNatClampNeg x2) o2 ((((5 : Int32) * (pI S x0 7)) + (2 : Int32))).toNatClampNeg x3) o2 ((((5 : Int32) * (pI S x0 7)) + (3 : Int32))).toNatClampNeg (pI (sI (sI (sI S o2 (((5 : Int32) * (pI S x0 7))).toNatClampNeg x1) o2 ((((5 : Int32) * (pI S x0 7)) + (1 : Int32))).toNatClampNeg x2) o2 ((((5 : Int32) * (pI S x0 7)) + (2 : Int32))).toNatClampNeg x3) x0 8)) o2 ((((5 : Int32) * (pI S x0 7)) + (4 : Int32))).toNatClampNeg x4)) (v := 1 ) C dX12_lays_65 (by decide) ?_
  refine pw_iadd (pc := 66) (S := (sI (sI (sI (sI (sI S o2 (((5 : Int32) * (pI S x0 7))).toNatClampNeg x1) o2 ((((5 : Int32) * (pI S x0 7)) + (1 : Int32))).toNatClampNeg x2) o2 ((((5 : Int32) * (pI S x0 7)) + (2 : Int32))).toNatClampNeg x3) o2 ((((5 : Int32) * (pI S x0 7)) + (3 : Int32))).toNatClampNeg (pI (sI (sI (sI S o2 (((5 : Int32) * (pI S x0 7))).toNatClampNeg x1) o2 ((((5 : Int32) * (pI S x0 7)) + (1 : Int32))).toNatClampNeg x2) o2 ((((5 : Int32) * (pI S x0 7)) + (2 : Int32))).toNatClampNeg x3) x0 8)) o2 ((((5 : Int32) * (pI S x0 7)) + (4 : Int32))).toNatClampNeg x4)) C dX12_lays_66 ?_
  refine pw_putI (pc := 67) (S := (sI (sI (sI (sI (sI S o2 (((5 : Int32) * (pI S x0 7))).toNatClampNeg x1) o2 ((((5 : Int32) * (pI S x0 7)) + (1 : Int32))).toNatClampNeg x2) o2 ((((5 : Int32) * (pI S x0 7)) + (2 : Int32))).toNatClampNeg x3) o2 ((((5 : Int32) * (pI S x0 7)) + (3 : Int32))).toNatClampNeg (pI (sI (sI (sI S o2 (((5 : Int32) * (pI S x0 7))).toNatClampNeg x1) o2 ((((5 : Int32) * (pI S x0 7)) + (1 : Int32))).toNatClampNeg x2) o2 ((((5 : Int32) * (pI S x0 7)) + (2 : Int32))).toNatClampNeg x3) x0 8)) o2 ((((5 : Int32) * (pI S x0 7)) + (4 : Int32))).toNatClampNeg x4)) (ref := "SupportSolverModel") (k := 7) (index := 73) C pCl10 iX12_lays_X12 hk1 rfl (by decide +kernel) (Or.inl rfl) (Or.inl rfl) rfl rfl dX12_lays_67 ?_
  exact pw_vret (pc := 70) (S := (sI (sI (sI (sI (sI (sI S o2 (((5 : Int32) * (pI S x0 7))).toNatClampNeg x1) o2 ((((5 : Int32) * (pI S x0 7)) + (1 : Int32))).toNatClampNeg x2) o2 ((((5 : Int32) * (pI S x0 7)) + (2 : Int32))).toNatClampNeg x3) o2 ((((5 : Int32) * (pI S x0 7)) + (3 : Int32))).toNatClampNeg (pI (sI (sI (sI S o2 (((5 : Int32) * (pI S x0 7))).toNatClampNeg x1) o2 ((((5 : Int32) * (pI S x0 7)) + (1 : Int32))).toNatClampNeg x2) o2 ((((5 : Int32) * (pI S x0 7)) + (2 : Int32))).toNatClampNeg x3) x0 8)) o2 ((((5 : Int32) * (pI S x0 7)) + (4 : Int32))).toNatClampNeg x4) x0 7 ((pI (sI (sI (sI (sI (sI S o2 (((5 : Int32) * (pI S x0 7))).toNatClampNeg x1) o2 ((((5 : Int32) * (pI S x0 7)) + (1 : Int32))).toNatClampNeg x2) o2 ((((5 : Int32) * (pI S x0 7)) + (2 : Int32))).toNatClampNeg x3) o2 ((((5 : Int32) * (pI S x0 7)) + (3 : Int32))).toNatClampNeg (pI (sI (sI (sI S o2 (((5 : Int32) * (pI S x0 7))).toNatClampNeg x1) o2 ((((5 : Int32) * (pI S x0 7)) + (1 : Int32))).toNatClampNeg x2) o2 ((((5 : Int32) * (pI S x0 7)) + (2 : Int32))).toNatClampNeg x3) x0 8)) o2 ((((5 : Int32) * (pI S x0 7)) + (4 : Int32))).toNatClampNeg x4) x0 7) + (1 : Int32)))) C hr h dX12_lays_70

abbrev rmX12_sweepsOne : Room := { frames := 4, cells := 0, slots := 0, locals := 103 }
def wpX12_sweepsOne_b110 (K6 : PS → Nat → Int32 → Nat → Int32 → Int32 → Int32 → Prop) (K28 : PS → Nat → Int32 → Nat → Int32 → Int32 → Int32 → Int32 → Int32 → Prop) (Q : Int32 → PS → Prop) (S : PS) (x0 : Nat) (x1 : Int32) (x2 : Nat) (x3 : Int32) (x4 : Int32) (x5 : Int32) (x6 : Int32) (x7 : Int32) : Prop := (pK S x2 = 13 ∧ (vp_in x6 (pL S x2) ∧ ((¬ (pI S x2 (x6).toNatClampNeg) = 0 → (K28 S x0 x1 x2 x3 x4 x5 x6 (x7 + 1))) ∧ ((pI S x2 (x6).toNatClampNeg) = 0 → (Q (-1 : Int32) S)))))
def wpX12_sweepsOne_b107 (K6 : PS → Nat → Int32 → Nat → Int32 → Int32 → Int32 → Prop) (K28 : PS → Nat → Int32 → Nat → Int32 → Int32 → Int32 → Int32 → Int32 → Prop) (Q : Int32 → PS → Prop) (S : PS) (x0 : Nat) (x1 : Int32) (x2 : Nat) (x3 : Int32) (x4 : Int32) (x5 : Int32) (x6 : Int32) (x7 : Int32) (t0 : Nat) (t1 : Int32) (t2 : Int32) (t3 : Int32) (t4 : Int32) : Prop := (pK S t0 = 11 ∧ (wpX12_lays S t0 t1 t2 t3 t4 (fun S5 => (wpX12_sweepsOne_b110 K6 K28 Q S5 x0 x1 x2 x3 x4 x5 x6 x7))))
def wpX12_sweepsOne_b97 (K6 : PS → Nat → Int32 → Nat → Int32 → Int32 → Int32 → Prop) (K28 : PS → Nat → Int32 → Nat → Int32 → Int32 → Int32 → Int32 → Int32 → Prop) (Q : Int32 → PS → Prop) (S : PS) (x0 : Nat) (x1 : Int32) (x2 : Nat) (x3 : Int32) (x4 : Int32) (x5 : Int32) (x6 : Int32) (x7 : Int32) (t0 : Nat) (t1 : Int32) (t2 : Int32) (t3 : Int32) : Prop := ((0 ≤ x1 → (wpX12_sweepsOne_b107 K6 K28 Q S x0 x1 x2 x3 x4 x5 x6 x7 t0 t1 t2 t3 (0 : Int32))) ∧ (¬ 0 ≤ x1 → (wpX12_sweepsOne_b107 K6 K28 Q S x0 x1 x2 x3 x4 x5 x6 x7 t0 t1 t2 t3 (-x1))))
def wpX12_sweepsOne_b28 (K6 : PS → Nat → Int32 → Nat → Int32 → Int32 → Int32 → Prop) (Q : Int32 → PS → Prop) : Nat → PS → Nat → Int32 → Nat → Int32 → Int32 → Int32 → Int32 → Int32 → Prop
  | 0 => fun _ _ _ _ _ _ _ _ _ => False
  | n + 1 => fun S x0 x1 x2 x3 x4 x5 x6 x7 => (((5 : Int32) ≤ x7 → (K6 S x0 x1 x2 x3 x4 (x5 + 1))) ∧ (¬ (5 : Int32) ≤ x7 → (pK S x2 = 13 ∧ (vp_in x6 (pL S x2) ∧ (wpX12_has S (pI S x2 (x6).toNatClampNeg) x7 (fun r8 S9 => ((r8 = 0 → (wpX12_sweepsOne_b28 K6 Q n S9 x0 x1 x2 x3 x4 x5 x6 (x7 + 1))) ∧ (¬ r8 = 0 → (pK S9 x0 = 11 ∧ (wpX12_hasSupport S9 x0 x1 x6 x7 x2 (fun r11 S12 => ((r11 = 0 → (pK S12 x2 = 13 ∧ (vp_in x6 (pL S12 x2) ∧ (vp_in x6 (pL S12 x2) ∧ ((x3 = 0 → (wpX12_sweepsOne_b110 K6 (wpX12_sweepsOne_b28 K6 Q n) Q (sI S12 x2 (x6).toNatClampNeg ((pI S12 x2 (x6).toNatClampNeg) &&& (((1 : Int32) <<< (x7 &&& 31)) ^^^ (-1 : Int32)))) x0 x1 x2 x3 (x4 + 1) x5 x6 x7)) ∧ (¬ x3 = 0 → ((0 ≤ x1 → (wpX12_sweepsOne_b97 K6 (wpX12_sweepsOne_b28 K6 Q n) Q (sI S12 x2 (x6).toNatClampNeg ((pI S12 x2 (x6).toNatClampNeg) &&& (((1 : Int32) <<< (x7 &&& 31)) ^^^ (-1 : Int32)))) x0 x1 x2 x3 (x4 + 1) x5 x6 x7 x0 x6 x7 x1)) ∧ (¬ 0 ≤ x1 → (wpX12_sweepsOne_b97 K6 (wpX12_sweepsOne_b28 K6 Q n) Q (sI S12 x2 (x6).toNatClampNeg ((pI S12 x2 (x6).toNatClampNeg) &&& (((1 : Int32) <<< (x7 &&& 31)) ^^^ (-1 : Int32)))) x0 x1 x2 x3 (x4 + 1) x5 x6 x7 x0 x6 x7 (100 : Int32)))))))))) ∧ (¬ r11 = 0 → (wpX12_sweepsOne_b28 K6 Q n S12 x0 x1 x2 x3 x4 x5 x6 (x7 + 1)))))))))))))))
def wpX12_sweepsOne_b6  (Q : Int32 → PS → Prop) : Nat → PS → Nat → Int32 → Nat → Int32 → Int32 → Int32 → Prop
  | 0 => fun _ _ _ _ _ _ _ => False
  | n + 1 => fun S x0 x1 x2 x3 x4 x5 => (pK S x0 = 11 ∧ (wpX12_manyIn S x0 x1 (fun r17 S18 => ((r17 ≤ x5 → (Q x4 S18)) ∧ (¬ r17 ≤ x5 → (pK S18 x0 = 11 ∧ (wpX12_memberOf S18 x0 x1 x5 (fun r20 S21 => (∃ n9 : Nat, wpX12_sweepsOne_b28 (wpX12_sweepsOne_b6 Q n) Q n9 S21 x0 x1 x2 x3 x4 x5 r20 (0 : Int32))))))))))
def wpX12_sweepsOne (S : PS) (x0 : Nat) (x1 : Int32) (x2 : Nat) (x3 : Int32) (Q : Int32 → PS → Prop) : Prop := (∃ n9 : Nat, wpX12_sweepsOne_b6 Q n9 S x0 x1 x2 x3 (0 : Int32) (0 : Int32))
set_option maxRecDepth 100000 in
set_option maxHeartbeats 4000000 in
theorem cbX12_sweepsOne_b110 {p : Program} {l : Launch} {e : Env} {s : State} {m : MethodId} {args : Array Value} {below : List Frame} {meth : Method} {c : Code} {G : PG} {Q : Int32 → PS → Prop} (C : pCx p s m args meth c G cX12_sweepsOne 8 yX12_sweepsOne.cls wsX12_sweepsOne) (hr : meth.sig.returnType = (some .int)) (hin : meth.name = yX12_sweepsOne.name) {K6 : PS → Nat → Int32 → Nat → Int32 → Int32 → Int32 → Prop} (hK6 : ∀ (S : PS) (x0 : Nat) (x1 : Int32) (x2 : Nat) (x3 : Int32) (x4 : Int32) (x5 : Int32), K6 S x0 x1 x2 x3 x4 x5 → PW p l e rmX12_sweepsOne s m args below meth c (MQ below (va_Qi Q (pB G) (pFr G)) args s rmX12_sweepsOne.cells rmX12_sweepsOne.slots (pFr G)) G 8 S 0 0 [(0, .ref (G.2.2 + x0)), (1, .int x1), (2, .ref (G.2.2 + x2)), (3, .int x3), (4, .int x4), (5, .int x5)] 6 ([])) {K28 : PS → Nat → Int32 → Nat → Int32 → Int32 → Int32 → Int32 → Int32 → Prop} (hK28 : ∀ (S : PS) (x0 : Nat) (x1 : Int32) (x2 : Nat) (x3 : Int32) (x4 : Int32) (x5 : Int32) (x6 : Int32) (x7 : Int32), K28 S x0 x1 x2 x3 x4 x5 x6 x7 → PW p l e rmX12_sweepsOne s m args below meth c (MQ below (va_Qi Q (pB G) (pFr G)) args s rmX12_sweepsOne.cells rmX12_sweepsOne.slots (pFr G)) G 8 S 0 0 [(0, .ref (G.2.2 + x0)), (1, .int x1), (2, .ref (G.2.2 + x2)), (3, .int x3), (4, .int x4), (5, .int x5), (6, .int x6), (7, .int x7)] 28 ([])) : ∀ (S : PS) (x0 : Nat) (x1 : Int32) (x2 : Nat) (x3 : Int32) (x4 : Int32) (x5 : Int32) (x6 : Int32) (x7 : Int32), wpX12_sweepsOne_b110 K6 K28 Q S x0 x1 x2 x3 x4 x5 x6 x7 → PW p l e rmX12_sweepsOne s m args below meth c (MQ below (va_Qi Q (pB G) (pFr G)) args s rmX12_sweepsOne.cells rmX12_sweepsOne.slots (pFr G)) G 8 S 0 0 [(0, .ref (G.2.2 + x0)), (1, .int x1), (2, .ref (G.2.2 + x2)), (3, .int x3), (4, .int x4), (5, .int x5), (6, .int x6), (7, .int x7)] 110 ([]) := by
  intro S x0 x1 x2 x3 x4 x5 x6 x7 h
  unfold wpX12_sweepsOne_b110 at h
  refine pw_aload_n (pc := 110) C 2 dX12_sweepsOne_110 rfl rfl ?_
  refine pw_iload (pc := 111) C 6 dX12_sweepsOne_111 rfl ?_
  obtain ⟨hk1, h⟩ := h
  obtain ⟨hi2, h⟩ := h
  refine pw_iald (pc := 113) C hk1 hi2 dX12_sweepsOne_113 ?_
  refine pw_if_ne (pc := 114) (tgt := 119) C dX12_sweepsOne_114 rfl ⟨fun hc => ?_, fun hc => ?_⟩
  · replace h := h.1 hc
    refine pw_iincK (pc := 119) (w := 1) C [(7, .int (x7 + 1)), (0, .ref (G.2.2 + x0)), (1, .int x1), (2, .ref (G.2.2 + x2)), (3, .int x3), (4, .int x4), (5, .int x5), (6, .int x6)] 7 dX12_sweepsOne_119 (by decide) rfl (by decide) rfl ?_
    refine pw_goto (pc := 122) (tgt := 28) C dX12_sweepsOne_122 rfl ?_
    refine pw_sub [1, 2, 3, 4, 5, 6, 7, 0] (LV2 := [(0, .ref (G.2.2 + x0)), (1, .int x1), (2, .ref (G.2.2 + x2)), (3, .int x3), (4, .int x4), (5, .int x5), (6, .int x6), (7, .int (x7 + 1))]) rfl ?_
    exact hK28 _ _ _ _ _ _ _ _ _ h
  · replace h := h.2 hc
    refine pw_iconst (pc := 117) (v := (-1)) C dX12_sweepsOne_117 (by decide) ?_
    exact pw_iret (pc := 118) C hr h dX12_sweepsOne_118
set_option maxRecDepth 100000 in
set_option maxHeartbeats 4000000 in
theorem cbX12_sweepsOne_b107 {p : Program} {l : Launch} {e : Env} {s : State} {m : MethodId} {args : Array Value} {below : List Frame} {meth : Method} {c : Code} {G : PG} {Q : Int32 → PS → Prop} (C : pCx p s m args meth c G cX12_sweepsOne 8 yX12_sweepsOne.cls wsX12_sweepsOne) (hr : meth.sig.returnType = (some .int)) (hin : meth.name = yX12_sweepsOne.name) {K6 : PS → Nat → Int32 → Nat → Int32 → Int32 → Int32 → Prop} (hK6 : ∀ (S : PS) (x0 : Nat) (x1 : Int32) (x2 : Nat) (x3 : Int32) (x4 : Int32) (x5 : Int32), K6 S x0 x1 x2 x3 x4 x5 → PW p l e rmX12_sweepsOne s m args below meth c (MQ below (va_Qi Q (pB G) (pFr G)) args s rmX12_sweepsOne.cells rmX12_sweepsOne.slots (pFr G)) G 8 S 0 0 [(0, .ref (G.2.2 + x0)), (1, .int x1), (2, .ref (G.2.2 + x2)), (3, .int x3), (4, .int x4), (5, .int x5)] 6 ([])) {K28 : PS → Nat → Int32 → Nat → Int32 → Int32 → Int32 → Int32 → Int32 → Prop} (hK28 : ∀ (S : PS) (x0 : Nat) (x1 : Int32) (x2 : Nat) (x3 : Int32) (x4 : Int32) (x5 : Int32) (x6 : Int32) (x7 : Int32), K28 S x0 x1 x2 x3 x4 x5 x6 x7 → PW p l e rmX12_sweepsOne s m args below meth c (MQ below (va_Qi Q (pB G) (pFr G)) args s rmX12_sweepsOne.cells rmX12_sweepsOne.slots (pFr G)) G 8 S 0 0 [(0, .ref (G.2.2 + x0)), (1, .int x1), (2, .ref (G.2.2 + x2)), (3, .int x3), (4, .int x4), (5, .int x5), (6, .int x6), (7, .int x7)] 28 ([])) : ∀ (S : PS) (x0 : Nat) (x1 : Int32) (x2 : Nat) (x3 : Int32) (x4 : Int32) (x5 : Int32) (x6 : Int32) (x7 : Int32) (t0 : Nat) (t1 : Int32) (t2 : Int32) (t3 : Int32) (t4 : Int32), wpX12_sweepsOne_b107 K6 K28 Q S x0 x1 x2 x3 x4 x5 x6 x7 t0 t1 t2 t3 t4 → PW p l e rmX12_sweepsOne s m args below meth c (MQ below (va_Qi Q (pB G) (pFr G)) args s rmX12_sweepsOne.cells rmX12_sweepsOne.slots (pFr G)) G 8 S 0 0 [(0, .ref (G.2.2 + x0)), (1, .int x1), (2, .ref (G.2.2 + x2)), (3, .int x3), (4, .int x4), (5, .int x5), (6, .int x6), (7, .int x7)] 107 (.int t4 :: .int t3 :: .int t2 :: .int t1 :: .ref (G.2.2 + t0) :: []) := by
  intro S x0 x1 x2 x3 x4 x5 x6 x7 t0 t1 t2 t3 t4 h
  unfold wpX12_sweepsOne_b107 at h
  obtain ⟨hk3, h⟩ := h
  refine pw_callv (pc := 107) (kc2 := 0) (kn2 := 0) (pRunV (pc := 107) C (ctX12_lays l G  _ t0 t1 t2 t3 t4 _ h) (cwV 4 C.2.2.2.2.1 gX12_sweepsOne_X12_lays rfl rfl rfl (by decide +kernel) ⟨Nat.le_of_ble_eq_true rfl, Nat.le_of_ble_eq_true rfl⟩) pCl10 hk3 rfl rfl (Nat.le_of_ble_eq_true rfl) dX12_sweepsOne_107 ⟨Nat.le_of_ble_eq_true rfl, Nat.le_of_ble_eq_true rfl⟩) rfl rfl (fun S5 h => ?_)
  exact cbX12_sweepsOne_b110 C hr hin hK6 hK28 _ _ _ _ _ _ _ _ _ h
set_option maxRecDepth 100000 in
set_option maxHeartbeats 4000000 in
theorem cbX12_sweepsOne_b97 {p : Program} {l : Launch} {e : Env} {s : State} {m : MethodId} {args : Array Value} {below : List Frame} {meth : Method} {c : Code} {G : PG} {Q : Int32 → PS → Prop} (C : pCx p s m args meth c G cX12_sweepsOne 8 yX12_sweepsOne.cls wsX12_sweepsOne) (hr : meth.sig.returnType = (some .int)) (hin : meth.name = yX12_sweepsOne.name) {K6 : PS → Nat → Int32 → Nat → Int32 → Int32 → Int32 → Prop} (hK6 : ∀ (S : PS) (x0 : Nat) (x1 : Int32) (x2 : Nat) (x3 : Int32) (x4 : Int32) (x5 : Int32), K6 S x0 x1 x2 x3 x4 x5 → PW p l e rmX12_sweepsOne s m args below meth c (MQ below (va_Qi Q (pB G) (pFr G)) args s rmX12_sweepsOne.cells rmX12_sweepsOne.slots (pFr G)) G 8 S 0 0 [(0, .ref (G.2.2 + x0)), (1, .int x1), (2, .ref (G.2.2 + x2)), (3, .int x3), (4, .int x4), (5, .int x5)] 6 ([])) {K28 : PS → Nat → Int32 → Nat → Int32 → Int32 → Int32 → Int32 → Int32 → Prop} (hK28 : ∀ (S : PS) (x0 : Nat) (x1 : Int32) (x2 : Nat) (x3 : Int32) (x4 : Int32) (x5 : Int32) (x6 : Int32) (x7 : Int32), K28 S x0 x1 x2 x3 x4 x5 x6 x7 → PW p l e rmX12_sweepsOne s m args below meth c (MQ below (va_Qi Q (pB G) (pFr G)) args s rmX12_sweepsOne.cells rmX12_sweepsOne.slots (pFr G)) G 8 S 0 0 [(0, .ref (G.2.2 + x0)), (1, .int x1), (2, .ref (G.2.2 + x2)), (3, .int x3), (4, .int x4), (5, .int x5), (6, .int x6), (7, .int x7)] 28 ([])) : ∀ (S : PS) (x0 : Nat) (x1 : Int32) (x2 : Nat) (x3 : Int32) (x4 : Int32) (x5 : Int32) (x6 : Int32) (x7 : Int32) (t0 : Nat) (t1 : Int32) (t2 : Int32) (t3 : Int32), wpX12_sweepsOne_b97 K6 K28 Q S x0 x1 x2 x3 x4 x5 x6 x7 t0 t1 t2 t3 → PW p l e rmX12_sweepsOne s m args below meth c (MQ below (va_Qi Q (pB G) (pFr G)) args s rmX12_sweepsOne.cells rmX12_sweepsOne.slots (pFr G)) G 8 S 0 0 [(0, .ref (G.2.2 + x0)), (1, .int x1), (2, .ref (G.2.2 + x2)), (3, .int x3), (4, .int x4), (5, .int x5), (6, .int x6), (7, .int x7)] 97 (.int t3 :: .int t2 :: .int t1 :: .ref (G.2.2 + t0) :: []) := by
  intro S x0 x1 x2 x3 x4 x5 x6 x7 t0 t1 t2 t3 h
  unfold wpX12_sweepsOne_b97 at h
  refine pw_iload_n (pc := 97) C 1 dX12_sweepsOne_97 rfl rfl ?_
  refine pw_if_ge (pc := 98) (tgt := 106) C dX12_sweepsOne_98 rfl ⟨fun hc => ?_, fun hc => ?_⟩
  · replace h := h.1 hc
    refine pw_iconst (pc := 106) (v := 0 ) C dX12_sweepsOne_106 (by decide) ?_
    exact cbX12_sweepsOne_b107 C hr hin hK6 hK28 _ _ _ _ _ _ _ _ _ _ _ _ _ _ h
  · replace h := h.2 hc
    refine pw_iload_n (pc := 101) C 1 dX12_sweepsOne_101 rfl rfl ?_
    refine pw_ineg (pc := 102) C dX12_sweepsOne_102 ?_
    refine pw_goto (pc := 103) (tgt := 107) C dX12_sweepsOne_103 rfl ?_
    exact cbX12_sweepsOne_b107 C hr hin hK6 hK28 _ _ _ _ _ _ _ _ _ _ _ _ _ _ h
set_option maxRecDepth 100000 in
set_option maxHeartbeats 4000000 in
theorem cbX12_sweepsOne_b28 {p : Program} {l : Launch} {e : Env} {s : State} {m : MethodId} {args : Array Value} {below : List Frame} {meth : Method} {c : Code} {G : PG} {Q : Int32 → PS → Prop} (C : pCx p s m args meth c G cX12_sweepsOne 8 yX12_sweepsOne.cls wsX12_sweepsOne) (hr : meth.sig.returnType = (some .int)) (hin : meth.name = yX12_sweepsOne.name) {K6 : PS → Nat → Int32 → Nat → Int32 → Int32 → Int32 → Prop} (hK6 : ∀ (S : PS) (x0 : Nat) (x1 : Int32) (x2 : Nat) (x3 : Int32) (x4 : Int32) (x5 : Int32), K6 S x0 x1 x2 x3 x4 x5 → PW p l e rmX12_sweepsOne s m args below meth c (MQ below (va_Qi Q (pB G) (pFr G)) args s rmX12_sweepsOne.cells rmX12_sweepsOne.slots (pFr G)) G 8 S 0 0 [(0, .ref (G.2.2 + x0)), (1, .int x1), (2, .ref (G.2.2 + x2)), (3, .int x3), (4, .int x4), (5, .int x5)] 6 ([])) (n : Nat) : ∀ (S : PS) (x0 : Nat) (x1 : Int32) (x2 : Nat) (x3 : Int32) (x4 : Int32) (x5 : Int32) (x6 : Int32) (x7 : Int32), wpX12_sweepsOne_b28 K6 Q n S x0 x1 x2 x3 x4 x5 x6 x7 → PW p l e rmX12_sweepsOne s m args below meth c (MQ below (va_Qi Q (pB G) (pFr G)) args s rmX12_sweepsOne.cells rmX12_sweepsOne.slots (pFr G)) G 8 S 0 0 [(0, .ref (G.2.2 + x0)), (1, .int x1), (2, .ref (G.2.2 + x2)), (3, .int x3), (4, .int x4), (5, .int x5), (6, .int x6), (7, .int x7)] 28 ([]) := by
  induction n with
  | zero => intro S x0 x1 x2 x3 x4 x5 x6 x7 h; exact h.elim
  | succ n ih =>
    intro S x0 x1 x2 x3 x4 x5 x6 x7 h
    unfold wpX12_sweepsOne_b28 at h
    refine pw_iload (pc := 28) C 7 dX12_sweepsOne_28 rfl ?_
    refine pw_iconst (pc := 30) (v := 5 ) C dX12_sweepsOne_30 (by decide) ?_
    refine pw_icmp_ge (pc := 31) (tgt := 125) C dX12_sweepsOne_31 rfl ⟨fun hc => ?_, fun hc => ?_⟩
    · replace h := h.1 hc
      refine pw_iincK (pc := 125) (w := 1) C [(5, .int (x5 + 1)), (0, .ref (G.2.2 + x0)), (1, .int x1), (2, .ref (G.2.2 + x2)), (3, .int x3), (4, .int x4), (6, .int x6), (7, .int x7)] 5 dX12_sweepsOne_125 (by decide) rfl (by decide) rfl ?_
      refine pw_goto (pc := 128) (tgt := 6) C dX12_sweepsOne_128 rfl ?_
      refine pw_sub [1, 2, 3, 4, 5, 0] (LV2 := [(0, .ref (G.2.2 + x0)), (1, .int x1), (2, .ref (G.2.2 + x2)), (3, .int x3), (4, .int x4), (5, .int (x5 + 1))]) rfl ?_
      exact hK6 _ _ _ _ _ _ _ h
    · replace h := h.2 hc
      refine pw_aload_n (pc := 34) C 2 dX12_sweepsOne_34 rfl rfl ?_
      refine pw_iload (pc := 35) C 6 dX12_sweepsOne_35 rfl ?_
      obtain ⟨hk6, h⟩ := h
      obtain ⟨hi7, h⟩ := h
      refine pw_iald (pc := 37) C hk6 hi7 dX12_sweepsOne_37 ?_
      refine pw_iload (pc := 38) C 7 dX12_sweepsOne_38 rfl ?_
      refine pw_calli (pc := 40) (kc2 := 0) (kn2 := 0) (pRunS (pc := 40) C (ctX12_has l G  _ (pI S x2 (x6).toNatClampNeg) x7 _ h) (va_cwS 2 C.2.2.2.2.1 gX12_sweepsOne_X12_has rfl rfl rfl (by decide +kernel) ⟨Nat.le_of_ble_eq_true rfl, Nat.le_of_ble_eq_true rfl⟩) rfl rfl (Nat.le_of_ble_eq_true rfl) dX12_sweepsOne_40 ⟨Nat.le_of_ble_eq_true rfl, Nat.le_of_ble_eq_true rfl⟩) rfl rfl (fun r8 S9 h => ?_)
      refine pw_if_eq (pc := 43) (tgt := 119) C dX12_sweepsOne_43 rfl ⟨fun hc => ?_, fun hc => ?_⟩
      · replace h := h.1 hc
        refine pw_iincK (pc := 119) (w := 1) C [(7, .int (x7 + 1)), (0, .ref (G.2.2 + x0)), (1, .int x1), (2, .ref (G.2.2 + x2)), (3, .int x3), (4, .int x4), (5, .int x5), (6, .int x6)] 7 dX12_sweepsOne_119 (by decide) rfl (by decide) rfl ?_
        refine pw_goto (pc := 122) (tgt := 28) C dX12_sweepsOne_122 rfl ?_
        refine pw_sub [1, 2, 3, 4, 5, 6, 7, 0] (LV2 := [(0, .ref (G.2.2 + x0)), (1, .int x1), (2, .ref (G.2.2 + x2)), (3, .int x3), (4, .int x4), (5, .int x5), (6, .int x6), (7, .int (x7 + 1))]) rfl ?_
        exact ih _ _ _ _ _ _ _ _ _ h
      · replace h := h.2 hc
        refine pw_aload_n (pc := 46) C 0 dX12_sweepsOne_46 rfl rfl ?_
        refine pw_iload_n (pc := 47) C 1 dX12_sweepsOne_47 rfl rfl ?_
        refine pw_iload (pc := 48) C 6 dX12_sweepsOne_48 rfl ?_
        refine pw_iload (pc := 50) C 7 dX12_sweepsOne_50 rfl ?_
        refine pw_aload_n (pc := 52) C 2 dX12_sweepsOne_52 rfl rfl ?_
        obtain ⟨hk10, h⟩ := h
        refine pw_calli (pc := 53) (kc2 := 0) (kn2 := 0) (pRunV (pc := 53) C (ctX12_hasSupport l G  _ x0 x1 x6 x7 x2 _ h) (cwV 4 C.2.2.2.2.1 gX12_sweepsOne_X12_hasSupport rfl rfl rfl (by decide +kernel) ⟨Nat.le_of_ble_eq_true rfl, Nat.le_of_ble_eq_true rfl⟩) pCl10 hk10 rfl rfl (Nat.le_of_ble_eq_true rfl) dX12_sweepsOne_53 ⟨Nat.le_of_ble_eq_true rfl, Nat.le_of_ble_eq_true rfl⟩) rfl rfl (fun r11 S12 h => ?_)
        refine pw_if_eq (pc := 56) (tgt := 62) C dX12_sweepsOne_56 rfl ⟨fun hc => ?_, fun hc => ?_⟩
        · replace h := h.1 hc
          refine pw_aload_n (pc := 62) C 2 dX12_sweepsOne_62 rfl rfl ?_
          refine pw_iload (pc := 63) C 6 dX12_sweepsOne_63 rfl ?_
          refine pw_dup2_11 (pc := 65) C dX12_sweepsOne_65 rfl rfl ?_
          obtain ⟨hk13, h⟩ := h
          obtain ⟨hi14, h⟩ := h
          refine pw_iald (pc := 66) C hk13 hi14 dX12_sweepsOne_66 ?_
          refine pw_iconst (pc := 67) (v := 1 ) C dX12_sweepsOne_67 (by decide) ?_
          refine pw_iload (pc := 68) C 7 dX12_sweepsOne_68 rfl ?_
          refine pw_ishl (pc := 70) C dX12_sweepsOne_70 ?_
          refine pw_iconst (pc := 71) (v := (-1)) C dX12_sweepsOne_71 (by decide) ?_
          refine pw_ixor (pc := 72) C dX12_sweepsOne_72 ?_
          refine pw_iand (pc := 73) C dX12_sweepsOne_73 ?_
          obtain ⟨hi15, h⟩ := h
          refine pw_iast (pc := 74) C hk13 hi15 dX12_sweepsOne_74 ?_
          refine pw_iincK (pc := 75) (S := (sI S12 x2 (x6).toNatClampNeg ((pI S12 x2 (x6).toNatClampNeg) &&& (((1 : Int32) <<< (x7 &&& 31)) ^^^ (-1 : Int32))))) (w := 1) C [(4, .int (x4 + 1)), (0, .ref (G.2.2 + x0)), (1, .int x1), (2, .ref (G.2.2 + x2)), (3, .int x3), (5, .int x5), (6, .int x6), (7, .int x7)] 4 dX12_sweepsOne_75 (by decide) rfl (by decide) rfl ?_
          refine pw_iload_n (pc := 78) (S := (sI S12 x2 (x6).toNatClampNeg ((pI S12 x2 (x6).toNatClampNeg) &&& (((1 : Int32) <<< (x7 &&& 31)) ^^^ (-1 : Int32))))) C 4 dX12_sweepsOne_78 rfl rfl ?_
          refine pw_if_eq (pc := 79) (S := (sI S12 x2 (x6).toNatClampNeg ((pI S12 x2 (x6).toNatClampNeg) &&& (((1 : Int32) <<< (x7 &&& 31)) ^^^ (-1 : Int32))))) (tgt := 110) C dX12_sweepsOne_79 rfl ⟨fun hc => ?_, fun hc => ?_⟩
          · replace h := h.1 hc
            refine pw_sub [1, 2, 3, 4, 0, 5, 6, 7] (LV2 := [(0, .ref (G.2.2 + x0)), (1, .int x1), (2, .ref (G.2.2 + x2)), (3, .int x3), (4, .int (x4 + 1)), (5, .int x5), (6, .int x6), (7, .int x7)]) rfl ?_
            exact cbX12_sweepsOne_b110 C hr hin hK6 ih _ _ _ _ _ _ _ _ _ h
          · replace h := h.2 hc
            refine pw_aload_n (pc := 82) (S := (sI S12 x2 (x6).toNatClampNeg ((pI S12 x2 (x6).toNatClampNeg) &&& (((1 : Int32) <<< (x7 &&& 31)) ^^^ (-1 : Int32))))) C 1 dX12_sweepsOne_82 rfl rfl ?_
            refine pw_iload (pc := 83) (S := (sI S12 x2 (x6).toNatClampNeg ((pI S12 x2 (x6).toNatClampNeg) &&& (((1 : Int32) <<< (x7 &&& 31)) ^^^ (-1 : Int32))))) C 6 dX12_sweepsOne_83 rfl ?_
            refine pw_iload (pc := 85) (S := (sI S12 x2 (x6).toNatClampNeg ((pI S12 x2 (x6).toNatClampNeg) &&& (((1 : Int32) <<< (x7 &&& 31)) ^^^ (-1 : Int32))))) C 7 dX12_sweepsOne_85 rfl ?_
            refine pw_iload_n (pc := 87) (S := (sI S12 x2 (x6).toNatClampNeg ((pI S12 x2 (x6).toNatClampNeg) &&& (((1 : Int32) <<< (x7 &&& 31)) ^^^ (-1 : Int32))))) C 2 dX12_sweepsOne_87 rfl rfl ?_
            refine pw_if_ge (pc := 88) (S := (sI S12 x2 (x6).toNatClampNeg ((pI S12 x2 (x6).toNatClampNeg) &&& (((1 : Int32) <<< (x7 &&& 31)) ^^^ (-1 : Int32))))) (tgt := 96) C dX12_sweepsOne_88 rfl ⟨fun hc => ?_, fun hc => ?_⟩
            · replace h := h.1 hc
              refine pw_iload_n (pc := 96) (S := (sI S12 x2 (x6).toNatClampNeg ((pI S12 x2 (x6).toNatClampNeg) &&& (((1 : Int32) <<< (x7 &&& 31)) ^^^ (-1 : Int32))))) C 2 dX12_sweepsOne_96 rfl rfl ?_
              refine pw_sub [1, 2, 3, 4, 0, 5, 6, 7] (LV2 := [(0, .ref (G.2.2 + x0)), (1, .int x1), (2, .ref (G.2.2 + x2)), (3, .int x3), (4, .int (x4 + 1)), (5, .int x5), (6, .int x6), (7, .int x7)]) rfl ?_
              exact cbX12_sweepsOne_b97 C hr hin hK6 ih _ _ _ _ _ _ _ _ _ _ _ _ _ h
            · replace h := h.2 hc
              refine pw_bipush (pc := 91) (S := (sI S12 x2 (x6).toNatClampNeg ((pI S12 x2 (x6).toNatClampNeg) &&& (((1 : Int32) <<< (x7 &&& 31)) ^^^ (-1 : Int32))))) (v := 100 ) C dX12_sweepsOne_91 (by decide) ?_
              refine pw_goto (pc := 93) (S := (sI S12 x2 (x6).toNatClampNeg ((pI S12 x2 (x6).toNatClampNeg) &&& (((1 : Int32) <<< (x7 &&& 31)) ^^^ (-1 : Int32))))) (tgt := 97) C dX12_sweepsOne_93 rfl ?_
              refine pw_sub [1, 2, 3, 4, 0, 5, 6, 7] (LV2 := [(0, .ref (G.2.2 + x0)), (1, .int x1), (2, .ref (G.2.2 + x2)), (3, .int x3), (4, .int (x4 + 1)), (5, .int x5), (6, .int x6), (7, .int x7)]) rfl ?_
              exact cbX12_sweepsOne_b97 C hr hin hK6 ih _ _ _ _ _ _ _ _ _ _ _ _ _ h
        · replace h := h.2 hc
          refine pw_goto (pc := 59) (tgt := 119) C dX12_sweepsOne_59 rfl ?_
          refine pw_iincK (pc := 119) (w := 1) C [(7, .int (x7 + 1)), (0, .ref (G.2.2 + x0)), (1, .int x1), (2, .ref (G.2.2 + x2)), (3, .int x3), (4, .int x4), (5, .int x5), (6, .int x6)] 7 dX12_sweepsOne_119 (by decide) rfl (by decide) rfl ?_
          refine pw_goto (pc := 122) (tgt := 28) C dX12_sweepsOne_122 rfl ?_
          refine pw_sub [1, 2, 3, 4, 5, 6, 7, 0] (LV2 := [(0, .ref (G.2.2 + x0)), (1, .int x1), (2, .ref (G.2.2 + x2)), (3, .int x3), (4, .int x4), (5, .int x5), (6, .int x6), (7, .int (x7 + 1))]) rfl ?_
          exact ih _ _ _ _ _ _ _ _ _ h
set_option maxRecDepth 100000 in
set_option maxHeartbeats 4000000 in
theorem cbX12_sweepsOne_b6 {p : Program} {l : Launch} {e : Env} {s : State} {m : MethodId} {args : Array Value} {below : List Frame} {meth : Method} {c : Code} {G : PG} {Q : Int32 → PS → Prop} (C : pCx p s m args meth c G cX12_sweepsOne 8 yX12_sweepsOne.cls wsX12_sweepsOne) (hr : meth.sig.returnType = (some .int)) (hin : meth.name = yX12_sweepsOne.name)  (n : Nat) : ∀ (S : PS) (x0 : Nat) (x1 : Int32) (x2 : Nat) (x3 : Int32) (x4 : Int32) (x5 : Int32), wpX12_sweepsOne_b6  Q n S x0 x1 x2 x3 x4 x5 → PW p l e rmX12_sweepsOne s m args below meth c (MQ below (va_Qi Q (pB G) (pFr G)) args s rmX12_sweepsOne.cells rmX12_sweepsOne.slots (pFr G)) G 8 S 0 0 [(0, .ref (G.2.2 + x0)), (1, .int x1), (2, .ref (G.2.2 + x2)), (3, .int x3), (4, .int x4), (5, .int x5)] 6 ([]) := by
  induction n with
  | zero => intro S x0 x1 x2 x3 x4 x5 h; exact h.elim
  | succ n ih =>
    intro S x0 x1 x2 x3 x4 x5 h
    unfold wpX12_sweepsOne_b6 at h
    refine pw_iload (pc := 6) C 5 dX12_sweepsOne_6 rfl ?_
    refine pw_aload_n (pc := 8) C 0 dX12_sweepsOne_8 rfl rfl ?_
    refine pw_iload_n (pc := 9) C 1 dX12_sweepsOne_9 rfl rfl ?_
    obtain ⟨hk16, h⟩ := h
    refine pw_calli (pc := 10) (kc2 := 0) (kn2 := 0) (pRunV (pc := 10) C (ctX12_manyIn l G  _ x0 x1 _ h) (cwV 1 C.2.2.2.2.1 gX12_sweepsOne_X12_manyIn rfl rfl rfl (by decide +kernel) ⟨Nat.le_of_ble_eq_true rfl, Nat.le_of_ble_eq_true rfl⟩) pCl10 hk16 rfl rfl (Nat.le_of_ble_eq_true rfl) dX12_sweepsOne_10 ⟨Nat.le_of_ble_eq_true rfl, Nat.le_of_ble_eq_true rfl⟩) rfl rfl (fun r17 S18 h => ?_)
    refine pw_icmp_ge (pc := 13) (tgt := 131) C dX12_sweepsOne_13 rfl ⟨fun hc => ?_, fun hc => ?_⟩
    · replace h := h.1 hc
      refine pw_iload (pc := 131) C 4 dX12_sweepsOne_131 rfl ?_
      exact pw_iret (pc := 133) C hr h dX12_sweepsOne_133
    · replace h := h.2 hc
      refine pw_aload_n (pc := 16) C 0 dX12_sweepsOne_16 rfl rfl ?_
      refine pw_iload_n (pc := 17) C 1 dX12_sweepsOne_17 rfl rfl ?_
      refine pw_iload (pc := 18) C 5 dX12_sweepsOne_18 rfl ?_
      obtain ⟨hk19, h⟩ := h
      refine pw_calli (pc := 20) (kc2 := 0) (kn2 := 0) (pRunV (pc := 20) C (ctX12_memberOf l G  _ x0 x1 x5 _ h) (cwV 2 C.2.2.2.2.1 gX12_sweepsOne_X12_memberOf rfl rfl rfl (by decide +kernel) ⟨Nat.le_of_ble_eq_true rfl, Nat.le_of_ble_eq_true rfl⟩) pCl10 hk19 rfl rfl (Nat.le_of_ble_eq_true rfl) dX12_sweepsOne_20 ⟨Nat.le_of_ble_eq_true rfl, Nat.le_of_ble_eq_true rfl⟩) rfl rfl (fun r20 S21 h => ?_)
      refine pw_istore (pc := 23) C [(6, .int r20), (0, .ref (G.2.2 + x0)), (1, .int x1), (2, .ref (G.2.2 + x2)), (3, .int x3), (4, .int x4), (5, .int x5)] dX12_sweepsOne_23 (by decide) rfl ?_
      refine pw_iconst (pc := 25) (v := 0 ) C dX12_sweepsOne_25 (by decide) ?_
      refine pw_istore (pc := 26) C [(7, .int (0 : Int32)), (6, .int r20), (0, .ref (G.2.2 + x0)), (1, .int x1), (2, .ref (G.2.2 + x2)), (3, .int x3), (4, .int x4), (5, .int x5)] dX12_sweepsOne_26 (by decide) rfl ?_
      refine pw_sub [2, 3, 4, 5, 6, 7, 1, 0] (LV2 := [(0, .ref (G.2.2 + x0)), (1, .int x1), (2, .ref (G.2.2 + x2)), (3, .int x3), (4, .int x4), (5, .int x5), (6, .int r20), (7, .int (0 : Int32))]) rfl ?_
      obtain ⟨n9, h⟩ := h
      exact cbX12_sweepsOne_b28 C hr hin ih n9 _ _ _ _ _ _ _ _ _ h
set_option maxRecDepth 100000 in
set_option maxHeartbeats 4000000 in
theorem ctX12_sweepsOne (l : Launch) (G : PG) (S : PS) (x0 : Nat) (x1 : Int32) (x2 : Nat) (x3 : Int32) (Q : Int32 → PS → Prop) (h : wpX12_sweepsOne S x0 x1 x2 x3 Q) : mI l yX12_sweepsOne wsX12_sweepsOne rmX12_sweepsOne G S [.ref (G.2.2 + x0), .int x1, .ref (G.2.2 + x2), .int x3] Q := by
  unfold mI
  refine met_of (cc := cX12_sweepsOne) (maxL := 8) (ret := (some .int)) (by decide) rfl (Nat.le_of_ble_eq_true rfl) ?_
  intro p e s m args below meth c C hr hin
  unfold wpX12_sweepsOne at h
  show PW p l e _ s m args below meth c _ G 8 S 0 0 [(0, .ref (G.2.2 + x0)), (1, .int x1), (2, .ref (G.2.2 + x2)), (3, .int x3)] 0 []
  refine pw_iconst (pc := 0) (v := 0 ) C dX12_sweepsOne_0 (by decide) ?_
  refine pw_istore (pc := 1) C [(4, .int (0 : Int32)), (0, .ref (G.2.2 + x0)), (1, .int x1), (2, .ref (G.2.2 + x2)), (3, .int x3)] dX12_sweepsOne_1 (by decide) rfl ?_
  refine pw_iconst (pc := 3) (v := 0 ) C dX12_sweepsOne_3 (by decide) ?_
  refine pw_istore (pc := 4) C [(5, .int (0 : Int32)), (4, .int (0 : Int32)), (0, .ref (G.2.2 + x0)), (1, .int x1), (2, .ref (G.2.2 + x2)), (3, .int x3)] dX12_sweepsOne_4 (by decide) rfl ?_
  refine pw_sub [2, 3, 4, 5, 1, 0] (LV2 := [(0, .ref (G.2.2 + x0)), (1, .int x1), (2, .ref (G.2.2 + x2)), (3, .int x3), (4, .int (0 : Int32)), (5, .int (0 : Int32))]) rfl ?_
  obtain ⟨n9, h⟩ := h
  exact cbX12_sweepsOne_b6 C hr hin  n9 _ _ _ _ _ _ _ h

abbrev rmX12_sweeps : Room := { frames := 5, cells := 0, slots := 0, locals := 130 }
theorem iX12_sweeps_X12 : ∀ w ∈ u_ws RX12 TX12 32, w ∈ wsX12_sweeps := fun _ h => List.mem_cons_of_mem _ (List.mem_append_right _ h)
def wpX12_sweeps_b126 (K2 : PS → Nat → Nat → Int32 → Int32 → Prop) (K11 : PS → Nat → Nat → Int32 → Int32 → Int32 → Prop) (Q : Int32 → PS → Prop) (S : PS) (x0 : Nat) (x1 : Nat) (x2 : Int32) (x3 : Int32) (x4 : Int32) (x5 : Int32) (x6 : Int32) : Prop := (K11 S x0 x1 x2 (1 : Int32) (x4 + 1))
def wpX12_sweeps_b108 (K2 : PS → Nat → Nat → Int32 → Int32 → Prop) (K11 : PS → Nat → Nat → Int32 → Int32 → Int32 → Prop) (Q : Int32 → PS → Prop) (S : PS) (x0 : Nat) (x1 : Nat) (x2 : Int32) (x3 : Int32) (x4 : Int32) (x5 : Int32) (t0 : Int32) : Prop := ((0 ≤ t0 → ((¬ x3 = 0 → (wpX12_sweeps_b126 K2 K11 Q S x0 x1 x2 x3 x4 x5 t0)) ∧ (x3 = 0 → ((t0 ≤ 0 → (K11 S x0 x1 x2 (0 : Int32) (x4 + 1))) ∧ (¬ t0 ≤ 0 → (wpX12_sweeps_b126 K2 K11 Q S x0 x1 x2 x3 x4 x5 t0)))))) ∧ (¬ 0 ≤ t0 → (Q (0 : Int32) S)))
def wpX12_sweeps_b103 (K2 : PS → Nat → Nat → Int32 → Int32 → Prop) (K11 : PS → Nat → Nat → Int32 → Int32 → Int32 → Prop) (Q : Int32 → PS → Prop) (S : PS) (x0 : Nat) (x1 : Nat) (x2 : Int32) (x3 : Int32) (x4 : Int32) (x5 : Int32) (t0 : Nat) (t1 : Int32) : Prop := (pK S t0 = 11 ∧ (wpX12_sweepsOne S t0 t1 x1 x2 (fun r2 S3 => (wpX12_sweeps_b108 K2 K11 Q S3 x0 x1 x2 x3 x4 x5 r2))))
def wpX12_sweeps_b60 (K2 : PS → Nat → Nat → Int32 → Int32 → Prop) (K11 : PS → Nat → Nat → Int32 → Int32 → Int32 → Prop) (Q : Int32 → PS → Prop) (S : PS) (x0 : Nat) (x1 : Nat) (x2 : Int32) (x3 : Int32) (x4 : Int32) (t0 : Int32) : Prop := ((t0 = 0 → (pK S x0 = 11 ∧ (∃ o5, pR S x0 1 = some o5 ∧ (pK S o5 = 13 ∧ (vp_in (1 : Int32) (pL S o5) ∧ (((pI S o5 ((1 : Int32)).toNatClampNeg) ≤ x4 → (∃ o8, pR S x0 6 = some o8 ∧ (vp_in (1 : Int32) (pL S o5) ∧ (pK S o8 = 13 ∧ (vp_in (x4 - (pI S o5 ((1 : Int32)).toNatClampNeg)) (pL S o8) ∧ (wpX12_sweeps_b103 K2 K11 Q S x0 x1 x2 x3 x4 t0 x0 (-(pI S o8 ((x4 - (pI S o5 ((1 : Int32)).toNatClampNeg))).toNatClampNeg)))))))) ∧ (¬ (pI S o5 ((1 : Int32)).toNatClampNeg) ≤ x4 → (wpX12_sweeps_b103 K2 K11 Q S x0 x1 x2 x3 x4 t0 x0 x4)))))))) ∧ (¬ t0 = 0 → (wpX12_sweeps_b108 K2 K11 Q S x0 x1 x2 x3 x4 t0 (0 : Int32))))
def wpX12_sweeps_b59 (K2 : PS → Nat → Nat → Int32 → Int32 → Prop) (K11 : PS → Nat → Nat → Int32 → Int32 → Int32 → Prop) (Q : Int32 → PS → Prop) (S : PS) (x0 : Nat) (x1 : Nat) (x2 : Int32) (x3 : Int32) (x4 : Int32) : Prop := (wpX12_sweeps_b60 K2 K11 Q S x0 x1 x2 x3 x4 (0 : Int32))
def wpX12_sweeps_b11 (K2 : PS → Nat → Nat → Int32 → Int32 → Prop) (Q : Int32 → PS → Prop) : Nat → PS → Nat → Nat → Int32 → Int32 → Int32 → Prop
  | 0 => fun _ _ _ _ _ _ => False
  | n + 1 => fun S x0 x1 x2 x3 x4 => (pK S x0 = 11 ∧ (∃ o13, pR S x0 1 = some o13 ∧ (pK S o13 = 13 ∧ (vp_in (1 : Int32) (pL S o13) ∧ ((((pI S o13 ((1 : Int32)).toNatClampNeg) + (pI S x0 9)) ≤ x4 → (K2 S x0 x1 x2 x3)) ∧ (¬ ((pI S o13 ((1 : Int32)).toNatClampNeg) + (pI S x0 9)) ≤ x4 → (vp_in (1 : Int32) (pL S o13) ∧ ((x4 < (pI S o13 ((1 : Int32)).toNatClampNeg) → (wpX12_sweeps_b59 K2 (wpX12_sweeps_b11 K2 Q n) Q S x0 x1 x2 x3 x4)) ∧ (¬ x4 < (pI S o13 ((1 : Int32)).toNatClampNeg) → (∃ o17, pR S x0 6 = some o17 ∧ (vp_in (1 : Int32) (pL S o13) ∧ (pK S o17 = 13 ∧ (vp_in (x4 - (pI S o13 ((1 : Int32)).toNatClampNeg)) (pL S o17) ∧ ((¬ (pI S o17 ((x4 - (pI S o13 ((1 : Int32)).toNatClampNeg))).toNatClampNeg) = 0 → (wpX12_sweeps_b59 K2 (wpX12_sweeps_b11 K2 Q n) Q S x0 x1 x2 x3 x4)) ∧ ((pI S o17 ((x4 - (pI S o13 ((1 : Int32)).toNatClampNeg))).toNatClampNeg) = 0 → (wpX12_sweeps_b60 K2 (wpX12_sweeps_b11 K2 Q n) Q S x0 x1 x2 x3 x4 (1 : Int32)))))))))))))))))
def wpX12_sweeps_b2  (Q : Int32 → PS → Prop) : Nat → PS → Nat → Nat → Int32 → Int32 → Prop
  | 0 => fun _ _ _ _ _ => False
  | n + 1 => fun S x0 x1 x2 x3 => ((x3 = 0 → (Q (1 : Int32) S)) ∧ (¬ x3 = 0 → (∃ n9 : Nat, wpX12_sweeps_b11 (wpX12_sweeps_b2 Q n) Q n9 S x0 x1 x2 (0 : Int32) (0 : Int32))))
def wpX12_sweeps (S : PS) (x0 : Nat) (x1 : Nat) (x2 : Int32) (Q : Int32 → PS → Prop) : Prop := (∃ n9 : Nat, wpX12_sweeps_b2 Q n9 S x0 x1 x2 (1 : Int32))
set_option maxRecDepth 100000 in
set_option maxHeartbeats 4000000 in
theorem cbX12_sweeps_b126 {p : Program} {l : Launch} {e : Env} {s : State} {m : MethodId} {args : Array Value} {below : List Frame} {meth : Method} {c : Code} {G : PG} {Q : Int32 → PS → Prop} (C : pCx p s m args meth c G cX12_sweeps 7 yX12_sweeps.cls wsX12_sweeps) (hr : meth.sig.returnType = (some .boolean)) (hin : meth.name = yX12_sweeps.name) {K2 : PS → Nat → Nat → Int32 → Int32 → Prop} (hK2 : ∀ (S : PS) (x0 : Nat) (x1 : Nat) (x2 : Int32) (x3 : Int32), K2 S x0 x1 x2 x3 → PW p l e rmX12_sweeps s m args below meth c (MQ below (va_Qi Q (pB G) (pFr G)) args s rmX12_sweeps.cells rmX12_sweeps.slots (pFr G)) G 7 S 0 0 [(0, .ref (G.2.2 + x0)), (1, .ref (G.2.2 + x1)), (2, .int x2), (3, .int x3)] 2 ([])) {K11 : PS → Nat → Nat → Int32 → Int32 → Int32 → Prop} (hK11 : ∀ (S : PS) (x0 : Nat) (x1 : Nat) (x2 : Int32) (x3 : Int32) (x4 : Int32), K11 S x0 x1 x2 x3 x4 → PW p l e rmX12_sweeps s m args below meth c (MQ below (va_Qi Q (pB G) (pFr G)) args s rmX12_sweeps.cells rmX12_sweeps.slots (pFr G)) G 7 S 0 0 [(0, .ref (G.2.2 + x0)), (1, .ref (G.2.2 + x1)), (2, .int x2), (3, .int x3), (4, .int x4)] 11 ([])) : ∀ (S : PS) (x0 : Nat) (x1 : Nat) (x2 : Int32) (x3 : Int32) (x4 : Int32) (x5 : Int32) (x6 : Int32), wpX12_sweeps_b126 K2 K11 Q S x0 x1 x2 x3 x4 x5 x6 → PW p l e rmX12_sweeps s m args below meth c (MQ below (va_Qi Q (pB G) (pFr G)) args s rmX12_sweeps.cells rmX12_sweeps.slots (pFr G)) G 7 S 0 0 [(0, .ref (G.2.2 + x0)), (1, .ref (G.2.2 + x1)), (2, .int x2), (3, .int x3), (4, .int x4), (5, .int x5), (6, .int x6)] 126 ([]) := by
  intro S x0 x1 x2 x3 x4 x5 x6 h
  unfold wpX12_sweeps_b126 at h
  refine pw_iconst (pc := 126) (v := 1 ) C dX12_sweeps_126 (by decide) ?_
  refine pw_goto (pc := 127) (tgt := 131) C dX12_sweeps_127 rfl ?_
  refine pw_istore_n (pc := 131) C [(3, .int (1 : Int32)), (0, .ref (G.2.2 + x0)), (1, .ref (G.2.2 + x1)), (2, .int x2), (4, .int x4), (5, .int x5), (6, .int x6)] dX12_sweeps_131 rfl (by decide) rfl ?_
  refine pw_iincK (pc := 132) (w := 1) C [(4, .int (x4 + 1)), (3, .int (1 : Int32)), (0, .ref (G.2.2 + x0)), (1, .ref (G.2.2 + x1)), (2, .int x2), (5, .int x5), (6, .int x6)] 4 dX12_sweeps_132 (by decide) rfl (by decide) rfl ?_
  refine pw_goto (pc := 135) (tgt := 11) C dX12_sweeps_135 rfl ?_
  refine pw_sub [2, 3, 4, 1, 0] (LV2 := [(0, .ref (G.2.2 + x0)), (1, .ref (G.2.2 + x1)), (2, .int x2), (3, .int (1 : Int32)), (4, .int (x4 + 1))]) rfl ?_
  exact hK11 _ _ _ _ _ _ h
set_option maxRecDepth 100000 in
set_option maxHeartbeats 4000000 in
theorem cbX12_sweeps_b108 {p : Program} {l : Launch} {e : Env} {s : State} {m : MethodId} {args : Array Value} {below : List Frame} {meth : Method} {c : Code} {G : PG} {Q : Int32 → PS → Prop} (C : pCx p s m args meth c G cX12_sweeps 7 yX12_sweeps.cls wsX12_sweeps) (hr : meth.sig.returnType = (some .boolean)) (hin : meth.name = yX12_sweeps.name) {K2 : PS → Nat → Nat → Int32 → Int32 → Prop} (hK2 : ∀ (S : PS) (x0 : Nat) (x1 : Nat) (x2 : Int32) (x3 : Int32), K2 S x0 x1 x2 x3 → PW p l e rmX12_sweeps s m args below meth c (MQ below (va_Qi Q (pB G) (pFr G)) args s rmX12_sweeps.cells rmX12_sweeps.slots (pFr G)) G 7 S 0 0 [(0, .ref (G.2.2 + x0)), (1, .ref (G.2.2 + x1)), (2, .int x2), (3, .int x3)] 2 ([])) {K11 : PS → Nat → Nat → Int32 → Int32 → Int32 → Prop} (hK11 : ∀ (S : PS) (x0 : Nat) (x1 : Nat) (x2 : Int32) (x3 : Int32) (x4 : Int32), K11 S x0 x1 x2 x3 x4 → PW p l e rmX12_sweeps s m args below meth c (MQ below (va_Qi Q (pB G) (pFr G)) args s rmX12_sweeps.cells rmX12_sweeps.slots (pFr G)) G 7 S 0 0 [(0, .ref (G.2.2 + x0)), (1, .ref (G.2.2 + x1)), (2, .int x2), (3, .int x3), (4, .int x4)] 11 ([])) : ∀ (S : PS) (x0 : Nat) (x1 : Nat) (x2 : Int32) (x3 : Int32) (x4 : Int32) (x5 : Int32) (t0 : Int32), wpX12_sweeps_b108 K2 K11 Q S x0 x1 x2 x3 x4 x5 t0 → PW p l e rmX12_sweeps s m args below meth c (MQ below (va_Qi Q (pB G) (pFr G)) args s rmX12_sweeps.cells rmX12_sweeps.slots (pFr G)) G 7 S 0 0 [(0, .ref (G.2.2 + x0)), (1, .ref (G.2.2 + x1)), (2, .int x2), (3, .int x3), (4, .int x4), (5, .int x5)] 108 (.int t0 :: []) := by
  intro S x0 x1 x2 x3 x4 x5 t0 h
  unfold wpX12_sweeps_b108 at h
  refine pw_istore (pc := 108) C [(6, .int t0), (0, .ref (G.2.2 + x0)), (1, .ref (G.2.2 + x1)), (2, .int x2), (3, .int x3), (4, .int x4), (5, .int x5)] dX12_sweeps_108 (by decide) rfl ?_
  refine pw_iload (pc := 110) C 0 dX12_sweeps_110 rfl ?_
  refine pw_if_ge (pc := 112) (tgt := 117) C dX12_sweeps_112 rfl ⟨fun hc => ?_, fun hc => ?_⟩
  · replace h := h.1 hc
    refine pw_iload_n (pc := 117) C 4 dX12_sweeps_117 rfl rfl ?_
    refine pw_if_ne (pc := 118) (tgt := 126) C dX12_sweeps_118 rfl ⟨fun hc => ?_, fun hc => ?_⟩
    · replace h := h.1 hc
      refine pw_sub [1, 2, 3, 4, 5, 6, 0] (LV2 := [(0, .ref (G.2.2 + x0)), (1, .ref (G.2.2 + x1)), (2, .int x2), (3, .int x3), (4, .int x4), (5, .int x5), (6, .int t0)]) rfl ?_
      exact cbX12_sweeps_b126 C hr hin hK2 hK11 _ _ _ _ _ _ _ _ h
    · replace h := h.2 hc
      refine pw_iload (pc := 121) C 0 dX12_sweeps_121 rfl ?_
      refine pw_if_le (pc := 123) (tgt := 130) C dX12_sweeps_123 rfl ⟨fun hc => ?_, fun hc => ?_⟩
      · replace h := h.1 hc
        refine pw_iconst (pc := 130) (v := 0 ) C dX12_sweeps_130 (by decide) ?_
        refine pw_istore_n (pc := 131) C [(3, .int (0 : Int32)), (6, .int t0), (0, .ref (G.2.2 + x0)), (1, .ref (G.2.2 + x1)), (2, .int x2), (4, .int x4), (5, .int x5)] dX12_sweeps_131 rfl (by decide) rfl ?_
        refine pw_iincK (pc := 132) (w := 1) C [(4, .int (x4 + 1)), (3, .int (0 : Int32)), (6, .int t0), (0, .ref (G.2.2 + x0)), (1, .ref (G.2.2 + x1)), (2, .int x2), (5, .int x5)] 5 dX12_sweeps_132 (by decide) rfl (by decide) rfl ?_
        refine pw_goto (pc := 135) (tgt := 11) C dX12_sweeps_135 rfl ?_
        refine pw_sub [3, 4, 5, 1, 0] (LV2 := [(0, .ref (G.2.2 + x0)), (1, .ref (G.2.2 + x1)), (2, .int x2), (3, .int (0 : Int32)), (4, .int (x4 + 1))]) rfl ?_
        exact hK11 _ _ _ _ _ _ h
      · replace h := h.2 hc
        refine pw_sub [1, 2, 3, 4, 5, 6, 0] (LV2 := [(0, .ref (G.2.2 + x0)), (1, .ref (G.2.2 + x1)), (2, .int x2), (3, .int x3), (4, .int x4), (5, .int x5), (6, .int t0)]) rfl ?_
        exact cbX12_sweeps_b126 C hr hin hK2 hK11 _ _ _ _ _ _ _ _ h
  · replace h := h.2 hc
    refine pw_iconst (pc := 115) (v := 0 ) C dX12_sweeps_115 (by decide) ?_
    exact pw_zret (pc := 116) C hr rfl h dX12_sweeps_116
set_option maxRecDepth 100000 in
set_option maxHeartbeats 4000000 in
theorem cbX12_sweeps_b103 {p : Program} {l : Launch} {e : Env} {s : State} {m : MethodId} {args : Array Value} {below : List Frame} {meth : Method} {c : Code} {G : PG} {Q : Int32 → PS → Prop} (C : pCx p s m args meth c G cX12_sweeps 7 yX12_sweeps.cls wsX12_sweeps) (hr : meth.sig.returnType = (some .boolean)) (hin : meth.name = yX12_sweeps.name) {K2 : PS → Nat → Nat → Int32 → Int32 → Prop} (hK2 : ∀ (S : PS) (x0 : Nat) (x1 : Nat) (x2 : Int32) (x3 : Int32), K2 S x0 x1 x2 x3 → PW p l e rmX12_sweeps s m args below meth c (MQ below (va_Qi Q (pB G) (pFr G)) args s rmX12_sweeps.cells rmX12_sweeps.slots (pFr G)) G 7 S 0 0 [(0, .ref (G.2.2 + x0)), (1, .ref (G.2.2 + x1)), (2, .int x2), (3, .int x3)] 2 ([])) {K11 : PS → Nat → Nat → Int32 → Int32 → Int32 → Prop} (hK11 : ∀ (S : PS) (x0 : Nat) (x1 : Nat) (x2 : Int32) (x3 : Int32) (x4 : Int32), K11 S x0 x1 x2 x3 x4 → PW p l e rmX12_sweeps s m args below meth c (MQ below (va_Qi Q (pB G) (pFr G)) args s rmX12_sweeps.cells rmX12_sweeps.slots (pFr G)) G 7 S 0 0 [(0, .ref (G.2.2 + x0)), (1, .ref (G.2.2 + x1)), (2, .int x2), (3, .int x3), (4, .int x4)] 11 ([])) : ∀ (S : PS) (x0 : Nat) (x1 : Nat) (x2 : Int32) (x3 : Int32) (x4 : Int32) (x5 : Int32) (t0 : Nat) (t1 : Int32), wpX12_sweeps_b103 K2 K11 Q S x0 x1 x2 x3 x4 x5 t0 t1 → PW p l e rmX12_sweeps s m args below meth c (MQ below (va_Qi Q (pB G) (pFr G)) args s rmX12_sweeps.cells rmX12_sweeps.slots (pFr G)) G 7 S 0 0 [(0, .ref (G.2.2 + x0)), (1, .ref (G.2.2 + x1)), (2, .int x2), (3, .int x3), (4, .int x4), (5, .int x5)] 103 (.int t1 :: .ref (G.2.2 + t0) :: []) := by
  intro S x0 x1 x2 x3 x4 x5 t0 t1 h
  unfold wpX12_sweeps_b103 at h
  refine pw_aload_n (pc := 103) C 1 dX12_sweeps_103 rfl rfl ?_
  refine pw_iload_n (pc := 104) C 2 dX12_sweeps_104 rfl rfl ?_
  obtain ⟨hk1, h⟩ := h
  refine pw_calli (pc := 105) (kc2 := 0) (kn2 := 0) (pRunV (pc := 105) C (ctX12_sweepsOne l G  _ t0 t1 x1 x2 _ h) (cwV 3 C.2.2.2.2.1 gX12_sweeps_X12_sweepsOne rfl rfl rfl (by decide +kernel) ⟨Nat.le_of_ble_eq_true rfl, Nat.le_of_ble_eq_true rfl⟩) pCl10 hk1 rfl rfl (Nat.le_of_ble_eq_true rfl) dX12_sweeps_105 ⟨Nat.le_of_ble_eq_true rfl, Nat.le_of_ble_eq_true rfl⟩) rfl rfl (fun r2 S3 h => ?_)
  exact cbX12_sweeps_b108 C hr hin hK2 hK11 _ _ _ _ _ _ _ _ h
set_option maxRecDepth 100000 in
set_option maxHeartbeats 4000000 in
theorem cbX12_sweeps_b60 {p : Program} {l : Launch} {e : Env} {s : State} {m : MethodId} {args : Array Value} {below : List Frame} {meth : Method} {c : Code} {G : PG} {Q : Int32 → PS → Prop} (C : pCx p s m args meth c G cX12_sweeps 7 yX12_sweeps.cls wsX12_sweeps) (hr : meth.sig.returnType = (some .boolean)) (hin : meth.name = yX12_sweeps.name) {K2 : PS → Nat → Nat → Int32 → Int32 → Prop} (hK2 : ∀ (S : PS) (x0 : Nat) (x1 : Nat) (x2 : Int32) (x3 : Int32), K2 S x0 x1 x2 x3 → PW p l e rmX12_sweeps s m args below meth c (MQ below (va_Qi Q (pB G) (pFr G)) args s rmX12_sweeps.cells rmX12_sweeps.slots (pFr G)) G 7 S 0 0 [(0, .ref (G.2.2 + x0)), (1, .ref (G.2.2 + x1)), (2, .int x2), (3, .int x3)] 2 ([])) {K11 : PS → Nat → Nat → Int32 → Int32 → Int32 → Prop} (hK11 : ∀ (S : PS) (x0 : Nat) (x1 : Nat) (x2 : Int32) (x3 : Int32) (x4 : Int32), K11 S x0 x1 x2 x3 x4 → PW p l e rmX12_sweeps s m args below meth c (MQ below (va_Qi Q (pB G) (pFr G)) args s rmX12_sweeps.cells rmX12_sweeps.slots (pFr G)) G 7 S 0 0 [(0, .ref (G.2.2 + x0)), (1, .ref (G.2.2 + x1)), (2, .int x2), (3, .int x3), (4, .int x4)] 11 ([])) : ∀ (S : PS) (x0 : Nat) (x1 : Nat) (x2 : Int32) (x3 : Int32) (x4 : Int32) (t0 : Int32), wpX12_sweeps_b60 K2 K11 Q S x0 x1 x2 x3 x4 t0 → PW p l e rmX12_sweeps s m args below meth c (MQ below (va_Qi Q (pB G) (pFr G)) args s rmX12_sweeps.cells rmX12_sweeps.slots (pFr G)) G 7 S 0 0 [(0, .ref (G.2.2 + x0)), (1, .ref (G.2.2 + x1)), (2, .int x2), (3, .int x3), (4, .int x4)] 60 (.int t0 :: []) := by
  intro S x0 x1 x2 x3 x4 t0 h
  unfold wpX12_sweeps_b60 at h
  refine pw_istore (pc := 60) C [(5, .int t0), (0, .ref (G.2.2 + x0)), (1, .ref (G.2.2 + x1)), (2, .int x2), (3, .int x3), (4, .int x4)] dX12_sweeps_60 (by decide) rfl ?_
  refine pw_iload (pc := 62) C 0 dX12_sweeps_62 rfl ?_
  refine pw_if_eq (pc := 64) (tgt := 71) C dX12_sweeps_64 rfl ⟨fun hc => ?_, fun hc => ?_⟩
  · replace h := h.1 hc
    refine pw_aload_n (pc := 71) C 1 dX12_sweeps_71 rfl rfl ?_
    refine pw_iload (pc := 72) C 5 dX12_sweeps_72 rfl ?_
    refine pw_aload_n (pc := 74) C 1 dX12_sweeps_74 rfl rfl ?_
    obtain ⟨hk4, h⟩ := h
    obtain ⟨o5, ho5, h⟩ := h
    refine pw_getR (pc := 75) (ref := "SupportSolverModel") (k := 1) (index := 7) C pCl10 iX12_sweeps_X12 hk4 rfl (by decide +kernel) (Or.inl rfl) (o := o5) ho5 dX12_sweeps_75 ?_
    refine pw_iconst (pc := 78) (v := 1 ) C dX12_sweeps_78 (by decide) ?_
    obtain ⟨hk6, h⟩ := h
    obtain ⟨hi7, h⟩ := h
    refine pw_iald (pc := 79) C hk6 hi7 dX12_sweeps_79 ?_
    refine pw_icmp_ge (pc := 80) (tgt := 88) C dX12_sweeps_80 rfl ⟨fun hc => ?_, fun hc => ?_⟩
    · replace h := h.1 hc
      refine pw_aload_n (pc := 88) C 1 dX12_sweeps_88 rfl rfl ?_
      obtain ⟨o8, ho8, h⟩ := h
      refine pw_getR (pc := 89) (ref := "SupportSolverModel") (k := 6) (index := 25) C pCl10 iX12_sweeps_X12 hk4 rfl (by decide +kernel) (Or.inl rfl) (o := o8) ho8 dX12_sweeps_89 ?_
      refine pw_iload (pc := 92) C 5 dX12_sweeps_92 rfl ?_
      refine pw_aload_n (pc := 94) C 1 dX12_sweeps_94 rfl rfl ?_
      refine pw_getR (pc := 95) (ref := "SupportSolverModel") (k := 1) (index := 7) C pCl10 iX12_sweeps_X12 hk4 rfl (by decide +kernel) (Or.inl rfl) (o := o5) ho5 dX12_sweeps_95 ?_
      refine pw_iconst (pc := 98) (v := 1 ) C dX12_sweeps_98 (by decide) ?_
      obtain ⟨hi9, h⟩ := h
      refine pw_iald (pc := 99) C hk6 hi9 dX12_sweeps_99 ?_
      refine pw_isub (pc := 100) C dX12_sweeps_100 ?_
      obtain ⟨hk10, h⟩ := h
      obtain ⟨hi11, h⟩ := h
      refine pw_iald (pc := 101) C hk10 hi11 dX12_sweeps_101 ?_
      refine pw_ineg (pc := 102) C dX12_sweeps_102 ?_
      refine pw_sub [1, 2, 3, 4, 5, 0] (LV2 := [(0, .ref (G.2.2 + x0)), (1, .ref (G.2.2 + x1)), (2, .int x2), (3, .int x3), (4, .int x4), (5, .int t0)]) rfl ?_
      exact cbX12_sweeps_b103 C hr hin hK2 hK11 _ _ _ _ _ _ _ _ _ h
    · replace h := h.2 hc
      refine pw_iload (pc := 83) C 5 dX12_sweeps_83 rfl ?_
      refine pw_goto (pc := 85) (tgt := 103) C dX12_sweeps_85 rfl ?_
      refine pw_sub [1, 2, 3, 4, 5, 0] (LV2 := [(0, .ref (G.2.2 + x0)), (1, .ref (G.2.2 + x1)), (2, .int x2), (3, .int x3), (4, .int x4), (5, .int t0)]) rfl ?_
      exact cbX12_sweeps_b103 C hr hin hK2 hK11 _ _ _ _ _ _ _ _ _ h
  · replace h := h.2 hc
    refine pw_iconst (pc := 67) (v := 0 ) C dX12_sweeps_67 (by decide) ?_
    refine pw_goto (pc := 68) (tgt := 108) C dX12_sweeps_68 rfl ?_
    refine pw_sub [1, 2, 3, 4, 5, 0] (LV2 := [(0, .ref (G.2.2 + x0)), (1, .ref (G.2.2 + x1)), (2, .int x2), (3, .int x3), (4, .int x4), (5, .int t0)]) rfl ?_
    exact cbX12_sweeps_b108 C hr hin hK2 hK11 _ _ _ _ _ _ _ _ h
set_option maxRecDepth 100000 in
set_option maxHeartbeats 4000000 in
theorem cbX12_sweeps_b59 {p : Program} {l : Launch} {e : Env} {s : State} {m : MethodId} {args : Array Value} {below : List Frame} {meth : Method} {c : Code} {G : PG} {Q : Int32 → PS → Prop} (C : pCx p s m args meth c G cX12_sweeps 7 yX12_sweeps.cls wsX12_sweeps) (hr : meth.sig.returnType = (some .boolean)) (hin : meth.name = yX12_sweeps.name) {K2 : PS → Nat → Nat → Int32 → Int32 → Prop} (hK2 : ∀ (S : PS) (x0 : Nat) (x1 : Nat) (x2 : Int32) (x3 : Int32), K2 S x0 x1 x2 x3 → PW p l e rmX12_sweeps s m args below meth c (MQ below (va_Qi Q (pB G) (pFr G)) args s rmX12_sweeps.cells rmX12_sweeps.slots (pFr G)) G 7 S 0 0 [(0, .ref (G.2.2 + x0)), (1, .ref (G.2.2 + x1)), (2, .int x2), (3, .int x3)] 2 ([])) {K11 : PS → Nat → Nat → Int32 → Int32 → Int32 → Prop} (hK11 : ∀ (S : PS) (x0 : Nat) (x1 : Nat) (x2 : Int32) (x3 : Int32) (x4 : Int32), K11 S x0 x1 x2 x3 x4 → PW p l e rmX12_sweeps s m args below meth c (MQ below (va_Qi Q (pB G) (pFr G)) args s rmX12_sweeps.cells rmX12_sweeps.slots (pFr G)) G 7 S 0 0 [(0, .ref (G.2.2 + x0)), (1, .ref (G.2.2 + x1)), (2, .int x2), (3, .int x3), (4, .int x4)] 11 ([])) : ∀ (S : PS) (x0 : Nat) (x1 : Nat) (x2 : Int32) (x3 : Int32) (x4 : Int32), wpX12_sweeps_b59 K2 K11 Q S x0 x1 x2 x3 x4 → PW p l e rmX12_sweeps s m args below meth c (MQ below (va_Qi Q (pB G) (pFr G)) args s rmX12_sweeps.cells rmX12_sweeps.slots (pFr G)) G 7 S 0 0 [(0, .ref (G.2.2 + x0)), (1, .ref (G.2.2 + x1)), (2, .int x2), (3, .int x3), (4, .int x4)] 59 ([]) := by
  intro S x0 x1 x2 x3 x4 h
  unfold wpX12_sweeps_b59 at h
  refine pw_iconst (pc := 59) (v := 0 ) C dX12_sweeps_59 (by decide) ?_
  exact cbX12_sweeps_b60 C hr hin hK2 hK11 _ _ _ _ _ _ _ h
set_option maxRecDepth 100000 in
set_option maxHeartbeats 4000000 in
theorem cbX12_sweeps_b11 {p : Program} {l : Launch} {e : Env} {s : State} {m : MethodId} {args : Array Value} {below : List Frame} {meth : Method} {c : Code} {G : PG} {Q : Int32 → PS → Prop} (C : pCx p s m args meth c G cX12_sweeps 7 yX12_sweeps.cls wsX12_sweeps) (hr : meth.sig.returnType = (some .boolean)) (hin : meth.name = yX12_sweeps.name) {K2 : PS → Nat → Nat → Int32 → Int32 → Prop} (hK2 : ∀ (S : PS) (x0 : Nat) (x1 : Nat) (x2 : Int32) (x3 : Int32), K2 S x0 x1 x2 x3 → PW p l e rmX12_sweeps s m args below meth c (MQ below (va_Qi Q (pB G) (pFr G)) args s rmX12_sweeps.cells rmX12_sweeps.slots (pFr G)) G 7 S 0 0 [(0, .ref (G.2.2 + x0)), (1, .ref (G.2.2 + x1)), (2, .int x2), (3, .int x3)] 2 ([])) (n : Nat) : ∀ (S : PS) (x0 : Nat) (x1 : Nat) (x2 : Int32) (x3 : Int32) (x4 : Int32), wpX12_sweeps_b11 K2 Q n S x0 x1 x2 x3 x4 → PW p l e rmX12_sweeps s m args below meth c (MQ below (va_Qi Q (pB G) (pFr G)) args s rmX12_sweeps.cells rmX12_sweeps.slots (pFr G)) G 7 S 0 0 [(0, .ref (G.2.2 + x0)), (1, .ref (G.2.2 + x1)), (2, .int x2), (3, .int x3), (4, .int x4)] 11 ([]) := by
  induction n with
  | zero => intro S x0 x1 x2 x3 x4 h; exact h.elim
  | succ n ih =>
    intro S x0 x1 x2 x3 x4 h
    unfold wpX12_sweeps_b11 at h
    refine pw_iload (pc := 11) C 4 dX12_sweeps_11 rfl ?_
    refine pw_aload_n (pc := 13) C 0 dX12_sweeps_13 rfl rfl ?_
    obtain ⟨hk12, h⟩ := h
    obtain ⟨o13, ho13, h⟩ := h
    refine pw_getR (pc := 14) (ref := "SupportSolverModel") (k := 1) (index := 7) C pCl10 iX12_sweeps_X12 hk12 rfl (by decide +kernel) (Or.inl rfl) (o := o13) ho13 dX12_sweeps_14 ?_
    refine pw_iconst (pc := 17) (v := 1 ) C dX12_sweeps_17 (by decide) ?_
    obtain ⟨hk14, h⟩ := h
    obtain ⟨hi15, h⟩ := h
    refine pw_iald (pc := 18) C hk14 hi15 dX12_sweeps_18 ?_
    refine pw_aload_n (pc := 19) C 0 dX12_sweeps_19 rfl rfl ?_
    refine pw_getI (pc := 20) (ref := "SupportSolverModel") (k := 9) (index := 79) C pCl10 iX12_sweeps_X12 hk12 rfl (by decide +kernel) (Or.inl rfl) dX12_sweeps_20 ?_
    refine pw_iadd (pc := 23) C dX12_sweeps_23 ?_
    refine pw_icmp_ge (pc := 24) (tgt := 138) C dX12_sweeps_24 rfl ⟨fun hc => ?_, fun hc => ?_⟩
    · replace h := h.1 hc
      refine pw_goto (pc := 138) (tgt := 2) C dX12_sweeps_138 rfl ?_
      refine pw_sub [0, 1, 2, 3] (LV2 := [(0, .ref (G.2.2 + x0)), (1, .ref (G.2.2 + x1)), (2, .int x2), (3, .int x3)]) rfl ?_
      exact hK2 _ _ _ _ _ h
    · replace h := h.2 hc
      refine pw_iload (pc := 27) C 4 dX12_sweeps_27 rfl ?_
      refine pw_aload_n (pc := 29) C 0 dX12_sweeps_29 rfl rfl ?_
      refine pw_getR (pc := 30) (ref := "SupportSolverModel") (k := 1) (index := 7) C pCl10 iX12_sweeps_X12 hk12 rfl (by decide +kernel) (Or.inl rfl) (o := o13) ho13 dX12_sweeps_30 ?_
      refine pw_iconst (pc := 33) (v := 1 ) C dX12_sweeps_33 (by decide) ?_
      obtain ⟨hi16, h⟩ := h
      refine pw_iald (pc := 34) C hk14 hi16 dX12_sweeps_34 ?_
      refine pw_icmp_lt (pc := 35) (tgt := 59) C dX12_sweeps_35 rfl ⟨fun hc => ?_, fun hc => ?_⟩
      · replace h := h.1 hc
        exact cbX12_sweeps_b59 C hr hin hK2 ih _ _ _ _ _ _ h
      · replace h := h.2 hc
        refine pw_aload_n (pc := 38) C 0 dX12_sweeps_38 rfl rfl ?_
        obtain ⟨o17, ho17, h⟩ := h
        refine pw_getR (pc := 39) (ref := "SupportSolverModel") (k := 6) (index := 25) C pCl10 iX12_sweeps_X12 hk12 rfl (by decide +kernel) (Or.inl rfl) (o := o17) ho17 dX12_sweeps_39 ?_
        refine pw_iload (pc := 42) C 4 dX12_sweeps_42 rfl ?_
        refine pw_aload_n (pc := 44) C 0 dX12_sweeps_44 rfl rfl ?_
        refine pw_getR (pc := 45) (ref := "SupportSolverModel") (k := 1) (index := 7) C pCl10 iX12_sweeps_X12 hk12 rfl (by decide +kernel) (Or.inl rfl) (o := o13) ho13 dX12_sweeps_45 ?_
        refine pw_iconst (pc := 48) (v := 1 ) C dX12_sweeps_48 (by decide) ?_
        obtain ⟨hi18, h⟩ := h
        refine pw_iald (pc := 49) C hk14 hi18 dX12_sweeps_49 ?_
        refine pw_isub (pc := 50) C dX12_sweeps_50 ?_
        obtain ⟨hk19, h⟩ := h
        obtain ⟨hi20, h⟩ := h
        refine pw_iald (pc := 51) C hk19 hi20 dX12_sweeps_51 ?_
        refine pw_if_ne (pc := 52) (tgt := 59) C dX12_sweeps_52 rfl ⟨fun hc => ?_, fun hc => ?_⟩
        · replace h := h.1 hc
          exact cbX12_sweeps_b59 C hr hin hK2 ih _ _ _ _ _ _ h
        · replace h := h.2 hc
          refine pw_iconst (pc := 55) (v := 1 ) C dX12_sweeps_55 (by decide) ?_
          refine pw_goto (pc := 56) (tgt := 60) C dX12_sweeps_56 rfl ?_
          exact cbX12_sweeps_b60 C hr hin hK2 ih _ _ _ _ _ _ _ h
set_option maxRecDepth 100000 in
set_option maxHeartbeats 4000000 in
theorem cbX12_sweeps_b2 {p : Program} {l : Launch} {e : Env} {s : State} {m : MethodId} {args : Array Value} {below : List Frame} {meth : Method} {c : Code} {G : PG} {Q : Int32 → PS → Prop} (C : pCx p s m args meth c G cX12_sweeps 7 yX12_sweeps.cls wsX12_sweeps) (hr : meth.sig.returnType = (some .boolean)) (hin : meth.name = yX12_sweeps.name)  (n : Nat) : ∀ (S : PS) (x0 : Nat) (x1 : Nat) (x2 : Int32) (x3 : Int32), wpX12_sweeps_b2  Q n S x0 x1 x2 x3 → PW p l e rmX12_sweeps s m args below meth c (MQ below (va_Qi Q (pB G) (pFr G)) args s rmX12_sweeps.cells rmX12_sweeps.slots (pFr G)) G 7 S 0 0 [(0, .ref (G.2.2 + x0)), (1, .ref (G.2.2 + x1)), (2, .int x2), (3, .int x3)] 2 ([]) := by
  induction n with
  | zero => intro S x0 x1 x2 x3 h; exact h.elim
  | succ n ih =>
    intro S x0 x1 x2 x3 h
    unfold wpX12_sweeps_b2 at h
    refine pw_iload_n (pc := 2) C 3 dX12_sweeps_2 rfl rfl ?_
    refine pw_if_eq (pc := 3) (tgt := 141) C dX12_sweeps_3 rfl ⟨fun hc => ?_, fun hc => ?_⟩
    · replace h := h.1 hc
      refine pw_iconst (pc := 141) (v := 1 ) C dX12_sweeps_141 (by decide) ?_
      exact pw_zret (pc := 142) C hr rfl h dX12_sweeps_142
    · replace h := h.2 hc
      refine pw_iconst (pc := 6) (v := 0 ) C dX12_sweeps_6 (by decide) ?_
      refine pw_istore_n (pc := 7) C [(3, .int (0 : Int32)), (0, .ref (G.2.2 + x0)), (1, .ref (G.2.2 + x1)), (2, .int x2)] dX12_sweeps_7 rfl (by decide) rfl ?_
      refine pw_iconst (pc := 8) (v := 0 ) C dX12_sweeps_8 (by decide) ?_
      refine pw_istore (pc := 9) C [(4, .int (0 : Int32)), (3, .int (0 : Int32)), (0, .ref (G.2.2 + x0)), (1, .ref (G.2.2 + x1)), (2, .int x2)] dX12_sweeps_9 (by decide) rfl ?_
      refine pw_sub [2, 3, 4, 1, 0] (LV2 := [(0, .ref (G.2.2 + x0)), (1, .ref (G.2.2 + x1)), (2, .int x2), (3, .int (0 : Int32)), (4, .int (0 : Int32))]) rfl ?_
      obtain ⟨n9, h⟩ := h
      exact cbX12_sweeps_b11 C hr hin ih n9 _ _ _ _ _ _ h
set_option maxRecDepth 100000 in
set_option maxHeartbeats 4000000 in
theorem ctX12_sweeps (l : Launch) (G : PG) (S : PS) (x0 : Nat) (x1 : Nat) (x2 : Int32) (Q : Int32 → PS → Prop) (h : wpX12_sweeps S x0 x1 x2 Q) : mI l yX12_sweeps wsX12_sweeps rmX12_sweeps G S [.ref (G.2.2 + x0), .ref (G.2.2 + x1), .int x2] Q := by
  unfold mI
  refine met_of (cc := cX12_sweeps) (maxL := 7) (ret := (some .boolean)) (by decide) rfl (Nat.le_of_ble_eq_true rfl) ?_
  intro p e s m args below meth c C hr hin
  unfold wpX12_sweeps at h
  show PW p l e _ s m args below meth c _ G 7 S 0 0 [(0, .ref (G.2.2 + x0)), (1, .ref (G.2.2 + x1)), (2, .int x2)] 0 []
  refine pw_iconst (pc := 0) (v := 1 ) C dX12_sweeps_0 (by decide) ?_
  refine pw_istore_n (pc := 1) C [(3, .int (1 : Int32)), (0, .ref (G.2.2 + x0)), (1, .ref (G.2.2 + x1)), (2, .int x2)] dX12_sweeps_1 rfl (by decide) rfl ?_
  refine pw_sub [1, 2, 3, 0] (LV2 := [(0, .ref (G.2.2 + x0)), (1, .ref (G.2.2 + x1)), (2, .int x2), (3, .int (1 : Int32))]) rfl ?_
  obtain ⟨n9, h⟩ := h
  exact cbX12_sweeps_b2 C hr hin  n9 _ _ _ _ _ h

abbrev rmX12_begins : Room := { frames := 6, cells := 0, slots := 0, locals := 156 }
theorem iX12_begins_X12 : ∀ w ∈ u_ws RX12 TX12 32, w ∈ wsX12_begins := fun _ h => List.mem_cons_of_mem _ (List.mem_append_right _ h)
def wpX12_begins_b29  (Q : PS → Prop) : Nat → PS → Nat → Int32 → Prop
  | 0 => fun _ _ _ => False
  | n + 1 => fun S x0 x1 => (((7 : Int32) ≤ x1 → (pK S x0 = 11 ∧ (∃ o2, pR S x0 3 = some o2 ∧ (wpX12_sweeps (sI (sI (sI (sI (sI S x0 7 (0 : Int32)) x0 8 (0 : Int32)) x0 9 (0 : Int32)) x0 10 (0 : Int32)) x0 11 (0 : Int32)) x0 o2 (1 : Int32) (fun r3 S4 => ((¬ r3 = 0 → (pK S4 x0 = 11 ∧ (Q (sI S4 x0 11 (0 : Int32))))) ∧ (r3 = 0 → (pK S4 x0 = 11 ∧ (Q (sI S4 x0 11 (1 : Int32))))))))))) ∧ (¬ (7 : Int32) ≤ x1 → (pK S x0 = 11 ∧ (∃ o8, pR S x0 3 = some o8 ∧ (∃ o9, pR S x0 1 = some o9 ∧ (pK S o9 = 13 ∧ (vp_in ((2 : Int32) + x1) (pL S o9) ∧ (pK S o8 = 13 ∧ (vp_in x1 (pL S o8) ∧ (wpX12_begins_b29 Q n (sI S o8 (x1).toNatClampNeg (pI S o9 (((2 : Int32) + x1)).toNatClampNeg)) x0 (x1 + 1)))))))))))
def wpX12_begins_b2  (Q : PS → Prop) : Nat → PS → Nat → Int32 → Prop
  | 0 => fun _ _ _ => False
  | n + 1 => fun S x0 x1 => (((169 : Int32) ≤ x1 → (∃ n9 : Nat, wpX12_begins_b29 Q n9 S x0 (0 : Int32))) ∧ (¬ (169 : Int32) ≤ x1 → (pK S x0 = 11 ∧ (∃ o15, pR S x0 1 = some o15 ∧ (∃ o16, pR S x0 2 = some o16 ∧ (pK S o16 = 13 ∧ (vp_in x1 (pL S o16) ∧ (pK S o15 = 13 ∧ (vp_in x1 (pL S o15) ∧ (wpX12_begins_b2 Q n (sI S o15 (x1).toNatClampNeg (pI S o16 (x1).toNatClampNeg)) x0 (x1 + 1)))))))))))
def wpX12_begins (S : PS) (x0 : Nat) (Q : PS → Prop) : Prop := (∃ n9 : Nat, wpX12_begins_b2 Q n9 S x0 (0 : Int32))
set_option maxRecDepth 100000 in
set_option maxHeartbeats 4000000 in
theorem cbX12_begins_b29 {p : Program} {l : Launch} {e : Env} {s : State} {m : MethodId} {args : Array Value} {below : List Frame} {meth : Method} {c : Code} {G : PG} {Q : PS → Prop} (C : pCx p s m args meth c G cX12_begins 2 yX12_begins.cls wsX12_begins) (hr : meth.sig.returnType = none) (hin : meth.name = yX12_begins.name)  (n : Nat) : ∀ (S : PS) (x0 : Nat) (x1 : Int32), wpX12_begins_b29  Q n S x0 x1 → PW p l e rmX12_begins s m args below meth c (MQ below (va_Qv Q (pB G) (pFr G)) args s rmX12_begins.cells rmX12_begins.slots (pFr G)) G 2 S 0 0 [(0, .ref (G.2.2 + x0)), (1, .int x1)] 29 ([]) := by
  induction n with
  | zero => intro S x0 x1 h; exact h.elim
  | succ n ih =>
    intro S x0 x1 h
    unfold wpX12_begins_b29 at h
    refine pw_iload_n (pc := 29) C 1 dX12_begins_29 rfl rfl ?_
    refine pw_bipush (pc := 30) (v := 7 ) C dX12_begins_30 (by decide) ?_
    refine pw_icmp_ge (pc := 32) (tgt := 55) C dX12_begins_32 rfl ⟨fun hc => ?_, fun hc => ?_⟩
    · replace h := h.1 hc
      refine pw_aload_n (pc := 55) C 0 dX12_begins_55 rfl rfl ?_
      refine pw_iconst (pc := 56) (v := 0 ) C dX12_begins_56 (by decide) ?_
      obtain ⟨hk1, h⟩ := h
      refine pw_putI (pc := 57) (ref := "SupportSolverModel") (k := 7) (index := 73) C pCl10 iX12_begins_X12 hk1 rfl (by decide +kernel) (Or.inl rfl) (Or.inl rfl) rfl rfl dX12_begins_57 ?_
      refine pw_aload_n (pc := 60) (S := (sI S x0 7 (0 : Int32))) C 0 dX12_begins_60 rfl rfl ?_
      refine pw_iconst (pc := 61) (S := (sI S x0 7 (0 : Int32))) (v := 0 ) C dX12_begins_61 (by decide) ?_
      refine pw_putI (pc := 62) (S := (sI S x0 7 (0 : Int32))) (ref := "SupportSolverModel") (k := 8) (index := 76) C pCl10 iX12_begins_X12 hk1 rfl (by decide +kernel) (Or.inl rfl) (Or.inl rfl) rfl rfl dX12_begins_62 ?_
      refine pw_aload_n (pc := 65) (S := (sI (sI S x0 7 (0 : Int32)) x0 8 (0 : Int32))) C 0 dX12_begins_65 rfl rfl ?_
      refine pw_iconst (pc := 66) (S := (sI (sI S x0 7 (0 : Int32)) x0 8 (0 : Int32))) (v := 0 ) C dX12_begins_66 (by decide) ?_
      refine pw_putI (pc := 67) (S := (sI (sI S x0 7 (0 : Int32)) x0 8 (0 : Int32))) (ref := "SupportSolverModel") (k := 9) (index := 79) C pCl10 iX12_begins_X12 hk1 rfl (by decide +kernel) (Or.inl rfl) (Or.inl rfl) rfl rfl dX12_begins_67 ?_
      refine pw_aload_n (pc := 70) (S := (sI (sI (sI S x0 7 (0 : Int32)) x0 8 (0 : Int32)) x0 9 (0 : Int32))) C 0 dX12_begins_70 rfl rfl ?_
      refine pw_iconst (pc := 71) (S := (sI (sI (sI S x0 7 (0 : Int32)) x0 8 (0 : Int32)) x0 9 (0 : Int32))) (v := 0 ) C dX12_begins_71 (by decide) ?_
      refine pw_putI (pc := 72) (S := (sI (sI (sI S x0 7 (0 : Int32)) x0 8 (0 : Int32)) x0 9 (0 : Int32))) (ref := "SupportSolverModel") (k := 10) (index := 82) C pCl10 iX12_begins_X12 hk1 rfl (by decide +kernel) (Or.inl rfl) (Or.inl rfl) rfl rfl dX12_begins_72 ?_
      refine pw_aload_n (pc := 75) (S := (sI (sI (sI (sI S x0 7 (0 : Int32)) x0 8 (0 : Int32)) x0 9 (0 : Int32)) x0 10 (0 : Int32))) C 0 dX12_begins_75 rfl rfl ?_
      refine pw_iconst (pc := 76) (S := (sI (sI (sI (sI S x0 7 (0 : Int32)) x0 8 (0 : Int32)) x0 9 (0 : Int32)) x0 10 (0 : Int32))) (v := 0 ) C dX12_begins_76 (by decide) ?_
      refine pw_putI (pc := 77) (S := (sI (sI (sI (sI S x0 7 (0 : Int32)) x0 8 (0 : Int32)) x0 9 (0 : Int32)) x0 10 (0 : Int32))) (ref := "SupportSolverModel") (k := 11) (index := 85) C pCl10 iX12_begins_X12 hk1 rfl (by decide +kernel) (Or.inl rfl) (Or.inl rfl) rfl rfl dX12_begins_77 ?_
      refine pw_aload_n (pc := 80) (S := (sI (sI (sI (sI (sI S x0 7 (0 : Int32)) x0 8 (0 : Int32)) x0 9 (0 : Int32)) x0 10 (0 : Int32)) x0 11 (0 : Int32))) C 0 dX12_begins_80 rfl rfl ?_
      refine pw_aload_n (pc := 81) (S := (sI (sI (sI (sI (sI S x0 7 (0 : Int32)) x0 8 (0 : Int32)) x0 9 (0 : Int32)) x0 10 (0 : Int32)) x0 11 (0 : Int32))) C 0 dX12_begins_81 rfl rfl ?_
      refine pw_aload_n (pc := 82) (S := (sI (sI (sI (sI (sI S x0 7 (0 : Int32)) x0 8 (0 : Int32)) x0 9 (0 : Int32)) x0 10 (0 : Int32)) x0 11 (0 : Int32))) C 0 dX12_begins_82 rfl rfl ?_
      obtain ⟨o2, ho2, h⟩ := h
      refine pw_getR (pc := 83) (S := (sI (sI (sI (sI (sI S x0 7 (0 : Int32)) x0 8 (0 : Int32)) x0 9 (0 : Int32)) x0 10 (0 : Int32)) x0 11 (0 : Int32))) (ref := "SupportSolverModel") (k := 3) (index := 16) C pCl10 iX12_begins_X12 hk1 rfl (by decide +kernel) (Or.inl rfl) (o := o2) ho2 dX12_begins_83 ?_
      refine pw_iconst (pc := 86) (S := (sI (sI (sI (sI (sI S x0 7 (0 : Int32)) x0 8 (0 : Int32)) x0 9 (0 : Int32)) x0 10 (0 : Int32)) x0 11 (0 : Int32))) (v := 1 ) C dX12_begins_86 (by decide) ?_
      refine pw_calli (pc := 87) (S := (sI (sI (sI (sI (sI S x0 7 (0 : Int32)) x0 8 (0 : Int32)) x0 9 (0 : Int32)) x0 10 (0 : Int32)) x0 11 (0 : Int32))) (kc2 := 0) (kn2 := 0) (pRunV (pc := 87) (S := (sI (sI (sI (sI (sI S x0 7 (0 : Int32)) x0 8 (0 : Int32)) x0 9 (0 : Int32)) x0 10 (0 : Int32)) x0 11 (0 : Int32))) C (ctX12_sweeps l G  _ x0 o2 (1 : Int32) _ h) (cwV 2 C.2.2.2.2.1 gX12_begins_X12_sweeps rfl rfl rfl (by decide +kernel) ⟨Nat.le_of_ble_eq_true rfl, Nat.le_of_ble_eq_true rfl⟩) pCl10 hk1 rfl rfl (Nat.le_of_ble_eq_true rfl) dX12_begins_87 ⟨Nat.le_of_ble_eq_true rfl, Nat.le_of_ble_eq_true rfl⟩) rfl rfl (fun r3 S4 h => ?_)
      refine pw_if_ne (pc := 90) (tgt := 97) C dX12_begins_90 rfl ⟨fun hc => ?_, fun hc => ?_⟩
      · replace h := h.1 hc
        refine pw_iconst (pc := 97) (v := 0 ) C dX12_begins_97 (by decide) ?_
        obtain ⟨hk5, h⟩ := h
        refine pw_putI (pc := 98) (ref := "SupportSolverModel") (k := 11) (index := 85) C pCl10 iX12_begins_X12 hk5 rfl (by decide +kernel) (Or.inl rfl) (Or.inl rfl) rfl rfl dX12_begins_98 ?_
        exact pw_vret (pc := 101) (S := (sI S4 x0 11 (0 : Int32))) C hr h dX12_begins_101
      · replace h := h.2 hc
        refine pw_iconst (pc := 93) (v := 1 ) C dX12_begins_93 (by decide) ?_
        refine pw_goto (pc := 94) (tgt := 98) C dX12_begins_94 rfl ?_
        obtain ⟨hk6, h⟩ := h
        refine pw_putI (pc := 98) (ref := "SupportSolverModel") (k := 11) (index := 85) C pCl10 iX12_begins_X12 hk6 rfl (by decide +kernel) (Or.inl rfl) (Or.inl rfl) rfl rfl dX12_begins_98 ?_
        exact pw_vret (pc := 101) (S := (sI S4 x0 11 (1 : Int32))) C hr h dX12_begins_101
    · replace h := h.2 hc
      refine pw_aload_n (pc := 35) C 0 dX12_begins_35 rfl rfl ?_
      obtain ⟨hk7, h⟩ := h
      obtain ⟨o8, ho8, h⟩ := h
      refine pw_getR (pc := 36) (ref := "SupportSolverModel") (k := 3) (index := 16) C pCl10 iX12_begins_X12 hk7 rfl (by decide +kernel) (Or.inl rfl) (o := o8) ho8 dX12_begins_36 ?_
      refine pw_iload_n (pc := 39) C 1 dX12_begins_39 rfl rfl ?_
      refine pw_aload_n (pc := 40) C 0 dX12_begins_40 rfl rfl ?_
      obtain ⟨o9, ho9, h⟩ := h
      refine pw_getR (pc := 41) (ref := "SupportSolverModel") (k := 1) (index := 7) C pCl10 iX12_begins_X12 hk7 rfl (by decide +kernel) (Or.inl rfl) (o := o9) ho9 dX12_begins_41 ?_
      refine pw_iconst (pc := 44) (v := 2 ) C dX12_begins_44 (by decide) ?_
      refine pw_iload_n (pc := 45) C 1 dX12_begins_45 rfl rfl ?_
      refine pw_iadd (pc := 46) C dX12_begins_46 ?_
      obtain ⟨hk10, h⟩ := h
      obtain ⟨hi11, h⟩ := h
      refine pw_iald (pc := 47) C hk10 hi11 dX12_begins_47 ?_
      obtain ⟨hk12, h⟩ := h
      obtain ⟨hi13, h⟩ := h
      refine pw_iast (pc := 48) C hk12 hi13 dX12_begins_48 ?_
      refine pw_iincK (pc := 49) (S := (sI S o8 (x1).toNatClampNeg (pI S o9 (((2 : Int32) + x1)).toNatClampNeg))) (w := 1) C [(1, .int (x1 + 1)), (0, .ref (G.2.2 + x0))] 1 dX12_begins_49 (by decide) rfl (by decide) rfl ?_
      refine pw_goto (pc := 52) (S := (sI S o8 (x1).toNatClampNeg (pI S o9 (((2 : Int32) + x1)).toNatClampNeg))) (tgt := 29) C dX12_begins_52 rfl ?_
      refine pw_sub [1, 0] (LV2 := [(0, .ref (G.2.2 + x0)), (1, .int (x1 + 1))]) rfl ?_
      exact ih _ _ _ h
set_option maxRecDepth 100000 in
set_option maxHeartbeats 4000000 in
theorem cbX12_begins_b2 {p : Program} {l : Launch} {e : Env} {s : State} {m : MethodId} {args : Array Value} {below : List Frame} {meth : Method} {c : Code} {G : PG} {Q : PS → Prop} (C : pCx p s m args meth c G cX12_begins 2 yX12_begins.cls wsX12_begins) (hr : meth.sig.returnType = none) (hin : meth.name = yX12_begins.name)  (n : Nat) : ∀ (S : PS) (x0 : Nat) (x1 : Int32), wpX12_begins_b2  Q n S x0 x1 → PW p l e rmX12_begins s m args below meth c (MQ below (va_Qv Q (pB G) (pFr G)) args s rmX12_begins.cells rmX12_begins.slots (pFr G)) G 2 S 0 0 [(0, .ref (G.2.2 + x0)), (1, .int x1)] 2 ([]) := by
  induction n with
  | zero => intro S x0 x1 h; exact h.elim
  | succ n ih =>
    intro S x0 x1 h
    unfold wpX12_begins_b2 at h
    refine pw_iload_n (pc := 2) C 1 dX12_begins_2 rfl rfl ?_
    refine pw_sipush (pc := 3) (v := 169 ) C dX12_begins_3 (by decide) ?_
    refine pw_icmp_ge (pc := 6) (tgt := 27) C dX12_begins_6 rfl ⟨fun hc => ?_, fun hc => ?_⟩
    · replace h := h.1 hc
      refine pw_iconst (pc := 27) (v := 0 ) C dX12_begins_27 (by decide) ?_
      refine pw_istore_n (pc := 28) C [(1, .int (0 : Int32)), (0, .ref (G.2.2 + x0))] dX12_begins_28 rfl (by decide) rfl ?_
      refine pw_sub [1, 0] (LV2 := [(0, .ref (G.2.2 + x0)), (1, .int (0 : Int32))]) rfl ?_
      obtain ⟨n9, h⟩ := h
      exact cbX12_begins_b29 C hr hin  n9 _ _ _ h
    · replace h := h.2 hc
      refine pw_aload_n (pc := 9) C 0 dX12_begins_9 rfl rfl ?_
      obtain ⟨hk14, h⟩ := h
      obtain ⟨o15, ho15, h⟩ := h
      refine pw_getR (pc := 10) (ref := "SupportSolverModel") (k := 1) (index := 7) C pCl10 iX12_begins_X12 hk14 rfl (by decide +kernel) (Or.inl rfl) (o := o15) ho15 dX12_begins_10 ?_
      refine pw_iload_n (pc := 13) C 1 dX12_begins_13 rfl rfl ?_
      refine pw_aload_n (pc := 14) C 0 dX12_begins_14 rfl rfl ?_
      obtain ⟨o16, ho16, h⟩ := h
      refine pw_getR (pc := 15) (ref := "SupportSolverModel") (k := 2) (index := 13) C pCl10 iX12_begins_X12 hk14 rfl (by decide +kernel) (Or.inl rfl) (o := o16) ho16 dX12_begins_15 ?_
      refine pw_iload_n (pc := 18) C 1 dX12_begins_18 rfl rfl ?_
      obtain ⟨hk17, h⟩ := h
      obtain ⟨hi18, h⟩ := h
      refine pw_iald (pc := 19) C hk17 hi18 dX12_begins_19 ?_
      obtain ⟨hk19, h⟩ := h
      obtain ⟨hi20, h⟩ := h
      refine pw_iast (pc := 20) C hk19 hi20 dX12_begins_20 ?_
      refine pw_iincK (pc := 21) (S := (sI S o15 (x1).toNatClampNeg (pI S o16 (x1).toNatClampNeg))) (w := 1) C [(1, .int (x1 + 1)), (0, .ref (G.2.2 + x0))] 1 dX12_begins_21 (by decide) rfl (by decide) rfl ?_
      refine pw_goto (pc := 24) (S := (sI S o15 (x1).toNatClampNeg (pI S o16 (x1).toNatClampNeg))) (tgt := 2) C dX12_begins_24 rfl ?_
      refine pw_sub [1, 0] (LV2 := [(0, .ref (G.2.2 + x0)), (1, .int (x1 + 1))]) rfl ?_
      exact ih _ _ _ h
set_option maxRecDepth 100000 in
set_option maxHeartbeats 4000000 in
theorem ctX12_begins (l : Launch) (G : PG) (S : PS) (x0 : Nat) (Q : PS → Prop) (h : wpX12_begins S x0 Q) : mV l yX12_begins wsX12_begins rmX12_begins G S [.ref (G.2.2 + x0)] Q := by
  unfold mV
  refine met_of (cc := cX12_begins) (maxL := 2) (ret := none) (by decide) rfl (Nat.le_of_ble_eq_true rfl) ?_
  intro p e s m args below meth c C hr hin
  unfold wpX12_begins at h
  show PW p l e _ s m args below meth c _ G 2 S 0 0 [(0, .ref (G.2.2 + x0))] 0 []
  refine pw_iconst (pc := 0) (v := 0 ) C dX12_begins_0 (by decide) ?_
  refine pw_istore_n (pc := 1) C [(1, .int (0 : Int32)), (0, .ref (G.2.2 + x0))] dX12_begins_1 rfl (by decide) rfl ?_
  refine pw_sub [1, 0] (LV2 := [(0, .ref (G.2.2 + x0)), (1, .int (0 : Int32))]) rfl ?_
  obtain ⟨n9, h⟩ := h
  exact cbX12_begins_b2 C hr hin  n9 _ _ _ h

abbrev rmX12_init : Room := { frames := 7, cells := 17, slots := 1272, locals := 177 }
theorem iX12_init_X12 : ∀ w ∈ u_ws RX12 TX12 32, w ∈ wsX12_init := fun _ h => List.mem_cons_of_mem _ (List.mem_append_right _ h)
def wpX12_init (S : PS) (x0 : Nat) (Q : PS → Prop) : Prop := (∀ a1 S2, a1 = pN S → S2 = sNew S 13 169 → (pK S2 x0 = 11 ∧ (∀ a5 S6, a5 = pN (sR S2 x0 1 (some a1)) → S6 = sNew (sR S2 x0 1 (some a1)) 13 169 → (pK S6 x0 = 11 ∧ (∀ a9 S10, a9 = pN (sR S6 x0 2 (some a5)) → S10 = sNew (sR S6 x0 2 (some a5)) 13 7 → (pK S10 x0 = 11 ∧ (∀ a13 S14, a13 = pN (sR S10 x0 3 (some a9)) → S14 = sNew (sR S10 x0 3 (some a9)) 13 175 → (pK S14 x0 = 11 ∧ (∀ a17 S18, a17 = pN (sR S14 x0 4 (some a13)) → S18 = sNew (sR S14 x0 4 (some a13)) 13 14 → (pK S18 x0 = 11 ∧ (∀ a21 S22, a21 = pN (sR S18 x0 5 (some a17)) → S22 = sNew (sR S18 x0 5 (some a17)) 13 12 → (pK S22 x0 = 11 ∧ (∀ a25 S26, a25 = pN (sR S22 x0 6 (some a21)) → S26 = sNew (sR S22 x0 6 (some a21)) 13 600 → (pK S26 x0 = 11 ∧ (∀ a29 S30, a29 = pN (sI (sR S26 x0 12 (some a25)) x0 20 (-1 : Int32)) → S30 = sNew (sI (sR S26 x0 12 (some a25)) x0 20 (-1 : Int32)) 14 7 → (pK S30 x0 = 11 ∧ (∀ a33 S34, a33 = pN (sR S30 x0 22 (some a29)) → S34 = sNew (sR S30 x0 22 (some a29)) 13 7 → (pK S34 x0 = 11 ∧ (∀ a37 S38, a37 = pN (sR S34 x0 23 (some a33)) → S38 = sNew (sR S34 x0 23 (some a33)) 15 35 → (pK S38 x0 = 11 ∧ (∀ a41 S42, a41 = pN (sR S38 x0 24 (some a37)) → S42 = sNew (sR S38 x0 24 (some a37)) 13 7 → (pK S42 x0 = 11 ∧ (∀ a45 S46, a45 = pN (sR S42 x0 25 (some a41)) → S46 = sNew (sR S42 x0 25 (some a41)) 13 35 → (pK S46 x0 = 11 ∧ (∀ a49 S50, a49 = pN (sR S46 x0 26 (some a45)) → S50 = sNew (sR S46 x0 26 (some a45)) 13 7 → (pK S50 x0 = 11 ∧ (∀ a53 S54, a53 = pN (sR S50 x0 27 (some a49)) → S54 = sNew (sR S50 x0 27 (some a49)) 13 7 → (pK S54 x0 = 11 ∧ (∀ a57 S58, a57 = pN (sR S54 x0 28 (some a53)) → S58 = sNew (sR S54 x0 28 (some a53)) 13 7 → (pK S58 x0 = 11 ∧ (∀ a61 S62, a61 = pN (sR S58 x0 29 (some a57)) → S62 = sNew (sR S58 x0 29 (some a57)) 13 7 → (pK S62 x0 = 11 ∧ (∀ a65 S66, a65 = pN (sR S62 x0 30 (some a61)) → S66 = sNew (sR S62 x0 30 (some a61)) 13 7 → (pK S66 x0 = 11 ∧ (wpX12_begins (sR S66 x0 31 (some a65)) x0 (fun S70 => (Q S70)))))))))))))))))))))))))))))))))))))
set_option maxRecDepth 100000 in
set_option maxHeartbeats 4000000 in
theorem ctX12_init (l : Launch) (G : PG) (S : PS) (x0 : Nat) (Q : PS → Prop) (h : wpX12_init S x0 Q) : mV l yX12_init wsX12_init rmX12_init G S [.ref (G.2.2 + x0)] Q := by
  unfold mV
  refine met_of (cc := cX12_init) (maxL := 1) (ret := none) (by decide) rfl (Nat.le_of_ble_eq_true rfl) ?_
  intro p e s m args below meth c C hr hin
  unfold wpX12_init at h
  show PW p l e _ s m args below meth c _ G 1 S 0 0 [(0, .ref (G.2.2 + x0))] 0 []
  refine pw_aload_n (pc := 0) C 0 dX12_init_0 rfl rfl ?_
  refine pw_objInit (pc := 1) C (by decide +kernel) (by decide +kernel) (by decide +kernel) (Nat.le_of_ble_eq_true rfl) (Nat.le_of_ble_eq_true rfl) (Nat.le_of_ble_eq_true rfl) dX12_init_1 ?_
  refine pw_aload_n (pc := 4) C 0 dX12_init_4 rfl rfl ?_
  refine pw_sipush (pc := 5) (v := 169 ) C dX12_init_5 (by decide) ?_
  refine pw_newaI (pc := 8) (atype := .int) (κ := 13) (i := 1) (N := 169) (kc2 := 1) (kn2 := 169) C (by decide) rfl rfl (fun h9 => h9) (by decide +kernel) (by decide) rfl (Nat.le_of_ble_eq_true rfl) rfl rfl (Nat.le_of_ble_eq_true rfl) (Nat.le_of_ble_eq_true rfl) dX12_init_8 ?_
  obtain ⟨a1, ea1⟩ : ∃ q, q = pN S := ⟨_, rfl⟩
  obtain ⟨S2, eS2⟩ : ∃ q, q = sNew S 13 169 := ⟨_, rfl⟩
  rw [← ea1, ← eS2]
  replace h := h a1 S2 ea1 eS2
  have hk3 : pK S2 a1 = 13 := by rw [eS2, ea1, pK_sNew, if_pos rfl]
  obtain ⟨hk4, h⟩ := h
  refine pw_putR (pc := 10) (ref := "SupportSolverModel") (k := 1) (index := 7) C pCl10 iX12_init_X12 hk4 rfl (by decide +kernel) (Or.inl rfl) (o := a1) (Or.inr ⟨rfl, hin, rfl, rfl⟩) rfl rfl dX12_init_10 ?_
  refine pw_aload_n (pc := 13) (S := (sR S2 x0 1 (some a1))) C 0 dX12_init_13 rfl rfl ?_
  refine pw_sipush (pc := 14) (S := (sR S2 x0 1 (some a1))) (v := 169 ) C dX12_init_14 (by decide) ?_
  refine pw_newaI (pc := 17) (S := (sR S2 x0 1 (some a1))) (atype := .int) (κ := 13) (i := 1) (N := 169) (kc2 := 2) (kn2 := 338) C (by decide) rfl rfl (fun h9 => h9) (by decide +kernel) (by decide) rfl (Nat.le_of_ble_eq_true rfl) rfl rfl (Nat.le_of_ble_eq_true rfl) (Nat.le_of_ble_eq_true rfl) dX12_init_17 ?_
  obtain ⟨a5, ea5⟩ : ∃ q, q = pN (sR S2 x0 1 (some a1)) := ⟨_, rfl⟩
  obtain ⟨S6, eS6⟩ : ∃ q, q = sNew (sR S2 x0 1 (some a1)) 13 169 := ⟨_, rfl⟩
  rw [← ea5, ← eS6]
  replace h := h a5 S6 ea5 eS6
  have hk7 : pK S6 a5 = 13 := by rw [eS6, ea5, pK_sNew, if_pos rfl]
  obtain ⟨hk8, h⟩ := h
  refine pw_putR (pc := 19) (ref := "SupportSolverModel") (k := 2) (index := 13) C pCl10 iX12_init_X12 hk8 rfl (by decide +kernel) (Or.inl rfl) (o := a5) (Or.inr ⟨rfl, hin, rfl, rfl⟩) rfl rfl dX12_init_19 ?_
  refine pw_aload_n (pc := 22) (S := (sR S6 x0 2 (some a5))) C 0 dX12_init_22 rfl rfl ?_
  refine pw_bipush (pc := 23) (S := (sR S6 x0 2 (some a5))) (v := 7 ) C dX12_init_23 (by decide) ?_
  refine pw_newaI (pc := 25) (S := (sR S6 x0 2 (some a5))) (atype := .int) (κ := 13) (i := 1) (N := 7) (kc2 := 3) (kn2 := 345) C (by decide) rfl rfl (fun h9 => h9) (by decide +kernel) (by decide) rfl (Nat.le_of_ble_eq_true rfl) rfl rfl (Nat.le_of_ble_eq_true rfl) (Nat.le_of_ble_eq_true rfl) dX12_init_25 ?_
  obtain ⟨a9, ea9⟩ : ∃ q, q = pN (sR S6 x0 2 (some a5)) := ⟨_, rfl⟩
  obtain ⟨S10, eS10⟩ : ∃ q, q = sNew (sR S6 x0 2 (some a5)) 13 7 := ⟨_, rfl⟩
  rw [← ea9, ← eS10]
  replace h := h a9 S10 ea9 eS10
  have hk11 : pK S10 a9 = 13 := by rw [eS10, ea9, pK_sNew, if_pos rfl]
  obtain ⟨hk12, h⟩ := h
  refine pw_putR (pc := 27) (ref := "SupportSolverModel") (k := 3) (index := 16) C pCl10 iX12_init_X12 hk12 rfl (by decide +kernel) (Or.inl rfl) (o := a9) (Or.inr ⟨rfl, hin, rfl, rfl⟩) rfl rfl dX12_init_27 ?_
  refine pw_aload_n (pc := 30) (S := (sR S10 x0 3 (some a9))) C 0 dX12_init_30 rfl rfl ?_
  refine pw_sipush (pc := 31) (S := (sR S10 x0 3 (some a9))) (v := 175 ) C dX12_init_31 (by decide) ?_
  refine pw_newaI (pc := 34) (S := (sR S10 x0 3 (some a9))) (atype := .int) (κ := 13) (i := 1) (N := 175) (kc2 := 4) (kn2 := 520) C (by decide) rfl rfl (fun h9 => h9) (by decide +kernel) (by decide) rfl (Nat.le_of_ble_eq_true rfl) rfl rfl (Nat.le_of_ble_eq_true rfl) (Nat.le_of_ble_eq_true rfl) dX12_init_34 ?_
  obtain ⟨a13, ea13⟩ : ∃ q, q = pN (sR S10 x0 3 (some a9)) := ⟨_, rfl⟩
  obtain ⟨S14, eS14⟩ : ∃ q, q = sNew (sR S10 x0 3 (some a9)) 13 175 := ⟨_, rfl⟩
  rw [← ea13, ← eS14]
  replace h := h a13 S14 ea13 eS14
  have hk15 : pK S14 a13 = 13 := by rw [eS14, ea13, pK_sNew, if_pos rfl]
  obtain ⟨hk16, h⟩ := h
  refine pw_putR (pc := 36) (ref := "SupportSolverModel") (k := 4) (index := 19) C pCl10 iX12_init_X12 hk16 rfl (by decide +kernel) (Or.inl rfl) (o := a13) (Or.inr ⟨rfl, hin, rfl, rfl⟩) rfl rfl dX12_init_36 ?_
  refine pw_aload_n (pc := 39) (S := (sR S14 x0 4 (some a13))) C 0 dX12_init_39 rfl rfl ?_
  refine pw_bipush (pc := 40) (S := (sR S14 x0 4 (some a13))) (v := 14 ) C dX12_init_40 (by decide) ?_
  refine pw_newaI (pc := 42) (S := (sR S14 x0 4 (some a13))) (atype := .int) (κ := 13) (i := 1) (N := 14) (kc2 := 5) (kn2 := 534) C (by decide) rfl rfl (fun h9 => h9) (by decide +kernel) (by decide) rfl (Nat.le_of_ble_eq_true rfl) rfl rfl (Nat.le_of_ble_eq_true rfl) (Nat.le_of_ble_eq_true rfl) dX12_init_42 ?_
  obtain ⟨a17, ea17⟩ : ∃ q, q = pN (sR S14 x0 4 (some a13)) := ⟨_, rfl⟩
  obtain ⟨S18, eS18⟩ : ∃ q, q = sNew (sR S14 x0 4 (some a13)) 13 14 := ⟨_, rfl⟩
  rw [← ea17, ← eS18]
  replace h := h a17 S18 ea17 eS18
  have hk19 : pK S18 a17 = 13 := by rw [eS18, ea17, pK_sNew, if_pos rfl]
  obtain ⟨hk20, h⟩ := h
  refine pw_putR (pc := 44) (ref := "SupportSolverModel") (k := 5) (index := 22) C pCl10 iX12_init_X12 hk20 rfl (by decide +kernel) (Or.inl rfl) (o := a17) (Or.inr ⟨rfl, hin, rfl, rfl⟩) rfl rfl dX12_init_44 ?_
  refine pw_aload_n (pc := 47) (S := (sR S18 x0 5 (some a17))) C 0 dX12_init_47 rfl rfl ?_
  refine pw_bipush (pc := 48) (S := (sR S18 x0 5 (some a17))) (v := 12 ) C dX12_init_48 (by decide) ?_
  refine pw_newaI (pc := 50) (S := (sR S18 x0 5 (some a17))) (atype := .int) (κ := 13) (i := 1) (N := 12) (kc2 := 6) (kn2 := 546) C (by decide) rfl rfl (fun h9 => h9) (by decide +kernel) (by decide) rfl (Nat.le_of_ble_eq_true rfl) rfl rfl (Nat.le_of_ble_eq_true rfl) (Nat.le_of_ble_eq_true rfl) dX12_init_50 ?_
  obtain ⟨a21, ea21⟩ : ∃ q, q = pN (sR S18 x0 5 (some a17)) := ⟨_, rfl⟩
  obtain ⟨S22, eS22⟩ : ∃ q, q = sNew (sR S18 x0 5 (some a17)) 13 12 := ⟨_, rfl⟩
  rw [← ea21, ← eS22]
  replace h := h a21 S22 ea21 eS22
  have hk23 : pK S22 a21 = 13 := by rw [eS22, ea21, pK_sNew, if_pos rfl]
  obtain ⟨hk24, h⟩ := h
  refine pw_putR (pc := 52) (ref := "SupportSolverModel") (k := 6) (index := 25) C pCl10 iX12_init_X12 hk24 rfl (by decide +kernel) (Or.inl rfl) (o := a21) (Or.inr ⟨rfl, hin, rfl, rfl⟩) rfl rfl dX12_init_52 ?_
  refine pw_aload_n (pc := 55) (S := (sR S22 x0 6 (some a21))) C 0 dX12_init_55 rfl rfl ?_
  refine pw_sipush (pc := 56) (S := (sR S22 x0 6 (some a21))) (v := 600 ) C dX12_init_56 (by decide) ?_
  refine pw_newaI (pc := 59) (S := (sR S22 x0 6 (some a21))) (atype := .int) (κ := 13) (i := 1) (N := 600) (kc2 := 7) (kn2 := 1146) C (by decide) rfl rfl (fun h9 => h9) (by decide +kernel) (by decide) rfl (Nat.le_of_ble_eq_true rfl) rfl rfl (Nat.le_of_ble_eq_true rfl) (Nat.le_of_ble_eq_true rfl) dX12_init_59 ?_
  obtain ⟨a25, ea25⟩ : ∃ q, q = pN (sR S22 x0 6 (some a21)) := ⟨_, rfl⟩
  obtain ⟨S26, eS26⟩ : ∃ q, q = sNew (sR S22 x0 6 (some a21)) 13 600 := ⟨_, rfl⟩
  rw [← ea25, ← eS26]
  replace h := h a25 S26 ea25 eS26
  have hk27 : pK S26 a25 = 13 := by rw [eS26, ea25, pK_sNew, if_pos rfl]
  obtain ⟨hk28, h⟩ := h
  refine pw_putR (pc := 61) (ref := "SupportSolverModel") (k := 12) (index := 28) C pCl10 iX12_init_X12 hk28 rfl (by decide +kernel) (Or.inl rfl) (o := a25) (Or.inr ⟨rfl, hin, rfl, rfl⟩) rfl rfl dX12_init_61 ?_
  refine pw_aload_n (pc := 64) (S := (sR S26 x0 12 (some a25))) C 0 dX12_init_64 rfl rfl ?_
  refine pw_iconst (pc := 65) (S := (sR S26 x0 12 (some a25))) (v := (-1)) C dX12_init_65 (by decide) ?_
  refine pw_putI (pc := 66) (S := (sR S26 x0 12 (some a25))) (ref := "SupportSolverModel") (k := 20) (index := 31) C pCl10 iX12_init_X12 hk28 rfl (by decide +kernel) (Or.inl rfl) (Or.inl rfl) rfl rfl dX12_init_66 ?_
  refine pw_aload_n (pc := 69) (S := (sI (sR S26 x0 12 (some a25)) x0 20 (-1 : Int32))) C 0 dX12_init_69 rfl rfl ?_
  refine pw_bipush (pc := 70) (S := (sI (sR S26 x0 12 (some a25)) x0 20 (-1 : Int32))) (v := 7 ) C dX12_init_70 (by decide) ?_
  refine pw_newaJ (pc := 72) (S := (sI (sR S26 x0 12 (some a25)) x0 20 (-1 : Int32))) (N := 7) (kc2 := 8) (kn2 := 1153) C (by decide +kernel) (by decide) rfl (Nat.le_of_ble_eq_true rfl) rfl rfl (Nat.le_of_ble_eq_true rfl) (Nat.le_of_ble_eq_true rfl) dX12_init_72 ?_
  obtain ⟨a29, ea29⟩ : ∃ q, q = pN (sI (sR S26 x0 12 (some a25)) x0 20 (-1 : Int32)) := ⟨_, rfl⟩
  obtain ⟨S30, eS30⟩ : ∃ q, q = sNew (sI (sR S26 x0 12 (some a25)) x0 20 (-1 : Int32)) 14 7 := ⟨_, rfl⟩
  rw [← ea29, ← eS30]
  replace h := h a29 S30 ea29 eS30
  have hk31 : pK S30 a29 = 14 := by rw [eS30, ea29, pK_sNew, if_pos rfl]
  obtain ⟨hk32, h⟩ := h
  refine pw_putR (pc := 74) (ref := "SupportSolverModel") (k := 22) (index := 35) C pCl10 iX12_init_X12 hk32 rfl (by decide +kernel) (Or.inl rfl) (o := a29) (Or.inr ⟨rfl, hin, rfl, rfl⟩) rfl rfl dX12_init_74 ?_
  refine pw_aload_n (pc := 77) (S := (sR S30 x0 22 (some a29))) C 0 dX12_init_77 rfl rfl ?_
  refine pw_bipush (pc := 78) (S := (sR S30 x0 22 (some a29))) (v := 7 ) C dX12_init_78 (by decide) ?_
  refine pw_newaI (pc := 80) (S := (sR S30 x0 22 (some a29))) (atype := .int) (κ := 13) (i := 1) (N := 7) (kc2 := 9) (kn2 := 1160) C (by decide) rfl rfl (fun h9 => h9) (by decide +kernel) (by decide) rfl (Nat.le_of_ble_eq_true rfl) rfl rfl (Nat.le_of_ble_eq_true rfl) (Nat.le_of_ble_eq_true rfl) dX12_init_80 ?_
  obtain ⟨a33, ea33⟩ : ∃ q, q = pN (sR S30 x0 22 (some a29)) := ⟨_, rfl⟩
  obtain ⟨S34, eS34⟩ : ∃ q, q = sNew (sR S30 x0 22 (some a29)) 13 7 := ⟨_, rfl⟩
  rw [← ea33, ← eS34]
  replace h := h a33 S34 ea33 eS34
  have hk35 : pK S34 a33 = 13 := by rw [eS34, ea33, pK_sNew, if_pos rfl]
  obtain ⟨hk36, h⟩ := h
  refine pw_putR (pc := 82) (ref := "SupportSolverModel") (k := 23) (index := 39) C pCl10 iX12_init_X12 hk36 rfl (by decide +kernel) (Or.inl rfl) (o := a33) (Or.inr ⟨rfl, hin, rfl, rfl⟩) rfl rfl dX12_init_82 ?_
  refine pw_aload_n (pc := 85) (S := (sR S34 x0 23 (some a33))) C 0 dX12_init_85 rfl rfl ?_
  refine pw_bipush (pc := 86) (S := (sR S34 x0 23 (some a33))) (v := 35 ) C dX12_init_86 (by decide) ?_
  refine pw_newaI (pc := 88) (S := (sR S34 x0 23 (some a33))) (atype := .boolean) (κ := 15) (i := 3) (N := 35) (kc2 := 10) (kn2 := 1195) C (by decide) rfl rfl (fun h9 => h9) (by decide +kernel) (by decide) rfl (Nat.le_of_ble_eq_true rfl) rfl rfl (Nat.le_of_ble_eq_true rfl) (Nat.le_of_ble_eq_true rfl) dX12_init_88 ?_
  obtain ⟨a37, ea37⟩ : ∃ q, q = pN (sR S34 x0 23 (some a33)) := ⟨_, rfl⟩
  obtain ⟨S38, eS38⟩ : ∃ q, q = sNew (sR S34 x0 23 (some a33)) 15 35 := ⟨_, rfl⟩
  rw [← ea37, ← eS38]
  replace h := h a37 S38 ea37 eS38
  have hk39 : pK S38 a37 = 15 := by rw [eS38, ea37, pK_sNew, if_pos rfl]
  obtain ⟨hk40, h⟩ := h
  refine pw_putR (pc := 90) (ref := "SupportSolverModel") (k := 24) (index := 42) C pCl10 iX12_init_X12 hk40 rfl (by decide +kernel) (Or.inl rfl) (o := a37) (Or.inr ⟨rfl, hin, rfl, rfl⟩) rfl rfl dX12_init_90 ?_
  refine pw_aload_n (pc := 93) (S := (sR S38 x0 24 (some a37))) C 0 dX12_init_93 rfl rfl ?_
  refine pw_bipush (pc := 94) (S := (sR S38 x0 24 (some a37))) (v := 7 ) C dX12_init_94 (by decide) ?_
  refine pw_newaI (pc := 96) (S := (sR S38 x0 24 (some a37))) (atype := .int) (κ := 13) (i := 1) (N := 7) (kc2 := 11) (kn2 := 1202) C (by decide) rfl rfl (fun h9 => h9) (by decide +kernel) (by decide) rfl (Nat.le_of_ble_eq_true rfl) rfl rfl (Nat.le_of_ble_eq_true rfl) (Nat.le_of_ble_eq_true rfl) dX12_init_96 ?_
  obtain ⟨a41, ea41⟩ : ∃ q, q = pN (sR S38 x0 24 (some a37)) := ⟨_, rfl⟩
  obtain ⟨S42, eS42⟩ : ∃ q, q = sNew (sR S38 x0 24 (some a37)) 13 7 := ⟨_, rfl⟩
  rw [← ea41, ← eS42]
  replace h := h a41 S42 ea41 eS42
  have hk43 : pK S42 a41 = 13 := by rw [eS42, ea41, pK_sNew, if_pos rfl]
  obtain ⟨hk44, h⟩ := h
  refine pw_putR (pc := 98) (ref := "SupportSolverModel") (k := 25) (index := 46) C pCl10 iX12_init_X12 hk44 rfl (by decide +kernel) (Or.inl rfl) (o := a41) (Or.inr ⟨rfl, hin, rfl, rfl⟩) rfl rfl dX12_init_98 ?_
  refine pw_aload_n (pc := 101) (S := (sR S42 x0 25 (some a41))) C 0 dX12_init_101 rfl rfl ?_
  refine pw_bipush (pc := 102) (S := (sR S42 x0 25 (some a41))) (v := 35 ) C dX12_init_102 (by decide) ?_
  refine pw_newaI (pc := 104) (S := (sR S42 x0 25 (some a41))) (atype := .int) (κ := 13) (i := 1) (N := 35) (kc2 := 12) (kn2 := 1237) C (by decide) rfl rfl (fun h9 => h9) (by decide +kernel) (by decide) rfl (Nat.le_of_ble_eq_true rfl) rfl rfl (Nat.le_of_ble_eq_true rfl) (Nat.le_of_ble_eq_true rfl) dX12_init_104 ?_
  obtain ⟨a45, ea45⟩ : ∃ q, q = pN (sR S42 x0 25 (some a41)) := ⟨_, rfl⟩
  obtain ⟨S46, eS46⟩ : ∃ q, q = sNew (sR S42 x0 25 (some a41)) 13 35 := ⟨_, rfl⟩
  rw [← ea45, ← eS46]
  replace h := h a45 S46 ea45 eS46
  have hk47 : pK S46 a45 = 13 := by rw [eS46, ea45, pK_sNew, if_pos rfl]
  obtain ⟨hk48, h⟩ := h
  refine pw_putR (pc := 106) (ref := "SupportSolverModel") (k := 26) (index := 49) C pCl10 iX12_init_X12 hk48 rfl (by decide +kernel) (Or.inl rfl) (o := a45) (Or.inr ⟨rfl, hin, rfl, rfl⟩) rfl rfl dX12_init_106 ?_
  refine pw_aload_n (pc := 109) (S := (sR S46 x0 26 (some a45))) C 0 dX12_init_109 rfl rfl ?_
  refine pw_bipush (pc := 110) (S := (sR S46 x0 26 (some a45))) (v := 7 ) C dX12_init_110 (by decide) ?_
  refine pw_newaI (pc := 112) (S := (sR S46 x0 26 (some a45))) (atype := .int) (κ := 13) (i := 1) (N := 7) (kc2 := 13) (kn2 := 1244) C (by decide) rfl rfl (fun h9 => h9) (by decide +kernel) (by decide) rfl (Nat.le_of_ble_eq_true rfl) rfl rfl (Nat.le_of_ble_eq_true rfl) (Nat.le_of_ble_eq_true rfl) dX12_init_112 ?_
  obtain ⟨a49, ea49⟩ : ∃ q, q = pN (sR S46 x0 26 (some a45)) := ⟨_, rfl⟩
  obtain ⟨S50, eS50⟩ : ∃ q, q = sNew (sR S46 x0 26 (some a45)) 13 7 := ⟨_, rfl⟩
  rw [← ea49, ← eS50]
  replace h := h a49 S50 ea49 eS50
  have hk51 : pK S50 a49 = 13 := by rw [eS50, ea49, pK_sNew, if_pos rfl]
  obtain ⟨hk52, h⟩ := h
  refine pw_putR (pc := 114) (ref := "SupportSolverModel") (k := 27) (index := 52) C pCl10 iX12_init_X12 hk52 rfl (by decide +kernel) (Or.inl rfl) (o := a49) (Or.inr ⟨rfl, hin, rfl, rfl⟩) rfl rfl dX12_init_114 ?_
  refine pw_aload_n (pc := 117) (S := (sR S50 x0 27 (some a49))) C 0 dX12_init_117 rfl rfl ?_
  refine pw_bipush (pc := 118) (S := (sR S50 x0 27 (some a49))) (v := 7 ) C dX12_init_118 (by decide) ?_
  refine pw_newaI (pc := 120) (S := (sR S50 x0 27 (some a49))) (atype := .int) (κ := 13) (i := 1) (N := 7) (kc2 := 14) (kn2 := 1251) C (by decide) rfl rfl (fun h9 => h9) (by decide +kernel) (by decide) rfl (Nat.le_of_ble_eq_true rfl) rfl rfl (Nat.le_of_ble_eq_true rfl) (Nat.le_of_ble_eq_true rfl) dX12_init_120 ?_
  obtain ⟨a53, ea53⟩ : ∃ q, q = pN (sR S50 x0 27 (some a49)) := ⟨_, rfl⟩
  obtain ⟨S54, eS54⟩ : ∃ q, q = sNew (sR S50 x0 27 (some a49)) 13 7 := ⟨_, rfl⟩
  rw [← ea53, ← eS54]
  replace h := h a53 S54 ea53 eS54
  have hk55 : pK S54 a53 = 13 := by rw [eS54, ea53, pK_sNew, if_pos rfl]
  obtain ⟨hk56, h⟩ := h
  refine pw_putR (pc := 122) (ref := "SupportSolverModel") (k := 28) (index := 55) C pCl10 iX12_init_X12 hk56 rfl (by decide +kernel) (Or.inl rfl) (o := a53) (Or.inr ⟨rfl, hin, rfl, rfl⟩) rfl rfl dX12_init_122 ?_
  refine pw_aload_n (pc := 125) (S := (sR S54 x0 28 (some a53))) C 0 dX12_init_125 rfl rfl ?_
  refine pw_bipush (pc := 126) (S := (sR S54 x0 28 (some a53))) (v := 7 ) C dX12_init_126 (by decide) ?_
  refine pw_newaI (pc := 128) (S := (sR S54 x0 28 (some a53))) (atype := .int) (κ := 13) (i := 1) (N := 7) (kc2 := 15) (kn2 := 1258) C (by decide) rfl rfl (fun h9 => h9) (by decide +kernel) (by decide) rfl (Nat.le_of_ble_eq_true rfl) rfl rfl (Nat.le_of_ble_eq_true rfl) (Nat.le_of_ble_eq_true rfl) dX12_init_128 ?_
  obtain ⟨a57, ea57⟩ : ∃ q, q = pN (sR S54 x0 28 (some a53)) := ⟨_, rfl⟩
  obtain ⟨S58, eS58⟩ : ∃ q, q = sNew (sR S54 x0 28 (some a53)) 13 7 := ⟨_, rfl⟩
  rw [← ea57, ← eS58]
  replace h := h a57 S58 ea57 eS58
  have hk59 : pK S58 a57 = 13 := by rw [eS58, ea57, pK_sNew, if_pos rfl]
  obtain ⟨hk60, h⟩ := h
  refine pw_putR (pc := 130) (ref := "SupportSolverModel") (k := 29) (index := 58) C pCl10 iX12_init_X12 hk60 rfl (by decide +kernel) (Or.inl rfl) (o := a57) (Or.inr ⟨rfl, hin, rfl, rfl⟩) rfl rfl dX12_init_130 ?_
  refine pw_aload_n (pc := 133) (S := (sR S58 x0 29 (some a57))) C 0 dX12_init_133 rfl rfl ?_
  refine pw_bipush (pc := 134) (S := (sR S58 x0 29 (some a57))) (v := 7 ) C dX12_init_134 (by decide) ?_
  refine pw_newaI (pc := 136) (S := (sR S58 x0 29 (some a57))) (atype := .int) (κ := 13) (i := 1) (N := 7) (kc2 := 16) (kn2 := 1265) C (by decide) rfl rfl (fun h9 => h9) (by decide +kernel) (by decide) rfl (Nat.le_of_ble_eq_true rfl) rfl rfl (Nat.le_of_ble_eq_true rfl) (Nat.le_of_ble_eq_true rfl) dX12_init_136 ?_
  obtain ⟨a61, ea61⟩ : ∃ q, q = pN (sR S58 x0 29 (some a57)) := ⟨_, rfl⟩
  obtain ⟨S62, eS62⟩ : ∃ q, q = sNew (sR S58 x0 29 (some a57)) 13 7 := ⟨_, rfl⟩
  rw [← ea61, ← eS62]
  replace h := h a61 S62 ea61 eS62
  have hk63 : pK S62 a61 = 13 := by rw [eS62, ea61, pK_sNew, if_pos rfl]
  obtain ⟨hk64, h⟩ := h
  refine pw_putR (pc := 138) (ref := "SupportSolverModel") (k := 30) (index := 61) C pCl10 iX12_init_X12 hk64 rfl (by decide +kernel) (Or.inl rfl) (o := a61) (Or.inr ⟨rfl, hin, rfl, rfl⟩) rfl rfl dX12_init_138 ?_
  refine pw_aload_n (pc := 141) (S := (sR S62 x0 30 (some a61))) C 0 dX12_init_141 rfl rfl ?_
  refine pw_bipush (pc := 142) (S := (sR S62 x0 30 (some a61))) (v := 7 ) C dX12_init_142 (by decide) ?_
  refine pw_newaI (pc := 144) (S := (sR S62 x0 30 (some a61))) (atype := .int) (κ := 13) (i := 1) (N := 7) (kc2 := 17) (kn2 := 1272) C (by decide) rfl rfl (fun h9 => h9) (by decide +kernel) (by decide) rfl (Nat.le_of_ble_eq_true rfl) rfl rfl (Nat.le_of_ble_eq_true rfl) (Nat.le_of_ble_eq_true rfl) dX12_init_144 ?_
  obtain ⟨a65, ea65⟩ : ∃ q, q = pN (sR S62 x0 30 (some a61)) := ⟨_, rfl⟩
  obtain ⟨S66, eS66⟩ : ∃ q, q = sNew (sR S62 x0 30 (some a61)) 13 7 := ⟨_, rfl⟩
  rw [← ea65, ← eS66]
  replace h := h a65 S66 ea65 eS66
  have hk67 : pK S66 a65 = 13 := by rw [eS66, ea65, pK_sNew, if_pos rfl]
  obtain ⟨hk68, h⟩ := h
  refine pw_putR (pc := 146) (ref := "SupportSolverModel") (k := 31) (index := 64) C pCl10 iX12_init_X12 hk68 rfl (by decide +kernel) (Or.inl rfl) (o := a65) (Or.inr ⟨rfl, hin, rfl, rfl⟩) rfl rfl dX12_init_146 ?_
  refine pw_aload_n (pc := 149) (S := (sR S66 x0 31 (some a65))) C 0 dX12_init_149 rfl rfl ?_
  refine pw_callv (pc := 150) (S := (sR S66 x0 31 (some a65))) (kc2 := 17) (kn2 := 1272) (pRunV (pc := 150) (S := (sR S66 x0 31 (some a65))) C (ctX12_begins l G  _ x0 _ h) (cwV 0 C.2.2.2.2.1 gX12_init_X12_begins rfl rfl rfl (by decide +kernel) ⟨Nat.le_of_ble_eq_true rfl, Nat.le_of_ble_eq_true rfl⟩) pCl10 hk68 rfl rfl (Nat.le_of_ble_eq_true rfl) dX12_init_150 ⟨Nat.le_of_ble_eq_true rfl, Nat.le_of_ble_eq_true rfl⟩) rfl rfl (fun S70 h => ?_)
  exact pw_vret (pc := 153) C hr h dX12_init_153

abbrev rmX12_thrown : Room := { frames := 0, cells := 0, slots := 0, locals := 0 }
theorem iX12_thrown_X12 : ∀ w ∈ u_ws RX12 TX12 32, w ∈ wsX12_thrown := fun _ h => List.mem_cons_of_mem _ (List.mem_append_right _ h)
def wpX12_thrown (S : PS) (x0 : Nat) (Q : Int32 → PS → Prop) : Prop := (pK S x0 = 11 ∧ (Q (pI S x0 0) S))
set_option maxRecDepth 100000 in
set_option maxHeartbeats 4000000 in
theorem ctX12_thrown (l : Launch) (G : PG) (S : PS) (x0 : Nat) (Q : Int32 → PS → Prop) (h : wpX12_thrown S x0 Q) : mI l yX12_thrown wsX12_thrown rmX12_thrown G S [.ref (G.2.2 + x0)] Q := by
  unfold mI
  refine met_of (cc := cX12_thrown) (maxL := 1) (ret := (some .int)) (by decide) rfl (Nat.le_of_ble_eq_true rfl) ?_
  intro p e s m args below meth c C hr hin
  unfold wpX12_thrown at h
  show PW p l e _ s m args below meth c _ G 1 S 0 0 [(0, .ref (G.2.2 + x0))] 0 []
  refine pw_aload_n (pc := 0) C 0 dX12_thrown_0 rfl rfl ?_
  obtain ⟨hk1, h⟩ := h
  refine pw_getI (pc := 1) (ref := "SupportSolverModel") (k := 0) (index := 70) C pCl10 iX12_thrown_X12 hk1 rfl (by decide +kernel) (Or.inl rfl) dX12_thrown_1 ?_
  exact pw_iret (pc := 4) C hr h dX12_thrown_4

abbrev rmX12_may : Room := { frames := 0, cells := 0, slots := 0, locals := 0 }
theorem iX12_may_X12 : ∀ w ∈ u_ws RX12 TX12 32, w ∈ wsX12_may := fun _ h => List.mem_cons_of_mem _ (List.mem_append_right _ h)
def wpX12_may_b16  (Q : Int32 → PS → Prop) (S : PS) (x0 : Nat) (x1 : Int32) (x2 : Int32) : Prop := (pK S x0 = 11 ∧ ((¬ (pI S x0 0) = 0 → (Q (0 : Int32) S)) ∧ ((pI S x0 0) = 0 → (Q (1 : Int32) S))))
def wpX12_may (S : PS) (x0 : Nat) (x1 : Int32) (x2 : Int32) (Q : Int32 → PS → Prop) : Prop := ((¬ x1 = 0 → (wpX12_may_b16 Q S x0 x1 x2)) ∧ (x1 = 0 → (pK S x0 = 11 ∧ ((¬ (pI S x0 0) = 0 → (wpX12_may_b16 Q S x0 x1 x2)) ∧ ((pI S x0 0) = 0 → (wpX12_may_b16 Q (sI S x0 0 x2) x0 x1 x2))))))
set_option maxRecDepth 100000 in
set_option maxHeartbeats 4000000 in
theorem cbX12_may_b16 {p : Program} {l : Launch} {e : Env} {s : State} {m : MethodId} {args : Array Value} {below : List Frame} {meth : Method} {c : Code} {G : PG} {Q : Int32 → PS → Prop} (C : pCx p s m args meth c G cX12_may 3 yX12_may.cls wsX12_may) (hr : meth.sig.returnType = (some .boolean)) (hin : meth.name = yX12_may.name)  : ∀ (S : PS) (x0 : Nat) (x1 : Int32) (x2 : Int32), wpX12_may_b16  Q S x0 x1 x2 → PW p l e rmX12_may s m args below meth c (MQ below (va_Qi Q (pB G) (pFr G)) args s rmX12_may.cells rmX12_may.slots (pFr G)) G 3 S 0 0 [(0, .ref (G.2.2 + x0)), (1, .int x1), (2, .int x2)] 16 ([]) := by
  intro S x0 x1 x2 h
  unfold wpX12_may_b16 at h
  refine pw_aload_n (pc := 16) C 0 dX12_may_16 rfl rfl ?_
  obtain ⟨hk1, h⟩ := h
  refine pw_getI (pc := 17) (ref := "SupportSolverModel") (k := 0) (index := 70) C pCl10 iX12_may_X12 hk1 rfl (by decide +kernel) (Or.inl rfl) dX12_may_17 ?_
  refine pw_if_ne (pc := 20) (tgt := 27) C dX12_may_20 rfl ⟨fun hc => ?_, fun hc => ?_⟩
  · replace h := h.1 hc
    refine pw_iconst (pc := 27) (v := 0 ) C dX12_may_27 (by decide) ?_
    exact pw_zret (pc := 28) C hr rfl h dX12_may_28
  · replace h := h.2 hc
    refine pw_iconst (pc := 23) (v := 1 ) C dX12_may_23 (by decide) ?_
    refine pw_goto (pc := 24) (tgt := 28) C dX12_may_24 rfl ?_
    exact pw_zret (pc := 28) C hr rfl h dX12_may_28
set_option maxRecDepth 100000 in
set_option maxHeartbeats 4000000 in
theorem ctX12_may (l : Launch) (G : PG) (S : PS) (x0 : Nat) (x1 : Int32) (x2 : Int32) (Q : Int32 → PS → Prop) (h : wpX12_may S x0 x1 x2 Q) : mI l yX12_may wsX12_may rmX12_may G S [.ref (G.2.2 + x0), .int x1, .int x2] Q := by
  unfold mI
  refine met_of (cc := cX12_may) (maxL := 3) (ret := (some .boolean)) (by decide) rfl (Nat.le_of_ble_eq_true rfl) ?_
  intro p e s m args below meth c C hr hin
  unfold wpX12_may at h
  show PW p l e _ s m args below meth c _ G 3 S 0 0 [(0, .ref (G.2.2 + x0)), (1, .int x1), (2, .int x2)] 0 []
  refine pw_iload_n (pc := 0) C 1 dX12_may_0 rfl rfl ?_
  refine pw_if_ne (pc := 1) (tgt := 16) C dX12_may_1 rfl ⟨fun hc => ?_, fun hc => ?_⟩
  · replace h := h.1 hc
    exact cbX12_may_b16 C hr hin  _ _ _ _ h
  · replace h := h.2 hc
    refine pw_aload_n (pc := 4) C 0 dX12_may_4 rfl rfl ?_
    obtain ⟨hk2, h⟩ := h
    refine pw_getI (pc := 5) (ref := "SupportSolverModel") (k := 0) (index := 70) C pCl10 iX12_may_X12 hk2 rfl (by decide +kernel) (Or.inl rfl) dX12_may_5 ?_
    refine pw_if_ne (pc := 8) (tgt := 16) C dX12_may_8 rfl ⟨fun hc => ?_, fun hc => ?_⟩
    · replace h := h.1 hc
      exact cbX12_may_b16 C hr hin  _ _ _ _ h
    · replace h := h.2 hc
      refine pw_aload_n (pc := 11) C 0 dX12_may_11 rfl rfl ?_
      refine pw_iload_n (pc := 12) C 2 dX12_may_12 rfl rfl ?_
      refine pw_putI (pc := 13) (ref := "SupportSolverModel") (k := 0) (index := 70) C pCl10 iX12_may_X12 hk2 rfl (by decide +kernel) (Or.inl rfl) (Or.inl rfl) rfl rfl dX12_may_13 ?_
      exact cbX12_may_b16 C hr hin  _ _ _ _ h

abbrev rmX12_append : Room := { frames := 1, cells := 0, slots := 0, locals := 22 }
theorem iX12_append_X12 : ∀ w ∈ u_ws RX12 TX12 32, w ∈ wsX12_append := fun _ h => List.mem_cons_of_mem _ (List.mem_append_right _ h)
def wpX12_append_b89 (K36 : PS → Nat → Int32 → Int32 → Int32 → Int32 → Int32 → Int32 → Prop) (Q : Int32 → PS → Prop) (S : PS) (x0 : Nat) (x1 : Int32) (x2 : Int32) (x3 : Int32) (x4 : Int32) (x5 : Int32) (x6 : Int32) (t0 : Int32) : Prop := (pK S x0 = 11 ∧ (∃ o2, pR S x0 12 = some o2 ∧ (pK S o2 = 13 ∧ (vp_in ((pI S x0 13) + x6) (pL S o2) ∧ (K36 (sI S o2 (((pI S x0 13) + x6)).toNatClampNeg ((t0 >>> (((24 : Int32) - ((8 : Int32) * (x6 - x6 / (4 : Int32) * (4 : Int32)))) &&& 31)) &&& (255 : Int32))) x0 x1 x2 x3 x4 x5 (x6 + 1))))))
def wpX12_append_b36  (Q : Int32 → PS → Prop) : Nat → PS → Nat → Int32 → Int32 → Int32 → Int32 → Int32 → Int32 → Prop
  | 0 => fun _ _ _ _ _ _ _ _ => False
  | n + 1 => fun S x0 x1 x2 x3 x4 x5 x6 => (((20 : Int32) ≤ x6 → (pK S x0 = 11 ∧ (Q (pI (sI S x0 13 ((pI S x0 13) + (20 : Int32))) x0 13) (sI S x0 13 ((pI S x0 13) + (20 : Int32)))))) ∧ (¬ (20 : Int32) ≤ x6 → (((4 : Int32) ≤ x6 → (((8 : Int32) ≤ x6 → (((12 : Int32) ≤ x6 → (((16 : Int32) ≤ x6 → (wpX12_append_b89 (wpX12_append_b36 Q n) Q S x0 x1 x2 x3 x4 x5 x6 x5)) ∧ (¬ (16 : Int32) ≤ x6 → (wpX12_append_b89 (wpX12_append_b36 Q n) Q S x0 x1 x2 x3 x4 x5 x6 x4)))) ∧ (¬ (12 : Int32) ≤ x6 → (wpX12_append_b89 (wpX12_append_b36 Q n) Q S x0 x1 x2 x3 x4 x5 x6 x3)))) ∧ (¬ (8 : Int32) ≤ x6 → (wpX12_append_b89 (wpX12_append_b36 Q n) Q S x0 x1 x2 x3 x4 x5 x6 x2)))) ∧ (¬ (4 : Int32) ≤ x6 → (wpX12_append_b89 (wpX12_append_b36 Q n) Q S x0 x1 x2 x3 x4 x5 x6 x1)))))
def wpX12_append_b24  (Q : Int32 → PS → Prop) (S : PS) (x0 : Nat) (x1 : Int32) (x2 : Int32) (x3 : Int32) (x4 : Int32) (x5 : Int32) (t0 : Nat) (t1 : Int32) : Prop := (pK S t0 = 11 ∧ (wpX12_may S t0 t1 (1 : Int32) (fun r7 S8 => ((¬ r7 = 0 → (∃ n9 : Nat, wpX12_append_b36 Q n9 S8 x0 x1 x2 x3 x4 x5 (0 : Int32))) ∧ (r7 = 0 → (Q (0 : Int32) S8))))))
def wpX12_append (S : PS) (x0 : Nat) (x1 : Int32) (x2 : Int32) (x3 : Int32) (x4 : Int32) (x5 : Int32) (Q : Int32 → PS → Prop) : Prop := (pK S x0 = 11 ∧ (((600 : Int32) < ((pI (sI S x0 0 (0 : Int32)) x0 13) + (20 : Int32)) → (wpX12_append_b24 Q (sI S x0 0 (0 : Int32)) x0 x1 x2 x3 x4 x5 x0 (0 : Int32))) ∧ (¬ (600 : Int32) < ((pI (sI S x0 0 (0 : Int32)) x0 13) + (20 : Int32)) → (wpX12_append_b24 Q (sI S x0 0 (0 : Int32)) x0 x1 x2 x3 x4 x5 x0 (1 : Int32)))))
set_option maxRecDepth 100000 in
set_option maxHeartbeats 4000000 in
theorem cbX12_append_b89 {p : Program} {l : Launch} {e : Env} {s : State} {m : MethodId} {args : Array Value} {below : List Frame} {meth : Method} {c : Code} {G : PG} {Q : Int32 → PS → Prop} (C : pCx p s m args meth c G cX12_append 8 yX12_append.cls wsX12_append) (hr : meth.sig.returnType = (some .int)) (hin : meth.name = yX12_append.name) {K36 : PS → Nat → Int32 → Int32 → Int32 → Int32 → Int32 → Int32 → Prop} (hK36 : ∀ (S : PS) (x0 : Nat) (x1 : Int32) (x2 : Int32) (x3 : Int32) (x4 : Int32) (x5 : Int32) (x6 : Int32), K36 S x0 x1 x2 x3 x4 x5 x6 → PW p l e rmX12_append s m args below meth c (MQ below (va_Qi Q (pB G) (pFr G)) args s rmX12_append.cells rmX12_append.slots (pFr G)) G 8 S 0 0 [(0, .ref (G.2.2 + x0)), (1, .int x1), (2, .int x2), (3, .int x3), (4, .int x4), (5, .int x5), (6, .int x6)] 36 ([])) : ∀ (S : PS) (x0 : Nat) (x1 : Int32) (x2 : Int32) (x3 : Int32) (x4 : Int32) (x5 : Int32) (x6 : Int32) (t0 : Int32), wpX12_append_b89 K36 Q S x0 x1 x2 x3 x4 x5 x6 t0 → PW p l e rmX12_append s m args below meth c (MQ below (va_Qi Q (pB G) (pFr G)) args s rmX12_append.cells rmX12_append.slots (pFr G)) G 8 S 0 0 [(0, .ref (G.2.2 + x0)), (1, .int x1), (2, .int x2), (3, .int x3), (4, .int x4), (5, .int x5), (6, .int x6)] 89 (.int t0 :: []) := by
  intro S x0 x1 x2 x3 x4 x5 x6 t0 h
  unfold wpX12_append_b89 at h
  refine pw_istore (pc := 89) C [(7, .int t0), (0, .ref (G.2.2 + x0)), (1, .int x1), (2, .int x2), (3, .int x3), (4, .int x4), (5, .int x5), (6, .int x6)] dX12_append_89 (by decide) rfl ?_
  refine pw_aload_n (pc := 91) C 1 dX12_append_91 rfl rfl ?_
  obtain ⟨hk1, h⟩ := h
  obtain ⟨o2, ho2, h⟩ := h
  refine pw_getR (pc := 92) (ref := "SupportSolverModel") (k := 12) (index := 28) C pCl10 iX12_append_X12 hk1 rfl (by decide +kernel) (Or.inl rfl) (o := o2) ho2 dX12_append_92 ?_
  refine pw_aload_n (pc := 95) C 1 dX12_append_95 rfl rfl ?_
  refine pw_getI (pc := 96) (ref := "SupportSolverModel") (k := 13) (index := 93) C pCl10 iX12_append_X12 hk1 rfl (by decide +kernel) (Or.inl rfl) dX12_append_96 ?_
  refine pw_iload (pc := 99) C 7 dX12_append_99 rfl ?_
  refine pw_iadd (pc := 101) C dX12_append_101 ?_
  refine pw_iload (pc := 102) C 0 dX12_append_102 rfl ?_
  refine pw_bipush (pc := 104) (v := 24 ) C dX12_append_104 (by decide) ?_
  refine pw_bipush (pc := 106) (v := 8 ) C dX12_append_106 (by decide) ?_
  refine pw_iload (pc := 108) C 7 dX12_append_108 rfl ?_
  refine pw_iconst (pc := 110) (v := 4 ) C dX12_append_110 (by decide) ?_
  refine pw_irem (pc := 111) C dX12_append_111 (by decide) ?_
  refine pw_imul (pc := 112) C dX12_append_112 ?_
  refine pw_isub (pc := 113) C dX12_append_113 ?_
  refine pw_ishr (pc := 114) C dX12_append_114 ?_
  refine pw_sipush (pc := 115) (v := 255 ) C dX12_append_115 (by decide) ?_
  refine pw_iand (pc := 118) C dX12_append_118 ?_
  obtain ⟨hk3, h⟩ := h
  obtain ⟨hi4, h⟩ := h
  refine pw_iast (pc := 119) C hk3 hi4 dX12_append_119 ?_
  refine pw_iincK (pc := 120) (S := (sI S o2 (((pI S x0 13) + x6)).toNatClampNeg ((t0 >>> (((24 : Int32) - ((8 : Int32) * (x6 - x6 / (4 : Int32) * (4 : Int32)))) &&& 31)) &&& (255 : Int32)))) (w := 1) C [(6, .int (x6 + 1)), (7, .int t0), (0, .ref (G.2.2 + x0)), (1, .int x1), (2, .int x2), (3, .int x3), (4, .int x4), (5, .int x5)] 7 dX12_append_120 (by decide) rfl (by decide) rfl ?_
  refine pw_goto (pc := 123) (S := (sI S o2 (((pI S x0 13) + x6)).toNatClampNeg ((t0 >>> (((24 : Int32) - ((8 : Int32) * (x6 - x6 / (4 : Int32) * (4 : Int32)))) &&& 31)) &&& (255 : Int32)))) (tgt := 36) C dX12_append_123 rfl ?_
  refine pw_sub [2, 3, 4, 5, 6, 7, 0] (LV2 := [(0, .ref (G.2.2 + x0)), (1, .int x1), (2, .int x2), (3, .int x3), (4, .int x4), (5, .int x5), (6, .int (x6 + 1))]) rfl ?_
  exact hK36 _ _ _ _ _ _ _ _ h
set_option maxRecDepth 100000 in
set_option maxHeartbeats 4000000 in
theorem cbX12_append_b36 {p : Program} {l : Launch} {e : Env} {s : State} {m : MethodId} {args : Array Value} {below : List Frame} {meth : Method} {c : Code} {G : PG} {Q : Int32 → PS → Prop} (C : pCx p s m args meth c G cX12_append 8 yX12_append.cls wsX12_append) (hr : meth.sig.returnType = (some .int)) (hin : meth.name = yX12_append.name)  (n : Nat) : ∀ (S : PS) (x0 : Nat) (x1 : Int32) (x2 : Int32) (x3 : Int32) (x4 : Int32) (x5 : Int32) (x6 : Int32), wpX12_append_b36  Q n S x0 x1 x2 x3 x4 x5 x6 → PW p l e rmX12_append s m args below meth c (MQ below (va_Qi Q (pB G) (pFr G)) args s rmX12_append.cells rmX12_append.slots (pFr G)) G 8 S 0 0 [(0, .ref (G.2.2 + x0)), (1, .int x1), (2, .int x2), (3, .int x3), (4, .int x4), (5, .int x5), (6, .int x6)] 36 ([]) := by
  induction n with
  | zero => intro S x0 x1 x2 x3 x4 x5 x6 h; exact h.elim
  | succ n ih =>
    intro S x0 x1 x2 x3 x4 x5 x6 h
    unfold wpX12_append_b36 at h
    refine pw_iload (pc := 36) C 6 dX12_append_36 rfl ?_
    refine pw_bipush (pc := 38) (v := 20 ) C dX12_append_38 (by decide) ?_
    refine pw_icmp_ge (pc := 40) (tgt := 126) C dX12_append_40 rfl ⟨fun hc => ?_, fun hc => ?_⟩
    · replace h := h.1 hc
      refine pw_aload_n (pc := 126) C 0 dX12_append_126 rfl rfl ?_
      refine pw_dup (pc := 127) C dX12_append_127 rfl ?_
      obtain ⟨hk5, h⟩ := h
      refine pw_getI (pc := 128) (ref := "SupportSolverModel") (k := 13) (index := 93) C pCl10 iX12_append_X12 hk5 rfl (by decide +kernel) (Or.inl rfl) dX12_append_128 ?_
      refine pw_bipush (pc := 131) (v := 20 ) C dX12_append_131 (by decide) ?_
      refine pw_iadd (pc := 133) C dX12_append_133 ?_
      refine pw_putI (pc := 134) (ref := "SupportSolverModel") (k := 13) (index := 93) C pCl10 iX12_append_X12 hk5 rfl (by decide +kernel) (Or.inl rfl) (Or.inl rfl) rfl rfl dX12_append_134 ?_
      refine pw_aload_n (pc := 137) (S := (sI S x0 13 ((pI S x0 13) + (20 : Int32)))) C 0 dX12_append_137 rfl rfl ?_
      refine pw_getI (pc := 138) (S := (sI S x0 13 ((pI S x0 13) + (20 : Int32)))) (ref := "SupportSolverModel") (k := 13) (index := 93) C pCl10 iX12_append_X12 hk5 rfl (by decide +kernel) (Or.inl rfl) dX12_append_138 ?_
      exact pw_iret (pc := 141) (S := (sI S x0 13 ((pI S x0 13) + (20 : Int32)))) C hr h dX12_append_141
    · replace h := h.2 hc
      refine pw_iload (pc := 43) C 6 dX12_append_43 rfl ?_
      refine pw_iconst (pc := 45) (v := 4 ) C dX12_append_45 (by decide) ?_
      refine pw_icmp_ge (pc := 46) (tgt := 53) C dX12_append_46 rfl ⟨fun hc => ?_, fun hc => ?_⟩
      · replace h := h.1 hc
        refine pw_iload (pc := 53) C 6 dX12_append_53 rfl ?_
        refine pw_bipush (pc := 55) (v := 8 ) C dX12_append_55 (by decide) ?_
        refine pw_icmp_ge (pc := 57) (tgt := 64) C dX12_append_57 rfl ⟨fun hc => ?_, fun hc => ?_⟩
        · replace h := h.1 hc
          refine pw_iload (pc := 64) C 6 dX12_append_64 rfl ?_
          refine pw_bipush (pc := 66) (v := 12 ) C dX12_append_66 (by decide) ?_
          refine pw_icmp_ge (pc := 68) (tgt := 75) C dX12_append_68 rfl ⟨fun hc => ?_, fun hc => ?_⟩
          · replace h := h.1 hc
            refine pw_iload (pc := 75) C 6 dX12_append_75 rfl ?_
            refine pw_bipush (pc := 77) (v := 16 ) C dX12_append_77 (by decide) ?_
            refine pw_icmp_ge (pc := 79) (tgt := 87) C dX12_append_79 rfl ⟨fun hc => ?_, fun hc => ?_⟩
            · replace h := h.1 hc
              refine pw_iload (pc := 87) C 5 dX12_append_87 rfl ?_
              exact cbX12_append_b89 C hr hin ih _ _ _ _ _ _ _ _ _ h
            · replace h := h.2 hc
              refine pw_iload (pc := 82) C 4 dX12_append_82 rfl ?_
              refine pw_goto (pc := 84) (tgt := 89) C dX12_append_84 rfl ?_
              exact cbX12_append_b89 C hr hin ih _ _ _ _ _ _ _ _ _ h
          · replace h := h.2 hc
            refine pw_iload_n (pc := 71) C 3 dX12_append_71 rfl rfl ?_
            refine pw_goto (pc := 72) (tgt := 89) C dX12_append_72 rfl ?_
            exact cbX12_append_b89 C hr hin ih _ _ _ _ _ _ _ _ _ h
        · replace h := h.2 hc
          refine pw_iload_n (pc := 60) C 2 dX12_append_60 rfl rfl ?_
          refine pw_goto (pc := 61) (tgt := 89) C dX12_append_61 rfl ?_
          exact cbX12_append_b89 C hr hin ih _ _ _ _ _ _ _ _ _ h
      · replace h := h.2 hc
        refine pw_iload_n (pc := 49) C 1 dX12_append_49 rfl rfl ?_
        refine pw_goto (pc := 50) (tgt := 89) C dX12_append_50 rfl ?_
        exact cbX12_append_b89 C hr hin ih _ _ _ _ _ _ _ _ _ h
set_option maxRecDepth 100000 in
set_option maxHeartbeats 4000000 in
theorem cbX12_append_b24 {p : Program} {l : Launch} {e : Env} {s : State} {m : MethodId} {args : Array Value} {below : List Frame} {meth : Method} {c : Code} {G : PG} {Q : Int32 → PS → Prop} (C : pCx p s m args meth c G cX12_append 8 yX12_append.cls wsX12_append) (hr : meth.sig.returnType = (some .int)) (hin : meth.name = yX12_append.name)  : ∀ (S : PS) (x0 : Nat) (x1 : Int32) (x2 : Int32) (x3 : Int32) (x4 : Int32) (x5 : Int32) (t0 : Nat) (t1 : Int32), wpX12_append_b24  Q S x0 x1 x2 x3 x4 x5 t0 t1 → PW p l e rmX12_append s m args below meth c (MQ below (va_Qi Q (pB G) (pFr G)) args s rmX12_append.cells rmX12_append.slots (pFr G)) G 8 S 0 0 [(0, .ref (G.2.2 + x0)), (1, .int x1), (2, .int x2), (3, .int x3), (4, .int x4), (5, .int x5)] 24 (.int t1 :: .ref (G.2.2 + t0) :: []) := by
  intro S x0 x1 x2 x3 x4 x5 t0 t1 h
  unfold wpX12_append_b24 at h
  refine pw_iconst (pc := 24) (v := 1 ) C dX12_append_24 (by decide) ?_
  obtain ⟨hk6, h⟩ := h
  refine pw_calli (pc := 25) (kc2 := 0) (kn2 := 0) (pRunV (pc := 25) C (ctX12_may l G  _ t0 t1 (1 : Int32) _ h) (cwV 2 C.2.2.2.2.1 gX12_append_X12_may rfl rfl rfl (by decide +kernel) ⟨Nat.le_of_ble_eq_true rfl, Nat.le_of_ble_eq_true rfl⟩) pCl10 hk6 rfl rfl (Nat.le_of_ble_eq_true rfl) dX12_append_25 ⟨Nat.le_of_ble_eq_true rfl, Nat.le_of_ble_eq_true rfl⟩) rfl rfl (fun r7 S8 h => ?_)
  refine pw_if_ne (pc := 28) (tgt := 33) C dX12_append_28 rfl ⟨fun hc => ?_, fun hc => ?_⟩
  · replace h := h.1 hc
    refine pw_iconst (pc := 33) (v := 0 ) C dX12_append_33 (by decide) ?_
    refine pw_istore (pc := 34) C [(6, .int (0 : Int32)), (0, .ref (G.2.2 + x0)), (1, .int x1), (2, .int x2), (3, .int x3), (4, .int x4), (5, .int x5)] dX12_append_34 (by decide) rfl ?_
    refine pw_sub [1, 2, 3, 4, 5, 6, 0] (LV2 := [(0, .ref (G.2.2 + x0)), (1, .int x1), (2, .int x2), (3, .int x3), (4, .int x4), (5, .int x5), (6, .int (0 : Int32))]) rfl ?_
    obtain ⟨n9, h⟩ := h
    exact cbX12_append_b36 C hr hin  n9 _ _ _ _ _ _ _ _ h
  · replace h := h.2 hc
    refine pw_iconst (pc := 31) (v := 0 ) C dX12_append_31 (by decide) ?_
    exact pw_iret (pc := 32) C hr h dX12_append_32
set_option maxRecDepth 100000 in
set_option maxHeartbeats 4000000 in
theorem ctX12_append (l : Launch) (G : PG) (S : PS) (x0 : Nat) (x1 : Int32) (x2 : Int32) (x3 : Int32) (x4 : Int32) (x5 : Int32) (Q : Int32 → PS → Prop) (h : wpX12_append S x0 x1 x2 x3 x4 x5 Q) : mI l yX12_append wsX12_append rmX12_append G S [.ref (G.2.2 + x0), .int x1, .int x2, .int x3, .int x4, .int x5] Q := by
  unfold mI
  refine met_of (cc := cX12_append) (maxL := 8) (ret := (some .int)) (by decide) rfl (Nat.le_of_ble_eq_true rfl) ?_
  intro p e s m args below meth c C hr hin
  unfold wpX12_append at h
  show PW p l e _ s m args below meth c _ G 8 S 0 0 [(0, .ref (G.2.2 + x0)), (1, .int x1), (2, .int x2), (3, .int x3), (4, .int x4), (5, .int x5)] 0 []
  refine pw_aload_n (pc := 0) C 0 dX12_append_0 rfl rfl ?_
  refine pw_iconst (pc := 1) (v := 0 ) C dX12_append_1 (by decide) ?_
  obtain ⟨hk9, h⟩ := h
  refine pw_putI (pc := 2) (ref := "SupportSolverModel") (k := 0) (index := 70) C pCl10 iX12_append_X12 hk9 rfl (by decide +kernel) (Or.inl rfl) (Or.inl rfl) rfl rfl dX12_append_2 ?_
  refine pw_aload_n (pc := 5) (S := (sI S x0 0 (0 : Int32))) C 0 dX12_append_5 rfl rfl ?_
  refine pw_aload_n (pc := 6) (S := (sI S x0 0 (0 : Int32))) C 0 dX12_append_6 rfl rfl ?_
  refine pw_getI (pc := 7) (S := (sI S x0 0 (0 : Int32))) (ref := "SupportSolverModel") (k := 13) (index := 93) C pCl10 iX12_append_X12 hk9 rfl (by decide +kernel) (Or.inl rfl) dX12_append_7 ?_
  refine pw_bipush (pc := 10) (S := (sI S x0 0 (0 : Int32))) (v := 20 ) C dX12_append_10 (by decide) ?_
  refine pw_iadd (pc := 12) (S := (sI S x0 0 (0 : Int32))) C dX12_append_12 ?_
  refine pw_sipush (pc := 13) (S := (sI S x0 0 (0 : Int32))) (v := 600 ) C dX12_append_13 (by decide) ?_
  refine pw_icmp_gt (pc := 16) (S := (sI S x0 0 (0 : Int32))) (tgt := 23) C dX12_append_16 rfl ⟨fun hc => ?_, fun hc => ?_⟩
  · replace h := h.1 hc
    refine pw_iconst (pc := 23) (S := (sI S x0 0 (0 : Int32))) (v := 0 ) C dX12_append_23 (by decide) ?_
    exact cbX12_append_b24 C hr hin  _ _ _ _ _ _ _ _ _ h
  · replace h := h.2 hc
    refine pw_iconst (pc := 19) (S := (sI S x0 0 (0 : Int32))) (v := 1 ) C dX12_append_19 (by decide) ?_
    refine pw_goto (pc := 20) (S := (sI S x0 0 (0 : Int32))) (tgt := 24) C dX12_append_20 rfl ?_
    exact cbX12_append_b24 C hr hin  _ _ _ _ _ _ _ _ _ h

abbrev rmX12_truncate : Room := { frames := 1, cells := 0, slots := 0, locals := 22 }
theorem iX12_truncate_X12 : ∀ w ∈ u_ws RX12 TX12 32, w ∈ wsX12_truncate := fun _ h => List.mem_cons_of_mem _ (List.mem_append_right _ h)
def wpX12_truncate (S : PS) (x0 : Nat) (x1 : Int32) (Q : Int32 → PS → Prop) : Prop := (pK S x0 = 11 ∧ (wpX12_isIn (sI S x0 0 (0 : Int32)) x1 (0 : Int32) (pI (sI S x0 0 (0 : Int32)) x0 13) (fun r2 S3 => (pK S3 x0 = 11 ∧ (wpX12_may S3 x0 r2 (1 : Int32) (fun r5 S6 => ((¬ r5 = 0 → (pK S6 x0 = 11 ∧ (Q x1 (sI S6 x0 13 x1)))) ∧ (r5 = 0 → (Q (0 : Int32) S6)))))))))
set_option maxRecDepth 100000 in
set_option maxHeartbeats 4000000 in
theorem ctX12_truncate (l : Launch) (G : PG) (S : PS) (x0 : Nat) (x1 : Int32) (Q : Int32 → PS → Prop) (h : wpX12_truncate S x0 x1 Q) : mI l yX12_truncate wsX12_truncate rmX12_truncate G S [.ref (G.2.2 + x0), .int x1] Q := by
  unfold mI
  refine met_of (cc := cX12_truncate) (maxL := 2) (ret := (some .int)) (by decide) rfl (Nat.le_of_ble_eq_true rfl) ?_
  intro p e s m args below meth c C hr hin
  unfold wpX12_truncate at h
  show PW p l e _ s m args below meth c _ G 2 S 0 0 [(0, .ref (G.2.2 + x0)), (1, .int x1)] 0 []
  refine pw_aload_n (pc := 0) C 0 dX12_truncate_0 rfl rfl ?_
  refine pw_iconst (pc := 1) (v := 0 ) C dX12_truncate_1 (by decide) ?_
  obtain ⟨hk1, h⟩ := h
  refine pw_putI (pc := 2) (ref := "SupportSolverModel") (k := 0) (index := 70) C pCl10 iX12_truncate_X12 hk1 rfl (by decide +kernel) (Or.inl rfl) (Or.inl rfl) rfl rfl dX12_truncate_2 ?_
  refine pw_aload_n (pc := 5) (S := (sI S x0 0 (0 : Int32))) C 0 dX12_truncate_5 rfl rfl ?_
  refine pw_iload_n (pc := 6) (S := (sI S x0 0 (0 : Int32))) C 1 dX12_truncate_6 rfl rfl ?_
  refine pw_iconst (pc := 7) (S := (sI S x0 0 (0 : Int32))) (v := 0 ) C dX12_truncate_7 (by decide) ?_
  refine pw_aload_n (pc := 8) (S := (sI S x0 0 (0 : Int32))) C 0 dX12_truncate_8 rfl rfl ?_
  refine pw_getI (pc := 9) (S := (sI S x0 0 (0 : Int32))) (ref := "SupportSolverModel") (k := 13) (index := 93) C pCl10 iX12_truncate_X12 hk1 rfl (by decide +kernel) (Or.inl rfl) dX12_truncate_9 ?_
  refine pw_calli (pc := 12) (S := (sI S x0 0 (0 : Int32))) (kc2 := 0) (kn2 := 0) (pRunS (pc := 12) (S := (sI S x0 0 (0 : Int32))) C (ctX12_isIn l G  _ x1 (0 : Int32) (pI (sI S x0 0 (0 : Int32)) x0 13) _ h) (va_cwS 3 C.2.2.2.2.1 gX12_truncate_X12_isIn rfl rfl rfl (by decide +kernel) ⟨Nat.le_of_ble_eq_true rfl, Nat.le_of_ble_eq_true rfl⟩) rfl rfl (Nat.le_of_ble_eq_true rfl) dX12_truncate_12 ⟨Nat.le_of_ble_eq_true rfl, Nat.le_of_ble_eq_true rfl⟩) rfl rfl (fun r2 S3 h => ?_)
  refine pw_iconst (pc := 15) (v := 1 ) C dX12_truncate_15 (by decide) ?_
  obtain ⟨hk4, h⟩ := h
  refine pw_calli (pc := 16) (kc2 := 0) (kn2 := 0) (pRunV (pc := 16) C (ctX12_may l G  _ x0 r2 (1 : Int32) _ h) (cwV 2 C.2.2.2.2.1 gX12_truncate_X12_may rfl rfl rfl (by decide +kernel) ⟨Nat.le_of_ble_eq_true rfl, Nat.le_of_ble_eq_true rfl⟩) pCl10 hk4 rfl rfl (Nat.le_of_ble_eq_true rfl) dX12_truncate_16 ⟨Nat.le_of_ble_eq_true rfl, Nat.le_of_ble_eq_true rfl⟩) rfl rfl (fun r5 S6 h => ?_)
  refine pw_if_ne (pc := 19) (tgt := 24) C dX12_truncate_19 rfl ⟨fun hc => ?_, fun hc => ?_⟩
  · replace h := h.1 hc
    refine pw_aload_n (pc := 24) C 0 dX12_truncate_24 rfl rfl ?_
    refine pw_iload_n (pc := 25) C 1 dX12_truncate_25 rfl rfl ?_
    obtain ⟨hk7, h⟩ := h
    refine pw_putI (pc := 26) (ref := "SupportSolverModel") (k := 13) (index := 93) C pCl10 iX12_truncate_X12 hk7 rfl (by decide +kernel) (Or.inl rfl) (Or.inl rfl) rfl rfl dX12_truncate_26 ?_
    refine pw_iload_n (pc := 29) (S := (sI S6 x0 13 x1)) C 1 dX12_truncate_29 rfl rfl ?_
    exact pw_iret (pc := 30) (S := (sI S6 x0 13 x1)) C hr h dX12_truncate_30
  · replace h := h.2 hc
    refine pw_iconst (pc := 22) (v := 0 ) C dX12_truncate_22 (by decide) ?_
    exact pw_iret (pc := 23) C hr h dX12_truncate_23

abbrev rmX12_at : Room := { frames := 0, cells := 0, slots := 0, locals := 0 }
theorem iX12_at_X12 : ∀ w ∈ u_ws RX12 TX12 32, w ∈ wsX12_at := fun _ h => List.mem_cons_of_mem _ (List.mem_append_right _ h)
def wpX12_at (S : PS) (x0 : Nat) (x1 : Int32) (Q : Int32 → PS → Prop) : Prop := (pK S x0 = 11 ∧ (((pI S x0 14) ≤ x1 → (Q (-1 : Int32) S)) ∧ (¬ (pI S x0 14) ≤ x1 → (∃ o2, pR S x0 12 = some o2 ∧ (pK S o2 = 13 ∧ (vp_in x1 (pL S o2) ∧ (Q (pI S o2 (x1).toNatClampNeg) S)))))))
set_option maxRecDepth 100000 in
set_option maxHeartbeats 4000000 in
theorem ctX12_at (l : Launch) (G : PG) (S : PS) (x0 : Nat) (x1 : Int32) (Q : Int32 → PS → Prop) (h : wpX12_at S x0 x1 Q) : mI l yX12_at wsX12_at rmX12_at G S [.ref (G.2.2 + x0), .int x1] Q := by
  unfold mI
  refine met_of (cc := cX12_at) (maxL := 2) (ret := (some .int)) (by decide) rfl (Nat.le_of_ble_eq_true rfl) ?_
  intro p e s m args below meth c C hr hin
  unfold wpX12_at at h
  show PW p l e _ s m args below meth c _ G 2 S 0 0 [(0, .ref (G.2.2 + x0)), (1, .int x1)] 0 []
  refine pw_iload_n (pc := 0) C 1 dX12_at_0 rfl rfl ?_
  refine pw_aload_n (pc := 1) C 0 dX12_at_1 rfl rfl ?_
  obtain ⟨hk1, h⟩ := h
  refine pw_getI (pc := 2) (ref := "SupportSolverModel") (k := 14) (index := 104) C pCl10 iX12_at_X12 hk1 rfl (by decide +kernel) (Or.inl rfl) dX12_at_2 ?_
  refine pw_icmp_ge (pc := 5) (tgt := 17) C dX12_at_5 rfl ⟨fun hc => ?_, fun hc => ?_⟩
  · replace h := h.1 hc
    refine pw_iconst (pc := 17) (v := (-1)) C dX12_at_17 (by decide) ?_
    exact pw_iret (pc := 18) C hr h dX12_at_18
  · replace h := h.2 hc
    refine pw_aload_n (pc := 8) C 0 dX12_at_8 rfl rfl ?_
    obtain ⟨o2, ho2, h⟩ := h
    refine pw_getR (pc := 9) (ref := "SupportSolverModel") (k := 12) (index := 28) C pCl10 iX12_at_X12 hk1 rfl (by decide +kernel) (Or.inl rfl) (o := o2) ho2 dX12_at_9 ?_
    refine pw_iload_n (pc := 12) C 1 dX12_at_12 rfl rfl ?_
    obtain ⟨hk3, h⟩ := h
    obtain ⟨hi4, h⟩ := h
    refine pw_iald (pc := 13) C hk3 hi4 dX12_at_13 ?_
    refine pw_goto (pc := 14) (tgt := 18) C dX12_at_14 rfl ?_
    exact pw_iret (pc := 18) C hr h dX12_at_18

abbrev rmX12_isLetter : Room := { frames := 0, cells := 0, slots := 0, locals := 0 }
def wpX12_isLetter (S : PS) (x0 : Int32) (Q : Int32 → PS → Prop) : Prop := ((x0 < (97 : Int32) → (Q (0 : Int32) S)) ∧ (¬ x0 < (97 : Int32) → (((122 : Int32) < x0 → (Q (0 : Int32) S)) ∧ (¬ (122 : Int32) < x0 → (Q (1 : Int32) S)))))
set_option maxRecDepth 100000 in
set_option maxHeartbeats 4000000 in
theorem ctX12_isLetter (l : Launch) (G : PG) (S : PS) (x0 : Int32) (Q : Int32 → PS → Prop) (h : wpX12_isLetter S x0 Q) : mI l yX12_isLetter wsX12_isLetter rmX12_isLetter G S [.int x0] Q := by
  unfold mI
  refine met_of (cc := cX12_isLetter) (maxL := 1) (ret := (some .boolean)) (by decide) rfl (Nat.le_of_ble_eq_true rfl) ?_
  intro p e s m args below meth c C hr hin
  unfold wpX12_isLetter at h
  show PW p l e _ s m args below meth c _ G 1 S 0 0 [(0, .int x0)] 0 []
  refine pw_iload_n (pc := 0) C 0 dX12_isLetter_0 rfl rfl ?_
  refine pw_bipush (pc := 1) (v := 97 ) C dX12_isLetter_1 (by decide) ?_
  refine pw_icmp_lt (pc := 3) (tgt := 16) C dX12_isLetter_3 rfl ⟨fun hc => ?_, fun hc => ?_⟩
  · replace h := h.1 hc
    refine pw_iconst (pc := 16) (v := 0 ) C dX12_isLetter_16 (by decide) ?_
    exact pw_zret (pc := 17) C hr rfl h dX12_isLetter_17
  · replace h := h.2 hc
    refine pw_iload_n (pc := 6) C 0 dX12_isLetter_6 rfl rfl ?_
    refine pw_bipush (pc := 7) (v := 122 ) C dX12_isLetter_7 (by decide) ?_
    refine pw_icmp_gt (pc := 9) (tgt := 16) C dX12_isLetter_9 rfl ⟨fun hc => ?_, fun hc => ?_⟩
    · replace h := h.1 hc
      refine pw_iconst (pc := 16) (v := 0 ) C dX12_isLetter_16 (by decide) ?_
      exact pw_zret (pc := 17) C hr rfl h dX12_isLetter_17
    · replace h := h.2 hc
      refine pw_iconst (pc := 12) (v := 1 ) C dX12_isLetter_12 (by decide) ?_
      refine pw_goto (pc := 13) (tgt := 17) C dX12_isLetter_13 rfl ?_
      exact pw_zret (pc := 17) C hr rfl h dX12_isLetter_17

abbrev rmX12_isDigit : Room := { frames := 0, cells := 0, slots := 0, locals := 0 }
def wpX12_isDigit (S : PS) (x0 : Int32) (Q : Int32 → PS → Prop) : Prop := ((x0 < (48 : Int32) → (Q (0 : Int32) S)) ∧ (¬ x0 < (48 : Int32) → (((57 : Int32) < x0 → (Q (0 : Int32) S)) ∧ (¬ (57 : Int32) < x0 → (Q (1 : Int32) S)))))
set_option maxRecDepth 100000 in
set_option maxHeartbeats 4000000 in
theorem ctX12_isDigit (l : Launch) (G : PG) (S : PS) (x0 : Int32) (Q : Int32 → PS → Prop) (h : wpX12_isDigit S x0 Q) : mI l yX12_isDigit wsX12_isDigit rmX12_isDigit G S [.int x0] Q := by
  unfold mI
  refine met_of (cc := cX12_isDigit) (maxL := 1) (ret := (some .boolean)) (by decide) rfl (Nat.le_of_ble_eq_true rfl) ?_
  intro p e s m args below meth c C hr hin
  unfold wpX12_isDigit at h
  show PW p l e _ s m args below meth c _ G 1 S 0 0 [(0, .int x0)] 0 []
  refine pw_iload_n (pc := 0) C 0 dX12_isDigit_0 rfl rfl ?_
  refine pw_bipush (pc := 1) (v := 48 ) C dX12_isDigit_1 (by decide) ?_
  refine pw_icmp_lt (pc := 3) (tgt := 16) C dX12_isDigit_3 rfl ⟨fun hc => ?_, fun hc => ?_⟩
  · replace h := h.1 hc
    refine pw_iconst (pc := 16) (v := 0 ) C dX12_isDigit_16 (by decide) ?_
    exact pw_zret (pc := 17) C hr rfl h dX12_isDigit_17
  · replace h := h.2 hc
    refine pw_iload_n (pc := 6) C 0 dX12_isDigit_6 rfl rfl ?_
    refine pw_bipush (pc := 7) (v := 57 ) C dX12_isDigit_7 (by decide) ?_
    refine pw_icmp_gt (pc := 9) (tgt := 16) C dX12_isDigit_9 rfl ⟨fun hc => ?_, fun hc => ?_⟩
    · replace h := h.1 hc
      refine pw_iconst (pc := 16) (v := 0 ) C dX12_isDigit_16 (by decide) ?_
      exact pw_zret (pc := 17) C hr rfl h dX12_isDigit_17
    · replace h := h.2 hc
      refine pw_iconst (pc := 12) (v := 1 ) C dX12_isDigit_12 (by decide) ?_
      refine pw_goto (pc := 13) (tgt := 17) C dX12_isDigit_13 rfl ?_
      exact pw_zret (pc := 17) C hr rfl h dX12_isDigit_17

abbrev rmX12_token : Room := { frames := 1, cells := 0, slots := 0, locals := 21 }
theorem iX12_token_X12 : ∀ w ∈ u_ws RX12 TX12 32, w ∈ wsX12_token := fun _ h => List.mem_cons_of_mem _ (List.mem_append_right _ h)
def wpX12_token_b26 (K0 : PS → Nat → Prop) (Q : PS → Prop) (S : PS) (x0 : Nat) : Prop := (pK S x0 = 11 ∧ (K0 (sI S x0 15 ((pI S x0 15) + (1 : Int32))) x0))
def wpX12_token_b135 (K81 : PS → Nat → Int32 → Prop) (Q : PS → Prop) (S : PS) (x0 : Nat) (x1 : Int32) : Prop := (pK S x0 = 11 ∧ (K81 (sI S x0 15 ((pI S x0 15) + (1 : Int32))) x0 x1))
def wpX12_token_b81  (Q : PS → Prop) : Nat → PS → Nat → Int32 → Prop
  | 0 => fun _ _ _ => False
  | n + 1 => fun S x0 x1 => (pK S x0 = 11 ∧ (wpX12_at S x0 (pI S x0 15) (fun r4 S5 => (wpX12_isLetter S5 r4 (fun r6 S7 => ((r6 = 0 → (pK S7 x0 = 11 ∧ (Q (sI S7 x0 17 (1 : Int32))))) ∧ (¬ r6 = 0 → (pK S7 x0 = 11 ∧ (((6 : Int32) ≤ ((pI S7 x0 15) - (pI S7 x0 16)) → (wpX12_token_b135 (wpX12_token_b81 Q n) Q S7 x0 x1)) ∧ (¬ (6 : Int32) ≤ ((pI S7 x0 15) - (pI S7 x0 16)) → (wpX12_at S7 x0 (pI S7 x0 15) (fun r10 S11 => (pK S11 x0 = 11 ∧ (wpX12_token_b135 (wpX12_token_b81 Q n) Q (sJ S11 x0 21 ((((27 : Int64) * (pJ S7 x0 21)) + (r10.toInt64)) - (96 : Int64))) x0 x1))))))))))))))
def wpX12_token_b218 (K168 : PS → Nat → Int32 → Prop) (Q : PS → Prop) (S : PS) (x0 : Nat) (x1 : Int32) : Prop := (pK S x0 = 11 ∧ (K168 (sI S x0 15 ((pI S x0 15) + (1 : Int32))) x0 x1))
def wpX12_token_b168  (Q : PS → Prop) : Nat → PS → Nat → Int32 → Prop
  | 0 => fun _ _ _ => False
  | n + 1 => fun S x0 x1 => (pK S x0 = 11 ∧ (wpX12_at S x0 (pI S x0 15) (fun r15 S16 => (wpX12_isDigit S16 r15 (fun r17 S18 => ((r17 = 0 → (pK S18 x0 = 11 ∧ ((((pI S18 x0 15) - (pI S18 x0 16)) ≤ (2 : Int32) → (Q (sI S18 x0 17 (2 : Int32)))) ∧ (¬ ((pI S18 x0 15) - (pI S18 x0 16)) ≤ (2 : Int32) → (Q (sI S18 x0 17 (4 : Int32))))))) ∧ (¬ r17 = 0 → (pK S18 x0 = 11 ∧ (((2 : Int32) ≤ ((pI S18 x0 15) - (pI S18 x0 16)) → (wpX12_token_b218 (wpX12_token_b168 Q n) Q S18 x0 x1)) ∧ (¬ (2 : Int32) ≤ ((pI S18 x0 15) - (pI S18 x0 16)) → (wpX12_at S18 x0 (pI S18 x0 15) (fun r21 S22 => (pK S22 x0 = 11 ∧ (wpX12_token_b218 (wpX12_token_b168 Q n) Q (sI S22 x0 18 ((((10 : Int32) * (pI S18 x0 18)) + r21) - (48 : Int32))) x0 x1))))))))))))))
def wpX12_token_b0  (Q : PS → Prop) : Nat → PS → Nat → Prop
  | 0 => fun _ _ => False
  | n + 1 => fun S x0 => (pK S x0 = 11 ∧ (wpX12_at S x0 (pI S x0 15) (fun r25 S26 => ((r25 = (10 : Int32) → (wpX12_token_b26 (wpX12_token_b0 Q n) Q S26 x0)) ∧ (¬ r25 = (10 : Int32) → (pK S26 x0 = 11 ∧ (wpX12_at S26 x0 (pI S26 x0 15) (fun r28 S29 => ((¬ r28 = (32 : Int32) → (pK S29 x0 = 11 ∧ (wpX12_at (sI S29 x0 16 (pI S29 x0 15)) x0 (pI (sI S29 x0 16 (pI S29 x0 15)) x0 15) (fun r31 S32 => ((¬ r31 = (-1 : Int32) → (wpX12_isLetter S32 r31 (fun r33 S34 => ((r33 = 0 → (wpX12_isDigit S34 r31 (fun r35 S36 => ((r35 = 0 → (pK S36 x0 = 11 ∧ ((¬ r31 = (59 : Int32) → (Q (sI (sI S36 x0 15 ((pI S36 x0 15) + (1 : Int32))) x0 17 (4 : Int32)))) ∧ (r31 = (59 : Int32) → (Q (sI (sI S36 x0 15 ((pI S36 x0 15) + (1 : Int32))) x0 17 (3 : Int32))))))) ∧ (¬ r35 = 0 → (pK S36 x0 = 11 ∧ (∃ n9 : Nat, wpX12_token_b168 Q n9 (sI S36 x0 18 (0 : Int32)) x0 r31))))))) ∧ (¬ r33 = 0 → (pK S34 x0 = 11 ∧ (∃ n9 : Nat, wpX12_token_b81 Q n9 (sJ S34 x0 21 (0 : Int64)) x0 r31))))))) ∧ (r31 = (-1 : Int32) → (pK S32 x0 = 11 ∧ (Q (sI S32 x0 17 (0 : Int32)))))))))) ∧ (r28 = (32 : Int32) → (wpX12_token_b26 (wpX12_token_b0 Q n) Q S29 x0)))))))))))
def wpX12_token (S : PS) (x0 : Nat) (Q : PS → Prop) : Prop := (∃ n9 : Nat, wpX12_token_b0 Q n9 S x0)
set_option maxRecDepth 100000 in
set_option maxHeartbeats 4000000 in
theorem cbX12_token_b26 {p : Program} {l : Launch} {e : Env} {s : State} {m : MethodId} {args : Array Value} {below : List Frame} {meth : Method} {c : Code} {G : PG} {Q : PS → Prop} (C : pCx p s m args meth c G cX12_token 2 yX12_token.cls wsX12_token) (hr : meth.sig.returnType = none) (hin : meth.name = yX12_token.name) {K0 : PS → Nat → Prop} (hK0 : ∀ (S : PS) (x0 : Nat), K0 S x0 → PW p l e rmX12_token s m args below meth c (MQ below (va_Qv Q (pB G) (pFr G)) args s rmX12_token.cells rmX12_token.slots (pFr G)) G 2 S 0 0 [(0, .ref (G.2.2 + x0))] 0 ([])) : ∀ (S : PS) (x0 : Nat), wpX12_token_b26 K0 Q S x0 → PW p l e rmX12_token s m args below meth c (MQ below (va_Qv Q (pB G) (pFr G)) args s rmX12_token.cells rmX12_token.slots (pFr G)) G 2 S 0 0 [(0, .ref (G.2.2 + x0))] 26 ([]) := by
  intro S x0 h
  unfold wpX12_token_b26 at h
  refine pw_aload_n (pc := 26) C 0 dX12_token_26 rfl rfl ?_
  refine pw_dup (pc := 27) C dX12_token_27 rfl ?_
  obtain ⟨hk1, h⟩ := h
  refine pw_getI (pc := 28) (ref := "SupportSolverModel") (k := 15) (index := 107) C pCl10 iX12_token_X12 hk1 rfl (by decide +kernel) (Or.inl rfl) dX12_token_28 ?_
  refine pw_iconst (pc := 31) (v := 1 ) C dX12_token_31 (by decide) ?_
  refine pw_iadd (pc := 32) C dX12_token_32 ?_
  refine pw_putI (pc := 33) (ref := "SupportSolverModel") (k := 15) (index := 107) C pCl10 iX12_token_X12 hk1 rfl (by decide +kernel) (Or.inl rfl) (Or.inl rfl) rfl rfl dX12_token_33 ?_
  refine pw_goto (pc := 36) (S := (sI S x0 15 ((pI S x0 15) + (1 : Int32)))) (tgt := 0) C dX12_token_36 rfl ?_
  exact hK0 _ _ h
set_option maxRecDepth 100000 in
set_option maxHeartbeats 4000000 in
theorem cbX12_token_b135 {p : Program} {l : Launch} {e : Env} {s : State} {m : MethodId} {args : Array Value} {below : List Frame} {meth : Method} {c : Code} {G : PG} {Q : PS → Prop} (C : pCx p s m args meth c G cX12_token 2 yX12_token.cls wsX12_token) (hr : meth.sig.returnType = none) (hin : meth.name = yX12_token.name) {K81 : PS → Nat → Int32 → Prop} (hK81 : ∀ (S : PS) (x0 : Nat) (x1 : Int32), K81 S x0 x1 → PW p l e rmX12_token s m args below meth c (MQ below (va_Qv Q (pB G) (pFr G)) args s rmX12_token.cells rmX12_token.slots (pFr G)) G 2 S 0 0 [(0, .ref (G.2.2 + x0)), (1, .int x1)] 81 ([])) : ∀ (S : PS) (x0 : Nat) (x1 : Int32), wpX12_token_b135 K81 Q S x0 x1 → PW p l e rmX12_token s m args below meth c (MQ below (va_Qv Q (pB G) (pFr G)) args s rmX12_token.cells rmX12_token.slots (pFr G)) G 2 S 0 0 [(0, .ref (G.2.2 + x0)), (1, .int x1)] 135 ([]) := by
  intro S x0 x1 h
  unfold wpX12_token_b135 at h
  refine pw_aload_n (pc := 135) C 0 dX12_token_135 rfl rfl ?_
  refine pw_dup (pc := 136) C dX12_token_136 rfl ?_
  obtain ⟨hk2, h⟩ := h
  refine pw_getI (pc := 137) (ref := "SupportSolverModel") (k := 15) (index := 107) C pCl10 iX12_token_X12 hk2 rfl (by decide +kernel) (Or.inl rfl) dX12_token_137 ?_
  refine pw_iconst (pc := 140) (v := 1 ) C dX12_token_140 (by decide) ?_
  refine pw_iadd (pc := 141) C dX12_token_141 ?_
  refine pw_putI (pc := 142) (ref := "SupportSolverModel") (k := 15) (index := 107) C pCl10 iX12_token_X12 hk2 rfl (by decide +kernel) (Or.inl rfl) (Or.inl rfl) rfl rfl dX12_token_142 ?_
  refine pw_goto (pc := 145) (S := (sI S x0 15 ((pI S x0 15) + (1 : Int32)))) (tgt := 81) C dX12_token_145 rfl ?_
  exact hK81 _ _ _ h
set_option maxRecDepth 100000 in
set_option maxHeartbeats 4000000 in
theorem cbX12_token_b81 {p : Program} {l : Launch} {e : Env} {s : State} {m : MethodId} {args : Array Value} {below : List Frame} {meth : Method} {c : Code} {G : PG} {Q : PS → Prop} (C : pCx p s m args meth c G cX12_token 2 yX12_token.cls wsX12_token) (hr : meth.sig.returnType = none) (hin : meth.name = yX12_token.name)  (n : Nat) : ∀ (S : PS) (x0 : Nat) (x1 : Int32), wpX12_token_b81  Q n S x0 x1 → PW p l e rmX12_token s m args below meth c (MQ below (va_Qv Q (pB G) (pFr G)) args s rmX12_token.cells rmX12_token.slots (pFr G)) G 2 S 0 0 [(0, .ref (G.2.2 + x0)), (1, .int x1)] 81 ([]) := by
  induction n with
  | zero => intro S x0 x1 h; exact h.elim
  | succ n ih =>
    intro S x0 x1 h
    unfold wpX12_token_b81 at h
    refine pw_aload_n (pc := 81) C 0 dX12_token_81 rfl rfl ?_
    refine pw_aload_n (pc := 82) C 0 dX12_token_82 rfl rfl ?_
    obtain ⟨hk3, h⟩ := h
    refine pw_getI (pc := 83) (ref := "SupportSolverModel") (k := 15) (index := 107) C pCl10 iX12_token_X12 hk3 rfl (by decide +kernel) (Or.inl rfl) dX12_token_83 ?_
    refine pw_calli (pc := 86) (kc2 := 0) (kn2 := 0) (pRunV (pc := 86) C (ctX12_at l G  _ x0 (pI S x0 15) _ h) (cwV 1 C.2.2.2.2.1 gX12_token_X12_at rfl rfl rfl (by decide +kernel) ⟨Nat.le_of_ble_eq_true rfl, Nat.le_of_ble_eq_true rfl⟩) pCl10 hk3 rfl rfl (Nat.le_of_ble_eq_true rfl) dX12_token_86 ⟨Nat.le_of_ble_eq_true rfl, Nat.le_of_ble_eq_true rfl⟩) rfl rfl (fun r4 S5 h => ?_)
    refine pw_calli (pc := 89) (kc2 := 0) (kn2 := 0) (pRunS (pc := 89) C (ctX12_isLetter l G  _ r4 _ h) (va_cwS 1 C.2.2.2.2.1 gX12_token_X12_isLetter rfl rfl rfl (by decide +kernel) ⟨Nat.le_of_ble_eq_true rfl, Nat.le_of_ble_eq_true rfl⟩) rfl rfl (Nat.le_of_ble_eq_true rfl) dX12_token_89 ⟨Nat.le_of_ble_eq_true rfl, Nat.le_of_ble_eq_true rfl⟩) rfl rfl (fun r6 S7 h => ?_)
    refine pw_if_eq (pc := 92) (tgt := 148) C dX12_token_92 rfl ⟨fun hc => ?_, fun hc => ?_⟩
    · replace h := h.1 hc
      refine pw_aload_n (pc := 148) C 0 dX12_token_148 rfl rfl ?_
      refine pw_iconst (pc := 149) (v := 1 ) C dX12_token_149 (by decide) ?_
      obtain ⟨hk8, h⟩ := h
      refine pw_putI (pc := 150) (ref := "SupportSolverModel") (k := 17) (index := 117) C pCl10 iX12_token_X12 hk8 rfl (by decide +kernel) (Or.inl rfl) (Or.inl rfl) rfl rfl dX12_token_150 ?_
      refine pw_goto (pc := 153) (S := (sI S7 x0 17 (1 : Int32))) (tgt := 281) C dX12_token_153 rfl ?_
      exact pw_vret (pc := 281) (S := (sI S7 x0 17 (1 : Int32))) C hr h dX12_token_281
    · replace h := h.2 hc
      refine pw_aload_n (pc := 95) C 0 dX12_token_95 rfl rfl ?_
      obtain ⟨hk9, h⟩ := h
      refine pw_getI (pc := 96) (ref := "SupportSolverModel") (k := 15) (index := 107) C pCl10 iX12_token_X12 hk9 rfl (by decide +kernel) (Or.inl rfl) dX12_token_96 ?_
      refine pw_aload_n (pc := 99) C 0 dX12_token_99 rfl rfl ?_
      refine pw_getI (pc := 100) (ref := "SupportSolverModel") (k := 16) (index := 114) C pCl10 iX12_token_X12 hk9 rfl (by decide +kernel) (Or.inl rfl) dX12_token_100 ?_
      refine pw_isub (pc := 103) C dX12_token_103 ?_
      refine pw_bipush (pc := 104) (v := 6 ) C dX12_token_104 (by decide) ?_
      refine pw_icmp_ge (pc := 106) (tgt := 135) C dX12_token_106 rfl ⟨fun hc => ?_, fun hc => ?_⟩
      · replace h := h.1 hc
        exact cbX12_token_b135 C hr hin ih _ _ _ h
      · replace h := h.2 hc
        refine pw_aload_n (pc := 109) C 0 dX12_token_109 rfl rfl ?_
        refine pw_ldc2 (pc := 110) (v := 27) C (by decide +kernel) dX12_token_110 ?_
        refine pw_aload_n (pc := 113) C 0 dX12_token_113 rfl rfl ?_
        refine pw_getJ (pc := 114) (ref := "SupportSolverModel") (k := 21) (index := 124) C pCl10 iX12_token_X12 hk9 rfl (by decide +kernel) (Or.inl rfl) dX12_token_114 ?_
        refine pw_lmul (pc := 117) C dX12_token_117 ?_
        refine pw_aload_n (pc := 118) C 0 dX12_token_118 rfl rfl ?_
        refine pw_aload_n (pc := 119) C 0 dX12_token_119 rfl rfl ?_
        refine pw_getI (pc := 120) (ref := "SupportSolverModel") (k := 15) (index := 107) C pCl10 iX12_token_X12 hk9 rfl (by decide +kernel) (Or.inl rfl) dX12_token_120 ?_
        refine pw_calli (pc := 123) (kc2 := 0) (kn2 := 0) (pRunV (pc := 123) C (ctX12_at l G  _ x0 (pI S7 x0 15) _ h) (cwV 1 C.2.2.2.2.1 gX12_token_X12_at rfl rfl rfl (by decide +kernel) ⟨Nat.le_of_ble_eq_true rfl, Nat.le_of_ble_eq_true rfl⟩) pCl10 hk9 rfl rfl (Nat.le_of_ble_eq_true rfl) dX12_token_123 ⟨Nat.le_of_ble_eq_true rfl, Nat.le_of_ble_eq_true rfl⟩) rfl rfl (fun r10 S11 h => ?_)
        refine pw_i2l (pc := 126) C dX12_token_126 ?_
        refine pw_ladd (pc := 127) C dX12_token_127 ?_
        refine pw_ldc2 (pc := 128) (v := 96) C (by decide +kernel) dX12_token_128 ?_
        refine pw_lsub (pc := 131) C dX12_token_131 ?_
        obtain ⟨hk12, h⟩ := h
        refine pw_putJ (pc := 132) (ref := "SupportSolverModel") (k := 21) (index := 124) C pCl10 iX12_token_X12 hk12 rfl (by decide +kernel) (Or.inl rfl) (Or.inl rfl) rfl rfl dX12_token_132 ?_
        exact cbX12_token_b135 C hr hin ih _ _ _ h
set_option maxRecDepth 100000 in
set_option maxHeartbeats 4000000 in
theorem cbX12_token_b218 {p : Program} {l : Launch} {e : Env} {s : State} {m : MethodId} {args : Array Value} {below : List Frame} {meth : Method} {c : Code} {G : PG} {Q : PS → Prop} (C : pCx p s m args meth c G cX12_token 2 yX12_token.cls wsX12_token) (hr : meth.sig.returnType = none) (hin : meth.name = yX12_token.name) {K168 : PS → Nat → Int32 → Prop} (hK168 : ∀ (S : PS) (x0 : Nat) (x1 : Int32), K168 S x0 x1 → PW p l e rmX12_token s m args below meth c (MQ below (va_Qv Q (pB G) (pFr G)) args s rmX12_token.cells rmX12_token.slots (pFr G)) G 2 S 0 0 [(0, .ref (G.2.2 + x0)), (1, .int x1)] 168 ([])) : ∀ (S : PS) (x0 : Nat) (x1 : Int32), wpX12_token_b218 K168 Q S x0 x1 → PW p l e rmX12_token s m args below meth c (MQ below (va_Qv Q (pB G) (pFr G)) args s rmX12_token.cells rmX12_token.slots (pFr G)) G 2 S 0 0 [(0, .ref (G.2.2 + x0)), (1, .int x1)] 218 ([]) := by
  intro S x0 x1 h
  unfold wpX12_token_b218 at h
  refine pw_aload_n (pc := 218) C 0 dX12_token_218 rfl rfl ?_
  refine pw_dup (pc := 219) C dX12_token_219 rfl ?_
  obtain ⟨hk13, h⟩ := h
  refine pw_getI (pc := 220) (ref := "SupportSolverModel") (k := 15) (index := 107) C pCl10 iX12_token_X12 hk13 rfl (by decide +kernel) (Or.inl rfl) dX12_token_220 ?_
  refine pw_iconst (pc := 223) (v := 1 ) C dX12_token_223 (by decide) ?_
  refine pw_iadd (pc := 224) C dX12_token_224 ?_
  refine pw_putI (pc := 225) (ref := "SupportSolverModel") (k := 15) (index := 107) C pCl10 iX12_token_X12 hk13 rfl (by decide +kernel) (Or.inl rfl) (Or.inl rfl) rfl rfl dX12_token_225 ?_
  refine pw_goto (pc := 228) (S := (sI S x0 15 ((pI S x0 15) + (1 : Int32)))) (tgt := 168) C dX12_token_228 rfl ?_
  exact hK168 _ _ _ h
set_option maxRecDepth 100000 in
set_option maxHeartbeats 4000000 in
theorem cbX12_token_b168 {p : Program} {l : Launch} {e : Env} {s : State} {m : MethodId} {args : Array Value} {below : List Frame} {meth : Method} {c : Code} {G : PG} {Q : PS → Prop} (C : pCx p s m args meth c G cX12_token 2 yX12_token.cls wsX12_token) (hr : meth.sig.returnType = none) (hin : meth.name = yX12_token.name)  (n : Nat) : ∀ (S : PS) (x0 : Nat) (x1 : Int32), wpX12_token_b168  Q n S x0 x1 → PW p l e rmX12_token s m args below meth c (MQ below (va_Qv Q (pB G) (pFr G)) args s rmX12_token.cells rmX12_token.slots (pFr G)) G 2 S 0 0 [(0, .ref (G.2.2 + x0)), (1, .int x1)] 168 ([]) := by
  induction n with
  | zero => intro S x0 x1 h; exact h.elim
  | succ n ih =>
    intro S x0 x1 h
    unfold wpX12_token_b168 at h
    refine pw_aload_n (pc := 168) C 0 dX12_token_168 rfl rfl ?_
    refine pw_aload_n (pc := 169) C 0 dX12_token_169 rfl rfl ?_
    obtain ⟨hk14, h⟩ := h
    refine pw_getI (pc := 170) (ref := "SupportSolverModel") (k := 15) (index := 107) C pCl10 iX12_token_X12 hk14 rfl (by decide +kernel) (Or.inl rfl) dX12_token_170 ?_
    refine pw_calli (pc := 173) (kc2 := 0) (kn2 := 0) (pRunV (pc := 173) C (ctX12_at l G  _ x0 (pI S x0 15) _ h) (cwV 1 C.2.2.2.2.1 gX12_token_X12_at rfl rfl rfl (by decide +kernel) ⟨Nat.le_of_ble_eq_true rfl, Nat.le_of_ble_eq_true rfl⟩) pCl10 hk14 rfl rfl (Nat.le_of_ble_eq_true rfl) dX12_token_173 ⟨Nat.le_of_ble_eq_true rfl, Nat.le_of_ble_eq_true rfl⟩) rfl rfl (fun r15 S16 h => ?_)
    refine pw_calli (pc := 176) (kc2 := 0) (kn2 := 0) (pRunS (pc := 176) C (ctX12_isDigit l G  _ r15 _ h) (va_cwS 1 C.2.2.2.2.1 gX12_token_X12_isDigit rfl rfl rfl (by decide +kernel) ⟨Nat.le_of_ble_eq_true rfl, Nat.le_of_ble_eq_true rfl⟩) rfl rfl (Nat.le_of_ble_eq_true rfl) dX12_token_176 ⟨Nat.le_of_ble_eq_true rfl, Nat.le_of_ble_eq_true rfl⟩) rfl rfl (fun r17 S18 h => ?_)
    refine pw_if_eq (pc := 179) (tgt := 231) C dX12_token_179 rfl ⟨fun hc => ?_, fun hc => ?_⟩
    · replace h := h.1 hc
      refine pw_aload_n (pc := 231) C 0 dX12_token_231 rfl rfl ?_
      refine pw_aload_n (pc := 232) C 0 dX12_token_232 rfl rfl ?_
      obtain ⟨hk19, h⟩ := h
      refine pw_getI (pc := 233) (ref := "SupportSolverModel") (k := 15) (index := 107) C pCl10 iX12_token_X12 hk19 rfl (by decide +kernel) (Or.inl rfl) dX12_token_233 ?_
      refine pw_aload_n (pc := 236) C 0 dX12_token_236 rfl rfl ?_
      refine pw_getI (pc := 237) (ref := "SupportSolverModel") (k := 16) (index := 114) C pCl10 iX12_token_X12 hk19 rfl (by decide +kernel) (Or.inl rfl) dX12_token_237 ?_
      refine pw_isub (pc := 240) C dX12_token_240 ?_
      refine pw_iconst (pc := 241) (v := 2 ) C dX12_token_241 (by decide) ?_
      refine pw_icmp_le (pc := 242) (tgt := 249) C dX12_token_242 rfl ⟨fun hc => ?_, fun hc => ?_⟩
      · replace h := h.1 hc
        refine pw_iconst (pc := 249) (v := 2 ) C dX12_token_249 (by decide) ?_
        refine pw_putI (pc := 250) (ref := "SupportSolverModel") (k := 17) (index := 117) C pCl10 iX12_token_X12 hk19 rfl (by decide +kernel) (Or.inl rfl) (Or.inl rfl) rfl rfl dX12_token_250 ?_
        refine pw_goto (pc := 253) (S := (sI S18 x0 17 (2 : Int32))) (tgt := 281) C dX12_token_253 rfl ?_
        exact pw_vret (pc := 281) (S := (sI S18 x0 17 (2 : Int32))) C hr h dX12_token_281
      · replace h := h.2 hc
        refine pw_iconst (pc := 245) (v := 4 ) C dX12_token_245 (by decide) ?_
        refine pw_goto (pc := 246) (tgt := 250) C dX12_token_246 rfl ?_
        refine pw_putI (pc := 250) (ref := "SupportSolverModel") (k := 17) (index := 117) C pCl10 iX12_token_X12 hk19 rfl (by decide +kernel) (Or.inl rfl) (Or.inl rfl) rfl rfl dX12_token_250 ?_
        refine pw_goto (pc := 253) (S := (sI S18 x0 17 (4 : Int32))) (tgt := 281) C dX12_token_253 rfl ?_
        exact pw_vret (pc := 281) (S := (sI S18 x0 17 (4 : Int32))) C hr h dX12_token_281
    · replace h := h.2 hc
      refine pw_aload_n (pc := 182) C 0 dX12_token_182 rfl rfl ?_
      obtain ⟨hk20, h⟩ := h
      refine pw_getI (pc := 183) (ref := "SupportSolverModel") (k := 15) (index := 107) C pCl10 iX12_token_X12 hk20 rfl (by decide +kernel) (Or.inl rfl) dX12_token_183 ?_
      refine pw_aload_n (pc := 186) C 0 dX12_token_186 rfl rfl ?_
      refine pw_getI (pc := 187) (ref := "SupportSolverModel") (k := 16) (index := 114) C pCl10 iX12_token_X12 hk20 rfl (by decide +kernel) (Or.inl rfl) dX12_token_187 ?_
      refine pw_isub (pc := 190) C dX12_token_190 ?_
      refine pw_iconst (pc := 191) (v := 2 ) C dX12_token_191 (by decide) ?_
      refine pw_icmp_ge (pc := 192) (tgt := 218) C dX12_token_192 rfl ⟨fun hc => ?_, fun hc => ?_⟩
      · replace h := h.1 hc
        exact cbX12_token_b218 C hr hin ih _ _ _ h
      · replace h := h.2 hc
        refine pw_aload_n (pc := 195) C 0 dX12_token_195 rfl rfl ?_
        refine pw_bipush (pc := 196) (v := 10 ) C dX12_token_196 (by decide) ?_
        refine pw_aload_n (pc := 198) C 0 dX12_token_198 rfl rfl ?_
        refine pw_getI (pc := 199) (ref := "SupportSolverModel") (k := 18) (index := 135) C pCl10 iX12_token_X12 hk20 rfl (by decide +kernel) (Or.inl rfl) dX12_token_199 ?_
        refine pw_imul (pc := 202) C dX12_token_202 ?_
        refine pw_aload_n (pc := 203) C 0 dX12_token_203 rfl rfl ?_
        refine pw_aload_n (pc := 204) C 0 dX12_token_204 rfl rfl ?_
        refine pw_getI (pc := 205) (ref := "SupportSolverModel") (k := 15) (index := 107) C pCl10 iX12_token_X12 hk20 rfl (by decide +kernel) (Or.inl rfl) dX12_token_205 ?_
        refine pw_calli (pc := 208) (kc2 := 0) (kn2 := 0) (pRunV (pc := 208) C (ctX12_at l G  _ x0 (pI S18 x0 15) _ h) (cwV 1 C.2.2.2.2.1 gX12_token_X12_at rfl rfl rfl (by decide +kernel) ⟨Nat.le_of_ble_eq_true rfl, Nat.le_of_ble_eq_true rfl⟩) pCl10 hk20 rfl rfl (Nat.le_of_ble_eq_true rfl) dX12_token_208 ⟨Nat.le_of_ble_eq_true rfl, Nat.le_of_ble_eq_true rfl⟩) rfl rfl (fun r21 S22 h => ?_)
        refine pw_iadd (pc := 211) C dX12_token_211 ?_
        refine pw_bipush (pc := 212) (v := 48 ) C dX12_token_212 (by decide) ?_
        refine pw_isub (pc := 214) C dX12_token_214 ?_
        obtain ⟨hk23, h⟩ := h
        refine pw_putI (pc := 215) (ref := "SupportSolverModel") (k := 18) (index := 135) C pCl10 iX12_token_X12 hk23 rfl (by decide +kernel) (Or.inl rfl) (Or.inl rfl) rfl rfl dX12_token_215 ?_
        exact cbX12_token_b218 C hr hin ih _ _ _ h
set_option maxRecDepth 100000 in
set_option maxHeartbeats 4000000 in
theorem cbX12_token_b0 {p : Program} {l : Launch} {e : Env} {s : State} {m : MethodId} {args : Array Value} {below : List Frame} {meth : Method} {c : Code} {G : PG} {Q : PS → Prop} (C : pCx p s m args meth c G cX12_token 2 yX12_token.cls wsX12_token) (hr : meth.sig.returnType = none) (hin : meth.name = yX12_token.name)  (n : Nat) : ∀ (S : PS) (x0 : Nat), wpX12_token_b0  Q n S x0 → PW p l e rmX12_token s m args below meth c (MQ below (va_Qv Q (pB G) (pFr G)) args s rmX12_token.cells rmX12_token.slots (pFr G)) G 2 S 0 0 [(0, .ref (G.2.2 + x0))] 0 ([]) := by
  induction n with
  | zero => intro S x0 h; exact h.elim
  | succ n ih =>
    intro S x0 h
    unfold wpX12_token_b0 at h
    refine pw_aload_n (pc := 0) C 0 dX12_token_0 rfl rfl ?_
    refine pw_aload_n (pc := 1) C 0 dX12_token_1 rfl rfl ?_
    obtain ⟨hk24, h⟩ := h
    refine pw_getI (pc := 2) (ref := "SupportSolverModel") (k := 15) (index := 107) C pCl10 iX12_token_X12 hk24 rfl (by decide +kernel) (Or.inl rfl) dX12_token_2 ?_
    refine pw_calli (pc := 5) (kc2 := 0) (kn2 := 0) (pRunV (pc := 5) C (ctX12_at l G  _ x0 (pI S x0 15) _ h) (cwV 1 C.2.2.2.2.1 gX12_token_X12_at rfl rfl rfl (by decide +kernel) ⟨Nat.le_of_ble_eq_true rfl, Nat.le_of_ble_eq_true rfl⟩) pCl10 hk24 rfl rfl (Nat.le_of_ble_eq_true rfl) dX12_token_5 ⟨Nat.le_of_ble_eq_true rfl, Nat.le_of_ble_eq_true rfl⟩) rfl rfl (fun r25 S26 h => ?_)
    refine pw_bipush (pc := 8) (v := 10 ) C dX12_token_8 (by decide) ?_
    refine pw_icmp_eq (pc := 10) (tgt := 26) C dX12_token_10 rfl ⟨fun hc => ?_, fun hc => ?_⟩
    · replace h := h.1 hc
      exact cbX12_token_b26 C hr hin ih _ _ h
    · replace h := h.2 hc
      refine pw_aload_n (pc := 13) C 0 dX12_token_13 rfl rfl ?_
      refine pw_aload_n (pc := 14) C 0 dX12_token_14 rfl rfl ?_
      obtain ⟨hk27, h⟩ := h
      refine pw_getI (pc := 15) (ref := "SupportSolverModel") (k := 15) (index := 107) C pCl10 iX12_token_X12 hk27 rfl (by decide +kernel) (Or.inl rfl) dX12_token_15 ?_
      refine pw_calli (pc := 18) (kc2 := 0) (kn2 := 0) (pRunV (pc := 18) C (ctX12_at l G  _ x0 (pI S26 x0 15) _ h) (cwV 1 C.2.2.2.2.1 gX12_token_X12_at rfl rfl rfl (by decide +kernel) ⟨Nat.le_of_ble_eq_true rfl, Nat.le_of_ble_eq_true rfl⟩) pCl10 hk27 rfl rfl (Nat.le_of_ble_eq_true rfl) dX12_token_18 ⟨Nat.le_of_ble_eq_true rfl, Nat.le_of_ble_eq_true rfl⟩) rfl rfl (fun r28 S29 h => ?_)
      refine pw_bipush (pc := 21) (v := 32 ) C dX12_token_21 (by decide) ?_
      refine pw_icmp_ne (pc := 23) (tgt := 39) C dX12_token_23 rfl ⟨fun hc => ?_, fun hc => ?_⟩
      · replace h := h.1 hc
        refine pw_aload_n (pc := 39) C 0 dX12_token_39 rfl rfl ?_
        refine pw_aload_n (pc := 40) C 0 dX12_token_40 rfl rfl ?_
        obtain ⟨hk30, h⟩ := h
        refine pw_getI (pc := 41) (ref := "SupportSolverModel") (k := 15) (index := 107) C pCl10 iX12_token_X12 hk30 rfl (by decide +kernel) (Or.inl rfl) dX12_token_41 ?_
        refine pw_putI (pc := 44) (ref := "SupportSolverModel") (k := 16) (index := 114) C pCl10 iX12_token_X12 hk30 rfl (by decide +kernel) (Or.inl rfl) (Or.inl rfl) rfl rfl dX12_token_44 ?_
        refine pw_aload_n (pc := 47) (S := (sI S29 x0 16 (pI S29 x0 15))) C 0 dX12_token_47 rfl rfl ?_
        refine pw_aload_n (pc := 48) (S := (sI S29 x0 16 (pI S29 x0 15))) C 0 dX12_token_48 rfl rfl ?_
        refine pw_getI (pc := 49) (S := (sI S29 x0 16 (pI S29 x0 15))) (ref := "SupportSolverModel") (k := 15) (index := 107) C pCl10 iX12_token_X12 hk30 rfl (by decide +kernel) (Or.inl rfl) dX12_token_49 ?_
        refine pw_calli (pc := 52) (S := (sI S29 x0 16 (pI S29 x0 15))) (kc2 := 0) (kn2 := 0) (pRunV (pc := 52) (S := (sI S29 x0 16 (pI S29 x0 15))) C (ctX12_at l G  _ x0 (pI (sI S29 x0 16 (pI S29 x0 15)) x0 15) _ h) (cwV 1 C.2.2.2.2.1 gX12_token_X12_at rfl rfl rfl (by decide +kernel) ⟨Nat.le_of_ble_eq_true rfl, Nat.le_of_ble_eq_true rfl⟩) pCl10 hk30 rfl rfl (Nat.le_of_ble_eq_true rfl) dX12_token_52 ⟨Nat.le_of_ble_eq_true rfl, Nat.le_of_ble_eq_true rfl⟩) rfl rfl (fun r31 S32 h => ?_)
        refine pw_istore_n (pc := 55) C [(1, .int r31), (0, .ref (G.2.2 + x0))] dX12_token_55 rfl (by decide) rfl ?_
        refine pw_iload_n (pc := 56) C 0 dX12_token_56 rfl rfl ?_
        refine pw_iconst (pc := 57) (v := (-1)) C dX12_token_57 (by decide) ?_
        refine pw_icmp_ne (pc := 58) (tgt := 69) C dX12_token_58 rfl ⟨fun hc => ?_, fun hc => ?_⟩
        · replace h := h.1 hc
          refine pw_iload_n (pc := 69) C 0 dX12_token_69 rfl rfl ?_
          refine pw_calli (pc := 70) (kc2 := 0) (kn2 := 0) (pRunS (pc := 70) C (ctX12_isLetter l G  _ r31 _ h) (va_cwS 1 C.2.2.2.2.1 gX12_token_X12_isLetter rfl rfl rfl (by decide +kernel) ⟨Nat.le_of_ble_eq_true rfl, Nat.le_of_ble_eq_true rfl⟩) rfl rfl (Nat.le_of_ble_eq_true rfl) dX12_token_70 ⟨Nat.le_of_ble_eq_true rfl, Nat.le_of_ble_eq_true rfl⟩) rfl rfl (fun r33 S34 h => ?_)
          refine pw_if_eq (pc := 73) (tgt := 156) C dX12_token_73 rfl ⟨fun hc => ?_, fun hc => ?_⟩
          · replace h := h.1 hc
            refine pw_iload_n (pc := 156) C 0 dX12_token_156 rfl rfl ?_
            refine pw_calli (pc := 157) (kc2 := 0) (kn2 := 0) (pRunS (pc := 157) C (ctX12_isDigit l G  _ r31 _ h) (va_cwS 1 C.2.2.2.2.1 gX12_token_X12_isDigit rfl rfl rfl (by decide +kernel) ⟨Nat.le_of_ble_eq_true rfl, Nat.le_of_ble_eq_true rfl⟩) rfl rfl (Nat.le_of_ble_eq_true rfl) dX12_token_157 ⟨Nat.le_of_ble_eq_true rfl, Nat.le_of_ble_eq_true rfl⟩) rfl rfl (fun r35 S36 h => ?_)
            refine pw_if_eq (pc := 160) (tgt := 256) C dX12_token_160 rfl ⟨fun hc => ?_, fun hc => ?_⟩
            · replace h := h.1 hc
              refine pw_aload_n (pc := 256) C 1 dX12_token_256 rfl rfl ?_
              refine pw_dup (pc := 257) C dX12_token_257 rfl ?_
              obtain ⟨hk37, h⟩ := h
              refine pw_getI (pc := 258) (ref := "SupportSolverModel") (k := 15) (index := 107) C pCl10 iX12_token_X12 hk37 rfl (by decide +kernel) (Or.inl rfl) dX12_token_258 ?_
              refine pw_iconst (pc := 261) (v := 1 ) C dX12_token_261 (by decide) ?_
              refine pw_iadd (pc := 262) C dX12_token_262 ?_
              refine pw_putI (pc := 263) (ref := "SupportSolverModel") (k := 15) (index := 107) C pCl10 iX12_token_X12 hk37 rfl (by decide +kernel) (Or.inl rfl) (Or.inl rfl) rfl rfl dX12_token_263 ?_
              refine pw_aload_n (pc := 266) (S := (sI S36 x0 15 ((pI S36 x0 15) + (1 : Int32)))) C 1 dX12_token_266 rfl rfl ?_
              refine pw_iload_n (pc := 267) (S := (sI S36 x0 15 ((pI S36 x0 15) + (1 : Int32)))) C 0 dX12_token_267 rfl rfl ?_
              refine pw_bipush (pc := 268) (S := (sI S36 x0 15 ((pI S36 x0 15) + (1 : Int32)))) (v := 59 ) C dX12_token_268 (by decide) ?_
              refine pw_icmp_ne (pc := 270) (S := (sI S36 x0 15 ((pI S36 x0 15) + (1 : Int32)))) (tgt := 277) C dX12_token_270 rfl ⟨fun hc => ?_, fun hc => ?_⟩
              · replace h := h.1 hc
                refine pw_iconst (pc := 277) (S := (sI S36 x0 15 ((pI S36 x0 15) + (1 : Int32)))) (v := 4 ) C dX12_token_277 (by decide) ?_
                refine pw_putI (pc := 278) (S := (sI S36 x0 15 ((pI S36 x0 15) + (1 : Int32)))) (ref := "SupportSolverModel") (k := 17) (index := 117) C pCl10 iX12_token_X12 hk37 rfl (by decide +kernel) (Or.inl rfl) (Or.inl rfl) rfl rfl dX12_token_278 ?_
                exact pw_vret (pc := 281) (S := (sI (sI S36 x0 15 ((pI S36 x0 15) + (1 : Int32))) x0 17 (4 : Int32))) C hr h dX12_token_281
              · replace h := h.2 hc
                refine pw_iconst (pc := 273) (S := (sI S36 x0 15 ((pI S36 x0 15) + (1 : Int32)))) (v := 3 ) C dX12_token_273 (by decide) ?_
                refine pw_goto (pc := 274) (S := (sI S36 x0 15 ((pI S36 x0 15) + (1 : Int32)))) (tgt := 278) C dX12_token_274 rfl ?_
                refine pw_putI (pc := 278) (S := (sI S36 x0 15 ((pI S36 x0 15) + (1 : Int32)))) (ref := "SupportSolverModel") (k := 17) (index := 117) C pCl10 iX12_token_X12 hk37 rfl (by decide +kernel) (Or.inl rfl) (Or.inl rfl) rfl rfl dX12_token_278 ?_
                exact pw_vret (pc := 281) (S := (sI (sI S36 x0 15 ((pI S36 x0 15) + (1 : Int32))) x0 17 (3 : Int32))) C hr h dX12_token_281
            · replace h := h.2 hc
              refine pw_aload_n (pc := 163) C 1 dX12_token_163 rfl rfl ?_
              refine pw_iconst (pc := 164) (v := 0 ) C dX12_token_164 (by decide) ?_
              obtain ⟨hk38, h⟩ := h
              refine pw_putI (pc := 165) (ref := "SupportSolverModel") (k := 18) (index := 135) C pCl10 iX12_token_X12 hk38 rfl (by decide +kernel) (Or.inl rfl) (Or.inl rfl) rfl rfl dX12_token_165 ?_
              refine pw_sub [1, 0] (LV2 := [(0, .ref (G.2.2 + x0)), (1, .int r31)]) rfl ?_
              obtain ⟨n9, h⟩ := h
              exact cbX12_token_b168 C hr hin  n9 _ _ _ h
          · replace h := h.2 hc
            refine pw_aload_n (pc := 76) C 1 dX12_token_76 rfl rfl ?_
            refine pw_lconst (pc := 77) (v := 0) C dX12_token_77 (by decide) ?_
            obtain ⟨hk39, h⟩ := h
            refine pw_putJ (pc := 78) (ref := "SupportSolverModel") (k := 21) (index := 124) C pCl10 iX12_token_X12 hk39 rfl (by decide +kernel) (Or.inl rfl) (Or.inl rfl) rfl rfl dX12_token_78 ?_
            refine pw_sub [1, 0] (LV2 := [(0, .ref (G.2.2 + x0)), (1, .int r31)]) rfl ?_
            obtain ⟨n9, h⟩ := h
            exact cbX12_token_b81 C hr hin  n9 _ _ _ h
        · replace h := h.2 hc
          refine pw_aload_n (pc := 61) C 1 dX12_token_61 rfl rfl ?_
          refine pw_iconst (pc := 62) (v := 0 ) C dX12_token_62 (by decide) ?_
          obtain ⟨hk40, h⟩ := h
          refine pw_putI (pc := 63) (ref := "SupportSolverModel") (k := 17) (index := 117) C pCl10 iX12_token_X12 hk40 rfl (by decide +kernel) (Or.inl rfl) (Or.inl rfl) rfl rfl dX12_token_63 ?_
          refine pw_goto (pc := 66) (S := (sI S32 x0 17 (0 : Int32))) (tgt := 281) C dX12_token_66 rfl ?_
          exact pw_vret (pc := 281) (S := (sI S32 x0 17 (0 : Int32))) C hr h dX12_token_281
      · replace h := h.2 hc
        exact cbX12_token_b26 C hr hin ih _ _ h
set_option maxRecDepth 100000 in
set_option maxHeartbeats 4000000 in
theorem ctX12_token (l : Launch) (G : PG) (S : PS) (x0 : Nat) (Q : PS → Prop) (h : wpX12_token S x0 Q) : mV l yX12_token wsX12_token rmX12_token G S [.ref (G.2.2 + x0)] Q := by
  unfold mV
  refine met_of (cc := cX12_token) (maxL := 2) (ret := none) (by decide) rfl (Nat.le_of_ble_eq_true rfl) ?_
  intro p e s m args below meth c C hr hin
  unfold wpX12_token at h
  show PW p l e _ s m args below meth c _ G 2 S 0 0 [(0, .ref (G.2.2 + x0))] 0 []
  obtain ⟨n9, h⟩ := h
  exact cbX12_token_b0 C hr hin  n9 _ _ h

abbrev rmX12_isWrong : Room := { frames := 0, cells := 0, slots := 0, locals := 0 }
theorem iX12_isWrong_X12 : ∀ w ∈ u_ws RX12 TX12 32, w ∈ wsX12_isWrong := fun _ h => List.mem_cons_of_mem _ (List.mem_append_right _ h)
def wpX12_isWrong (S : PS) (x0 : Nat) (Q : Int32 → PS → Prop) : Prop := (pK S x0 = 11 ∧ (((pI S x0 19) = 0 → (Q (0 : Int32) S)) ∧ (¬ (pI S x0 19) = 0 → (Q (1 : Int32) S))))
set_option maxRecDepth 100000 in
set_option maxHeartbeats 4000000 in
theorem ctX12_isWrong (l : Launch) (G : PG) (S : PS) (x0 : Nat) (Q : Int32 → PS → Prop) (h : wpX12_isWrong S x0 Q) : mI l yX12_isWrong wsX12_isWrong rmX12_isWrong G S [.ref (G.2.2 + x0)] Q := by
  unfold mI
  refine met_of (cc := cX12_isWrong) (maxL := 1) (ret := (some .boolean)) (by decide) rfl (Nat.le_of_ble_eq_true rfl) ?_
  intro p e s m args below meth c C hr hin
  unfold wpX12_isWrong at h
  show PW p l e _ s m args below meth c _ G 1 S 0 0 [(0, .ref (G.2.2 + x0))] 0 []
  refine pw_aload_n (pc := 0) C 0 dX12_isWrong_0 rfl rfl ?_
  obtain ⟨hk1, h⟩ := h
  refine pw_getI (pc := 1) (ref := "SupportSolverModel") (k := 19) (index := 138) C pCl10 iX12_isWrong_X12 hk1 rfl (by decide +kernel) (Or.inl rfl) dX12_isWrong_1 ?_
  refine pw_if_eq (pc := 4) (tgt := 11) C dX12_isWrong_4 rfl ⟨fun hc => ?_, fun hc => ?_⟩
  · replace h := h.1 hc
    refine pw_iconst (pc := 11) (v := 0 ) C dX12_isWrong_11 (by decide) ?_
    exact pw_zret (pc := 12) C hr rfl h dX12_isWrong_12
  · replace h := h.2 hc
    refine pw_iconst (pc := 7) (v := 1 ) C dX12_isWrong_7 (by decide) ?_
    refine pw_goto (pc := 8) (tgt := 12) C dX12_isWrong_8 rfl ?_
    exact pw_zret (pc := 12) C hr rfl h dX12_isWrong_12

abbrev rmX12_fails : Room := { frames := 1, cells := 0, slots := 0, locals := 20 }
theorem iX12_fails_X12 : ∀ w ∈ u_ws RX12 TX12 32, w ∈ wsX12_fails := fun _ h => List.mem_cons_of_mem _ (List.mem_append_right _ h)
def wpX12_fails (S : PS) (x0 : Nat) (x1 : Int32) (Q : PS → Prop) : Prop := (pK S x0 = 11 ∧ (wpX12_isWrong S x0 (fun r2 S3 => ((r2 = 0 → (pK S3 x0 = 11 ∧ (Q (sI (sI S3 x0 19 x1) x0 20 (pI (sI S3 x0 19 x1) x0 16))))) ∧ (¬ r2 = 0 → (Q S3))))))
set_option maxRecDepth 100000 in
set_option maxHeartbeats 4000000 in
theorem ctX12_fails (l : Launch) (G : PG) (S : PS) (x0 : Nat) (x1 : Int32) (Q : PS → Prop) (h : wpX12_fails S x0 x1 Q) : mV l yX12_fails wsX12_fails rmX12_fails G S [.ref (G.2.2 + x0), .int x1] Q := by
  unfold mV
  refine met_of (cc := cX12_fails) (maxL := 2) (ret := none) (by decide) rfl (Nat.le_of_ble_eq_true rfl) ?_
  intro p e s m args below meth c C hr hin
  unfold wpX12_fails at h
  show PW p l e _ s m args below meth c _ G 2 S 0 0 [(0, .ref (G.2.2 + x0)), (1, .int x1)] 0 []
  refine pw_aload_n (pc := 0) C 0 dX12_fails_0 rfl rfl ?_
  obtain ⟨hk1, h⟩ := h
  refine pw_calli (pc := 1) (kc2 := 0) (kn2 := 0) (pRunV (pc := 1) C (ctX12_isWrong l G  _ x0 _ h) (cwV 0 C.2.2.2.2.1 gX12_fails_X12_isWrong rfl rfl rfl (by decide +kernel) ⟨Nat.le_of_ble_eq_true rfl, Nat.le_of_ble_eq_true rfl⟩) pCl10 hk1 rfl rfl (Nat.le_of_ble_eq_true rfl) dX12_fails_1 ⟨Nat.le_of_ble_eq_true rfl, Nat.le_of_ble_eq_true rfl⟩) rfl rfl (fun r2 S3 h => ?_)
  refine pw_if_eq (pc := 4) (tgt := 8) C dX12_fails_4 rfl ⟨fun hc => ?_, fun hc => ?_⟩
  · replace h := h.1 hc
    refine pw_aload_n (pc := 8) C 0 dX12_fails_8 rfl rfl ?_
    refine pw_iload_n (pc := 9) C 1 dX12_fails_9 rfl rfl ?_
    obtain ⟨hk4, h⟩ := h
    refine pw_putI (pc := 10) (ref := "SupportSolverModel") (k := 19) (index := 138) C pCl10 iX12_fails_X12 hk4 rfl (by decide +kernel) (Or.inl rfl) (Or.inl rfl) rfl rfl dX12_fails_10 ?_
    refine pw_aload_n (pc := 13) (S := (sI S3 x0 19 x1)) C 0 dX12_fails_13 rfl rfl ?_
    refine pw_aload_n (pc := 14) (S := (sI S3 x0 19 x1)) C 0 dX12_fails_14 rfl rfl ?_
    refine pw_getI (pc := 15) (S := (sI S3 x0 19 x1)) (ref := "SupportSolverModel") (k := 16) (index := 114) C pCl10 iX12_fails_X12 hk4 rfl (by decide +kernel) (Or.inl rfl) dX12_fails_15 ?_
    refine pw_putI (pc := 18) (S := (sI S3 x0 19 x1)) (ref := "SupportSolverModel") (k := 20) (index := 31) C pCl10 iX12_fails_X12 hk4 rfl (by decide +kernel) (Or.inl rfl) (Or.inl rfl) rfl rfl dX12_fails_18 ?_
    exact pw_vret (pc := 21) (S := (sI (sI S3 x0 19 x1) x0 20 (pI (sI S3 x0 19 x1) x0 16))) C hr h dX12_fails_21
  · replace h := h.2 hc
    exact pw_vret (pc := 7) C hr h dX12_fails_7

abbrev rmX12_figure : Room := { frames := 2, cells := 0, slots := 0, locals := 42 }
theorem iX12_figure_X12 : ∀ w ∈ u_ws RX12 TX12 32, w ∈ wsX12_figure := fun _ h => List.mem_cons_of_mem _ (List.mem_append_right _ h)
def wpX12_figure_b42  (Q : Int32 → PS → Prop) (S : PS) (x0 : Nat) (x1 : Int32) (x2 : Int32) : Prop := (pK S x0 = 11 ∧ (wpX12_isWrong S x0 (fun r2 S3 => ((¬ r2 = 0 → (Q (pI S x0 18) S3)) ∧ (r2 = 0 → (pK S3 x0 = 11 ∧ (wpX12_token S3 x0 (fun S6 => (Q (pI S x0 18) S6)))))))))
def wpX12_figure (S : PS) (x0 : Nat) (x1 : Int32) (x2 : Int32) (Q : Int32 → PS → Prop) : Prop := (pK S x0 = 11 ∧ (wpX12_isWrong S x0 (fun r8 S9 => ((r8 = 0 → (pK S9 x0 = 11 ∧ (((pI S9 x0 17) = (2 : Int32) → (wpX12_isIn S9 (pI S9 x0 18) x1 x2 (fun r11 S12 => ((¬ r11 = 0 → (wpX12_figure_b42 Q S12 x0 x1 x2)) ∧ (r11 = 0 → (pK S12 x0 = 11 ∧ (wpX12_fails S12 x0 (2 : Int32) (fun S15 => (wpX12_figure_b42 Q S15 x0 x1 x2))))))))) ∧ (¬ (pI S9 x0 17) = (2 : Int32) → (wpX12_fails S9 x0 (1 : Int32) (fun S17 => (wpX12_figure_b42 Q S17 x0 x1 x2))))))) ∧ (¬ r8 = 0 → (Q x1 S9))))))
set_option maxRecDepth 100000 in
set_option maxHeartbeats 4000000 in
theorem cbX12_figure_b42 {p : Program} {l : Launch} {e : Env} {s : State} {m : MethodId} {args : Array Value} {below : List Frame} {meth : Method} {c : Code} {G : PG} {Q : Int32 → PS → Prop} (C : pCx p s m args meth c G cX12_figure 4 yX12_figure.cls wsX12_figure) (hr : meth.sig.returnType = (some .int)) (hin : meth.name = yX12_figure.name)  : ∀ (S : PS) (x0 : Nat) (x1 : Int32) (x2 : Int32), wpX12_figure_b42  Q S x0 x1 x2 → PW p l e rmX12_figure s m args below meth c (MQ below (va_Qi Q (pB G) (pFr G)) args s rmX12_figure.cells rmX12_figure.slots (pFr G)) G 4 S 0 0 [(0, .ref (G.2.2 + x0)), (1, .int x1), (2, .int x2)] 42 ([]) := by
  intro S x0 x1 x2 h
  unfold wpX12_figure_b42 at h
  refine pw_aload_n (pc := 42) C 0 dX12_figure_42 rfl rfl ?_
  obtain ⟨hk1, h⟩ := h
  refine pw_getI (pc := 43) (ref := "SupportSolverModel") (k := 18) (index := 135) C pCl10 iX12_figure_X12 hk1 rfl (by decide +kernel) (Or.inl rfl) dX12_figure_43 ?_
  refine pw_istore_n (pc := 46) C [(3, .int (pI S x0 18)), (0, .ref (G.2.2 + x0)), (1, .int x1), (2, .int x2)] dX12_figure_46 rfl (by decide) rfl ?_
  refine pw_aload_n (pc := 47) C 1 dX12_figure_47 rfl rfl ?_
  refine pw_calli (pc := 48) (kc2 := 0) (kn2 := 0) (pRunV (pc := 48) C (ctX12_isWrong l G  _ x0 _ h) (cwV 0 C.2.2.2.2.1 gX12_figure_X12_isWrong rfl rfl rfl (by decide +kernel) ⟨Nat.le_of_ble_eq_true rfl, Nat.le_of_ble_eq_true rfl⟩) pCl10 hk1 rfl rfl (Nat.le_of_ble_eq_true rfl) dX12_figure_48 ⟨Nat.le_of_ble_eq_true rfl, Nat.le_of_ble_eq_true rfl⟩) rfl rfl (fun r2 S3 h => ?_)
  refine pw_if_ne (pc := 51) (tgt := 58) C dX12_figure_51 rfl ⟨fun hc => ?_, fun hc => ?_⟩
  · replace h := h.1 hc
    refine pw_iload_n (pc := 58) C 0 dX12_figure_58 rfl rfl ?_
    exact pw_iret (pc := 59) C hr h dX12_figure_59
  · replace h := h.2 hc
    refine pw_aload_n (pc := 54) C 1 dX12_figure_54 rfl rfl ?_
    obtain ⟨hk4, h⟩ := h
    refine pw_callv (pc := 55) (kc2 := 0) (kn2 := 0) (pRunV (pc := 55) C (ctX12_token l G  _ x0 _ h) (cwV 0 C.2.2.2.2.1 gX12_figure_X12_token rfl rfl rfl (by decide +kernel) ⟨Nat.le_of_ble_eq_true rfl, Nat.le_of_ble_eq_true rfl⟩) pCl10 hk4 rfl rfl (Nat.le_of_ble_eq_true rfl) dX12_figure_55 ⟨Nat.le_of_ble_eq_true rfl, Nat.le_of_ble_eq_true rfl⟩) rfl rfl (fun S6 h => ?_)
    refine pw_iload_n (pc := 58) C 0 dX12_figure_58 rfl rfl ?_
    exact pw_iret (pc := 59) C hr h dX12_figure_59
set_option maxRecDepth 100000 in
set_option maxHeartbeats 4000000 in
theorem ctX12_figure (l : Launch) (G : PG) (S : PS) (x0 : Nat) (x1 : Int32) (x2 : Int32) (Q : Int32 → PS → Prop) (h : wpX12_figure S x0 x1 x2 Q) : mI l yX12_figure wsX12_figure rmX12_figure G S [.ref (G.2.2 + x0), .int x1, .int x2] Q := by
  unfold mI
  refine met_of (cc := cX12_figure) (maxL := 4) (ret := (some .int)) (by decide) rfl (Nat.le_of_ble_eq_true rfl) ?_
  intro p e s m args below meth c C hr hin
  unfold wpX12_figure at h
  show PW p l e _ s m args below meth c _ G 4 S 0 0 [(0, .ref (G.2.2 + x0)), (1, .int x1), (2, .int x2)] 0 []
  refine pw_aload_n (pc := 0) C 0 dX12_figure_0 rfl rfl ?_
  obtain ⟨hk7, h⟩ := h
  refine pw_calli (pc := 1) (kc2 := 0) (kn2 := 0) (pRunV (pc := 1) C (ctX12_isWrong l G  _ x0 _ h) (cwV 0 C.2.2.2.2.1 gX12_figure_X12_isWrong rfl rfl rfl (by decide +kernel) ⟨Nat.le_of_ble_eq_true rfl, Nat.le_of_ble_eq_true rfl⟩) pCl10 hk7 rfl rfl (Nat.le_of_ble_eq_true rfl) dX12_figure_1 ⟨Nat.le_of_ble_eq_true rfl, Nat.le_of_ble_eq_true rfl⟩) rfl rfl (fun r8 S9 h => ?_)
  refine pw_if_eq (pc := 4) (tgt := 9) C dX12_figure_4 rfl ⟨fun hc => ?_, fun hc => ?_⟩
  · replace h := h.1 hc
    refine pw_aload_n (pc := 9) C 0 dX12_figure_9 rfl rfl ?_
    obtain ⟨hk10, h⟩ := h
    refine pw_getI (pc := 10) (ref := "SupportSolverModel") (k := 17) (index := 117) C pCl10 iX12_figure_X12 hk10 rfl (by decide +kernel) (Or.inl rfl) dX12_figure_10 ?_
    refine pw_iconst (pc := 13) (v := 2 ) C dX12_figure_13 (by decide) ?_
    refine pw_icmp_eq (pc := 14) (tgt := 25) C dX12_figure_14 rfl ⟨fun hc => ?_, fun hc => ?_⟩
    · replace h := h.1 hc
      refine pw_aload_n (pc := 25) C 0 dX12_figure_25 rfl rfl ?_
      refine pw_getI (pc := 26) (ref := "SupportSolverModel") (k := 18) (index := 135) C pCl10 iX12_figure_X12 hk10 rfl (by decide +kernel) (Or.inl rfl) dX12_figure_26 ?_
      refine pw_iload_n (pc := 29) C 1 dX12_figure_29 rfl rfl ?_
      refine pw_iload_n (pc := 30) C 2 dX12_figure_30 rfl rfl ?_
      refine pw_calli (pc := 31) (kc2 := 0) (kn2 := 0) (pRunS (pc := 31) C (ctX12_isIn l G  _ (pI S9 x0 18) x1 x2 _ h) (va_cwS 3 C.2.2.2.2.1 gX12_figure_X12_isIn rfl rfl rfl (by decide +kernel) ⟨Nat.le_of_ble_eq_true rfl, Nat.le_of_ble_eq_true rfl⟩) rfl rfl (Nat.le_of_ble_eq_true rfl) dX12_figure_31 ⟨Nat.le_of_ble_eq_true rfl, Nat.le_of_ble_eq_true rfl⟩) rfl rfl (fun r11 S12 h => ?_)
      refine pw_if_ne (pc := 34) (tgt := 42) C dX12_figure_34 rfl ⟨fun hc => ?_, fun hc => ?_⟩
      · replace h := h.1 hc
        exact cbX12_figure_b42 C hr hin  _ _ _ _ h
      · replace h := h.2 hc
        refine pw_aload_n (pc := 37) C 0 dX12_figure_37 rfl rfl ?_
        refine pw_iconst (pc := 38) (v := 2 ) C dX12_figure_38 (by decide) ?_
        obtain ⟨hk13, h⟩ := h
        refine pw_callv (pc := 39) (kc2 := 0) (kn2 := 0) (pRunV (pc := 39) C (ctX12_fails l G  _ x0 (2 : Int32) _ h) (cwV 1 C.2.2.2.2.1 gX12_figure_X12_fails rfl rfl rfl (by decide +kernel) ⟨Nat.le_of_ble_eq_true rfl, Nat.le_of_ble_eq_true rfl⟩) pCl10 hk13 rfl rfl (Nat.le_of_ble_eq_true rfl) dX12_figure_39 ⟨Nat.le_of_ble_eq_true rfl, Nat.le_of_ble_eq_true rfl⟩) rfl rfl (fun S15 h => ?_)
        exact cbX12_figure_b42 C hr hin  _ _ _ _ h
    · replace h := h.2 hc
      refine pw_aload_n (pc := 17) C 0 dX12_figure_17 rfl rfl ?_
      refine pw_iconst (pc := 18) (v := 1 ) C dX12_figure_18 (by decide) ?_
      refine pw_callv (pc := 19) (kc2 := 0) (kn2 := 0) (pRunV (pc := 19) C (ctX12_fails l G  _ x0 (1 : Int32) _ h) (cwV 1 C.2.2.2.2.1 gX12_figure_X12_fails rfl rfl rfl (by decide +kernel) ⟨Nat.le_of_ble_eq_true rfl, Nat.le_of_ble_eq_true rfl⟩) pCl10 hk10 rfl rfl (Nat.le_of_ble_eq_true rfl) dX12_figure_19 ⟨Nat.le_of_ble_eq_true rfl, Nat.le_of_ble_eq_true rfl⟩) rfl rfl (fun S17 h => ?_)
      refine pw_goto (pc := 22) (tgt := 42) C dX12_figure_22 rfl ?_
      exact cbX12_figure_b42 C hr hin  _ _ _ _ h
  · replace h := h.2 hc
    refine pw_iload_n (pc := 7) C 1 dX12_figure_7 rfl rfl ?_
    exact pw_iret (pc := 8) C hr h dX12_figure_8

abbrev rmX12_ends : Room := { frames := 2, cells := 0, slots := 0, locals := 42 }
theorem iX12_ends_X12 : ∀ w ∈ u_ws RX12 TX12 32, w ∈ wsX12_ends := fun _ h => List.mem_cons_of_mem _ (List.mem_append_right _ h)
def wpX12_ends_b13  (Q : PS → Prop) (S : PS) (x0 : Nat) : Prop := (pK S x0 = 11 ∧ (wpX12_isWrong S x0 (fun r2 S3 => ((¬ r2 = 0 → (Q S3)) ∧ (r2 = 0 → (pK S3 x0 = 11 ∧ (wpX12_token S3 x0 (fun S6 => (Q S6)))))))))
def wpX12_ends (S : PS) (x0 : Nat) (Q : PS → Prop) : Prop := (pK S x0 = 11 ∧ (((pI S x0 17) = (3 : Int32) → (wpX12_ends_b13 Q S x0)) ∧ (¬ (pI S x0 17) = (3 : Int32) → (wpX12_fails S x0 (1 : Int32) (fun S9 => (wpX12_ends_b13 Q S9 x0))))))
set_option maxRecDepth 100000 in
set_option maxHeartbeats 4000000 in
theorem cbX12_ends_b13 {p : Program} {l : Launch} {e : Env} {s : State} {m : MethodId} {args : Array Value} {below : List Frame} {meth : Method} {c : Code} {G : PG} {Q : PS → Prop} (C : pCx p s m args meth c G cX12_ends 1 yX12_ends.cls wsX12_ends) (hr : meth.sig.returnType = none) (hin : meth.name = yX12_ends.name)  : ∀ (S : PS) (x0 : Nat), wpX12_ends_b13  Q S x0 → PW p l e rmX12_ends s m args below meth c (MQ below (va_Qv Q (pB G) (pFr G)) args s rmX12_ends.cells rmX12_ends.slots (pFr G)) G 1 S 0 0 [(0, .ref (G.2.2 + x0))] 13 ([]) := by
  intro S x0 h
  unfold wpX12_ends_b13 at h
  refine pw_aload_n (pc := 13) C 0 dX12_ends_13 rfl rfl ?_
  obtain ⟨hk1, h⟩ := h
  refine pw_calli (pc := 14) (kc2 := 0) (kn2 := 0) (pRunV (pc := 14) C (ctX12_isWrong l G  _ x0 _ h) (cwV 0 C.2.2.2.2.1 gX12_ends_X12_isWrong rfl rfl rfl (by decide +kernel) ⟨Nat.le_of_ble_eq_true rfl, Nat.le_of_ble_eq_true rfl⟩) pCl10 hk1 rfl rfl (Nat.le_of_ble_eq_true rfl) dX12_ends_14 ⟨Nat.le_of_ble_eq_true rfl, Nat.le_of_ble_eq_true rfl⟩) rfl rfl (fun r2 S3 h => ?_)
  refine pw_if_ne (pc := 17) (tgt := 24) C dX12_ends_17 rfl ⟨fun hc => ?_, fun hc => ?_⟩
  · replace h := h.1 hc
    exact pw_vret (pc := 24) C hr h dX12_ends_24
  · replace h := h.2 hc
    refine pw_aload_n (pc := 20) C 0 dX12_ends_20 rfl rfl ?_
    obtain ⟨hk4, h⟩ := h
    refine pw_callv (pc := 21) (kc2 := 0) (kn2 := 0) (pRunV (pc := 21) C (ctX12_token l G  _ x0 _ h) (cwV 0 C.2.2.2.2.1 gX12_ends_X12_token rfl rfl rfl (by decide +kernel) ⟨Nat.le_of_ble_eq_true rfl, Nat.le_of_ble_eq_true rfl⟩) pCl10 hk4 rfl rfl (Nat.le_of_ble_eq_true rfl) dX12_ends_21 ⟨Nat.le_of_ble_eq_true rfl, Nat.le_of_ble_eq_true rfl⟩) rfl rfl (fun S6 h => ?_)
    exact pw_vret (pc := 24) C hr h dX12_ends_24
set_option maxRecDepth 100000 in
set_option maxHeartbeats 4000000 in
theorem ctX12_ends (l : Launch) (G : PG) (S : PS) (x0 : Nat) (Q : PS → Prop) (h : wpX12_ends S x0 Q) : mV l yX12_ends wsX12_ends rmX12_ends G S [.ref (G.2.2 + x0)] Q := by
  unfold mV
  refine met_of (cc := cX12_ends) (maxL := 1) (ret := none) (by decide) rfl (Nat.le_of_ble_eq_true rfl) ?_
  intro p e s m args below meth c C hr hin
  unfold wpX12_ends at h
  show PW p l e _ s m args below meth c _ G 1 S 0 0 [(0, .ref (G.2.2 + x0))] 0 []
  refine pw_aload_n (pc := 0) C 0 dX12_ends_0 rfl rfl ?_
  obtain ⟨hk7, h⟩ := h
  refine pw_getI (pc := 1) (ref := "SupportSolverModel") (k := 17) (index := 117) C pCl10 iX12_ends_X12 hk7 rfl (by decide +kernel) (Or.inl rfl) dX12_ends_1 ?_
  refine pw_iconst (pc := 4) (v := 3 ) C dX12_ends_4 (by decide) ?_
  refine pw_icmp_eq (pc := 5) (tgt := 13) C dX12_ends_5 rfl ⟨fun hc => ?_, fun hc => ?_⟩
  · replace h := h.1 hc
    exact cbX12_ends_b13 C hr hin  _ _ h
  · replace h := h.2 hc
    refine pw_aload_n (pc := 8) C 0 dX12_ends_8 rfl rfl ?_
    refine pw_iconst (pc := 9) (v := 1 ) C dX12_ends_9 (by decide) ?_
    refine pw_callv (pc := 10) (kc2 := 0) (kn2 := 0) (pRunV (pc := 10) C (ctX12_fails l G  _ x0 (1 : Int32) _ h) (cwV 1 C.2.2.2.2.1 gX12_ends_X12_fails rfl rfl rfl (by decide +kernel) ⟨Nat.le_of_ble_eq_true rfl, Nat.le_of_ble_eq_true rfl⟩) pCl10 hk7 rfl rfl (Nat.le_of_ble_eq_true rfl) dX12_ends_10 ⟨Nat.le_of_ble_eq_true rfl, Nat.le_of_ble_eq_true rfl⟩) rfl rfl (fun S9 h => ?_)
    exact cbX12_ends_b13 C hr hin  _ _ h

abbrev rmX12_errorCode : Room := { frames := 0, cells := 0, slots := 0, locals := 0 }
theorem iX12_errorCode_X12 : ∀ w ∈ u_ws RX12 TX12 32, w ∈ wsX12_errorCode := fun _ h => List.mem_cons_of_mem _ (List.mem_append_right _ h)
def wpX12_errorCode (S : PS) (x0 : Nat) (Q : Int32 → PS → Prop) : Prop := (pK S x0 = 11 ∧ (Q (pI (sI S x0 0 (0 : Int32)) x0 19) (sI S x0 0 (0 : Int32))))
set_option maxRecDepth 100000 in
set_option maxHeartbeats 4000000 in
theorem ctX12_errorCode (l : Launch) (G : PG) (S : PS) (x0 : Nat) (Q : Int32 → PS → Prop) (h : wpX12_errorCode S x0 Q) : mI l yX12_errorCode wsX12_errorCode rmX12_errorCode G S [.ref (G.2.2 + x0)] Q := by
  unfold mI
  refine met_of (cc := cX12_errorCode) (maxL := 1) (ret := (some .int)) (by decide) rfl (Nat.le_of_ble_eq_true rfl) ?_
  intro p e s m args below meth c C hr hin
  unfold wpX12_errorCode at h
  show PW p l e _ s m args below meth c _ G 1 S 0 0 [(0, .ref (G.2.2 + x0))] 0 []
  refine pw_aload_n (pc := 0) C 0 dX12_errorCode_0 rfl rfl ?_
  refine pw_iconst (pc := 1) (v := 0 ) C dX12_errorCode_1 (by decide) ?_
  obtain ⟨hk1, h⟩ := h
  refine pw_putI (pc := 2) (ref := "SupportSolverModel") (k := 0) (index := 70) C pCl10 iX12_errorCode_X12 hk1 rfl (by decide +kernel) (Or.inl rfl) (Or.inl rfl) rfl rfl dX12_errorCode_2 ?_
  refine pw_aload_n (pc := 5) (S := (sI S x0 0 (0 : Int32))) C 0 dX12_errorCode_5 rfl rfl ?_
  refine pw_getI (pc := 6) (S := (sI S x0 0 (0 : Int32))) (ref := "SupportSolverModel") (k := 19) (index := 138) C pCl10 iX12_errorCode_X12 hk1 rfl (by decide +kernel) (Or.inl rfl) dX12_errorCode_6 ?_
  exact pw_iret (pc := 9) (S := (sI S x0 0 (0 : Int32))) C hr h dX12_errorCode_9

abbrev rmX12_errorPosition : Room := { frames := 0, cells := 0, slots := 0, locals := 0 }
theorem iX12_errorPosition_X12 : ∀ w ∈ u_ws RX12 TX12 32, w ∈ wsX12_errorPosition := fun _ h => List.mem_cons_of_mem _ (List.mem_append_right _ h)
def wpX12_errorPosition (S : PS) (x0 : Nat) (Q : Int32 → PS → Prop) : Prop := (pK S x0 = 11 ∧ (Q (pI (sI S x0 0 (0 : Int32)) x0 20) (sI S x0 0 (0 : Int32))))
set_option maxRecDepth 100000 in
set_option maxHeartbeats 4000000 in
theorem ctX12_errorPosition (l : Launch) (G : PG) (S : PS) (x0 : Nat) (Q : Int32 → PS → Prop) (h : wpX12_errorPosition S x0 Q) : mI l yX12_errorPosition wsX12_errorPosition rmX12_errorPosition G S [.ref (G.2.2 + x0)] Q := by
  unfold mI
  refine met_of (cc := cX12_errorPosition) (maxL := 1) (ret := (some .int)) (by decide) rfl (Nat.le_of_ble_eq_true rfl) ?_
  intro p e s m args below meth c C hr hin
  unfold wpX12_errorPosition at h
  show PW p l e _ s m args below meth c _ G 1 S 0 0 [(0, .ref (G.2.2 + x0))] 0 []
  refine pw_aload_n (pc := 0) C 0 dX12_errorPosition_0 rfl rfl ?_
  refine pw_iconst (pc := 1) (v := 0 ) C dX12_errorPosition_1 (by decide) ?_
  obtain ⟨hk1, h⟩ := h
  refine pw_putI (pc := 2) (ref := "SupportSolverModel") (k := 0) (index := 70) C pCl10 iX12_errorPosition_X12 hk1 rfl (by decide +kernel) (Or.inl rfl) (Or.inl rfl) rfl rfl dX12_errorPosition_2 ?_
  refine pw_aload_n (pc := 5) (S := (sI S x0 0 (0 : Int32))) C 0 dX12_errorPosition_5 rfl rfl ?_
  refine pw_getI (pc := 6) (S := (sI S x0 0 (0 : Int32))) (ref := "SupportSolverModel") (k := 20) (index := 31) C pCl10 iX12_errorPosition_X12 hk1 rfl (by decide +kernel) (Or.inl rfl) dX12_errorPosition_6 ?_
  exact pw_iret (pc := 9) (S := (sI S x0 0 (0 : Int32))) C hr h dX12_errorPosition_9

abbrev rmX12_isAmong : Room := { frames := 1, cells := 0, slots := 0, locals := 22 }
def wpX12_isAmong_b21  (Q : Int32 → PS → Prop) : Nat → PS → Nat → Int32 → Int32 → Int32 → Prop
  | 0 => fun _ _ _ _ _ => False
  | n + 1 => fun S x0 x1 x2 x3 => (pK S x0 = 11 ∧ (wpX12_of S x0 x1 (1 : Int32) (fun r2 S3 => ((r2 ≤ x3 → (Q (0 : Int32) S3)) ∧ (¬ r2 ≤ x3 → (pK S3 x0 = 11 ∧ (wpX12_of S3 x0 x1 ((2 : Int32) + x3) (fun r5 S6 => ((¬ r5 = x2 → (wpX12_isAmong_b21 Q n S6 x0 x1 x2 (x3 + 1))) ∧ (r5 = x2 → (Q (1 : Int32) S6)))))))))))
def wpX12_isAmong (S : PS) (x0 : Nat) (x1 : Int32) (x2 : Int32) (Q : Int32 → PS → Prop) : Prop := ((0 ≤ x1 → (∃ n9 : Nat, wpX12_isAmong_b21 Q n9 S x0 x1 x2 (0 : Int32))) ∧ (¬ 0 ≤ x1 → (wpX12_valueIn S (-x1) x2 (fun r7 S8 => ((r7 < 0 → (Q (0 : Int32) S8)) ∧ (¬ r7 < 0 → (Q (1 : Int32) S8)))))))
set_option maxRecDepth 100000 in
set_option maxHeartbeats 4000000 in
theorem cbX12_isAmong_b21 {p : Program} {l : Launch} {e : Env} {s : State} {m : MethodId} {args : Array Value} {below : List Frame} {meth : Method} {c : Code} {G : PG} {Q : Int32 → PS → Prop} (C : pCx p s m args meth c G cX12_isAmong 4 yX12_isAmong.cls wsX12_isAmong) (hr : meth.sig.returnType = (some .boolean)) (hin : meth.name = yX12_isAmong.name)  (n : Nat) : ∀ (S : PS) (x0 : Nat) (x1 : Int32) (x2 : Int32) (x3 : Int32), wpX12_isAmong_b21  Q n S x0 x1 x2 x3 → PW p l e rmX12_isAmong s m args below meth c (MQ below (va_Qi Q (pB G) (pFr G)) args s rmX12_isAmong.cells rmX12_isAmong.slots (pFr G)) G 4 S 0 0 [(0, .ref (G.2.2 + x0)), (1, .int x1), (2, .int x2), (3, .int x3)] 21 ([]) := by
  induction n with
  | zero => intro S x0 x1 x2 x3 h; exact h.elim
  | succ n ih =>
    intro S x0 x1 x2 x3 h
    unfold wpX12_isAmong_b21 at h
    refine pw_iload_n (pc := 21) C 3 dX12_isAmong_21 rfl rfl ?_
    refine pw_aload_n (pc := 22) C 0 dX12_isAmong_22 rfl rfl ?_
    refine pw_iload_n (pc := 23) C 1 dX12_isAmong_23 rfl rfl ?_
    refine pw_iconst (pc := 24) (v := 1 ) C dX12_isAmong_24 (by decide) ?_
    obtain ⟨hk1, h⟩ := h
    refine pw_calli (pc := 25) (kc2 := 0) (kn2 := 0) (pRunV (pc := 25) C (ctX12_of l G  _ x0 x1 (1 : Int32) _ h) (cwV 2 C.2.2.2.2.1 gX12_isAmong_X12_of rfl rfl rfl (by decide +kernel) ⟨Nat.le_of_ble_eq_true rfl, Nat.le_of_ble_eq_true rfl⟩) pCl10 hk1 rfl rfl (Nat.le_of_ble_eq_true rfl) dX12_isAmong_25 ⟨Nat.le_of_ble_eq_true rfl, Nat.le_of_ble_eq_true rfl⟩) rfl rfl (fun r2 S3 h => ?_)
    refine pw_icmp_ge (pc := 28) (tgt := 51) C dX12_isAmong_28 rfl ⟨fun hc => ?_, fun hc => ?_⟩
    · replace h := h.1 hc
      refine pw_iconst (pc := 51) (v := 0 ) C dX12_isAmong_51 (by decide) ?_
      exact pw_zret (pc := 52) C hr rfl h dX12_isAmong_52
    · replace h := h.2 hc
      refine pw_aload_n (pc := 31) C 0 dX12_isAmong_31 rfl rfl ?_
      refine pw_iload_n (pc := 32) C 1 dX12_isAmong_32 rfl rfl ?_
      refine pw_iconst (pc := 33) (v := 2 ) C dX12_isAmong_33 (by decide) ?_
      refine pw_iload_n (pc := 34) C 3 dX12_isAmong_34 rfl rfl ?_
      refine pw_iadd (pc := 35) C dX12_isAmong_35 ?_
      obtain ⟨hk4, h⟩ := h
      refine pw_calli (pc := 36) (kc2 := 0) (kn2 := 0) (pRunV (pc := 36) C (ctX12_of l G  _ x0 x1 ((2 : Int32) + x3) _ h) (cwV 2 C.2.2.2.2.1 gX12_isAmong_X12_of rfl rfl rfl (by decide +kernel) ⟨Nat.le_of_ble_eq_true rfl, Nat.le_of_ble_eq_true rfl⟩) pCl10 hk4 rfl rfl (Nat.le_of_ble_eq_true rfl) dX12_isAmong_36 ⟨Nat.le_of_ble_eq_true rfl, Nat.le_of_ble_eq_true rfl⟩) rfl rfl (fun r5 S6 h => ?_)
      refine pw_iload_n (pc := 39) C 2 dX12_isAmong_39 rfl rfl ?_
      refine pw_icmp_ne (pc := 40) (tgt := 45) C dX12_isAmong_40 rfl ⟨fun hc => ?_, fun hc => ?_⟩
      · replace h := h.1 hc
        refine pw_iincK (pc := 45) (w := 1) C [(3, .int (x3 + 1)), (0, .ref (G.2.2 + x0)), (1, .int x1), (2, .int x2)] 3 dX12_isAmong_45 (by decide) rfl (by decide) rfl ?_
        refine pw_goto (pc := 48) (tgt := 21) C dX12_isAmong_48 rfl ?_
        refine pw_sub [1, 2, 3, 0] (LV2 := [(0, .ref (G.2.2 + x0)), (1, .int x1), (2, .int x2), (3, .int (x3 + 1))]) rfl ?_
        exact ih _ _ _ _ _ h
      · replace h := h.2 hc
        refine pw_iconst (pc := 43) (v := 1 ) C dX12_isAmong_43 (by decide) ?_
        exact pw_zret (pc := 44) C hr rfl h dX12_isAmong_44
set_option maxRecDepth 100000 in
set_option maxHeartbeats 4000000 in
theorem ctX12_isAmong (l : Launch) (G : PG) (S : PS) (x0 : Nat) (x1 : Int32) (x2 : Int32) (Q : Int32 → PS → Prop) (h : wpX12_isAmong S x0 x1 x2 Q) : mI l yX12_isAmong wsX12_isAmong rmX12_isAmong G S [.ref (G.2.2 + x0), .int x1, .int x2] Q := by
  unfold mI
  refine met_of (cc := cX12_isAmong) (maxL := 4) (ret := (some .boolean)) (by decide) rfl (Nat.le_of_ble_eq_true rfl) ?_
  intro p e s m args below meth c C hr hin
  unfold wpX12_isAmong at h
  show PW p l e _ s m args below meth c _ G 4 S 0 0 [(0, .ref (G.2.2 + x0)), (1, .int x1), (2, .int x2)] 0 []
  refine pw_iload_n (pc := 0) C 1 dX12_isAmong_0 rfl rfl ?_
  refine pw_if_ge (pc := 1) (tgt := 19) C dX12_isAmong_1 rfl ⟨fun hc => ?_, fun hc => ?_⟩
  · replace h := h.1 hc
    refine pw_iconst (pc := 19) (v := 0 ) C dX12_isAmong_19 (by decide) ?_
    refine pw_istore_n (pc := 20) C [(3, .int (0 : Int32)), (0, .ref (G.2.2 + x0)), (1, .int x1), (2, .int x2)] dX12_isAmong_20 rfl (by decide) rfl ?_
    refine pw_sub [1, 2, 3, 0] (LV2 := [(0, .ref (G.2.2 + x0)), (1, .int x1), (2, .int x2), (3, .int (0 : Int32))]) rfl ?_
    obtain ⟨n9, h⟩ := h
    exact cbX12_isAmong_b21 C hr hin  n9 _ _ _ _ _ h
  · replace h := h.2 hc
    refine pw_iload_n (pc := 4) C 1 dX12_isAmong_4 rfl rfl ?_
    refine pw_ineg (pc := 5) C dX12_isAmong_5 ?_
    refine pw_iload_n (pc := 6) C 2 dX12_isAmong_6 rfl rfl ?_
    refine pw_calli (pc := 7) (kc2 := 0) (kn2 := 0) (pRunS (pc := 7) C (ctX12_valueIn l G  _ (-x1) x2 _ h) (va_cwS 2 C.2.2.2.2.1 gX12_isAmong_X12_valueIn rfl rfl rfl (by decide +kernel) ⟨Nat.le_of_ble_eq_true rfl, Nat.le_of_ble_eq_true rfl⟩) rfl rfl (Nat.le_of_ble_eq_true rfl) dX12_isAmong_7 ⟨Nat.le_of_ble_eq_true rfl, Nat.le_of_ble_eq_true rfl⟩) rfl rfl (fun r7 S8 h => ?_)
    refine pw_if_lt (pc := 10) (tgt := 17) C dX12_isAmong_10 rfl ⟨fun hc => ?_, fun hc => ?_⟩
    · replace h := h.1 hc
      refine pw_iconst (pc := 17) (v := 0 ) C dX12_isAmong_17 (by decide) ?_
      exact pw_zret (pc := 18) C hr rfl h dX12_isAmong_18
    · replace h := h.2 hc
      refine pw_iconst (pc := 13) (v := 1 ) C dX12_isAmong_13 (by decide) ?_
      refine pw_goto (pc := 14) (tgt := 18) C dX12_isAmong_14 rfl ?_
      exact pw_zret (pc := 18) C hr rfl h dX12_isAmong_18

abbrev rmX12_factsFrom : Room := { frames := 0, cells := 0, slots := 0, locals := 0 }
theorem iX12_factsFrom_X12 : ∀ w ∈ u_ws RX12 TX12 32, w ∈ wsX12_factsFrom := fun _ h => List.mem_cons_of_mem _ (List.mem_append_right _ h)
def wpX12_factsFrom (S : PS) (x0 : Nat) (x1 : Int32) (Q : Int32 → PS → Prop) : Prop := (pK S x0 = 11 ∧ (Q ((pI S x0 7) - x1) S))
set_option maxRecDepth 100000 in
set_option maxHeartbeats 4000000 in
theorem ctX12_factsFrom (l : Launch) (G : PG) (S : PS) (x0 : Nat) (x1 : Int32) (Q : Int32 → PS → Prop) (h : wpX12_factsFrom S x0 x1 Q) : mI l yX12_factsFrom wsX12_factsFrom rmX12_factsFrom G S [.ref (G.2.2 + x0), .int x1] Q := by
  unfold mI
  refine met_of (cc := cX12_factsFrom) (maxL := 2) (ret := (some .int)) (by decide) rfl (Nat.le_of_ble_eq_true rfl) ?_
  intro p e s m args below meth c C hr hin
  unfold wpX12_factsFrom at h
  show PW p l e _ s m args below meth c _ G 2 S 0 0 [(0, .ref (G.2.2 + x0)), (1, .int x1)] 0 []
  refine pw_aload_n (pc := 0) C 0 dX12_factsFrom_0 rfl rfl ?_
  obtain ⟨hk1, h⟩ := h
  refine pw_getI (pc := 1) (ref := "SupportSolverModel") (k := 7) (index := 73) C pCl10 iX12_factsFrom_X12 hk1 rfl (by decide +kernel) (Or.inl rfl) dX12_factsFrom_1 ?_
  refine pw_iload_n (pc := 4) C 1 dX12_factsFrom_4 rfl rfl ?_
  refine pw_isub (pc := 5) C dX12_factsFrom_5 ?_
  exact pw_iret (pc := 6) C hr h dX12_factsFrom_6

abbrev rmX12_isVariable : Room := { frames := 1, cells := 0, slots := 0, locals := 22 }
theorem iX12_isVariable_X12 : ∀ w ∈ u_ws RX12 TX12 32, w ∈ wsX12_isVariable := fun _ h => List.mem_cons_of_mem _ (List.mem_append_right _ h)
def wpX12_isVariable (S : PS) (x0 : Nat) (x1 : Int32) (Q : Int32 → PS → Prop) : Prop := (pK S x0 = 11 ∧ (∃ o2, pR S x0 1 = some o2 ∧ (pK S o2 = 13 ∧ (vp_in (0 : Int32) (pL S o2) ∧ (wpX12_isIn S x1 (0 : Int32) ((pI S o2 ((0 : Int32)).toNatClampNeg) - (1 : Int32)) (fun r5 S6 => ((r5 = 0 ∨ r5 = 1) ∧ (Q r5 S6))))))))
set_option maxRecDepth 100000 in
set_option maxHeartbeats 4000000 in
theorem ctX12_isVariable (l : Launch) (G : PG) (S : PS) (x0 : Nat) (x1 : Int32) (Q : Int32 → PS → Prop) (h : wpX12_isVariable S x0 x1 Q) : mI l yX12_isVariable wsX12_isVariable rmX12_isVariable G S [.ref (G.2.2 + x0), .int x1] Q := by
  unfold mI
  refine met_of (cc := cX12_isVariable) (maxL := 2) (ret := (some .boolean)) (by decide) rfl (Nat.le_of_ble_eq_true rfl) ?_
  intro p e s m args below meth c C hr hin
  unfold wpX12_isVariable at h
  show PW p l e _ s m args below meth c _ G 2 S 0 0 [(0, .ref (G.2.2 + x0)), (1, .int x1)] 0 []
  refine pw_iload_n (pc := 0) C 1 dX12_isVariable_0 rfl rfl ?_
  refine pw_iconst (pc := 1) (v := 0 ) C dX12_isVariable_1 (by decide) ?_
  refine pw_aload_n (pc := 2) C 0 dX12_isVariable_2 rfl rfl ?_
  obtain ⟨hk1, h⟩ := h
  obtain ⟨o2, ho2, h⟩ := h
  refine pw_getR (pc := 3) (ref := "SupportSolverModel") (k := 1) (index := 7) C pCl10 iX12_isVariable_X12 hk1 rfl (by decide +kernel) (Or.inl rfl) (o := o2) ho2 dX12_isVariable_3 ?_
  refine pw_iconst (pc := 6) (v := 0 ) C dX12_isVariable_6 (by decide) ?_
  obtain ⟨hk3, h⟩ := h
  obtain ⟨hi4, h⟩ := h
  refine pw_iald (pc := 7) C hk3 hi4 dX12_isVariable_7 ?_
  refine pw_iconst (pc := 8) (v := 1 ) C dX12_isVariable_8 (by decide) ?_
  refine pw_isub (pc := 9) C dX12_isVariable_9 ?_
  refine pw_calli (pc := 10) (kc2 := 0) (kn2 := 0) (pRunS (pc := 10) C (ctX12_isIn l G  _ x1 (0 : Int32) ((pI S o2 ((0 : Int32)).toNatClampNeg) - (1 : Int32)) _ h) (va_cwS 3 C.2.2.2.2.1 gX12_isVariable_X12_isIn rfl rfl rfl (by decide +kernel) ⟨Nat.le_of_ble_eq_true rfl, Nat.le_of_ble_eq_true rfl⟩) rfl rfl (Nat.le_of_ble_eq_true rfl) dX12_isVariable_10 ⟨Nat.le_of_ble_eq_true rfl, Nat.le_of_ble_eq_true rfl⟩) rfl rfl (fun r5 S6 h => ?_)
  obtain ⟨hb7, h⟩ := h
  exact pw_zret (pc := 13) C hr (nar_bool hb7) h dX12_isVariable_13

abbrev rmX12_isConstraint : Room := { frames := 1, cells := 0, slots := 0, locals := 22 }
theorem iX12_isConstraint_X12 : ∀ w ∈ u_ws RX12 TX12 32, w ∈ wsX12_isConstraint := fun _ h => List.mem_cons_of_mem _ (List.mem_append_right _ h)
def wpX12_isConstraint (S : PS) (x0 : Nat) (x1 : Int32) (Q : Int32 → PS → Prop) : Prop := (pK S x0 = 11 ∧ (∃ o2, pR S x0 1 = some o2 ∧ (pK S o2 = 13 ∧ (vp_in (1 : Int32) (pL S o2) ∧ (wpX12_isIn S x1 (0 : Int32) ((pI S o2 ((1 : Int32)).toNatClampNeg) - (1 : Int32)) (fun r5 S6 => ((r5 = 0 ∨ r5 = 1) ∧ (Q r5 S6))))))))
set_option maxRecDepth 100000 in
set_option maxHeartbeats 4000000 in
theorem ctX12_isConstraint (l : Launch) (G : PG) (S : PS) (x0 : Nat) (x1 : Int32) (Q : Int32 → PS → Prop) (h : wpX12_isConstraint S x0 x1 Q) : mI l yX12_isConstraint wsX12_isConstraint rmX12_isConstraint G S [.ref (G.2.2 + x0), .int x1] Q := by
  unfold mI
  refine met_of (cc := cX12_isConstraint) (maxL := 2) (ret := (some .boolean)) (by decide) rfl (Nat.le_of_ble_eq_true rfl) ?_
  intro p e s m args below meth c C hr hin
  unfold wpX12_isConstraint at h
  show PW p l e _ s m args below meth c _ G 2 S 0 0 [(0, .ref (G.2.2 + x0)), (1, .int x1)] 0 []
  refine pw_iload_n (pc := 0) C 1 dX12_isConstraint_0 rfl rfl ?_
  refine pw_iconst (pc := 1) (v := 0 ) C dX12_isConstraint_1 (by decide) ?_
  refine pw_aload_n (pc := 2) C 0 dX12_isConstraint_2 rfl rfl ?_
  obtain ⟨hk1, h⟩ := h
  obtain ⟨o2, ho2, h⟩ := h
  refine pw_getR (pc := 3) (ref := "SupportSolverModel") (k := 1) (index := 7) C pCl10 iX12_isConstraint_X12 hk1 rfl (by decide +kernel) (Or.inl rfl) (o := o2) ho2 dX12_isConstraint_3 ?_
  refine pw_iconst (pc := 6) (v := 1 ) C dX12_isConstraint_6 (by decide) ?_
  obtain ⟨hk3, h⟩ := h
  obtain ⟨hi4, h⟩ := h
  refine pw_iald (pc := 7) C hk3 hi4 dX12_isConstraint_7 ?_
  refine pw_iconst (pc := 8) (v := 1 ) C dX12_isConstraint_8 (by decide) ?_
  refine pw_isub (pc := 9) C dX12_isConstraint_9 ?_
  refine pw_calli (pc := 10) (kc2 := 0) (kn2 := 0) (pRunS (pc := 10) C (ctX12_isIn l G  _ x1 (0 : Int32) ((pI S o2 ((1 : Int32)).toNatClampNeg) - (1 : Int32)) _ h) (va_cwS 3 C.2.2.2.2.1 gX12_isConstraint_X12_isIn rfl rfl rfl (by decide +kernel) ⟨Nat.le_of_ble_eq_true rfl, Nat.le_of_ble_eq_true rfl⟩) rfl rfl (Nat.le_of_ble_eq_true rfl) dX12_isConstraint_10 ⟨Nat.le_of_ble_eq_true rfl, Nat.le_of_ble_eq_true rfl⟩) rfl rfl (fun r5 S6 h => ?_)
  obtain ⟨hb7, h⟩ := h
  exact pw_zret (pc := 13) C hr (nar_bool hb7) h dX12_isConstraint_13

abbrev rmX12_isFact : Room := { frames := 1, cells := 0, slots := 0, locals := 22 }
theorem iX12_isFact_X12 : ∀ w ∈ u_ws RX12 TX12 32, w ∈ wsX12_isFact := fun _ h => List.mem_cons_of_mem _ (List.mem_append_right _ h)
def wpX12_isFact (S : PS) (x0 : Nat) (x1 : Int32) (Q : Int32 → PS → Prop) : Prop := (pK S x0 = 11 ∧ (wpX12_isIn S x1 (0 : Int32) ((pI S x0 7) - (1 : Int32)) (fun r2 S3 => ((r2 = 0 ∨ r2 = 1) ∧ (Q r2 S3)))))
set_option maxRecDepth 100000 in
set_option maxHeartbeats 4000000 in
theorem ctX12_isFact (l : Launch) (G : PG) (S : PS) (x0 : Nat) (x1 : Int32) (Q : Int32 → PS → Prop) (h : wpX12_isFact S x0 x1 Q) : mI l yX12_isFact wsX12_isFact rmX12_isFact G S [.ref (G.2.2 + x0), .int x1] Q := by
  unfold mI
  refine met_of (cc := cX12_isFact) (maxL := 2) (ret := (some .boolean)) (by decide) rfl (Nat.le_of_ble_eq_true rfl) ?_
  intro p e s m args below meth c C hr hin
  unfold wpX12_isFact at h
  show PW p l e _ s m args below meth c _ G 2 S 0 0 [(0, .ref (G.2.2 + x0)), (1, .int x1)] 0 []
  refine pw_iload_n (pc := 0) C 1 dX12_isFact_0 rfl rfl ?_
  refine pw_iconst (pc := 1) (v := 0 ) C dX12_isFact_1 (by decide) ?_
  refine pw_aload_n (pc := 2) C 0 dX12_isFact_2 rfl rfl ?_
  obtain ⟨hk1, h⟩ := h
  refine pw_getI (pc := 3) (ref := "SupportSolverModel") (k := 7) (index := 73) C pCl10 iX12_isFact_X12 hk1 rfl (by decide +kernel) (Or.inl rfl) dX12_isFact_3 ?_
  refine pw_iconst (pc := 6) (v := 1 ) C dX12_isFact_6 (by decide) ?_
  refine pw_isub (pc := 7) C dX12_isFact_7 ?_
  refine pw_calli (pc := 8) (kc2 := 0) (kn2 := 0) (pRunS (pc := 8) C (ctX12_isIn l G  _ x1 (0 : Int32) ((pI S x0 7) - (1 : Int32)) _ h) (va_cwS 3 C.2.2.2.2.1 gX12_isFact_X12_isIn rfl rfl rfl (by decide +kernel) ⟨Nat.le_of_ble_eq_true rfl, Nat.le_of_ble_eq_true rfl⟩) rfl rfl (Nat.le_of_ble_eq_true rfl) dX12_isFact_8 ⟨Nat.le_of_ble_eq_true rfl, Nat.le_of_ble_eq_true rfl⟩) rfl rfl (fun r2 S3 h => ?_)
  obtain ⟨hb4, h⟩ := h
  exact pw_zret (pc := 11) C hr (nar_bool hb4) h dX12_isFact_11

abbrev rmX12_isMember : Room := { frames := 2, cells := 0, slots := 0, locals := 45 }
def wpX12_isMember (S : PS) (x0 : Nat) (x1 : Int32) (x2 : Int32) (Q : Int32 → PS → Prop) : Prop := (pK S x0 = 11 ∧ (wpX12_isConstraint S x0 x1 (fun r2 S3 => ((r2 = 0 → (Q (0 : Int32) S3)) ∧ (¬ r2 = 0 → (pK S3 x0 = 11 ∧ (wpX12_isVariable S3 x0 x2 (fun r5 S6 => ((r5 = 0 → (Q (0 : Int32) S6)) ∧ (¬ r5 = 0 → (pK S6 x0 = 11 ∧ (wpX12_isAmong S6 x0 x1 x2 (fun r8 S9 => ((r8 = 0 → (Q (0 : Int32) S9)) ∧ (¬ r8 = 0 → (Q (1 : Int32) S9))))))))))))))))
set_option maxRecDepth 100000 in
set_option maxHeartbeats 4000000 in
theorem ctX12_isMember (l : Launch) (G : PG) (S : PS) (x0 : Nat) (x1 : Int32) (x2 : Int32) (Q : Int32 → PS → Prop) (h : wpX12_isMember S x0 x1 x2 Q) : mI l yX12_isMember wsX12_isMember rmX12_isMember G S [.ref (G.2.2 + x0), .int x1, .int x2] Q := by
  unfold mI
  refine met_of (cc := cX12_isMember) (maxL := 3) (ret := (some .boolean)) (by decide) rfl (Nat.le_of_ble_eq_true rfl) ?_
  intro p e s m args below meth c C hr hin
  unfold wpX12_isMember at h
  show PW p l e _ s m args below meth c _ G 3 S 0 0 [(0, .ref (G.2.2 + x0)), (1, .int x1), (2, .int x2)] 0 []
  refine pw_aload_n (pc := 0) C 0 dX12_isMember_0 rfl rfl ?_
  refine pw_iload_n (pc := 1) C 1 dX12_isMember_1 rfl rfl ?_
  obtain ⟨hk1, h⟩ := h
  refine pw_calli (pc := 2) (kc2 := 0) (kn2 := 0) (pRunV (pc := 2) C (ctX12_isConstraint l G  _ x0 x1 _ h) (cwV 1 C.2.2.2.2.1 gX12_isMember_X12_isConstraint rfl rfl rfl (by decide +kernel) ⟨Nat.le_of_ble_eq_true rfl, Nat.le_of_ble_eq_true rfl⟩) pCl10 hk1 rfl rfl (Nat.le_of_ble_eq_true rfl) dX12_isMember_2 ⟨Nat.le_of_ble_eq_true rfl, Nat.le_of_ble_eq_true rfl⟩) rfl rfl (fun r2 S3 h => ?_)
  refine pw_if_eq (pc := 5) (tgt := 29) C dX12_isMember_5 rfl ⟨fun hc => ?_, fun hc => ?_⟩
  · replace h := h.1 hc
    refine pw_iconst (pc := 29) (v := 0 ) C dX12_isMember_29 (by decide) ?_
    exact pw_zret (pc := 30) C hr rfl h dX12_isMember_30
  · replace h := h.2 hc
    refine pw_aload_n (pc := 8) C 0 dX12_isMember_8 rfl rfl ?_
    refine pw_iload_n (pc := 9) C 2 dX12_isMember_9 rfl rfl ?_
    obtain ⟨hk4, h⟩ := h
    refine pw_calli (pc := 10) (kc2 := 0) (kn2 := 0) (pRunV (pc := 10) C (ctX12_isVariable l G  _ x0 x2 _ h) (cwV 1 C.2.2.2.2.1 gX12_isMember_X12_isVariable rfl rfl rfl (by decide +kernel) ⟨Nat.le_of_ble_eq_true rfl, Nat.le_of_ble_eq_true rfl⟩) pCl10 hk4 rfl rfl (Nat.le_of_ble_eq_true rfl) dX12_isMember_10 ⟨Nat.le_of_ble_eq_true rfl, Nat.le_of_ble_eq_true rfl⟩) rfl rfl (fun r5 S6 h => ?_)
    refine pw_if_eq (pc := 13) (tgt := 29) C dX12_isMember_13 rfl ⟨fun hc => ?_, fun hc => ?_⟩
    · replace h := h.1 hc
      refine pw_iconst (pc := 29) (v := 0 ) C dX12_isMember_29 (by decide) ?_
      exact pw_zret (pc := 30) C hr rfl h dX12_isMember_30
    · replace h := h.2 hc
      refine pw_aload_n (pc := 16) C 0 dX12_isMember_16 rfl rfl ?_
      refine pw_iload_n (pc := 17) C 1 dX12_isMember_17 rfl rfl ?_
      refine pw_iload_n (pc := 18) C 2 dX12_isMember_18 rfl rfl ?_
      obtain ⟨hk7, h⟩ := h
      refine pw_calli (pc := 19) (kc2 := 0) (kn2 := 0) (pRunV (pc := 19) C (ctX12_isAmong l G  _ x0 x1 x2 _ h) (cwV 2 C.2.2.2.2.1 gX12_isMember_X12_isAmong rfl rfl rfl (by decide +kernel) ⟨Nat.le_of_ble_eq_true rfl, Nat.le_of_ble_eq_true rfl⟩) pCl10 hk7 rfl rfl (Nat.le_of_ble_eq_true rfl) dX12_isMember_19 ⟨Nat.le_of_ble_eq_true rfl, Nat.le_of_ble_eq_true rfl⟩) rfl rfl (fun r8 S9 h => ?_)
      refine pw_if_eq (pc := 22) (tgt := 29) C dX12_isMember_22 rfl ⟨fun hc => ?_, fun hc => ?_⟩
      · replace h := h.1 hc
        refine pw_iconst (pc := 29) (v := 0 ) C dX12_isMember_29 (by decide) ?_
        exact pw_zret (pc := 30) C hr rfl h dX12_isMember_30
      · replace h := h.2 hc
        refine pw_iconst (pc := 25) (v := 1 ) C dX12_isMember_25 (by decide) ?_
        refine pw_goto (pc := 26) (tgt := 30) C dX12_isMember_26 rfl ?_
        exact pw_zret (pc := 30) C hr rfl h dX12_isMember_30

abbrev rmX12_fixed : Room := { frames := 1, cells := 0, slots := 0, locals := 22 }
theorem iX12_fixed_X12 : ∀ w ∈ u_ws RX12 TX12 32, w ∈ wsX12_fixed := fun _ h => List.mem_cons_of_mem _ (List.mem_append_right _ h)
def wpX12_fixed_b4  (Q : Int32 → PS → Prop) : Nat → PS → Nat → Int32 → Int32 → Prop
  | 0 => fun _ _ _ _ => False
  | n + 1 => fun S x0 x1 x2 => (pK S x0 = 11 ∧ (∃ o2, pR S x0 1 = some o2 ∧ (pK S o2 = 13 ∧ (vp_in (0 : Int32) (pL S o2) ∧ (((pI S o2 ((0 : Int32)).toNatClampNeg) ≤ x2 → (Q x1 S)) ∧ (¬ (pI S o2 ((0 : Int32)).toNatClampNeg) ≤ x2 → (∃ o5, pR S x0 3 = some o5 ∧ (pK S o5 = 13 ∧ (vp_in x2 (pL S o5) ∧ (wpX12_sizeOf S (pI S o5 (x2).toNatClampNeg) (fun r8 S9 => ((¬ r8 = (1 : Int32) → (wpX12_fixed_b4 Q n S9 x0 (x1 + (0 : Int32)) (x2 + 1))) ∧ (r8 = (1 : Int32) → (wpX12_fixed_b4 Q n S9 x0 (x1 + (1 : Int32)) (x2 + 1)))))))))))))))
def wpX12_fixed (S : PS) (x0 : Nat) (Q : Int32 → PS → Prop) : Prop := (∃ n9 : Nat, wpX12_fixed_b4 Q n9 S x0 (0 : Int32) (0 : Int32))
set_option maxRecDepth 100000 in
set_option maxHeartbeats 4000000 in
theorem cbX12_fixed_b4 {p : Program} {l : Launch} {e : Env} {s : State} {m : MethodId} {args : Array Value} {below : List Frame} {meth : Method} {c : Code} {G : PG} {Q : Int32 → PS → Prop} (C : pCx p s m args meth c G cX12_fixed 3 yX12_fixed.cls wsX12_fixed) (hr : meth.sig.returnType = (some .int)) (hin : meth.name = yX12_fixed.name)  (n : Nat) : ∀ (S : PS) (x0 : Nat) (x1 : Int32) (x2 : Int32), wpX12_fixed_b4  Q n S x0 x1 x2 → PW p l e rmX12_fixed s m args below meth c (MQ below (va_Qi Q (pB G) (pFr G)) args s rmX12_fixed.cells rmX12_fixed.slots (pFr G)) G 3 S 0 0 [(0, .ref (G.2.2 + x0)), (1, .int x1), (2, .int x2)] 4 ([]) := by
  induction n with
  | zero => intro S x0 x1 x2 h; exact h.elim
  | succ n ih =>
    intro S x0 x1 x2 h
    unfold wpX12_fixed_b4 at h
    refine pw_iload_n (pc := 4) C 2 dX12_fixed_4 rfl rfl ?_
    refine pw_aload_n (pc := 5) C 0 dX12_fixed_5 rfl rfl ?_
    obtain ⟨hk1, h⟩ := h
    obtain ⟨o2, ho2, h⟩ := h
    refine pw_getR (pc := 6) (ref := "SupportSolverModel") (k := 1) (index := 7) C pCl10 iX12_fixed_X12 hk1 rfl (by decide +kernel) (Or.inl rfl) (o := o2) ho2 dX12_fixed_6 ?_
    refine pw_iconst (pc := 9) (v := 0 ) C dX12_fixed_9 (by decide) ?_
    obtain ⟨hk3, h⟩ := h
    obtain ⟨hi4, h⟩ := h
    refine pw_iald (pc := 10) C hk3 hi4 dX12_fixed_10 ?_
    refine pw_icmp_ge (pc := 11) (tgt := 41) C dX12_fixed_11 rfl ⟨fun hc => ?_, fun hc => ?_⟩
    · replace h := h.1 hc
      refine pw_iload_n (pc := 41) C 1 dX12_fixed_41 rfl rfl ?_
      exact pw_iret (pc := 42) C hr h dX12_fixed_42
    · replace h := h.2 hc
      refine pw_iload_n (pc := 14) C 1 dX12_fixed_14 rfl rfl ?_
      refine pw_aload_n (pc := 15) C 0 dX12_fixed_15 rfl rfl ?_
      obtain ⟨o5, ho5, h⟩ := h
      refine pw_getR (pc := 16) (ref := "SupportSolverModel") (k := 3) (index := 16) C pCl10 iX12_fixed_X12 hk1 rfl (by decide +kernel) (Or.inl rfl) (o := o5) ho5 dX12_fixed_16 ?_
      refine pw_iload_n (pc := 19) C 2 dX12_fixed_19 rfl rfl ?_
      obtain ⟨hk6, h⟩ := h
      obtain ⟨hi7, h⟩ := h
      refine pw_iald (pc := 20) C hk6 hi7 dX12_fixed_20 ?_
      refine pw_calli (pc := 21) (kc2 := 0) (kn2 := 0) (pRunS (pc := 21) C (ctX12_sizeOf l G  _ (pI S o5 (x2).toNatClampNeg) _ h) (va_cwS 1 C.2.2.2.2.1 gX12_fixed_X12_sizeOf rfl rfl rfl (by decide +kernel) ⟨Nat.le_of_ble_eq_true rfl, Nat.le_of_ble_eq_true rfl⟩) rfl rfl (Nat.le_of_ble_eq_true rfl) dX12_fixed_21 ⟨Nat.le_of_ble_eq_true rfl, Nat.le_of_ble_eq_true rfl⟩) rfl rfl (fun r8 S9 h => ?_)
      refine pw_iconst (pc := 24) (v := 1 ) C dX12_fixed_24 (by decide) ?_
      refine pw_icmp_ne (pc := 25) (tgt := 32) C dX12_fixed_25 rfl ⟨fun hc => ?_, fun hc => ?_⟩
      · replace h := h.1 hc
        refine pw_iconst (pc := 32) (v := 0 ) C dX12_fixed_32 (by decide) ?_
        refine pw_iadd (pc := 33) C dX12_fixed_33 ?_
        refine pw_istore_n (pc := 34) C [(1, .int (x1 + (0 : Int32))), (0, .ref (G.2.2 + x0)), (2, .int x2)] dX12_fixed_34 rfl (by decide) rfl ?_
        refine pw_iincK (pc := 35) (w := 1) C [(2, .int (x2 + 1)), (1, .int (x1 + (0 : Int32))), (0, .ref (G.2.2 + x0))] 2 dX12_fixed_35 (by decide) rfl (by decide) rfl ?_
        refine pw_goto (pc := 38) (tgt := 4) C dX12_fixed_38 rfl ?_
        refine pw_sub [2, 1, 0] (LV2 := [(0, .ref (G.2.2 + x0)), (1, .int (x1 + (0 : Int32))), (2, .int (x2 + 1))]) rfl ?_
        exact ih _ _ _ _ h
      · replace h := h.2 hc
        refine pw_iconst (pc := 28) (v := 1 ) C dX12_fixed_28 (by decide) ?_
        refine pw_goto (pc := 29) (tgt := 33) C dX12_fixed_29 rfl ?_
        refine pw_iadd (pc := 33) C dX12_fixed_33 ?_
        refine pw_istore_n (pc := 34) C [(1, .int (x1 + (1 : Int32))), (0, .ref (G.2.2 + x0)), (2, .int x2)] dX12_fixed_34 rfl (by decide) rfl ?_
        refine pw_iincK (pc := 35) (w := 1) C [(2, .int (x2 + 1)), (1, .int (x1 + (1 : Int32))), (0, .ref (G.2.2 + x0))] 2 dX12_fixed_35 (by decide) rfl (by decide) rfl ?_
        refine pw_goto (pc := 38) (tgt := 4) C dX12_fixed_38 rfl ?_
        refine pw_sub [2, 1, 0] (LV2 := [(0, .ref (G.2.2 + x0)), (1, .int (x1 + (1 : Int32))), (2, .int (x2 + 1))]) rfl ?_
        exact ih _ _ _ _ h
set_option maxRecDepth 100000 in
set_option maxHeartbeats 4000000 in
theorem ctX12_fixed (l : Launch) (G : PG) (S : PS) (x0 : Nat) (Q : Int32 → PS → Prop) (h : wpX12_fixed S x0 Q) : mI l yX12_fixed wsX12_fixed rmX12_fixed G S [.ref (G.2.2 + x0)] Q := by
  unfold mI
  refine met_of (cc := cX12_fixed) (maxL := 3) (ret := (some .int)) (by decide) rfl (Nat.le_of_ble_eq_true rfl) ?_
  intro p e s m args below meth c C hr hin
  unfold wpX12_fixed at h
  show PW p l e _ s m args below meth c _ G 3 S 0 0 [(0, .ref (G.2.2 + x0))] 0 []
  refine pw_iconst (pc := 0) (v := 0 ) C dX12_fixed_0 (by decide) ?_
  refine pw_istore_n (pc := 1) C [(1, .int (0 : Int32)), (0, .ref (G.2.2 + x0))] dX12_fixed_1 rfl (by decide) rfl ?_
  refine pw_iconst (pc := 2) (v := 0 ) C dX12_fixed_2 (by decide) ?_
  refine pw_istore_n (pc := 3) C [(2, .int (0 : Int32)), (1, .int (0 : Int32)), (0, .ref (G.2.2 + x0))] dX12_fixed_3 rfl (by decide) rfl ?_
  refine pw_sub [2, 1, 0] (LV2 := [(0, .ref (G.2.2 + x0)), (1, .int (0 : Int32)), (2, .int (0 : Int32))]) rfl ?_
  obtain ⟨n9, h⟩ := h
  exact cbX12_fixed_b4 C hr hin  n9 _ _ _ _ h

abbrev rmX12_report : Room := { frames := 2, cells := 0, slots := 0, locals := 44 }
theorem iX12_report_X12 : ∀ w ∈ u_ws RX12 TX12 32, w ∈ wsX12_report := fun _ h => List.mem_cons_of_mem _ (List.mem_append_right _ h)
def wpX12_report (S : PS) (x0 : Nat) (x1 : Int32) (Q : Int32 → PS → Prop) : Prop := (pK S x0 = 11 ∧ (wpX12_isIn (sI S x0 0 (0 : Int32)) x1 (0 : Int32) (7 : Int32) (fun r2 S3 => (pK S3 x0 = 11 ∧ (wpX12_may S3 x0 r2 (1 : Int32) (fun r5 S6 => ((¬ r5 = 0 → ((x1 = 0 → (pK S6 x0 = 11 ∧ (∃ o8, pR S6 x0 1 = some o8 ∧ (pK S6 o8 = 13 ∧ (vp_in (0 : Int32) (pL S6 o8) ∧ (Q (pI S6 o8 ((0 : Int32)).toNatClampNeg) S6)))))) ∧ (x1 = 1 → (pK S6 x0 = 11 ∧ (∃ o12, pR S6 x0 1 = some o12 ∧ (pK S6 o12 = 13 ∧ (vp_in (1 : Int32) (pL S6 o12) ∧ (Q (pI S6 o12 ((1 : Int32)).toNatClampNeg) S6)))))) ∧ (x1 = 2 → (pK S6 x0 = 11 ∧ (Q (pI S6 x0 8) S6))) ∧ (x1 = 3 → (pK S6 x0 = 11 ∧ (Q (pI S6 x0 7) S6))) ∧ (x1 = 4 → (pK S6 x0 = 11 ∧ (Q (pI S6 x0 9) S6))) ∧ (x1 = 5 → (pK S6 x0 = 11 ∧ (((pI S6 x0 11) = 0 → (Q (0 : Int32) S6)) ∧ (¬ (pI S6 x0 11) = 0 → (Q (1 : Int32) S6))))) ∧ (x1 = 6 → (pK S6 x0 = 11 ∧ (wpX12_fixed S6 x0 (fun r20 S21 => (Q r20 S21))))) ∧ ((¬ x1 = 0 ∧ ¬ x1 = 1 ∧ ¬ x1 = 2 ∧ ¬ x1 = 3 ∧ ¬ x1 = 4 ∧ ¬ x1 = 5 ∧ ¬ x1 = 6) → (pK S6 x0 = 11 ∧ (Q (pI S6 x0 10) S6))))) ∧ (r5 = 0 → (Q (0 : Int32) S6)))))))))
set_option maxRecDepth 100000 in
set_option maxHeartbeats 4000000 in
theorem ctX12_report (l : Launch) (G : PG) (S : PS) (x0 : Nat) (x1 : Int32) (Q : Int32 → PS → Prop) (h : wpX12_report S x0 x1 Q) : mI l yX12_report wsX12_report rmX12_report G S [.ref (G.2.2 + x0), .int x1] Q := by
  unfold mI
  refine met_of (cc := cX12_report) (maxL := 2) (ret := (some .int)) (by decide) rfl (Nat.le_of_ble_eq_true rfl) ?_
  intro p e s m args below meth c C hr hin
  unfold wpX12_report at h
  show PW p l e _ s m args below meth c _ G 2 S 0 0 [(0, .ref (G.2.2 + x0)), (1, .int x1)] 0 []
  refine pw_aload_n (pc := 0) C 0 dX12_report_0 rfl rfl ?_
  refine pw_iconst (pc := 1) (v := 0 ) C dX12_report_1 (by decide) ?_
  obtain ⟨hk1, h⟩ := h
  refine pw_putI (pc := 2) (ref := "SupportSolverModel") (k := 0) (index := 70) C pCl10 iX12_report_X12 hk1 rfl (by decide +kernel) (Or.inl rfl) (Or.inl rfl) rfl rfl dX12_report_2 ?_
  refine pw_aload_n (pc := 5) (S := (sI S x0 0 (0 : Int32))) C 0 dX12_report_5 rfl rfl ?_
  refine pw_iload_n (pc := 6) (S := (sI S x0 0 (0 : Int32))) C 1 dX12_report_6 rfl rfl ?_
  refine pw_iconst (pc := 7) (S := (sI S x0 0 (0 : Int32))) (v := 0 ) C dX12_report_7 (by decide) ?_
  refine pw_bipush (pc := 8) (S := (sI S x0 0 (0 : Int32))) (v := 7 ) C dX12_report_8 (by decide) ?_
  refine pw_calli (pc := 10) (S := (sI S x0 0 (0 : Int32))) (kc2 := 0) (kn2 := 0) (pRunS (pc := 10) (S := (sI S x0 0 (0 : Int32))) C (ctX12_isIn l G  _ x1 (0 : Int32) (7 : Int32) _ h) (va_cwS 3 C.2.2.2.2.1 gX12_report_X12_isIn rfl rfl rfl (by decide +kernel) ⟨Nat.le_of_ble_eq_true rfl, Nat.le_of_ble_eq_true rfl⟩) rfl rfl (Nat.le_of_ble_eq_true rfl) dX12_report_10 ⟨Nat.le_of_ble_eq_true rfl, Nat.le_of_ble_eq_true rfl⟩) rfl rfl (fun r2 S3 h => ?_)
  refine pw_iconst (pc := 13) (v := 1 ) C dX12_report_13 (by decide) ?_
  obtain ⟨hk4, h⟩ := h
  refine pw_calli (pc := 14) (kc2 := 0) (kn2 := 0) (pRunV (pc := 14) C (ctX12_may l G  _ x0 r2 (1 : Int32) _ h) (cwV 2 C.2.2.2.2.1 gX12_report_X12_may rfl rfl rfl (by decide +kernel) ⟨Nat.le_of_ble_eq_true rfl, Nat.le_of_ble_eq_true rfl⟩) pCl10 hk4 rfl rfl (Nat.le_of_ble_eq_true rfl) dX12_report_14 ⟨Nat.le_of_ble_eq_true rfl, Nat.le_of_ble_eq_true rfl⟩) rfl rfl (fun r5 S6 h => ?_)
  refine pw_if_ne (pc := 17) (tgt := 22) C dX12_report_17 rfl ⟨fun hc => ?_, fun hc => ?_⟩
  · replace h := h.1 hc
    refine pw_iload_n (pc := 22) C 1 dX12_report_22 rfl rfl ?_
    by_cases hc0 : x1 = 0
    · replace h := h.1 hc0
      refine pw_tableIn (pc := 23) (tgt := 64) C dX12_report_23 (by rw [hc0]; decide) (by rw [hc0]; decide) (by rw [hc0]; rfl) rfl ?_
      refine pw_aload_n (pc := 64) C 0 dX12_report_64 rfl rfl ?_
      obtain ⟨hk7, h⟩ := h
      obtain ⟨o8, ho8, h⟩ := h
      refine pw_getR (pc := 65) (ref := "SupportSolverModel") (k := 1) (index := 7) C pCl10 iX12_report_X12 hk7 rfl (by decide +kernel) (Or.inl rfl) (o := o8) ho8 dX12_report_65 ?_
      refine pw_iconst (pc := 68) (v := 0 ) C dX12_report_68 (by decide) ?_
      obtain ⟨hk9, h⟩ := h
      obtain ⟨hi10, h⟩ := h
      refine pw_iald (pc := 69) C hk9 hi10 dX12_report_69 ?_
      exact pw_iret (pc := 70) C hr h dX12_report_70
    by_cases hc1 : x1 = 1
    · replace h := h.2.1 hc1
      refine pw_tableIn (pc := 23) (tgt := 71) C dX12_report_23 (by rw [hc1]; decide) (by rw [hc1]; decide) (by rw [hc1]; rfl) rfl ?_
      refine pw_aload_n (pc := 71) C 0 dX12_report_71 rfl rfl ?_
      obtain ⟨hk11, h⟩ := h
      obtain ⟨o12, ho12, h⟩ := h
      refine pw_getR (pc := 72) (ref := "SupportSolverModel") (k := 1) (index := 7) C pCl10 iX12_report_X12 hk11 rfl (by decide +kernel) (Or.inl rfl) (o := o12) ho12 dX12_report_72 ?_
      refine pw_iconst (pc := 75) (v := 1 ) C dX12_report_75 (by decide) ?_
      obtain ⟨hk13, h⟩ := h
      obtain ⟨hi14, h⟩ := h
      refine pw_iald (pc := 76) C hk13 hi14 dX12_report_76 ?_
      exact pw_iret (pc := 77) C hr h dX12_report_77
    by_cases hc2 : x1 = 2
    · replace h := h.2.2.1 hc2
      refine pw_tableIn (pc := 23) (tgt := 78) C dX12_report_23 (by rw [hc2]; decide) (by rw [hc2]; decide) (by rw [hc2]; rfl) rfl ?_
      refine pw_aload_n (pc := 78) C 0 dX12_report_78 rfl rfl ?_
      obtain ⟨hk15, h⟩ := h
      refine pw_getI (pc := 79) (ref := "SupportSolverModel") (k := 8) (index := 76) C pCl10 iX12_report_X12 hk15 rfl (by decide +kernel) (Or.inl rfl) dX12_report_79 ?_
      exact pw_iret (pc := 82) C hr h dX12_report_82
    by_cases hc3 : x1 = 3
    · replace h := h.2.2.2.1 hc3
      refine pw_tableIn (pc := 23) (tgt := 83) C dX12_report_23 (by rw [hc3]; decide) (by rw [hc3]; decide) (by rw [hc3]; rfl) rfl ?_
      refine pw_aload_n (pc := 83) C 0 dX12_report_83 rfl rfl ?_
      obtain ⟨hk16, h⟩ := h
      refine pw_getI (pc := 84) (ref := "SupportSolverModel") (k := 7) (index := 73) C pCl10 iX12_report_X12 hk16 rfl (by decide +kernel) (Or.inl rfl) dX12_report_84 ?_
      exact pw_iret (pc := 87) C hr h dX12_report_87
    by_cases hc4 : x1 = 4
    · replace h := h.2.2.2.2.1 hc4
      refine pw_tableIn (pc := 23) (tgt := 88) C dX12_report_23 (by rw [hc4]; decide) (by rw [hc4]; decide) (by rw [hc4]; rfl) rfl ?_
      refine pw_aload_n (pc := 88) C 0 dX12_report_88 rfl rfl ?_
      obtain ⟨hk17, h⟩ := h
      refine pw_getI (pc := 89) (ref := "SupportSolverModel") (k := 9) (index := 79) C pCl10 iX12_report_X12 hk17 rfl (by decide +kernel) (Or.inl rfl) dX12_report_89 ?_
      exact pw_iret (pc := 92) C hr h dX12_report_92
    by_cases hc5 : x1 = 5
    · replace h := h.2.2.2.2.2.1 hc5
      refine pw_tableIn (pc := 23) (tgt := 93) C dX12_report_23 (by rw [hc5]; decide) (by rw [hc5]; decide) (by rw [hc5]; rfl) rfl ?_
      refine pw_aload_n (pc := 93) C 0 dX12_report_93 rfl rfl ?_
      obtain ⟨hk18, h⟩ := h
      refine pw_getI (pc := 94) (ref := "SupportSolverModel") (k := 11) (index := 85) C pCl10 iX12_report_X12 hk18 rfl (by decide +kernel) (Or.inl rfl) dX12_report_94 ?_
      refine pw_if_eq (pc := 97) (tgt := 104) C dX12_report_97 rfl ⟨fun hc => ?_, fun hc => ?_⟩
      · replace h := h.1 hc
        refine pw_iconst (pc := 104) (v := 0 ) C dX12_report_104 (by decide) ?_
        exact pw_iret (pc := 105) C hr h dX12_report_105
      · replace h := h.2 hc
        refine pw_iconst (pc := 100) (v := 1 ) C dX12_report_100 (by decide) ?_
        refine pw_goto (pc := 101) (tgt := 105) C dX12_report_101 rfl ?_
        exact pw_iret (pc := 105) C hr h dX12_report_105
    by_cases hc6 : x1 = 6
    · replace h := h.2.2.2.2.2.2.1 hc6
      refine pw_tableIn (pc := 23) (tgt := 106) C dX12_report_23 (by rw [hc6]; decide) (by rw [hc6]; decide) (by rw [hc6]; rfl) rfl ?_
      refine pw_aload_n (pc := 106) C 0 dX12_report_106 rfl rfl ?_
      obtain ⟨hk19, h⟩ := h
      refine pw_calli (pc := 107) (kc2 := 0) (kn2 := 0) (pRunV (pc := 107) C (ctX12_fixed l G  _ x0 _ h) (cwV 0 C.2.2.2.2.1 gX12_report_X12_fixed rfl rfl rfl (by decide +kernel) ⟨Nat.le_of_ble_eq_true rfl, Nat.le_of_ble_eq_true rfl⟩) pCl10 hk19 rfl rfl (Nat.le_of_ble_eq_true rfl) dX12_report_107 ⟨Nat.le_of_ble_eq_true rfl, Nat.le_of_ble_eq_true rfl⟩) rfl rfl (fun r20 S21 h => ?_)
      exact pw_iret (pc := 110) C hr h dX12_report_110
    replace h := h.2.2.2.2.2.2.2 ⟨hc0, hc1, hc2, hc3, hc4, hc5, hc6⟩
    refine pw_tableOut (pc := 23) (tgt := 111) C dX12_report_23 (sw_out (x1) 0 6 (fun (j : Int) h1 h2 => Or.elim (show j = 0 ∨ j = 1 ∨ j = 2 ∨ j = 3 ∨ j = 4 ∨ j = 5 ∨ j = 6 by omega) (fun q => by subst q; exact lv_neT hc0 (by decide)) (fun q => q.elim (fun q => by subst q; exact lv_neT hc1 (by decide)) (fun q => q.elim (fun q => by subst q; exact lv_neT hc2 (by decide)) (fun q => q.elim (fun q => by subst q; exact lv_neT hc3 (by decide)) (fun q => q.elim (fun q => by subst q; exact lv_neT hc4 (by decide)) (fun q => q.elim (fun q => by subst q; exact lv_neT hc5 (by decide)) (fun q => by subst q; exact lv_neT hc6 (by decide))))))))) rfl ?_
    refine pw_aload_n (pc := 111) C 0 dX12_report_111 rfl rfl ?_
    obtain ⟨hk22, h⟩ := h
    refine pw_getI (pc := 112) (ref := "SupportSolverModel") (k := 10) (index := 82) C pCl10 iX12_report_X12 hk22 rfl (by decide +kernel) (Or.inl rfl) dX12_report_112 ?_
    exact pw_iret (pc := 115) C hr h dX12_report_115
  · replace h := h.2 hc
    refine pw_iconst (pc := 20) (v := 0 ) C dX12_report_20 (by decide) ?_
    exact pw_iret (pc := 21) C hr h dX12_report_21

abbrev rmX12_domain : Room := { frames := 2, cells := 0, slots := 0, locals := 43 }
theorem iX12_domain_X12 : ∀ w ∈ u_ws RX12 TX12 32, w ∈ wsX12_domain := fun _ h => List.mem_cons_of_mem _ (List.mem_append_right _ h)
def wpX12_domain (S : PS) (x0 : Nat) (x1 : Int32) (Q : Int32 → PS → Prop) : Prop := (pK S x0 = 11 ∧ (wpX12_isVariable (sI S x0 0 (0 : Int32)) x0 x1 (fun r2 S3 => (pK S3 x0 = 11 ∧ (wpX12_may S3 x0 r2 (1 : Int32) (fun r5 S6 => ((r5 = 0 → (Q (0 : Int32) S6)) ∧ (¬ r5 = 0 → (pK S6 x0 = 11 ∧ (∃ o8, pR S6 x0 3 = some o8 ∧ (pK S6 o8 = 13 ∧ (vp_in x1 (pL S6 o8) ∧ (Q (pI S6 o8 (x1).toNatClampNeg) S6)))))))))))))
set_option maxRecDepth 100000 in
set_option maxHeartbeats 4000000 in
theorem ctX12_domain (l : Launch) (G : PG) (S : PS) (x0 : Nat) (x1 : Int32) (Q : Int32 → PS → Prop) (h : wpX12_domain S x0 x1 Q) : mI l yX12_domain wsX12_domain rmX12_domain G S [.ref (G.2.2 + x0), .int x1] Q := by
  unfold mI
  refine met_of (cc := cX12_domain) (maxL := 2) (ret := (some .int)) (by decide) rfl (Nat.le_of_ble_eq_true rfl) ?_
  intro p e s m args below meth c C hr hin
  unfold wpX12_domain at h
  show PW p l e _ s m args below meth c _ G 2 S 0 0 [(0, .ref (G.2.2 + x0)), (1, .int x1)] 0 []
  refine pw_aload_n (pc := 0) C 0 dX12_domain_0 rfl rfl ?_
  refine pw_iconst (pc := 1) (v := 0 ) C dX12_domain_1 (by decide) ?_
  obtain ⟨hk1, h⟩ := h
  refine pw_putI (pc := 2) (ref := "SupportSolverModel") (k := 0) (index := 70) C pCl10 iX12_domain_X12 hk1 rfl (by decide +kernel) (Or.inl rfl) (Or.inl rfl) rfl rfl dX12_domain_2 ?_
  refine pw_aload_n (pc := 5) (S := (sI S x0 0 (0 : Int32))) C 0 dX12_domain_5 rfl rfl ?_
  refine pw_aload_n (pc := 6) (S := (sI S x0 0 (0 : Int32))) C 0 dX12_domain_6 rfl rfl ?_
  refine pw_iload_n (pc := 7) (S := (sI S x0 0 (0 : Int32))) C 1 dX12_domain_7 rfl rfl ?_
  refine pw_calli (pc := 8) (S := (sI S x0 0 (0 : Int32))) (kc2 := 0) (kn2 := 0) (pRunV (pc := 8) (S := (sI S x0 0 (0 : Int32))) C (ctX12_isVariable l G  _ x0 x1 _ h) (cwV 1 C.2.2.2.2.1 gX12_domain_X12_isVariable rfl rfl rfl (by decide +kernel) ⟨Nat.le_of_ble_eq_true rfl, Nat.le_of_ble_eq_true rfl⟩) pCl10 hk1 rfl rfl (Nat.le_of_ble_eq_true rfl) dX12_domain_8 ⟨Nat.le_of_ble_eq_true rfl, Nat.le_of_ble_eq_true rfl⟩) rfl rfl (fun r2 S3 h => ?_)
  refine pw_iconst (pc := 11) (v := 1 ) C dX12_domain_11 (by decide) ?_
  obtain ⟨hk4, h⟩ := h
  refine pw_calli (pc := 12) (kc2 := 0) (kn2 := 0) (pRunV (pc := 12) C (ctX12_may l G  _ x0 r2 (1 : Int32) _ h) (cwV 2 C.2.2.2.2.1 gX12_domain_X12_may rfl rfl rfl (by decide +kernel) ⟨Nat.le_of_ble_eq_true rfl, Nat.le_of_ble_eq_true rfl⟩) pCl10 hk4 rfl rfl (Nat.le_of_ble_eq_true rfl) dX12_domain_12 ⟨Nat.le_of_ble_eq_true rfl, Nat.le_of_ble_eq_true rfl⟩) rfl rfl (fun r5 S6 h => ?_)
  refine pw_if_eq (pc := 15) (tgt := 27) C dX12_domain_15 rfl ⟨fun hc => ?_, fun hc => ?_⟩
  · replace h := h.1 hc
    refine pw_iconst (pc := 27) (v := 0 ) C dX12_domain_27 (by decide) ?_
    exact pw_iret (pc := 28) C hr h dX12_domain_28
  · replace h := h.2 hc
    refine pw_aload_n (pc := 18) C 0 dX12_domain_18 rfl rfl ?_
    obtain ⟨hk7, h⟩ := h
    obtain ⟨o8, ho8, h⟩ := h
    refine pw_getR (pc := 19) (ref := "SupportSolverModel") (k := 3) (index := 16) C pCl10 iX12_domain_X12 hk7 rfl (by decide +kernel) (Or.inl rfl) (o := o8) ho8 dX12_domain_19 ?_
    refine pw_iload_n (pc := 22) C 1 dX12_domain_22 rfl rfl ?_
    obtain ⟨hk9, h⟩ := h
    obtain ⟨hi10, h⟩ := h
    refine pw_iald (pc := 23) C hk9 hi10 dX12_domain_23 ?_
    refine pw_goto (pc := 24) (tgt := 28) C dX12_domain_24 rfl ?_
    exact pw_iret (pc := 28) C hr h dX12_domain_28

abbrev rmX12_setOf : Room := { frames := 1, cells := 0, slots := 0, locals := 22 }
def wpX12_setOf_b4  (Q : Int32 → PS → Prop) : Nat → PS → Nat → Int32 → Int32 → Int32 → Prop
  | 0 => fun _ _ _ _ _ => False
  | n + 1 => fun S x0 x1 x2 x3 => (pK S x0 = 11 ∧ (wpX12_of S x0 x1 (1 : Int32) (fun r2 S3 => ((r2 ≤ x3 → (Q x2 S3)) ∧ (¬ r2 ≤ x3 → (pK S3 x0 = 11 ∧ (wpX12_of S3 x0 x1 ((2 : Int32) + x3) (fun r5 S6 => (wpX12_setOf_b4 Q n S6 x0 x1 (x2 ||| ((1 : Int32) <<< (r5 &&& 31))) (x3 + 1))))))))))
def wpX12_setOf (S : PS) (x0 : Nat) (x1 : Int32) (Q : Int32 → PS → Prop) : Prop := (∃ n9 : Nat, wpX12_setOf_b4 Q n9 S x0 x1 (0 : Int32) (0 : Int32))
set_option maxRecDepth 100000 in
set_option maxHeartbeats 4000000 in
theorem cbX12_setOf_b4 {p : Program} {l : Launch} {e : Env} {s : State} {m : MethodId} {args : Array Value} {below : List Frame} {meth : Method} {c : Code} {G : PG} {Q : Int32 → PS → Prop} (C : pCx p s m args meth c G cX12_setOf 4 yX12_setOf.cls wsX12_setOf) (hr : meth.sig.returnType = (some .int)) (hin : meth.name = yX12_setOf.name)  (n : Nat) : ∀ (S : PS) (x0 : Nat) (x1 : Int32) (x2 : Int32) (x3 : Int32), wpX12_setOf_b4  Q n S x0 x1 x2 x3 → PW p l e rmX12_setOf s m args below meth c (MQ below (va_Qi Q (pB G) (pFr G)) args s rmX12_setOf.cells rmX12_setOf.slots (pFr G)) G 4 S 0 0 [(0, .ref (G.2.2 + x0)), (1, .int x1), (2, .int x2), (3, .int x3)] 4 ([]) := by
  induction n with
  | zero => intro S x0 x1 x2 x3 h; exact h.elim
  | succ n ih =>
    intro S x0 x1 x2 x3 h
    unfold wpX12_setOf_b4 at h
    refine pw_iload_n (pc := 4) C 3 dX12_setOf_4 rfl rfl ?_
    refine pw_aload_n (pc := 5) C 0 dX12_setOf_5 rfl rfl ?_
    refine pw_iload_n (pc := 6) C 1 dX12_setOf_6 rfl rfl ?_
    refine pw_iconst (pc := 7) (v := 1 ) C dX12_setOf_7 (by decide) ?_
    obtain ⟨hk1, h⟩ := h
    refine pw_calli (pc := 8) (kc2 := 0) (kn2 := 0) (pRunV (pc := 8) C (ctX12_of l G  _ x0 x1 (1 : Int32) _ h) (cwV 2 C.2.2.2.2.1 gX12_setOf_X12_of rfl rfl rfl (by decide +kernel) ⟨Nat.le_of_ble_eq_true rfl, Nat.le_of_ble_eq_true rfl⟩) pCl10 hk1 rfl rfl (Nat.le_of_ble_eq_true rfl) dX12_setOf_8 ⟨Nat.le_of_ble_eq_true rfl, Nat.le_of_ble_eq_true rfl⟩) rfl rfl (fun r2 S3 h => ?_)
    refine pw_icmp_ge (pc := 11) (tgt := 33) C dX12_setOf_11 rfl ⟨fun hc => ?_, fun hc => ?_⟩
    · replace h := h.1 hc
      refine pw_iload_n (pc := 33) C 2 dX12_setOf_33 rfl rfl ?_
      exact pw_iret (pc := 34) C hr h dX12_setOf_34
    · replace h := h.2 hc
      refine pw_iload_n (pc := 14) C 2 dX12_setOf_14 rfl rfl ?_
      refine pw_iconst (pc := 15) (v := 1 ) C dX12_setOf_15 (by decide) ?_
      refine pw_aload_n (pc := 16) C 0 dX12_setOf_16 rfl rfl ?_
      refine pw_iload_n (pc := 17) C 1 dX12_setOf_17 rfl rfl ?_
      refine pw_iconst (pc := 18) (v := 2 ) C dX12_setOf_18 (by decide) ?_
      refine pw_iload_n (pc := 19) C 3 dX12_setOf_19 rfl rfl ?_
      refine pw_iadd (pc := 20) C dX12_setOf_20 ?_
      obtain ⟨hk4, h⟩ := h
      refine pw_calli (pc := 21) (kc2 := 0) (kn2 := 0) (pRunV (pc := 21) C (ctX12_of l G  _ x0 x1 ((2 : Int32) + x3) _ h) (cwV 2 C.2.2.2.2.1 gX12_setOf_X12_of rfl rfl rfl (by decide +kernel) ⟨Nat.le_of_ble_eq_true rfl, Nat.le_of_ble_eq_true rfl⟩) pCl10 hk4 rfl rfl (Nat.le_of_ble_eq_true rfl) dX12_setOf_21 ⟨Nat.le_of_ble_eq_true rfl, Nat.le_of_ble_eq_true rfl⟩) rfl rfl (fun r5 S6 h => ?_)
      refine pw_ishl (pc := 24) C dX12_setOf_24 ?_
      refine pw_ior (pc := 25) C dX12_setOf_25 ?_
      refine pw_istore_n (pc := 26) C [(2, .int (x2 ||| ((1 : Int32) <<< (r5 &&& 31)))), (0, .ref (G.2.2 + x0)), (1, .int x1), (3, .int x3)] dX12_setOf_26 rfl (by decide) rfl ?_
      refine pw_iincK (pc := 27) (w := 1) C [(3, .int (x3 + 1)), (2, .int (x2 ||| ((1 : Int32) <<< (r5 &&& 31)))), (0, .ref (G.2.2 + x0)), (1, .int x1)] 3 dX12_setOf_27 (by decide) rfl (by decide) rfl ?_
      refine pw_goto (pc := 30) (tgt := 4) C dX12_setOf_30 rfl ?_
      refine pw_sub [2, 3, 1, 0] (LV2 := [(0, .ref (G.2.2 + x0)), (1, .int x1), (2, .int (x2 ||| ((1 : Int32) <<< (r5 &&& 31)))), (3, .int (x3 + 1))]) rfl ?_
      exact ih _ _ _ _ _ h
set_option maxRecDepth 100000 in
set_option maxHeartbeats 4000000 in
theorem ctX12_setOf (l : Launch) (G : PG) (S : PS) (x0 : Nat) (x1 : Int32) (Q : Int32 → PS → Prop) (h : wpX12_setOf S x0 x1 Q) : mI l yX12_setOf wsX12_setOf rmX12_setOf G S [.ref (G.2.2 + x0), .int x1] Q := by
  unfold mI
  refine met_of (cc := cX12_setOf) (maxL := 4) (ret := (some .int)) (by decide) rfl (Nat.le_of_ble_eq_true rfl) ?_
  intro p e s m args below meth c C hr hin
  unfold wpX12_setOf at h
  show PW p l e _ s m args below meth c _ G 4 S 0 0 [(0, .ref (G.2.2 + x0)), (1, .int x1)] 0 []
  refine pw_iconst (pc := 0) (v := 0 ) C dX12_setOf_0 (by decide) ?_
  refine pw_istore_n (pc := 1) C [(2, .int (0 : Int32)), (0, .ref (G.2.2 + x0)), (1, .int x1)] dX12_setOf_1 rfl (by decide) rfl ?_
  refine pw_iconst (pc := 2) (v := 0 ) C dX12_setOf_2 (by decide) ?_
  refine pw_istore_n (pc := 3) C [(3, .int (0 : Int32)), (2, .int (0 : Int32)), (0, .ref (G.2.2 + x0)), (1, .int x1)] dX12_setOf_3 rfl (by decide) rfl ?_
  refine pw_sub [2, 3, 1, 0] (LV2 := [(0, .ref (G.2.2 + x0)), (1, .int x1), (2, .int (0 : Int32)), (3, .int (0 : Int32))]) rfl ?_
  obtain ⟨n9, h⟩ := h
  exact cbX12_setOf_b4 C hr hin  n9 _ _ _ _ _ h

abbrev rmX12_factsBy : Room := { frames := 0, cells := 0, slots := 0, locals := 0 }
theorem iX12_factsBy_X12 : ∀ w ∈ u_ws RX12 TX12 32, w ∈ wsX12_factsBy := fun _ h => List.mem_cons_of_mem _ (List.mem_append_right _ h)
def wpX12_factsBy_b4  (Q : Int32 → PS → Prop) : Nat → PS → Nat → Int32 → Int32 → Int32 → Prop
  | 0 => fun _ _ _ _ _ => False
  | n + 1 => fun S x0 x1 x2 x3 => (pK S x0 = 11 ∧ (((pI S x0 7) ≤ x3 → (Q x2 S)) ∧ (¬ (pI S x0 7) ≤ x3 → (∃ o2, pR S x0 4 = some o2 ∧ (pK S o2 = 13 ∧ (vp_in (((5 : Int32) * x3) + (2 : Int32)) (pL S o2) ∧ ((¬ (pI S o2 ((((5 : Int32) * x3) + (2 : Int32))).toNatClampNeg) = x1 → (wpX12_factsBy_b4 Q n S x0 x1 (x2 + (0 : Int32)) (x3 + 1))) ∧ ((pI S o2 ((((5 : Int32) * x3) + (2 : Int32))).toNatClampNeg) = x1 → (wpX12_factsBy_b4 Q n S x0 x1 (x2 + (1 : Int32)) (x3 + 1))))))))))
def wpX12_factsBy (S : PS) (x0 : Nat) (x1 : Int32) (Q : Int32 → PS → Prop) : Prop := (∃ n9 : Nat, wpX12_factsBy_b4 Q n9 S x0 x1 (0 : Int32) (0 : Int32))
set_option maxRecDepth 100000 in
set_option maxHeartbeats 4000000 in
theorem cbX12_factsBy_b4 {p : Program} {l : Launch} {e : Env} {s : State} {m : MethodId} {args : Array Value} {below : List Frame} {meth : Method} {c : Code} {G : PG} {Q : Int32 → PS → Prop} (C : pCx p s m args meth c G cX12_factsBy 4 yX12_factsBy.cls wsX12_factsBy) (hr : meth.sig.returnType = (some .int)) (hin : meth.name = yX12_factsBy.name)  (n : Nat) : ∀ (S : PS) (x0 : Nat) (x1 : Int32) (x2 : Int32) (x3 : Int32), wpX12_factsBy_b4  Q n S x0 x1 x2 x3 → PW p l e rmX12_factsBy s m args below meth c (MQ below (va_Qi Q (pB G) (pFr G)) args s rmX12_factsBy.cells rmX12_factsBy.slots (pFr G)) G 4 S 0 0 [(0, .ref (G.2.2 + x0)), (1, .int x1), (2, .int x2), (3, .int x3)] 4 ([]) := by
  induction n with
  | zero => intro S x0 x1 x2 x3 h; exact h.elim
  | succ n ih =>
    intro S x0 x1 x2 x3 h
    unfold wpX12_factsBy_b4 at h
    refine pw_iload_n (pc := 4) C 3 dX12_factsBy_4 rfl rfl ?_
    refine pw_aload_n (pc := 5) C 0 dX12_factsBy_5 rfl rfl ?_
    obtain ⟨hk1, h⟩ := h
    refine pw_getI (pc := 6) (ref := "SupportSolverModel") (k := 7) (index := 73) C pCl10 iX12_factsBy_X12 hk1 rfl (by decide +kernel) (Or.inl rfl) dX12_factsBy_6 ?_
    refine pw_icmp_ge (pc := 9) (tgt := 40) C dX12_factsBy_9 rfl ⟨fun hc => ?_, fun hc => ?_⟩
    · replace h := h.1 hc
      refine pw_iload_n (pc := 40) C 2 dX12_factsBy_40 rfl rfl ?_
      exact pw_iret (pc := 41) C hr h dX12_factsBy_41
    · replace h := h.2 hc
      refine pw_iload_n (pc := 12) C 2 dX12_factsBy_12 rfl rfl ?_
      refine pw_aload_n (pc := 13) C 0 dX12_factsBy_13 rfl rfl ?_
      obtain ⟨o2, ho2, h⟩ := h
      refine pw_getR (pc := 14) (ref := "SupportSolverModel") (k := 4) (index := 19) C pCl10 iX12_factsBy_X12 hk1 rfl (by decide +kernel) (Or.inl rfl) (o := o2) ho2 dX12_factsBy_14 ?_
      refine pw_iconst (pc := 17) (v := 5 ) C dX12_factsBy_17 (by decide) ?_
      refine pw_iload_n (pc := 18) C 3 dX12_factsBy_18 rfl rfl ?_
      refine pw_imul (pc := 19) C dX12_factsBy_19 ?_
      refine pw_iconst (pc := 20) (v := 2 ) C dX12_factsBy_20 (by decide) ?_
      refine pw_iadd (pc := 21) C dX12_factsBy_21 ?_
      obtain ⟨hk3, h⟩ := h
      obtain ⟨hi4, h⟩ := h
      refine pw_iald (pc := 22) C hk3 hi4 dX12_factsBy_22 ?_
      refine pw_iload_n (pc := 23) C 1 dX12_factsBy_23 rfl rfl ?_
      refine pw_icmp_ne (pc := 24) (tgt := 31) C dX12_factsBy_24 rfl ⟨fun hc => ?_, fun hc => ?_⟩
      · replace h := h.1 hc
        refine pw_iconst (pc := 31) (v := 0 ) C dX12_factsBy_31 (by decide) ?_
        refine pw_iadd (pc := 32) C dX12_factsBy_32 ?_
        refine pw_istore_n (pc := 33) C [(2, .int (x2 + (0 : Int32))), (0, .ref (G.2.2 + x0)), (1, .int x1), (3, .int x3)] dX12_factsBy_33 rfl (by decide) rfl ?_
        refine pw_iincK (pc := 34) (w := 1) C [(3, .int (x3 + 1)), (2, .int (x2 + (0 : Int32))), (0, .ref (G.2.2 + x0)), (1, .int x1)] 3 dX12_factsBy_34 (by decide) rfl (by decide) rfl ?_
        refine pw_goto (pc := 37) (tgt := 4) C dX12_factsBy_37 rfl ?_
        refine pw_sub [2, 3, 1, 0] (LV2 := [(0, .ref (G.2.2 + x0)), (1, .int x1), (2, .int (x2 + (0 : Int32))), (3, .int (x3 + 1))]) rfl ?_
        exact ih _ _ _ _ _ h
      · replace h := h.2 hc
        refine pw_iconst (pc := 27) (v := 1 ) C dX12_factsBy_27 (by decide) ?_
        refine pw_goto (pc := 28) (tgt := 32) C dX12_factsBy_28 rfl ?_
        refine pw_iadd (pc := 32) C dX12_factsBy_32 ?_
        refine pw_istore_n (pc := 33) C [(2, .int (x2 + (1 : Int32))), (0, .ref (G.2.2 + x0)), (1, .int x1), (3, .int x3)] dX12_factsBy_33 rfl (by decide) rfl ?_
        refine pw_iincK (pc := 34) (w := 1) C [(3, .int (x3 + 1)), (2, .int (x2 + (1 : Int32))), (0, .ref (G.2.2 + x0)), (1, .int x1)] 3 dX12_factsBy_34 (by decide) rfl (by decide) rfl ?_
        refine pw_goto (pc := 37) (tgt := 4) C dX12_factsBy_37 rfl ?_
        refine pw_sub [2, 3, 1, 0] (LV2 := [(0, .ref (G.2.2 + x0)), (1, .int x1), (2, .int (x2 + (1 : Int32))), (3, .int (x3 + 1))]) rfl ?_
        exact ih _ _ _ _ _ h
set_option maxRecDepth 100000 in
set_option maxHeartbeats 4000000 in
theorem ctX12_factsBy (l : Launch) (G : PG) (S : PS) (x0 : Nat) (x1 : Int32) (Q : Int32 → PS → Prop) (h : wpX12_factsBy S x0 x1 Q) : mI l yX12_factsBy wsX12_factsBy rmX12_factsBy G S [.ref (G.2.2 + x0), .int x1] Q := by
  unfold mI
  refine met_of (cc := cX12_factsBy) (maxL := 4) (ret := (some .int)) (by decide) rfl (Nat.le_of_ble_eq_true rfl) ?_
  intro p e s m args below meth c C hr hin
  unfold wpX12_factsBy at h
  show PW p l e _ s m args below meth c _ G 4 S 0 0 [(0, .ref (G.2.2 + x0)), (1, .int x1)] 0 []
  refine pw_iconst (pc := 0) (v := 0 ) C dX12_factsBy_0 (by decide) ?_
  refine pw_istore_n (pc := 1) C [(2, .int (0 : Int32)), (0, .ref (G.2.2 + x0)), (1, .int x1)] dX12_factsBy_1 rfl (by decide) rfl ?_
  refine pw_iconst (pc := 2) (v := 0 ) C dX12_factsBy_2 (by decide) ?_
  refine pw_istore_n (pc := 3) C [(3, .int (0 : Int32)), (2, .int (0 : Int32)), (0, .ref (G.2.2 + x0)), (1, .int x1)] dX12_factsBy_3 rfl (by decide) rfl ?_
  refine pw_sub [2, 3, 1, 0] (LV2 := [(0, .ref (G.2.2 + x0)), (1, .int x1), (2, .int (0 : Int32)), (3, .int (0 : Int32))]) rfl ?_
  obtain ⟨n9, h⟩ := h
  exact cbX12_factsBy_b4 C hr hin  n9 _ _ _ _ _ h

abbrev rmX12_constraint_ : Room := { frames := 2, cells := 0, slots := 0, locals := 45 }
theorem iX12_constraint__X12 : ∀ w ∈ u_ws RX12 TX12 32, w ∈ wsX12_constraint_ := fun _ h => List.mem_cons_of_mem _ (List.mem_append_right _ h)
def wpX12_constraint_ (S : PS) (x0 : Nat) (x1 : Int32) (x2 : Int32) (Q : Int32 → PS → Prop) : Prop := (pK S x0 = 11 ∧ (wpX12_isConstraint (sI S x0 0 (0 : Int32)) x0 x1 (fun r2 S3 => (pK S3 x0 = 11 ∧ (wpX12_may S3 x0 r2 (1 : Int32) (fun r5 S6 => ((r5 = 0 → (Q (0 : Int32) S6)) ∧ (¬ r5 = 0 → (wpX12_isIn S6 x2 (0 : Int32) (3 : Int32) (fun r7 S8 => (pK S8 x0 = 11 ∧ (wpX12_may S8 x0 r7 (2 : Int32) (fun r10 S11 => ((¬ r10 = 0 → (((2 : Int32) ≤ x2 → ((¬ x2 = (2 : Int32) → (pK S11 x0 = 11 ∧ (wpX12_factsBy S11 x0 x1 (fun r13 S14 => (Q r13 S14))))) ∧ (x2 = (2 : Int32) → (pK S11 x0 = 11 ∧ (wpX12_setOf S11 x0 x1 (fun r16 S17 => (Q r16 S17))))))) ∧ (¬ (2 : Int32) ≤ x2 → (pK S11 x0 = 11 ∧ (wpX12_of S11 x0 x1 x2 (fun r19 S20 => (Q r19 S20))))))) ∧ (r10 = 0 → (Q (0 : Int32) S11))))))))))))))))
set_option maxRecDepth 100000 in
set_option maxHeartbeats 4000000 in
theorem ctX12_constraint_ (l : Launch) (G : PG) (S : PS) (x0 : Nat) (x1 : Int32) (x2 : Int32) (Q : Int32 → PS → Prop) (h : wpX12_constraint_ S x0 x1 x2 Q) : mI l yX12_constraint_ wsX12_constraint_ rmX12_constraint_ G S [.ref (G.2.2 + x0), .int x1, .int x2] Q := by
  unfold mI
  refine met_of (cc := cX12_constraint_) (maxL := 3) (ret := (some .int)) (by decide) rfl (Nat.le_of_ble_eq_true rfl) ?_
  intro p e s m args below meth c C hr hin
  unfold wpX12_constraint_ at h
  show PW p l e _ s m args below meth c _ G 3 S 0 0 [(0, .ref (G.2.2 + x0)), (1, .int x1), (2, .int x2)] 0 []
  refine pw_aload_n (pc := 0) C 0 dX12_constraint__0 rfl rfl ?_
  refine pw_iconst (pc := 1) (v := 0 ) C dX12_constraint__1 (by decide) ?_
  obtain ⟨hk1, h⟩ := h
  refine pw_putI (pc := 2) (ref := "SupportSolverModel") (k := 0) (index := 70) C pCl10 iX12_constraint__X12 hk1 rfl (by decide +kernel) (Or.inl rfl) (Or.inl rfl) rfl rfl dX12_constraint__2 ?_
  refine pw_aload_n (pc := 5) (S := (sI S x0 0 (0 : Int32))) C 0 dX12_constraint__5 rfl rfl ?_
  refine pw_aload_n (pc := 6) (S := (sI S x0 0 (0 : Int32))) C 0 dX12_constraint__6 rfl rfl ?_
  refine pw_iload_n (pc := 7) (S := (sI S x0 0 (0 : Int32))) C 1 dX12_constraint__7 rfl rfl ?_
  refine pw_calli (pc := 8) (S := (sI S x0 0 (0 : Int32))) (kc2 := 0) (kn2 := 0) (pRunV (pc := 8) (S := (sI S x0 0 (0 : Int32))) C (ctX12_isConstraint l G  _ x0 x1 _ h) (cwV 1 C.2.2.2.2.1 gX12_constraint__X12_isConstraint rfl rfl rfl (by decide +kernel) ⟨Nat.le_of_ble_eq_true rfl, Nat.le_of_ble_eq_true rfl⟩) pCl10 hk1 rfl rfl (Nat.le_of_ble_eq_true rfl) dX12_constraint__8 ⟨Nat.le_of_ble_eq_true rfl, Nat.le_of_ble_eq_true rfl⟩) rfl rfl (fun r2 S3 h => ?_)
  refine pw_iconst (pc := 11) (v := 1 ) C dX12_constraint__11 (by decide) ?_
  obtain ⟨hk4, h⟩ := h
  refine pw_calli (pc := 12) (kc2 := 0) (kn2 := 0) (pRunV (pc := 12) C (ctX12_may l G  _ x0 r2 (1 : Int32) _ h) (cwV 2 C.2.2.2.2.1 gX12_constraint__X12_may rfl rfl rfl (by decide +kernel) ⟨Nat.le_of_ble_eq_true rfl, Nat.le_of_ble_eq_true rfl⟩) pCl10 hk4 rfl rfl (Nat.le_of_ble_eq_true rfl) dX12_constraint__12 ⟨Nat.le_of_ble_eq_true rfl, Nat.le_of_ble_eq_true rfl⟩) rfl rfl (fun r5 S6 h => ?_)
  refine pw_if_eq (pc := 15) (tgt := 32) C dX12_constraint__15 rfl ⟨fun hc => ?_, fun hc => ?_⟩
  · replace h := h.1 hc
    refine pw_iconst (pc := 32) (v := 0 ) C dX12_constraint__32 (by decide) ?_
    exact pw_iret (pc := 33) C hr h dX12_constraint__33
  · replace h := h.2 hc
    refine pw_aload_n (pc := 18) C 0 dX12_constraint__18 rfl rfl ?_
    refine pw_iload_n (pc := 19) C 2 dX12_constraint__19 rfl rfl ?_
    refine pw_iconst (pc := 20) (v := 0 ) C dX12_constraint__20 (by decide) ?_
    refine pw_iconst (pc := 21) (v := 3 ) C dX12_constraint__21 (by decide) ?_
    refine pw_calli (pc := 22) (kc2 := 0) (kn2 := 0) (pRunS (pc := 22) C (ctX12_isIn l G  _ x2 (0 : Int32) (3 : Int32) _ h) (va_cwS 3 C.2.2.2.2.1 gX12_constraint__X12_isIn rfl rfl rfl (by decide +kernel) ⟨Nat.le_of_ble_eq_true rfl, Nat.le_of_ble_eq_true rfl⟩) rfl rfl (Nat.le_of_ble_eq_true rfl) dX12_constraint__22 ⟨Nat.le_of_ble_eq_true rfl, Nat.le_of_ble_eq_true rfl⟩) rfl rfl (fun r7 S8 h => ?_)
    refine pw_iconst (pc := 25) (v := 2 ) C dX12_constraint__25 (by decide) ?_
    obtain ⟨hk9, h⟩ := h
    refine pw_calli (pc := 26) (kc2 := 0) (kn2 := 0) (pRunV (pc := 26) C (ctX12_may l G  _ x0 r7 (2 : Int32) _ h) (cwV 2 C.2.2.2.2.1 gX12_constraint__X12_may rfl rfl rfl (by decide +kernel) ⟨Nat.le_of_ble_eq_true rfl, Nat.le_of_ble_eq_true rfl⟩) pCl10 hk9 rfl rfl (Nat.le_of_ble_eq_true rfl) dX12_constraint__26 ⟨Nat.le_of_ble_eq_true rfl, Nat.le_of_ble_eq_true rfl⟩) rfl rfl (fun r10 S11 h => ?_)
    refine pw_if_ne (pc := 29) (tgt := 34) C dX12_constraint__29 rfl ⟨fun hc => ?_, fun hc => ?_⟩
    · replace h := h.1 hc
      refine pw_iload_n (pc := 34) C 2 dX12_constraint__34 rfl rfl ?_
      refine pw_iconst (pc := 35) (v := 2 ) C dX12_constraint__35 (by decide) ?_
      refine pw_icmp_ge (pc := 36) (tgt := 48) C dX12_constraint__36 rfl ⟨fun hc => ?_, fun hc => ?_⟩
      · replace h := h.1 hc
        refine pw_iload_n (pc := 48) C 2 dX12_constraint__48 rfl rfl ?_
        refine pw_iconst (pc := 49) (v := 2 ) C dX12_constraint__49 (by decide) ?_
        refine pw_icmp_ne (pc := 50) (tgt := 61) C dX12_constraint__50 rfl ⟨fun hc => ?_, fun hc => ?_⟩
        · replace h := h.1 hc
          refine pw_aload_n (pc := 61) C 0 dX12_constraint__61 rfl rfl ?_
          refine pw_iload_n (pc := 62) C 1 dX12_constraint__62 rfl rfl ?_
          obtain ⟨hk12, h⟩ := h
          refine pw_calli (pc := 63) (kc2 := 0) (kn2 := 0) (pRunV (pc := 63) C (ctX12_factsBy l G  _ x0 x1 _ h) (cwV 1 C.2.2.2.2.1 gX12_constraint__X12_factsBy rfl rfl rfl (by decide +kernel) ⟨Nat.le_of_ble_eq_true rfl, Nat.le_of_ble_eq_true rfl⟩) pCl10 hk12 rfl rfl (Nat.le_of_ble_eq_true rfl) dX12_constraint__63 ⟨Nat.le_of_ble_eq_true rfl, Nat.le_of_ble_eq_true rfl⟩) rfl rfl (fun r13 S14 h => ?_)
          exact pw_iret (pc := 66) C hr h dX12_constraint__66
        · replace h := h.2 hc
          refine pw_aload_n (pc := 53) C 0 dX12_constraint__53 rfl rfl ?_
          refine pw_iload_n (pc := 54) C 1 dX12_constraint__54 rfl rfl ?_
          obtain ⟨hk15, h⟩ := h
          refine pw_calli (pc := 55) (kc2 := 0) (kn2 := 0) (pRunV (pc := 55) C (ctX12_setOf l G  _ x0 x1 _ h) (cwV 1 C.2.2.2.2.1 gX12_constraint__X12_setOf rfl rfl rfl (by decide +kernel) ⟨Nat.le_of_ble_eq_true rfl, Nat.le_of_ble_eq_true rfl⟩) pCl10 hk15 rfl rfl (Nat.le_of_ble_eq_true rfl) dX12_constraint__55 ⟨Nat.le_of_ble_eq_true rfl, Nat.le_of_ble_eq_true rfl⟩) rfl rfl (fun r16 S17 h => ?_)
          refine pw_goto (pc := 58) (tgt := 66) C dX12_constraint__58 rfl ?_
          exact pw_iret (pc := 66) C hr h dX12_constraint__66
      · replace h := h.2 hc
        refine pw_aload_n (pc := 39) C 0 dX12_constraint__39 rfl rfl ?_
        refine pw_iload_n (pc := 40) C 1 dX12_constraint__40 rfl rfl ?_
        refine pw_iload_n (pc := 41) C 2 dX12_constraint__41 rfl rfl ?_
        obtain ⟨hk18, h⟩ := h
        refine pw_calli (pc := 42) (kc2 := 0) (kn2 := 0) (pRunV (pc := 42) C (ctX12_of l G  _ x0 x1 x2 _ h) (cwV 2 C.2.2.2.2.1 gX12_constraint__X12_of rfl rfl rfl (by decide +kernel) ⟨Nat.le_of_ble_eq_true rfl, Nat.le_of_ble_eq_true rfl⟩) pCl10 hk18 rfl rfl (Nat.le_of_ble_eq_true rfl) dX12_constraint__42 ⟨Nat.le_of_ble_eq_true rfl, Nat.le_of_ble_eq_true rfl⟩) rfl rfl (fun r19 S20 h => ?_)
        refine pw_goto (pc := 45) (tgt := 66) C dX12_constraint__45 rfl ?_
        exact pw_iret (pc := 66) C hr h dX12_constraint__66
    · replace h := h.2 hc
      refine pw_iconst (pc := 32) (v := 0 ) C dX12_constraint__32 (by decide) ?_
      exact pw_iret (pc := 33) C hr h dX12_constraint__33

abbrev rmX12_fact : Room := { frames := 2, cells := 0, slots := 0, locals := 43 }
theorem iX12_fact_X12 : ∀ w ∈ u_ws RX12 TX12 32, w ∈ wsX12_fact := fun _ h => List.mem_cons_of_mem _ (List.mem_append_right _ h)
def wpX12_fact (S : PS) (x0 : Nat) (x1 : Int32) (x2 : Int32) (Q : Int32 → PS → Prop) : Prop := (pK S x0 = 11 ∧ (wpX12_isFact (sI S x0 0 (0 : Int32)) x0 x1 (fun r2 S3 => (pK S3 x0 = 11 ∧ (wpX12_may S3 x0 r2 (1 : Int32) (fun r5 S6 => ((r5 = 0 → (Q (0 : Int32) S6)) ∧ (¬ r5 = 0 → (wpX12_isIn S6 x2 (0 : Int32) (3 : Int32) (fun r7 S8 => (pK S8 x0 = 11 ∧ (wpX12_may S8 x0 r7 (2 : Int32) (fun r10 S11 => ((r10 = 0 → (Q (0 : Int32) S11)) ∧ (¬ r10 = 0 → (pK S11 x0 = 11 ∧ (∃ o13, pR S11 x0 4 = some o13 ∧ (pK S11 o13 = 13 ∧ (vp_in (((5 : Int32) * x1) + x2) (pL S11 o13) ∧ (Q (pI S11 o13 ((((5 : Int32) * x1) + x2)).toNatClampNeg) S11))))))))))))))))))))
set_option maxRecDepth 100000 in
set_option maxHeartbeats 4000000 in
theorem ctX12_fact (l : Launch) (G : PG) (S : PS) (x0 : Nat) (x1 : Int32) (x2 : Int32) (Q : Int32 → PS → Prop) (h : wpX12_fact S x0 x1 x2 Q) : mI l yX12_fact wsX12_fact rmX12_fact G S [.ref (G.2.2 + x0), .int x1, .int x2] Q := by
  unfold mI
  refine met_of (cc := cX12_fact) (maxL := 3) (ret := (some .int)) (by decide) rfl (Nat.le_of_ble_eq_true rfl) ?_
  intro p e s m args below meth c C hr hin
  unfold wpX12_fact at h
  show PW p l e _ s m args below meth c _ G 3 S 0 0 [(0, .ref (G.2.2 + x0)), (1, .int x1), (2, .int x2)] 0 []
  refine pw_aload_n (pc := 0) C 0 dX12_fact_0 rfl rfl ?_
  refine pw_iconst (pc := 1) (v := 0 ) C dX12_fact_1 (by decide) ?_
  obtain ⟨hk1, h⟩ := h
  refine pw_putI (pc := 2) (ref := "SupportSolverModel") (k := 0) (index := 70) C pCl10 iX12_fact_X12 hk1 rfl (by decide +kernel) (Or.inl rfl) (Or.inl rfl) rfl rfl dX12_fact_2 ?_
  refine pw_aload_n (pc := 5) (S := (sI S x0 0 (0 : Int32))) C 0 dX12_fact_5 rfl rfl ?_
  refine pw_aload_n (pc := 6) (S := (sI S x0 0 (0 : Int32))) C 0 dX12_fact_6 rfl rfl ?_
  refine pw_iload_n (pc := 7) (S := (sI S x0 0 (0 : Int32))) C 1 dX12_fact_7 rfl rfl ?_
  refine pw_calli (pc := 8) (S := (sI S x0 0 (0 : Int32))) (kc2 := 0) (kn2 := 0) (pRunV (pc := 8) (S := (sI S x0 0 (0 : Int32))) C (ctX12_isFact l G  _ x0 x1 _ h) (cwV 1 C.2.2.2.2.1 gX12_fact_X12_isFact rfl rfl rfl (by decide +kernel) ⟨Nat.le_of_ble_eq_true rfl, Nat.le_of_ble_eq_true rfl⟩) pCl10 hk1 rfl rfl (Nat.le_of_ble_eq_true rfl) dX12_fact_8 ⟨Nat.le_of_ble_eq_true rfl, Nat.le_of_ble_eq_true rfl⟩) rfl rfl (fun r2 S3 h => ?_)
  refine pw_iconst (pc := 11) (v := 1 ) C dX12_fact_11 (by decide) ?_
  obtain ⟨hk4, h⟩ := h
  refine pw_calli (pc := 12) (kc2 := 0) (kn2 := 0) (pRunV (pc := 12) C (ctX12_may l G  _ x0 r2 (1 : Int32) _ h) (cwV 2 C.2.2.2.2.1 gX12_fact_X12_may rfl rfl rfl (by decide +kernel) ⟨Nat.le_of_ble_eq_true rfl, Nat.le_of_ble_eq_true rfl⟩) pCl10 hk4 rfl rfl (Nat.le_of_ble_eq_true rfl) dX12_fact_12 ⟨Nat.le_of_ble_eq_true rfl, Nat.le_of_ble_eq_true rfl⟩) rfl rfl (fun r5 S6 h => ?_)
  refine pw_if_eq (pc := 15) (tgt := 45) C dX12_fact_15 rfl ⟨fun hc => ?_, fun hc => ?_⟩
  · replace h := h.1 hc
    refine pw_iconst (pc := 45) (v := 0 ) C dX12_fact_45 (by decide) ?_
    exact pw_iret (pc := 46) C hr h dX12_fact_46
  · replace h := h.2 hc
    refine pw_aload_n (pc := 18) C 0 dX12_fact_18 rfl rfl ?_
    refine pw_iload_n (pc := 19) C 2 dX12_fact_19 rfl rfl ?_
    refine pw_iconst (pc := 20) (v := 0 ) C dX12_fact_20 (by decide) ?_
    refine pw_iconst (pc := 21) (v := 3 ) C dX12_fact_21 (by decide) ?_
    refine pw_calli (pc := 22) (kc2 := 0) (kn2 := 0) (pRunS (pc := 22) C (ctX12_isIn l G  _ x2 (0 : Int32) (3 : Int32) _ h) (va_cwS 3 C.2.2.2.2.1 gX12_fact_X12_isIn rfl rfl rfl (by decide +kernel) ⟨Nat.le_of_ble_eq_true rfl, Nat.le_of_ble_eq_true rfl⟩) rfl rfl (Nat.le_of_ble_eq_true rfl) dX12_fact_22 ⟨Nat.le_of_ble_eq_true rfl, Nat.le_of_ble_eq_true rfl⟩) rfl rfl (fun r7 S8 h => ?_)
    refine pw_iconst (pc := 25) (v := 2 ) C dX12_fact_25 (by decide) ?_
    obtain ⟨hk9, h⟩ := h
    refine pw_calli (pc := 26) (kc2 := 0) (kn2 := 0) (pRunV (pc := 26) C (ctX12_may l G  _ x0 r7 (2 : Int32) _ h) (cwV 2 C.2.2.2.2.1 gX12_fact_X12_may rfl rfl rfl (by decide +kernel) ⟨Nat.le_of_ble_eq_true rfl, Nat.le_of_ble_eq_true rfl⟩) pCl10 hk9 rfl rfl (Nat.le_of_ble_eq_true rfl) dX12_fact_26 ⟨Nat.le_of_ble_eq_true rfl, Nat.le_of_ble_eq_true rfl⟩) rfl rfl (fun r10 S11 h => ?_)
    refine pw_if_eq (pc := 29) (tgt := 45) C dX12_fact_29 rfl ⟨fun hc => ?_, fun hc => ?_⟩
    · replace h := h.1 hc
      refine pw_iconst (pc := 45) (v := 0 ) C dX12_fact_45 (by decide) ?_
      exact pw_iret (pc := 46) C hr h dX12_fact_46
    · replace h := h.2 hc
      refine pw_aload_n (pc := 32) C 0 dX12_fact_32 rfl rfl ?_
      obtain ⟨hk12, h⟩ := h
      obtain ⟨o13, ho13, h⟩ := h
      refine pw_getR (pc := 33) (ref := "SupportSolverModel") (k := 4) (index := 19) C pCl10 iX12_fact_X12 hk12 rfl (by decide +kernel) (Or.inl rfl) (o := o13) ho13 dX12_fact_33 ?_
      refine pw_iconst (pc := 36) (v := 5 ) C dX12_fact_36 (by decide) ?_
      refine pw_iload_n (pc := 37) C 1 dX12_fact_37 rfl rfl ?_
      refine pw_imul (pc := 38) C dX12_fact_38 ?_
      refine pw_iload_n (pc := 39) C 2 dX12_fact_39 rfl rfl ?_
      refine pw_iadd (pc := 40) C dX12_fact_40 ?_
      obtain ⟨hk14, h⟩ := h
      obtain ⟨hi15, h⟩ := h
      refine pw_iald (pc := 41) C hk14 hi15 dX12_fact_41 ?_
      refine pw_goto (pc := 42) (tgt := 46) C dX12_fact_42 rfl ?_
      exact pw_iret (pc := 46) C hr h dX12_fact_46

abbrev rmX12_factOf : Room := { frames := 2, cells := 0, slots := 0, locals := 43 }
theorem iX12_factOf_X12 : ∀ w ∈ u_ws RX12 TX12 32, w ∈ wsX12_factOf := fun _ h => List.mem_cons_of_mem _ (List.mem_append_right _ h)
def wpX12_factOf_b36  (Q : Int32 → PS → Prop) : Nat → PS → Nat → Int32 → Int32 → Int32 → Prop
  | 0 => fun _ _ _ _ _ => False
  | n + 1 => fun S x0 x1 x2 x3 => (pK S x0 = 11 ∧ (((pI S x0 7) ≤ x3 → (wpX12_may S x0 (0 : Int32) (3 : Int32) (fun r2 S3 => ((r2 = 0 → (Q (0 : Int32) S3)) ∧ (¬ r2 = 0 → (Q (0 : Int32) S3)))))) ∧ (¬ (pI S x0 7) ≤ x3 → (∃ o4, pR S x0 4 = some o4 ∧ (pK S o4 = 13 ∧ (vp_in ((5 : Int32) * x3) (pL S o4) ∧ ((¬ (pI S o4 (((5 : Int32) * x3)).toNatClampNeg) = x1 → (wpX12_factOf_b36 Q n S x0 x1 x2 (x3 + 1))) ∧ ((pI S o4 (((5 : Int32) * x3)).toNatClampNeg) = x1 → (vp_in (((5 : Int32) * x3) + (1 : Int32)) (pL S o4) ∧ ((¬ (pI S o4 ((((5 : Int32) * x3) + (1 : Int32))).toNatClampNeg) = x2 → (wpX12_factOf_b36 Q n S x0 x1 x2 (x3 + 1))) ∧ ((pI S o4 ((((5 : Int32) * x3) + (1 : Int32))).toNatClampNeg) = x2 → (Q x3 S))))))))))))
def wpX12_factOf (S : PS) (x0 : Nat) (x1 : Int32) (x2 : Int32) (Q : Int32 → PS → Prop) : Prop := (pK S x0 = 11 ∧ (wpX12_isVariable (sI S x0 0 (0 : Int32)) x0 x1 (fun r9 S10 => (pK S10 x0 = 11 ∧ (wpX12_may S10 x0 r9 (1 : Int32) (fun r12 S13 => ((r12 = 0 → (Q (0 : Int32) S13)) ∧ (¬ r12 = 0 → (wpX12_isIn S13 x2 (0 : Int32) (4 : Int32) (fun r14 S15 => (pK S15 x0 = 11 ∧ (wpX12_may S15 x0 r14 (2 : Int32) (fun r17 S18 => ((¬ r17 = 0 → (∃ n9 : Nat, wpX12_factOf_b36 Q n9 S18 x0 x1 x2 (0 : Int32))) ∧ (r17 = 0 → (Q (0 : Int32) S18))))))))))))))))
set_option maxRecDepth 100000 in
set_option maxHeartbeats 4000000 in
theorem cbX12_factOf_b36 {p : Program} {l : Launch} {e : Env} {s : State} {m : MethodId} {args : Array Value} {below : List Frame} {meth : Method} {c : Code} {G : PG} {Q : Int32 → PS → Prop} (C : pCx p s m args meth c G cX12_factOf 4 yX12_factOf.cls wsX12_factOf) (hr : meth.sig.returnType = (some .int)) (hin : meth.name = yX12_factOf.name)  (n : Nat) : ∀ (S : PS) (x0 : Nat) (x1 : Int32) (x2 : Int32) (x3 : Int32), wpX12_factOf_b36  Q n S x0 x1 x2 x3 → PW p l e rmX12_factOf s m args below meth c (MQ below (va_Qi Q (pB G) (pFr G)) args s rmX12_factOf.cells rmX12_factOf.slots (pFr G)) G 4 S 0 0 [(0, .ref (G.2.2 + x0)), (1, .int x1), (2, .int x2), (3, .int x3)] 36 ([]) := by
  induction n with
  | zero => intro S x0 x1 x2 x3 h; exact h.elim
  | succ n ih =>
    intro S x0 x1 x2 x3 h
    unfold wpX12_factOf_b36 at h
    refine pw_iload_n (pc := 36) C 3 dX12_factOf_36 rfl rfl ?_
    refine pw_aload_n (pc := 37) C 0 dX12_factOf_37 rfl rfl ?_
    obtain ⟨hk1, h⟩ := h
    refine pw_getI (pc := 38) (ref := "SupportSolverModel") (k := 7) (index := 73) C pCl10 iX12_factOf_X12 hk1 rfl (by decide +kernel) (Or.inl rfl) dX12_factOf_38 ?_
    refine pw_icmp_ge (pc := 41) (tgt := 78) C dX12_factOf_41 rfl ⟨fun hc => ?_, fun hc => ?_⟩
    · replace h := h.1 hc
      refine pw_aload_n (pc := 78) C 0 dX12_factOf_78 rfl rfl ?_
      refine pw_iconst (pc := 79) (v := 0 ) C dX12_factOf_79 (by decide) ?_
      refine pw_iconst (pc := 80) (v := 3 ) C dX12_factOf_80 (by decide) ?_
      refine pw_calli (pc := 81) (kc2 := 0) (kn2 := 0) (pRunV (pc := 81) C (ctX12_may l G  _ x0 (0 : Int32) (3 : Int32) _ h) (cwV 2 C.2.2.2.2.1 gX12_factOf_X12_may rfl rfl rfl (by decide +kernel) ⟨Nat.le_of_ble_eq_true rfl, Nat.le_of_ble_eq_true rfl⟩) pCl10 hk1 rfl rfl (Nat.le_of_ble_eq_true rfl) dX12_factOf_81 ⟨Nat.le_of_ble_eq_true rfl, Nat.le_of_ble_eq_true rfl⟩) rfl rfl (fun r2 S3 h => ?_)
      refine pw_if_eq (pc := 84) (tgt := 91) C dX12_factOf_84 rfl ⟨fun hc => ?_, fun hc => ?_⟩
      · replace h := h.1 hc
        refine pw_iconst (pc := 91) (v := 0 ) C dX12_factOf_91 (by decide) ?_
        exact pw_iret (pc := 92) C hr h dX12_factOf_92
      · replace h := h.2 hc
        refine pw_iconst (pc := 87) (v := 0 ) C dX12_factOf_87 (by decide) ?_
        refine pw_goto (pc := 88) (tgt := 92) C dX12_factOf_88 rfl ?_
        exact pw_iret (pc := 92) C hr h dX12_factOf_92
    · replace h := h.2 hc
      refine pw_aload_n (pc := 44) C 0 dX12_factOf_44 rfl rfl ?_
      obtain ⟨o4, ho4, h⟩ := h
      refine pw_getR (pc := 45) (ref := "SupportSolverModel") (k := 4) (index := 19) C pCl10 iX12_factOf_X12 hk1 rfl (by decide +kernel) (Or.inl rfl) (o := o4) ho4 dX12_factOf_45 ?_
      refine pw_iconst (pc := 48) (v := 5 ) C dX12_factOf_48 (by decide) ?_
      refine pw_iload_n (pc := 49) C 3 dX12_factOf_49 rfl rfl ?_
      refine pw_imul (pc := 50) C dX12_factOf_50 ?_
      obtain ⟨hk5, h⟩ := h
      obtain ⟨hi6, h⟩ := h
      refine pw_iald (pc := 51) C hk5 hi6 dX12_factOf_51 ?_
      refine pw_iload_n (pc := 52) C 1 dX12_factOf_52 rfl rfl ?_
      refine pw_icmp_ne (pc := 53) (tgt := 72) C dX12_factOf_53 rfl ⟨fun hc => ?_, fun hc => ?_⟩
      · replace h := h.1 hc
        refine pw_iincK (pc := 72) (w := 1) C [(3, .int (x3 + 1)), (0, .ref (G.2.2 + x0)), (1, .int x1), (2, .int x2)] 3 dX12_factOf_72 (by decide) rfl (by decide) rfl ?_
        refine pw_goto (pc := 75) (tgt := 36) C dX12_factOf_75 rfl ?_
        refine pw_sub [1, 2, 3, 0] (LV2 := [(0, .ref (G.2.2 + x0)), (1, .int x1), (2, .int x2), (3, .int (x3 + 1))]) rfl ?_
        exact ih _ _ _ _ _ h
      · replace h := h.2 hc
        refine pw_aload_n (pc := 56) C 0 dX12_factOf_56 rfl rfl ?_
        refine pw_getR (pc := 57) (ref := "SupportSolverModel") (k := 4) (index := 19) C pCl10 iX12_factOf_X12 hk1 rfl (by decide +kernel) (Or.inl rfl) (o := o4) ho4 dX12_factOf_57 ?_
        refine pw_iconst (pc := 60) (v := 5 ) C dX12_factOf_60 (by decide) ?_
        refine pw_iload_n (pc := 61) C 3 dX12_factOf_61 rfl rfl ?_
        refine pw_imul (pc := 62) C dX12_factOf_62 ?_
        refine pw_iconst (pc := 63) (v := 1 ) C dX12_factOf_63 (by decide) ?_
        refine pw_iadd (pc := 64) C dX12_factOf_64 ?_
        obtain ⟨hi7, h⟩ := h
        refine pw_iald (pc := 65) C hk5 hi7 dX12_factOf_65 ?_
        refine pw_iload_n (pc := 66) C 2 dX12_factOf_66 rfl rfl ?_
        refine pw_icmp_ne (pc := 67) (tgt := 72) C dX12_factOf_67 rfl ⟨fun hc => ?_, fun hc => ?_⟩
        · replace h := h.1 hc
          refine pw_iincK (pc := 72) (w := 1) C [(3, .int (x3 + 1)), (0, .ref (G.2.2 + x0)), (1, .int x1), (2, .int x2)] 3 dX12_factOf_72 (by decide) rfl (by decide) rfl ?_
          refine pw_goto (pc := 75) (tgt := 36) C dX12_factOf_75 rfl ?_
          refine pw_sub [1, 2, 3, 0] (LV2 := [(0, .ref (G.2.2 + x0)), (1, .int x1), (2, .int x2), (3, .int (x3 + 1))]) rfl ?_
          exact ih _ _ _ _ _ h
        · replace h := h.2 hc
          refine pw_iload_n (pc := 70) C 3 dX12_factOf_70 rfl rfl ?_
          exact pw_iret (pc := 71) C hr h dX12_factOf_71
set_option maxRecDepth 100000 in
set_option maxHeartbeats 4000000 in
theorem ctX12_factOf (l : Launch) (G : PG) (S : PS) (x0 : Nat) (x1 : Int32) (x2 : Int32) (Q : Int32 → PS → Prop) (h : wpX12_factOf S x0 x1 x2 Q) : mI l yX12_factOf wsX12_factOf rmX12_factOf G S [.ref (G.2.2 + x0), .int x1, .int x2] Q := by
  unfold mI
  refine met_of (cc := cX12_factOf) (maxL := 4) (ret := (some .int)) (by decide) rfl (Nat.le_of_ble_eq_true rfl) ?_
  intro p e s m args below meth c C hr hin
  unfold wpX12_factOf at h
  show PW p l e _ s m args below meth c _ G 4 S 0 0 [(0, .ref (G.2.2 + x0)), (1, .int x1), (2, .int x2)] 0 []
  refine pw_aload_n (pc := 0) C 0 dX12_factOf_0 rfl rfl ?_
  refine pw_iconst (pc := 1) (v := 0 ) C dX12_factOf_1 (by decide) ?_
  obtain ⟨hk8, h⟩ := h
  refine pw_putI (pc := 2) (ref := "SupportSolverModel") (k := 0) (index := 70) C pCl10 iX12_factOf_X12 hk8 rfl (by decide +kernel) (Or.inl rfl) (Or.inl rfl) rfl rfl dX12_factOf_2 ?_
  refine pw_aload_n (pc := 5) (S := (sI S x0 0 (0 : Int32))) C 0 dX12_factOf_5 rfl rfl ?_
  refine pw_aload_n (pc := 6) (S := (sI S x0 0 (0 : Int32))) C 0 dX12_factOf_6 rfl rfl ?_
  refine pw_iload_n (pc := 7) (S := (sI S x0 0 (0 : Int32))) C 1 dX12_factOf_7 rfl rfl ?_
  refine pw_calli (pc := 8) (S := (sI S x0 0 (0 : Int32))) (kc2 := 0) (kn2 := 0) (pRunV (pc := 8) (S := (sI S x0 0 (0 : Int32))) C (ctX12_isVariable l G  _ x0 x1 _ h) (cwV 1 C.2.2.2.2.1 gX12_factOf_X12_isVariable rfl rfl rfl (by decide +kernel) ⟨Nat.le_of_ble_eq_true rfl, Nat.le_of_ble_eq_true rfl⟩) pCl10 hk8 rfl rfl (Nat.le_of_ble_eq_true rfl) dX12_factOf_8 ⟨Nat.le_of_ble_eq_true rfl, Nat.le_of_ble_eq_true rfl⟩) rfl rfl (fun r9 S10 h => ?_)
  refine pw_iconst (pc := 11) (v := 1 ) C dX12_factOf_11 (by decide) ?_
  obtain ⟨hk11, h⟩ := h
  refine pw_calli (pc := 12) (kc2 := 0) (kn2 := 0) (pRunV (pc := 12) C (ctX12_may l G  _ x0 r9 (1 : Int32) _ h) (cwV 2 C.2.2.2.2.1 gX12_factOf_X12_may rfl rfl rfl (by decide +kernel) ⟨Nat.le_of_ble_eq_true rfl, Nat.le_of_ble_eq_true rfl⟩) pCl10 hk11 rfl rfl (Nat.le_of_ble_eq_true rfl) dX12_factOf_12 ⟨Nat.le_of_ble_eq_true rfl, Nat.le_of_ble_eq_true rfl⟩) rfl rfl (fun r12 S13 h => ?_)
  refine pw_if_eq (pc := 15) (tgt := 32) C dX12_factOf_15 rfl ⟨fun hc => ?_, fun hc => ?_⟩
  · replace h := h.1 hc
    refine pw_iconst (pc := 32) (v := 0 ) C dX12_factOf_32 (by decide) ?_
    exact pw_iret (pc := 33) C hr h dX12_factOf_33
  · replace h := h.2 hc
    refine pw_aload_n (pc := 18) C 0 dX12_factOf_18 rfl rfl ?_
    refine pw_iload_n (pc := 19) C 2 dX12_factOf_19 rfl rfl ?_
    refine pw_iconst (pc := 20) (v := 0 ) C dX12_factOf_20 (by decide) ?_
    refine pw_iconst (pc := 21) (v := 4 ) C dX12_factOf_21 (by decide) ?_
    refine pw_calli (pc := 22) (kc2 := 0) (kn2 := 0) (pRunS (pc := 22) C (ctX12_isIn l G  _ x2 (0 : Int32) (4 : Int32) _ h) (va_cwS 3 C.2.2.2.2.1 gX12_factOf_X12_isIn rfl rfl rfl (by decide +kernel) ⟨Nat.le_of_ble_eq_true rfl, Nat.le_of_ble_eq_true rfl⟩) rfl rfl (Nat.le_of_ble_eq_true rfl) dX12_factOf_22 ⟨Nat.le_of_ble_eq_true rfl, Nat.le_of_ble_eq_true rfl⟩) rfl rfl (fun r14 S15 h => ?_)
    refine pw_iconst (pc := 25) (v := 2 ) C dX12_factOf_25 (by decide) ?_
    obtain ⟨hk16, h⟩ := h
    refine pw_calli (pc := 26) (kc2 := 0) (kn2 := 0) (pRunV (pc := 26) C (ctX12_may l G  _ x0 r14 (2 : Int32) _ h) (cwV 2 C.2.2.2.2.1 gX12_factOf_X12_may rfl rfl rfl (by decide +kernel) ⟨Nat.le_of_ble_eq_true rfl, Nat.le_of_ble_eq_true rfl⟩) pCl10 hk16 rfl rfl (Nat.le_of_ble_eq_true rfl) dX12_factOf_26 ⟨Nat.le_of_ble_eq_true rfl, Nat.le_of_ble_eq_true rfl⟩) rfl rfl (fun r17 S18 h => ?_)
    refine pw_if_ne (pc := 29) (tgt := 34) C dX12_factOf_29 rfl ⟨fun hc => ?_, fun hc => ?_⟩
    · replace h := h.1 hc
      refine pw_iconst (pc := 34) (v := 0 ) C dX12_factOf_34 (by decide) ?_
      refine pw_istore_n (pc := 35) C [(3, .int (0 : Int32)), (0, .ref (G.2.2 + x0)), (1, .int x1), (2, .int x2)] dX12_factOf_35 rfl (by decide) rfl ?_
      refine pw_sub [1, 2, 3, 0] (LV2 := [(0, .ref (G.2.2 + x0)), (1, .int x1), (2, .int x2), (3, .int (0 : Int32))]) rfl ?_
      obtain ⟨n9, h⟩ := h
      exact cbX12_factOf_b36 C hr hin  n9 _ _ _ _ _ h
    · replace h := h.2 hc
      refine pw_iconst (pc := 32) (v := 0 ) C dX12_factOf_32 (by decide) ?_
      exact pw_iret (pc := 33) C hr h dX12_factOf_33

abbrev rmX12_laysWithout : Room := { frames := 0, cells := 0, slots := 0, locals := 0 }
theorem iX12_laysWithout_X12 : ∀ w ∈ u_ws RX12 TX12 32, w ∈ wsX12_laysWithout := fun _ h => List.mem_cons_of_mem _ (List.mem_append_right _ h)
def wpX12_laysWithout_b30  (Q : PS → Prop) : Nat → PS → Nat → Int32 → Prop
  | 0 => fun _ _ _ => False
  | n + 1 => fun S x0 x1 => (pK S x0 = 11 ∧ (((pI S x0 7) ≤ x1 → (Q S)) ∧ (¬ (pI S x0 7) ≤ x1 → (∃ o2, pR S x0 24 = some o2 ∧ (pK S o2 = 15 ∧ (vp_in x1 (pL S o2) ∧ (((pI S o2 (x1).toNatClampNeg) = 0 → (wpX12_laysWithout_b30 Q n S x0 (x1 + 1))) ∧ (¬ (pI S o2 (x1).toNatClampNeg) = 0 → (∃ o5, pR S x0 25 = some o5 ∧ (∃ o6, pR S x0 4 = some o6 ∧ (pK S o6 = 13 ∧ (vp_in ((5 : Int32) * x1) (pL S o6) ∧ (pK S o5 = 13 ∧ (vp_in (pI S o6 (((5 : Int32) * x1)).toNatClampNeg) (pL S o5) ∧ (vp_in (((5 : Int32) * x1) + (1 : Int32)) (pL S o6) ∧ (vp_in (pI S o6 (((5 : Int32) * x1)).toNatClampNeg) (pL S o5) ∧ (wpX12_laysWithout_b30 Q n (sI S o5 ((pI S o6 (((5 : Int32) * x1)).toNatClampNeg)).toNatClampNeg ((pI S o5 ((pI S o6 (((5 : Int32) * x1)).toNatClampNeg)).toNatClampNeg) &&& (((1 : Int32) <<< ((pI S o6 ((((5 : Int32) * x1) + (1 : Int32))).toNatClampNeg) &&& 31)) ^^^ (-1 : Int32)))) x0 (x1 + 1))))))))))))))))))
def wpX12_laysWithout_b2  (Q : PS → Prop) : Nat → PS → Nat → Int32 → Prop
  | 0 => fun _ _ _ => False
  | n + 1 => fun S x0 x1 => (((7 : Int32) ≤ x1 → (∃ n9 : Nat, wpX12_laysWithout_b30 Q n9 S x0 (0 : Int32))) ∧ (¬ (7 : Int32) ≤ x1 → (pK S x0 = 11 ∧ (∃ o14, pR S x0 25 = some o14 ∧ (∃ o15, pR S x0 1 = some o15 ∧ (pK S o15 = 13 ∧ (vp_in ((2 : Int32) + x1) (pL S o15) ∧ (pK S o14 = 13 ∧ (vp_in x1 (pL S o14) ∧ (wpX12_laysWithout_b2 Q n (sI S o14 (x1).toNatClampNeg (pI S o15 (((2 : Int32) + x1)).toNatClampNeg)) x0 (x1 + 1)))))))))))
def wpX12_laysWithout (S : PS) (x0 : Nat) (Q : PS → Prop) : Prop := (∃ n9 : Nat, wpX12_laysWithout_b2 Q n9 S x0 (0 : Int32))
set_option maxRecDepth 100000 in
set_option maxHeartbeats 4000000 in
theorem cbX12_laysWithout_b30 {p : Program} {l : Launch} {e : Env} {s : State} {m : MethodId} {args : Array Value} {below : List Frame} {meth : Method} {c : Code} {G : PG} {Q : PS → Prop} (C : pCx p s m args meth c G cX12_laysWithout 2 yX12_laysWithout.cls wsX12_laysWithout) (hr : meth.sig.returnType = none) (hin : meth.name = yX12_laysWithout.name)  (n : Nat) : ∀ (S : PS) (x0 : Nat) (x1 : Int32), wpX12_laysWithout_b30  Q n S x0 x1 → PW p l e rmX12_laysWithout s m args below meth c (MQ below (va_Qv Q (pB G) (pFr G)) args s rmX12_laysWithout.cells rmX12_laysWithout.slots (pFr G)) G 2 S 0 0 [(0, .ref (G.2.2 + x0)), (1, .int x1)] 30 ([]) := by
  induction n with
  | zero => intro S x0 x1 h; exact h.elim
  | succ n ih =>
    intro S x0 x1 h
    unfold wpX12_laysWithout_b30 at h
    refine pw_iload_n (pc := 30) C 1 dX12_laysWithout_30 rfl rfl ?_
    refine pw_aload_n (pc := 31) C 0 dX12_laysWithout_31 rfl rfl ?_
    obtain ⟨hk1, h⟩ := h
    refine pw_getI (pc := 32) (ref := "SupportSolverModel") (k := 7) (index := 73) C pCl10 iX12_laysWithout_X12 hk1 rfl (by decide +kernel) (Or.inl rfl) dX12_laysWithout_32 ?_
    refine pw_icmp_ge (pc := 35) (tgt := 83) C dX12_laysWithout_35 rfl ⟨fun hc => ?_, fun hc => ?_⟩
    · replace h := h.1 hc
      exact pw_vret (pc := 83) C hr h dX12_laysWithout_83
    · replace h := h.2 hc
      refine pw_aload_n (pc := 38) C 0 dX12_laysWithout_38 rfl rfl ?_
      obtain ⟨o2, ho2, h⟩ := h
      refine pw_getR (pc := 39) (ref := "SupportSolverModel") (k := 24) (index := 42) C pCl10 iX12_laysWithout_X12 hk1 rfl (by decide +kernel) (Or.inl rfl) (o := o2) ho2 dX12_laysWithout_39 ?_
      refine pw_iload_n (pc := 42) C 1 dX12_laysWithout_42 rfl rfl ?_
      obtain ⟨hk3, h⟩ := h
      obtain ⟨hi4, h⟩ := h
      refine pw_zald (pc := 43) C hk3 hi4 dX12_laysWithout_43 ?_
      refine pw_if_eq (pc := 44) (tgt := 77) C dX12_laysWithout_44 rfl ⟨fun hc => ?_, fun hc => ?_⟩
      · replace h := h.1 hc
        refine pw_iincK (pc := 77) (w := 1) C [(1, .int (x1 + 1)), (0, .ref (G.2.2 + x0))] 1 dX12_laysWithout_77 (by decide) rfl (by decide) rfl ?_
        refine pw_goto (pc := 80) (tgt := 30) C dX12_laysWithout_80 rfl ?_
        refine pw_sub [1, 0] (LV2 := [(0, .ref (G.2.2 + x0)), (1, .int (x1 + 1))]) rfl ?_
        exact ih _ _ _ h
      · replace h := h.2 hc
        refine pw_aload_n (pc := 47) C 0 dX12_laysWithout_47 rfl rfl ?_
        obtain ⟨o5, ho5, h⟩ := h
        refine pw_getR (pc := 48) (ref := "SupportSolverModel") (k := 25) (index := 46) C pCl10 iX12_laysWithout_X12 hk1 rfl (by decide +kernel) (Or.inl rfl) (o := o5) ho5 dX12_laysWithout_48 ?_
        refine pw_aload_n (pc := 51) C 0 dX12_laysWithout_51 rfl rfl ?_
        obtain ⟨o6, ho6, h⟩ := h
        refine pw_getR (pc := 52) (ref := "SupportSolverModel") (k := 4) (index := 19) C pCl10 iX12_laysWithout_X12 hk1 rfl (by decide +kernel) (Or.inl rfl) (o := o6) ho6 dX12_laysWithout_52 ?_
        refine pw_iconst (pc := 55) (v := 5 ) C dX12_laysWithout_55 (by decide) ?_
        refine pw_iload_n (pc := 56) C 1 dX12_laysWithout_56 rfl rfl ?_
        refine pw_imul (pc := 57) C dX12_laysWithout_57 ?_
        obtain ⟨hk7, h⟩ := h
        obtain ⟨hi8, h⟩ := h
        refine pw_iald (pc := 58) C hk7 hi8 dX12_laysWithout_58 ?_
        refine pw_dup2_11 (pc := 59) C dX12_laysWithout_59 rfl rfl ?_
        obtain ⟨hk9, h⟩ := h
        obtain ⟨hi10, h⟩ := h
        refine pw_iald (pc := 60) C hk9 hi10 dX12_laysWithout_60 ?_
        refine pw_iconst (pc := 61) (v := 1 ) C dX12_laysWithout_61 (by decide) ?_
        refine pw_aload_n (pc := 62) C 0 dX12_laysWithout_62 rfl rfl ?_
        refine pw_getR (pc := 63) (ref := "SupportSolverModel") (k := 4) (index := 19) C pCl10 iX12_laysWithout_X12 hk1 rfl (by decide +kernel) (Or.inl rfl) (o := o6) ho6 dX12_laysWithout_63 ?_
        refine pw_iconst (pc := 66) (v := 5 ) C dX12_laysWithout_66 (by decide) ?_
        refine pw_iload_n (pc := 67) C 1 dX12_laysWithout_67 rfl rfl ?_
        refine pw_imul (pc := 68) C dX12_laysWithout_68 ?_
        refine pw_iconst (pc := 69) (v := 1 ) C dX12_laysWithout_69 (by decide) ?_
        refine pw_iadd (pc := 70) C dX12_laysWithout_70 ?_
        obtain ⟨hi11, h⟩ := h
        refine pw_iald (pc := 71) C hk7 hi11 dX12_laysWithout_71 ?_
        refine pw_ishl (pc := 72) C dX12_laysWithout_72 ?_
        refine pw_iconst (pc := 73) (v := (-1)) C dX12_laysWithout_73 (by decide) ?_
        refine pw_ixor (pc := 74) C dX12_laysWithout_74 ?_
        refine pw_iand (pc := 75) C dX12_laysWithout_75 ?_
        obtain ⟨hi12, h⟩ := h
        refine pw_iast (pc := 76) C hk9 hi12 dX12_laysWithout_76 ?_
        refine pw_iincK (pc := 77) (S := (sI S o5 ((pI S o6 (((5 : Int32) * x1)).toNatClampNeg)).toNatClampNeg ((pI S o5 ((pI S o6 (((5 : Int32) * x1)).toNatClampNeg)).toNatClampNeg) &&& (((1 : Int32) <<< ((pI S o6 ((((5 : Int32) * x1) + (1 : Int32))).toNatClampNeg) &&& 31)) ^^^ (-1 : Int32))))) (w := 1) C [(1, .int (x1 + 1)), (0, .ref (G.2.2 + x0))] 1 dX12_laysWithout_77 (by decide) rfl (by decide) rfl ?_
        refine pw_goto (pc := 80) (S := (sI S o5 ((pI S o6 (((5 : Int32) * x1)).toNatClampNeg)).toNatClampNeg ((pI S o5 ((pI S o6 (((5 : Int32) * x1)).toNatClampNeg)).toNatClampNeg) &&& (((1 : Int32) <<< ((pI S o6 ((((5 : Int32) * x1) + (1 : Int32))).toNatClampNeg) &&& 31)) ^^^ (-1 : Int32))))) (tgt := 30) C dX12_laysWithout_80 rfl ?_
        refine pw_sub [1, 0] (LV2 := [(0, .ref (G.2.2 + x0)), (1, .int (x1 + 1))]) rfl ?_
        exact ih _ _ _ h
set_option maxRecDepth 100000 in
set_option maxHeartbeats 4000000 in
theorem cbX12_laysWithout_b2 {p : Program} {l : Launch} {e : Env} {s : State} {m : MethodId} {args : Array Value} {below : List Frame} {meth : Method} {c : Code} {G : PG} {Q : PS → Prop} (C : pCx p s m args meth c G cX12_laysWithout 2 yX12_laysWithout.cls wsX12_laysWithout) (hr : meth.sig.returnType = none) (hin : meth.name = yX12_laysWithout.name)  (n : Nat) : ∀ (S : PS) (x0 : Nat) (x1 : Int32), wpX12_laysWithout_b2  Q n S x0 x1 → PW p l e rmX12_laysWithout s m args below meth c (MQ below (va_Qv Q (pB G) (pFr G)) args s rmX12_laysWithout.cells rmX12_laysWithout.slots (pFr G)) G 2 S 0 0 [(0, .ref (G.2.2 + x0)), (1, .int x1)] 2 ([]) := by
  induction n with
  | zero => intro S x0 x1 h; exact h.elim
  | succ n ih =>
    intro S x0 x1 h
    unfold wpX12_laysWithout_b2 at h
    refine pw_iload_n (pc := 2) C 1 dX12_laysWithout_2 rfl rfl ?_
    refine pw_bipush (pc := 3) (v := 7 ) C dX12_laysWithout_3 (by decide) ?_
    refine pw_icmp_ge (pc := 5) (tgt := 28) C dX12_laysWithout_5 rfl ⟨fun hc => ?_, fun hc => ?_⟩
    · replace h := h.1 hc
      refine pw_iconst (pc := 28) (v := 0 ) C dX12_laysWithout_28 (by decide) ?_
      refine pw_istore_n (pc := 29) C [(1, .int (0 : Int32)), (0, .ref (G.2.2 + x0))] dX12_laysWithout_29 rfl (by decide) rfl ?_
      refine pw_sub [1, 0] (LV2 := [(0, .ref (G.2.2 + x0)), (1, .int (0 : Int32))]) rfl ?_
      obtain ⟨n9, h⟩ := h
      exact cbX12_laysWithout_b30 C hr hin  n9 _ _ _ h
    · replace h := h.2 hc
      refine pw_aload_n (pc := 8) C 0 dX12_laysWithout_8 rfl rfl ?_
      obtain ⟨hk13, h⟩ := h
      obtain ⟨o14, ho14, h⟩ := h
      refine pw_getR (pc := 9) (ref := "SupportSolverModel") (k := 25) (index := 46) C pCl10 iX12_laysWithout_X12 hk13 rfl (by decide +kernel) (Or.inl rfl) (o := o14) ho14 dX12_laysWithout_9 ?_
      refine pw_iload_n (pc := 12) C 1 dX12_laysWithout_12 rfl rfl ?_
      refine pw_aload_n (pc := 13) C 0 dX12_laysWithout_13 rfl rfl ?_
      obtain ⟨o15, ho15, h⟩ := h
      refine pw_getR (pc := 14) (ref := "SupportSolverModel") (k := 1) (index := 7) C pCl10 iX12_laysWithout_X12 hk13 rfl (by decide +kernel) (Or.inl rfl) (o := o15) ho15 dX12_laysWithout_14 ?_
      refine pw_iconst (pc := 17) (v := 2 ) C dX12_laysWithout_17 (by decide) ?_
      refine pw_iload_n (pc := 18) C 1 dX12_laysWithout_18 rfl rfl ?_
      refine pw_iadd (pc := 19) C dX12_laysWithout_19 ?_
      obtain ⟨hk16, h⟩ := h
      obtain ⟨hi17, h⟩ := h
      refine pw_iald (pc := 20) C hk16 hi17 dX12_laysWithout_20 ?_
      obtain ⟨hk18, h⟩ := h
      obtain ⟨hi19, h⟩ := h
      refine pw_iast (pc := 21) C hk18 hi19 dX12_laysWithout_21 ?_
      refine pw_iincK (pc := 22) (S := (sI S o14 (x1).toNatClampNeg (pI S o15 (((2 : Int32) + x1)).toNatClampNeg))) (w := 1) C [(1, .int (x1 + 1)), (0, .ref (G.2.2 + x0))] 1 dX12_laysWithout_22 (by decide) rfl (by decide) rfl ?_
      refine pw_goto (pc := 25) (S := (sI S o14 (x1).toNatClampNeg (pI S o15 (((2 : Int32) + x1)).toNatClampNeg))) (tgt := 2) C dX12_laysWithout_25 rfl ?_
      refine pw_sub [1, 0] (LV2 := [(0, .ref (G.2.2 + x0)), (1, .int (x1 + 1))]) rfl ?_
      exact ih _ _ _ h
set_option maxRecDepth 100000 in
set_option maxHeartbeats 4000000 in
theorem ctX12_laysWithout (l : Launch) (G : PG) (S : PS) (x0 : Nat) (Q : PS → Prop) (h : wpX12_laysWithout S x0 Q) : mV l yX12_laysWithout wsX12_laysWithout rmX12_laysWithout G S [.ref (G.2.2 + x0)] Q := by
  unfold mV
  refine met_of (cc := cX12_laysWithout) (maxL := 2) (ret := none) (by decide) rfl (Nat.le_of_ble_eq_true rfl) ?_
  intro p e s m args below meth c C hr hin
  unfold wpX12_laysWithout at h
  show PW p l e _ s m args below meth c _ G 2 S 0 0 [(0, .ref (G.2.2 + x0))] 0 []
  refine pw_iconst (pc := 0) (v := 0 ) C dX12_laysWithout_0 (by decide) ?_
  refine pw_istore_n (pc := 1) C [(1, .int (0 : Int32)), (0, .ref (G.2.2 + x0))] dX12_laysWithout_1 rfl (by decide) rfl ?_
  refine pw_sub [1, 0] (LV2 := [(0, .ref (G.2.2 + x0)), (1, .int (0 : Int32))]) rfl ?_
  obtain ⟨n9, h⟩ := h
  exact cbX12_laysWithout_b2 C hr hin  n9 _ _ _ h

abbrev rmX12_explains : Room := { frames := 4, cells := 0, slots := 0, locals := 103 }
theorem iX12_explains_X12 : ∀ w ∈ u_ws RX12 TX12 32, w ∈ wsX12_explains := fun _ h => List.mem_cons_of_mem _ (List.mem_append_right _ h)
def wpX12_explains_b110  (Q : Int32 → PS → Prop) : Nat → PS → Nat → Int32 → Int32 → Int32 → Int32 → Int32 → Int32 → Prop
  | 0 => fun _ _ _ _ _ _ _ _ => False
  | n + 1 => fun S x0 x1 x2 x3 x4 x5 x6 => ((x6 < 0 → (Q x5 S)) ∧ (¬ x6 < 0 → (pK S x0 = 11 ∧ (∃ o2, pR S x0 24 = some o2 ∧ (pK S o2 = 15 ∧ (vp_in x6 (pL S o2) ∧ ((¬ (pI S o2 (x6).toNatClampNeg) = 0 → (vp_in x6 (pL S o2) ∧ (wpX12_laysWithout (sI S o2 (x6).toNatClampNeg (vp_nar .boolean (0 : Int32))) x0 (fun S7 => (pK S7 x0 = 11 ∧ (∃ o9, pR S7 x0 24 = some o9 ∧ (∃ o10, pR S7 x0 4 = some o10 ∧ (pK S7 o10 = 13 ∧ (vp_in ((5 : Int32) * x1) (pL S7 o10) ∧ (vp_in (((5 : Int32) * x1) + (1 : Int32)) (pL S7 o10) ∧ (∃ o14, pR S7 x0 25 = some o14 ∧ (wpX12_hasSupport S7 x0 x3 (pI S7 o10 (((5 : Int32) * x1)).toNatClampNeg) (pI S7 o10 ((((5 : Int32) * x1) + (1 : Int32))).toNatClampNeg) o14 (fun r15 S16 => (pK S16 o9 = 15 ∧ (vp_in x6 (pL S16 o9) ∧ (pK S16 x0 = 11 ∧ (∃ o20, pR S16 x0 24 = some o20 ∧ (pK S16 o20 = 15 ∧ (vp_in x6 (pL S16 o20) ∧ (((pI (sI S16 o9 (x6).toNatClampNeg (vp_nar .boolean r15)) o20 (x6).toNatClampNeg) = 0 → (wpX12_explains_b110 Q n (sI S16 o9 (x6).toNatClampNeg (vp_nar .boolean r15)) x0 x1 x2 x3 x4 (x5 + (0 : Int32)) (x6 + (-1)))) ∧ (¬ (pI (sI S16 o9 (x6).toNatClampNeg (vp_nar .boolean r15)) o20 (x6).toNatClampNeg) = 0 → (wpX12_explains_b110 Q n (sI S16 o9 (x6).toNatClampNeg (vp_nar .boolean r15)) x0 x1 x2 x3 x4 (x5 + (1 : Int32)) (x6 + (-1)))))))))))))))))))))))) ∧ ((pI S o2 (x6).toNatClampNeg) = 0 → (wpX12_explains_b110 Q n S x0 x1 x2 x3 x4 x5 (x6 + (-1)))))))))))
def wpX12_explains_b47  (Q : Int32 → PS → Prop) : Nat → PS → Nat → Int32 → Int32 → Int32 → Int32 → Int32 → Prop
  | 0 => fun _ _ _ _ _ _ _ => False
  | n + 1 => fun S x0 x1 x2 x3 x4 x5 => (pK S x0 = 11 ∧ (((pI S x0 7) ≤ x5 → (∃ n9 : Nat, wpX12_explains_b110 Q n9 S x0 x1 x2 x3 x4 (0 : Int32) (x1 - (1 : Int32)))) ∧ (¬ (pI S x0 7) ≤ x5 → (∃ o24, pR S x0 24 = some o24 ∧ ((x4 = 0 → (pK S o24 = 15 ∧ (vp_in x5 (pL S o24) ∧ (wpX12_explains_b47 Q n (sI S o24 (x5).toNatClampNeg (vp_nar .boolean (0 : Int32))) x0 x1 x2 x3 x4 (x5 + 1))))) ∧ (¬ x4 = 0 → ((x1 ≤ x5 → (pK S o24 = 15 ∧ (vp_in x5 (pL S o24) ∧ (wpX12_explains_b47 Q n (sI S o24 (x5).toNatClampNeg (vp_nar .boolean (0 : Int32))) x0 x1 x2 x3 x4 (x5 + 1))))) ∧ (¬ x1 ≤ x5 → (∃ o29, pR S x0 4 = some o29 ∧ (pK S o29 = 13 ∧ (vp_in ((5 : Int32) * x5) (pL S o29) ∧ (wpX12_isAmong S x0 x3 (pI S o29 (((5 : Int32) * x5)).toNatClampNeg) (fun r32 S33 => ((r32 = 0 → (pK S33 o24 = 15 ∧ (vp_in x5 (pL S33 o24) ∧ (wpX12_explains_b47 Q n (sI S33 o24 (x5).toNatClampNeg (vp_nar .boolean (0 : Int32))) x0 x1 x2 x3 x4 (x5 + 1))))) ∧ (¬ r32 = 0 → (pK S33 o24 = 15 ∧ (vp_in x5 (pL S33 o24) ∧ (wpX12_explains_b47 Q n (sI S33 o24 (x5).toNatClampNeg (vp_nar .boolean (1 : Int32))) x0 x1 x2 x3 x4 (x5 + 1)))))))))))))))))))
def wpX12_explains_b32  (Q : Int32 → PS → Prop) (S : PS) (x0 : Nat) (x1 : Int32) (x2 : Int32) (t0 : Int32) : Prop := ((x2 < 0 → (∃ n9 : Nat, wpX12_explains_b47 Q n9 S x0 x1 x2 t0 (0 : Int32) (0 : Int32))) ∧ (¬ x2 < 0 → (∃ n9 : Nat, wpX12_explains_b47 Q n9 S x0 x1 x2 t0 (1 : Int32) (0 : Int32))))
def wpX12_explains (S : PS) (x0 : Nat) (x1 : Int32) (Q : Int32 → PS → Prop) : Prop := (pK S x0 = 11 ∧ (∃ o39, pR S x0 4 = some o39 ∧ (pK S o39 = 13 ∧ (vp_in (((5 : Int32) * x1) + (2 : Int32)) (pL S o39) ∧ ((¬ (pI S o39 ((((5 : Int32) * x1) + (2 : Int32))).toNatClampNeg) = (100 : Int32) → (wpX12_explains_b32 Q S x0 x1 (pI S o39 ((((5 : Int32) * x1) + (2 : Int32))).toNatClampNeg) (pI S o39 ((((5 : Int32) * x1) + (2 : Int32))).toNatClampNeg))) ∧ ((pI S o39 ((((5 : Int32) * x1) + (2 : Int32))).toNatClampNeg) = (100 : Int32) → (vp_in (((5 : Int32) * x1) + (4 : Int32)) (pL S o39) ∧ (wpX12_explains_b32 Q S x0 x1 (pI S o39 ((((5 : Int32) * x1) + (2 : Int32))).toNatClampNeg) (-(pI S o39 ((((5 : Int32) * x1) + (4 : Int32))).toNatClampNeg))))))))))
set_option maxRecDepth 100000 in
set_option maxHeartbeats 4000000 in
theorem cbX12_explains_b110 {p : Program} {l : Launch} {e : Env} {s : State} {m : MethodId} {args : Array Value} {below : List Frame} {meth : Method} {c : Code} {G : PG} {Q : Int32 → PS → Prop} (C : pCx p s m args meth c G cX12_explains 7 yX12_explains.cls wsX12_explains) (hr : meth.sig.returnType = (some .int)) (hin : meth.name = yX12_explains.name)  (n : Nat) : ∀ (S : PS) (x0 : Nat) (x1 : Int32) (x2 : Int32) (x3 : Int32) (x4 : Int32) (x5 : Int32) (x6 : Int32), wpX12_explains_b110  Q n S x0 x1 x2 x3 x4 x5 x6 → PW p l e rmX12_explains s m args below meth c (MQ below (va_Qi Q (pB G) (pFr G)) args s rmX12_explains.cells rmX12_explains.slots (pFr G)) G 7 S 0 0 [(0, .ref (G.2.2 + x0)), (1, .int x1), (2, .int x2), (3, .int x3), (4, .int x4), (5, .int x5), (6, .int x6)] 110 ([]) := by
  induction n with
  | zero => intro S x0 x1 x2 x3 x4 x5 x6 h; exact h.elim
  | succ n ih =>
    intro S x0 x1 x2 x3 x4 x5 x6 h
    unfold wpX12_explains_b110 at h
    refine pw_iload (pc := 110) C 6 dX12_explains_110 rfl ?_
    refine pw_if_lt (pc := 112) (tgt := 200) C dX12_explains_112 rfl ⟨fun hc => ?_, fun hc => ?_⟩
    · replace h := h.1 hc
      refine pw_iload (pc := 200) C 5 dX12_explains_200 rfl ?_
      exact pw_iret (pc := 202) C hr h dX12_explains_202
    · replace h := h.2 hc
      refine pw_aload_n (pc := 115) C 0 dX12_explains_115 rfl rfl ?_
      obtain ⟨hk1, h⟩ := h
      obtain ⟨o2, ho2, h⟩ := h
      refine pw_getR (pc := 116) (ref := "SupportSolverModel") (k := 24) (index := 42) C pCl10 iX12_explains_X12 hk1 rfl (by decide +kernel) (Or.inl rfl) (o := o2) ho2 dX12_explains_116 ?_
      refine pw_iload (pc := 119) C 6 dX12_explains_119 rfl ?_
      obtain ⟨hk3, h⟩ := h
      obtain ⟨hi4, h⟩ := h
      refine pw_zald (pc := 121) C hk3 hi4 dX12_explains_121 ?_
      refine pw_if_ne (pc := 122) (tgt := 128) C dX12_explains_122 rfl ⟨fun hc => ?_, fun hc => ?_⟩
      · replace h := h.1 hc
        refine pw_aload_n (pc := 128) C 0 dX12_explains_128 rfl rfl ?_
        refine pw_getR (pc := 129) (ref := "SupportSolverModel") (k := 24) (index := 42) C pCl10 iX12_explains_X12 hk1 rfl (by decide +kernel) (Or.inl rfl) (o := o2) ho2 dX12_explains_129 ?_
        refine pw_iload (pc := 132) C 6 dX12_explains_132 rfl ?_
        refine pw_iconst (pc := 134) (v := 0 ) C dX12_explains_134 (by decide) ?_
        obtain ⟨hi5, h⟩ := h
        refine pw_zast (pc := 135) C hk3 hi5 dX12_explains_135 ?_
        refine pw_aload_n (pc := 136) (S := (sI S o2 (x6).toNatClampNeg (vp_nar .boolean (0 : Int32)))) C 0 dX12_explains_136 rfl rfl ?_
        refine pw_callv (pc := 137) (S := (sI S o2 (x6).toNatClampNeg (vp_nar .boolean (0 : Int32)))) (kc2 := 0) (kn2 := 0) (pRunV (pc := 137) (S := (sI S o2 (x6).toNatClampNeg (vp_nar .boolean (0 : Int32)))) C (ctX12_laysWithout l G  _ x0 _ h) (cwV 0 C.2.2.2.2.1 gX12_explains_X12_laysWithout rfl rfl rfl (by decide +kernel) ⟨Nat.le_of_ble_eq_true rfl, Nat.le_of_ble_eq_true rfl⟩) pCl10 hk1 rfl rfl (Nat.le_of_ble_eq_true rfl) dX12_explains_137 ⟨Nat.le_of_ble_eq_true rfl, Nat.le_of_ble_eq_true rfl⟩) rfl rfl (fun S7 h => ?_)
        refine pw_aload_n (pc := 140) C 0 dX12_explains_140 rfl rfl ?_
        obtain ⟨hk8, h⟩ := h
        obtain ⟨o9, ho9, h⟩ := h
        refine pw_getR (pc := 141) (ref := "SupportSolverModel") (k := 24) (index := 42) C pCl10 iX12_explains_X12 hk8 rfl (by decide +kernel) (Or.inl rfl) (o := o9) ho9 dX12_explains_141 ?_
        refine pw_iload (pc := 144) C 6 dX12_explains_144 rfl ?_
        refine pw_aload_n (pc := 146) C 0 dX12_explains_146 rfl rfl ?_
        refine pw_iload_n (pc := 147) C 3 dX12_explains_147 rfl rfl ?_
        refine pw_aload_n (pc := 148) C 0 dX12_explains_148 rfl rfl ?_
        obtain ⟨o10, ho10, h⟩ := h
        refine pw_getR (pc := 149) (ref := "SupportSolverModel") (k := 4) (index := 19) C pCl10 iX12_explains_X12 hk8 rfl (by decide +kernel) (Or.inl rfl) (o := o10) ho10 dX12_explains_149 ?_
        refine pw_iconst (pc := 152) (v := 5 ) C dX12_explains_152 (by decide) ?_
        refine pw_iload_n (pc := 153) C 1 dX12_explains_153 rfl rfl ?_
        refine pw_imul (pc := 154) C dX12_explains_154 ?_
        obtain ⟨hk11, h⟩ := h
        obtain ⟨hi12, h⟩ := h
        refine pw_iald (pc := 155) C hk11 hi12 dX12_explains_155 ?_
        refine pw_aload_n (pc := 156) C 0 dX12_explains_156 rfl rfl ?_
        refine pw_getR (pc := 157) (ref := "SupportSolverModel") (k := 4) (index := 19) C pCl10 iX12_explains_X12 hk8 rfl (by decide +kernel) (Or.inl rfl) (o := o10) ho10 dX12_explains_157 ?_
        refine pw_iconst (pc := 160) (v := 5 ) C dX12_explains_160 (by decide) ?_
        refine pw_iload_n (pc := 161) C 1 dX12_explains_161 rfl rfl ?_
        refine pw_imul (pc := 162) C dX12_explains_162 ?_
        refine pw_iconst (pc := 163) (v := 1 ) C dX12_explains_163 (by decide) ?_
        refine pw_iadd (pc := 164) C dX12_explains_164 ?_
        obtain ⟨hi13, h⟩ := h
        refine pw_iald (pc := 165) C hk11 hi13 dX12_explains_165 ?_
        refine pw_aload_n (pc := 166) C 0 dX12_explains_166 rfl rfl ?_
        obtain ⟨o14, ho14, h⟩ := h
        refine pw_getR (pc := 167) (ref := "SupportSolverModel") (k := 25) (index := 46) C pCl10 iX12_explains_X12 hk8 rfl (by decide +kernel) (Or.inl rfl) (o := o14) ho14 dX12_explains_167 ?_
        refine pw_calli (pc := 170) (kc2 := 0) (kn2 := 0) (pRunV (pc := 170) C (ctX12_hasSupport l G  _ x0 x3 (pI S7 o10 (((5 : Int32) * x1)).toNatClampNeg) (pI S7 o10 ((((5 : Int32) * x1) + (1 : Int32))).toNatClampNeg) o14 _ h) (cwV 4 C.2.2.2.2.1 gX12_explains_X12_hasSupport rfl rfl rfl (by decide +kernel) ⟨Nat.le_of_ble_eq_true rfl, Nat.le_of_ble_eq_true rfl⟩) pCl10 hk8 rfl rfl (Nat.le_of_ble_eq_true rfl) dX12_explains_170 ⟨Nat.le_of_ble_eq_true rfl, Nat.le_of_ble_eq_true rfl⟩) rfl rfl (fun r15 S16 h => ?_)
        obtain ⟨hk17, h⟩ := h
        obtain ⟨hi18, h⟩ := h
        refine pw_zast (pc := 173) C hk17 hi18 dX12_explains_173 ?_
        refine pw_iload (pc := 174) (S := (sI S16 o9 (x6).toNatClampNeg (vp_nar .boolean r15))) C 5 dX12_explains_174 rfl ?_
        refine pw_aload_n (pc := 176) (S := (sI S16 o9 (x6).toNatClampNeg (vp_nar .boolean r15))) C 0 dX12_explains_176 rfl rfl ?_
        obtain ⟨hk19, h⟩ := h
        obtain ⟨o20, ho20, h⟩ := h
        refine pw_getR (pc := 177) (S := (sI S16 o9 (x6).toNatClampNeg (vp_nar .boolean r15))) (ref := "SupportSolverModel") (k := 24) (index := 42) C pCl10 iX12_explains_X12 hk19 rfl (by decide +kernel) (Or.inl rfl) (o := o20) ho20 dX12_explains_177 ?_
        refine pw_iload (pc := 180) (S := (sI S16 o9 (x6).toNatClampNeg (vp_nar .boolean r15))) C 6 dX12_explains_180 rfl ?_
        obtain ⟨hk21, h⟩ := h
        obtain ⟨hi22, h⟩ := h
        refine pw_zald (pc := 182) (S := (sI S16 o9 (x6).toNatClampNeg (vp_nar .boolean r15))) C hk21 hi22 dX12_explains_182 ?_
        refine pw_if_eq (pc := 183) (S := (sI S16 o9 (x6).toNatClampNeg (vp_nar .boolean r15))) (tgt := 190) C dX12_explains_183 rfl ⟨fun hc => ?_, fun hc => ?_⟩
        · replace h := h.1 hc
          refine pw_iconst (pc := 190) (S := (sI S16 o9 (x6).toNatClampNeg (vp_nar .boolean r15))) (v := 0 ) C dX12_explains_190 (by decide) ?_
          refine pw_iadd (pc := 191) (S := (sI S16 o9 (x6).toNatClampNeg (vp_nar .boolean r15))) C dX12_explains_191 ?_
          refine pw_istore (pc := 192) (S := (sI S16 o9 (x6).toNatClampNeg (vp_nar .boolean r15))) C [(5, .int (x5 + (0 : Int32))), (0, .ref (G.2.2 + x0)), (1, .int x1), (2, .int x2), (3, .int x3), (4, .int x4), (6, .int x6)] dX12_explains_192 (by decide) rfl ?_
          refine pw_iincK (pc := 194) (S := (sI S16 o9 (x6).toNatClampNeg (vp_nar .boolean r15))) (w := (-1)) C [(6, .int (x6 + (-1))), (5, .int (x5 + (0 : Int32))), (0, .ref (G.2.2 + x0)), (1, .int x1), (2, .int x2), (3, .int x3), (4, .int x4)] 6 dX12_explains_194 (by decide) rfl (by decide) rfl ?_
          refine pw_goto (pc := 197) (S := (sI S16 o9 (x6).toNatClampNeg (vp_nar .boolean r15))) (tgt := 110) C dX12_explains_197 rfl ?_
          refine pw_sub [2, 3, 4, 5, 6, 1, 0] (LV2 := [(0, .ref (G.2.2 + x0)), (1, .int x1), (2, .int x2), (3, .int x3), (4, .int x4), (5, .int (x5 + (0 : Int32))), (6, .int (x6 + (-1)))]) rfl ?_
          exact ih _ _ _ _ _ _ _ _ h
        · replace h := h.2 hc
          refine pw_iconst (pc := 186) (S := (sI S16 o9 (x6).toNatClampNeg (vp_nar .boolean r15))) (v := 1 ) C dX12_explains_186 (by decide) ?_
          refine pw_goto (pc := 187) (S := (sI S16 o9 (x6).toNatClampNeg (vp_nar .boolean r15))) (tgt := 191) C dX12_explains_187 rfl ?_
          refine pw_iadd (pc := 191) (S := (sI S16 o9 (x6).toNatClampNeg (vp_nar .boolean r15))) C dX12_explains_191 ?_
          refine pw_istore (pc := 192) (S := (sI S16 o9 (x6).toNatClampNeg (vp_nar .boolean r15))) C [(5, .int (x5 + (1 : Int32))), (0, .ref (G.2.2 + x0)), (1, .int x1), (2, .int x2), (3, .int x3), (4, .int x4), (6, .int x6)] dX12_explains_192 (by decide) rfl ?_
          refine pw_iincK (pc := 194) (S := (sI S16 o9 (x6).toNatClampNeg (vp_nar .boolean r15))) (w := (-1)) C [(6, .int (x6 + (-1))), (5, .int (x5 + (1 : Int32))), (0, .ref (G.2.2 + x0)), (1, .int x1), (2, .int x2), (3, .int x3), (4, .int x4)] 6 dX12_explains_194 (by decide) rfl (by decide) rfl ?_
          refine pw_goto (pc := 197) (S := (sI S16 o9 (x6).toNatClampNeg (vp_nar .boolean r15))) (tgt := 110) C dX12_explains_197 rfl ?_
          refine pw_sub [2, 3, 4, 5, 6, 1, 0] (LV2 := [(0, .ref (G.2.2 + x0)), (1, .int x1), (2, .int x2), (3, .int x3), (4, .int x4), (5, .int (x5 + (1 : Int32))), (6, .int (x6 + (-1)))]) rfl ?_
          exact ih _ _ _ _ _ _ _ _ h
      · replace h := h.2 hc
        refine pw_goto (pc := 125) (tgt := 194) C dX12_explains_125 rfl ?_
        refine pw_iincK (pc := 194) (w := (-1)) C [(6, .int (x6 + (-1))), (0, .ref (G.2.2 + x0)), (1, .int x1), (2, .int x2), (3, .int x3), (4, .int x4), (5, .int x5)] 6 dX12_explains_194 (by decide) rfl (by decide) rfl ?_
        refine pw_goto (pc := 197) (tgt := 110) C dX12_explains_197 rfl ?_
        refine pw_sub [1, 2, 3, 4, 5, 6, 0] (LV2 := [(0, .ref (G.2.2 + x0)), (1, .int x1), (2, .int x2), (3, .int x3), (4, .int x4), (5, .int x5), (6, .int (x6 + (-1)))]) rfl ?_
        exact ih _ _ _ _ _ _ _ _ h
set_option maxRecDepth 100000 in
set_option maxHeartbeats 4000000 in
theorem cbX12_explains_b47 {p : Program} {l : Launch} {e : Env} {s : State} {m : MethodId} {args : Array Value} {below : List Frame} {meth : Method} {c : Code} {G : PG} {Q : Int32 → PS → Prop} (C : pCx p s m args meth c G cX12_explains 7 yX12_explains.cls wsX12_explains) (hr : meth.sig.returnType = (some .int)) (hin : meth.name = yX12_explains.name)  (n : Nat) : ∀ (S : PS) (x0 : Nat) (x1 : Int32) (x2 : Int32) (x3 : Int32) (x4 : Int32) (x5 : Int32), wpX12_explains_b47  Q n S x0 x1 x2 x3 x4 x5 → PW p l e rmX12_explains s m args below meth c (MQ below (va_Qi Q (pB G) (pFr G)) args s rmX12_explains.cells rmX12_explains.slots (pFr G)) G 7 S 0 0 [(0, .ref (G.2.2 + x0)), (1, .int x1), (2, .int x2), (3, .int x3), (4, .int x4), (5, .int x5)] 47 ([]) := by
  induction n with
  | zero => intro S x0 x1 x2 x3 x4 x5 h; exact h.elim
  | succ n ih =>
    intro S x0 x1 x2 x3 x4 x5 h
    unfold wpX12_explains_b47 at h
    refine pw_iload (pc := 47) C 5 dX12_explains_47 rfl ?_
    refine pw_aload_n (pc := 49) C 0 dX12_explains_49 rfl rfl ?_
    obtain ⟨hk23, h⟩ := h
    refine pw_getI (pc := 50) (ref := "SupportSolverModel") (k := 7) (index := 73) C pCl10 iX12_explains_X12 hk23 rfl (by decide +kernel) (Or.inl rfl) dX12_explains_50 ?_
    refine pw_icmp_ge (pc := 53) (tgt := 102) C dX12_explains_53 rfl ⟨fun hc => ?_, fun hc => ?_⟩
    · replace h := h.1 hc
      refine pw_iconst (pc := 102) (v := 0 ) C dX12_explains_102 (by decide) ?_
      refine pw_istore (pc := 103) C [(5, .int (0 : Int32)), (0, .ref (G.2.2 + x0)), (1, .int x1), (2, .int x2), (3, .int x3), (4, .int x4)] dX12_explains_103 (by decide) rfl ?_
      refine pw_iload_n (pc := 105) C 2 dX12_explains_105 rfl rfl ?_
      refine pw_iconst (pc := 106) (v := 1 ) C dX12_explains_106 (by decide) ?_
      refine pw_isub (pc := 107) C dX12_explains_107 ?_
      refine pw_istore (pc := 108) C [(6, .int (x1 - (1 : Int32))), (5, .int (0 : Int32)), (0, .ref (G.2.2 + x0)), (1, .int x1), (2, .int x2), (3, .int x3), (4, .int x4)] dX12_explains_108 (by decide) rfl ?_
      refine pw_sub [2, 3, 4, 5, 6, 1, 0] (LV2 := [(0, .ref (G.2.2 + x0)), (1, .int x1), (2, .int x2), (3, .int x3), (4, .int x4), (5, .int (0 : Int32)), (6, .int (x1 - (1 : Int32)))]) rfl ?_
      obtain ⟨n9, h⟩ := h
      exact cbX12_explains_b110 C hr hin  n9 _ _ _ _ _ _ _ _ h
    · replace h := h.2 hc
      refine pw_aload_n (pc := 56) C 0 dX12_explains_56 rfl rfl ?_
      obtain ⟨o24, ho24, h⟩ := h
      refine pw_getR (pc := 57) (ref := "SupportSolverModel") (k := 24) (index := 42) C pCl10 iX12_explains_X12 hk23 rfl (by decide +kernel) (Or.inl rfl) (o := o24) ho24 dX12_explains_57 ?_
      refine pw_iload (pc := 60) C 5 dX12_explains_60 rfl ?_
      refine pw_iload (pc := 62) C 4 dX12_explains_62 rfl ?_
      refine pw_if_eq (pc := 64) (tgt := 94) C dX12_explains_64 rfl ⟨fun hc => ?_, fun hc => ?_⟩
      · replace h := h.1 hc
        refine pw_iconst (pc := 94) (v := 0 ) C dX12_explains_94 (by decide) ?_
        obtain ⟨hk25, h⟩ := h
        obtain ⟨hi26, h⟩ := h
        refine pw_zast (pc := 95) C hk25 hi26 dX12_explains_95 ?_
        refine pw_iincK (pc := 96) (S := (sI S o24 (x5).toNatClampNeg (vp_nar .boolean (0 : Int32)))) (w := 1) C [(5, .int (x5 + 1)), (0, .ref (G.2.2 + x0)), (1, .int x1), (2, .int x2), (3, .int x3), (4, .int x4)] 5 dX12_explains_96 (by decide) rfl (by decide) rfl ?_
        refine pw_goto (pc := 99) (S := (sI S o24 (x5).toNatClampNeg (vp_nar .boolean (0 : Int32)))) (tgt := 47) C dX12_explains_99 rfl ?_
        refine pw_sub [1, 2, 3, 4, 5, 0] (LV2 := [(0, .ref (G.2.2 + x0)), (1, .int x1), (2, .int x2), (3, .int x3), (4, .int x4), (5, .int (x5 + 1))]) rfl ?_
        exact ih _ _ _ _ _ _ _ h
      · replace h := h.2 hc
        refine pw_iload (pc := 67) C 5 dX12_explains_67 rfl ?_
        refine pw_iload_n (pc := 69) C 1 dX12_explains_69 rfl rfl ?_
        refine pw_icmp_ge (pc := 70) (tgt := 94) C dX12_explains_70 rfl ⟨fun hc => ?_, fun hc => ?_⟩
        · replace h := h.1 hc
          refine pw_iconst (pc := 94) (v := 0 ) C dX12_explains_94 (by decide) ?_
          obtain ⟨hk27, h⟩ := h
          obtain ⟨hi28, h⟩ := h
          refine pw_zast (pc := 95) C hk27 hi28 dX12_explains_95 ?_
          refine pw_iincK (pc := 96) (S := (sI S o24 (x5).toNatClampNeg (vp_nar .boolean (0 : Int32)))) (w := 1) C [(5, .int (x5 + 1)), (0, .ref (G.2.2 + x0)), (1, .int x1), (2, .int x2), (3, .int x3), (4, .int x4)] 5 dX12_explains_96 (by decide) rfl (by decide) rfl ?_
          refine pw_goto (pc := 99) (S := (sI S o24 (x5).toNatClampNeg (vp_nar .boolean (0 : Int32)))) (tgt := 47) C dX12_explains_99 rfl ?_
          refine pw_sub [1, 2, 3, 4, 5, 0] (LV2 := [(0, .ref (G.2.2 + x0)), (1, .int x1), (2, .int x2), (3, .int x3), (4, .int x4), (5, .int (x5 + 1))]) rfl ?_
          exact ih _ _ _ _ _ _ _ h
        · replace h := h.2 hc
          refine pw_aload_n (pc := 73) C 0 dX12_explains_73 rfl rfl ?_
          refine pw_iload_n (pc := 74) C 3 dX12_explains_74 rfl rfl ?_
          refine pw_aload_n (pc := 75) C 0 dX12_explains_75 rfl rfl ?_
          obtain ⟨o29, ho29, h⟩ := h
          refine pw_getR (pc := 76) (ref := "SupportSolverModel") (k := 4) (index := 19) C pCl10 iX12_explains_X12 hk23 rfl (by decide +kernel) (Or.inl rfl) (o := o29) ho29 dX12_explains_76 ?_
          refine pw_iconst (pc := 79) (v := 5 ) C dX12_explains_79 (by decide) ?_
          refine pw_iload (pc := 80) C 5 dX12_explains_80 rfl ?_
          refine pw_imul (pc := 82) C dX12_explains_82 ?_
          obtain ⟨hk30, h⟩ := h
          obtain ⟨hi31, h⟩ := h
          refine pw_iald (pc := 83) C hk30 hi31 dX12_explains_83 ?_
          refine pw_calli (pc := 84) (kc2 := 0) (kn2 := 0) (pRunV (pc := 84) C (ctX12_isAmong l G  _ x0 x3 (pI S o29 (((5 : Int32) * x5)).toNatClampNeg) _ h) (cwV 2 C.2.2.2.2.1 gX12_explains_X12_isAmong rfl rfl rfl (by decide +kernel) ⟨Nat.le_of_ble_eq_true rfl, Nat.le_of_ble_eq_true rfl⟩) pCl10 hk23 rfl rfl (Nat.le_of_ble_eq_true rfl) dX12_explains_84 ⟨Nat.le_of_ble_eq_true rfl, Nat.le_of_ble_eq_true rfl⟩) rfl rfl (fun r32 S33 h => ?_)
          refine pw_if_eq (pc := 87) (tgt := 94) C dX12_explains_87 rfl ⟨fun hc => ?_, fun hc => ?_⟩
          · replace h := h.1 hc
            refine pw_iconst (pc := 94) (v := 0 ) C dX12_explains_94 (by decide) ?_
            obtain ⟨hk34, h⟩ := h
            obtain ⟨hi35, h⟩ := h
            refine pw_zast (pc := 95) C hk34 hi35 dX12_explains_95 ?_
            refine pw_iincK (pc := 96) (S := (sI S33 o24 (x5).toNatClampNeg (vp_nar .boolean (0 : Int32)))) (w := 1) C [(5, .int (x5 + 1)), (0, .ref (G.2.2 + x0)), (1, .int x1), (2, .int x2), (3, .int x3), (4, .int x4)] 5 dX12_explains_96 (by decide) rfl (by decide) rfl ?_
            refine pw_goto (pc := 99) (S := (sI S33 o24 (x5).toNatClampNeg (vp_nar .boolean (0 : Int32)))) (tgt := 47) C dX12_explains_99 rfl ?_
            refine pw_sub [1, 2, 3, 4, 5, 0] (LV2 := [(0, .ref (G.2.2 + x0)), (1, .int x1), (2, .int x2), (3, .int x3), (4, .int x4), (5, .int (x5 + 1))]) rfl ?_
            exact ih _ _ _ _ _ _ _ h
          · replace h := h.2 hc
            refine pw_iconst (pc := 90) (v := 1 ) C dX12_explains_90 (by decide) ?_
            refine pw_goto (pc := 91) (tgt := 95) C dX12_explains_91 rfl ?_
            obtain ⟨hk36, h⟩ := h
            obtain ⟨hi37, h⟩ := h
            refine pw_zast (pc := 95) C hk36 hi37 dX12_explains_95 ?_
            refine pw_iincK (pc := 96) (S := (sI S33 o24 (x5).toNatClampNeg (vp_nar .boolean (1 : Int32)))) (w := 1) C [(5, .int (x5 + 1)), (0, .ref (G.2.2 + x0)), (1, .int x1), (2, .int x2), (3, .int x3), (4, .int x4)] 5 dX12_explains_96 (by decide) rfl (by decide) rfl ?_
            refine pw_goto (pc := 99) (S := (sI S33 o24 (x5).toNatClampNeg (vp_nar .boolean (1 : Int32)))) (tgt := 47) C dX12_explains_99 rfl ?_
            refine pw_sub [1, 2, 3, 4, 5, 0] (LV2 := [(0, .ref (G.2.2 + x0)), (1, .int x1), (2, .int x2), (3, .int x3), (4, .int x4), (5, .int (x5 + 1))]) rfl ?_
            exact ih _ _ _ _ _ _ _ h
set_option maxRecDepth 100000 in
set_option maxHeartbeats 4000000 in
theorem cbX12_explains_b32 {p : Program} {l : Launch} {e : Env} {s : State} {m : MethodId} {args : Array Value} {below : List Frame} {meth : Method} {c : Code} {G : PG} {Q : Int32 → PS → Prop} (C : pCx p s m args meth c G cX12_explains 7 yX12_explains.cls wsX12_explains) (hr : meth.sig.returnType = (some .int)) (hin : meth.name = yX12_explains.name)  : ∀ (S : PS) (x0 : Nat) (x1 : Int32) (x2 : Int32) (t0 : Int32), wpX12_explains_b32  Q S x0 x1 x2 t0 → PW p l e rmX12_explains s m args below meth c (MQ below (va_Qi Q (pB G) (pFr G)) args s rmX12_explains.cells rmX12_explains.slots (pFr G)) G 7 S 0 0 [(0, .ref (G.2.2 + x0)), (1, .int x1), (2, .int x2)] 32 (.int t0 :: []) := by
  intro S x0 x1 x2 t0 h
  unfold wpX12_explains_b32 at h
  refine pw_istore_n (pc := 32) C [(3, .int t0), (0, .ref (G.2.2 + x0)), (1, .int x1), (2, .int x2)] dX12_explains_32 rfl (by decide) rfl ?_
  refine pw_iload_n (pc := 33) C 3 dX12_explains_33 rfl rfl ?_
  refine pw_if_lt (pc := 34) (tgt := 41) C dX12_explains_34 rfl ⟨fun hc => ?_, fun hc => ?_⟩
  · replace h := h.1 hc
    refine pw_iconst (pc := 41) (v := 0 ) C dX12_explains_41 (by decide) ?_
    refine pw_istore (pc := 42) C [(4, .int (0 : Int32)), (3, .int t0), (0, .ref (G.2.2 + x0)), (1, .int x1), (2, .int x2)] dX12_explains_42 (by decide) rfl ?_
    refine pw_iconst (pc := 44) (v := 0 ) C dX12_explains_44 (by decide) ?_
    refine pw_istore (pc := 45) C [(5, .int (0 : Int32)), (4, .int (0 : Int32)), (3, .int t0), (0, .ref (G.2.2 + x0)), (1, .int x1), (2, .int x2)] dX12_explains_45 (by decide) rfl ?_
    refine pw_sub [3, 4, 5, 2, 1, 0] (LV2 := [(0, .ref (G.2.2 + x0)), (1, .int x1), (2, .int x2), (3, .int t0), (4, .int (0 : Int32)), (5, .int (0 : Int32))]) rfl ?_
    obtain ⟨n9, h⟩ := h
    exact cbX12_explains_b47 C hr hin  n9 _ _ _ _ _ _ _ h
  · replace h := h.2 hc
    refine pw_iconst (pc := 37) (v := 1 ) C dX12_explains_37 (by decide) ?_
    refine pw_goto (pc := 38) (tgt := 42) C dX12_explains_38 rfl ?_
    refine pw_istore (pc := 42) C [(4, .int (1 : Int32)), (3, .int t0), (0, .ref (G.2.2 + x0)), (1, .int x1), (2, .int x2)] dX12_explains_42 (by decide) rfl ?_
    refine pw_iconst (pc := 44) (v := 0 ) C dX12_explains_44 (by decide) ?_
    refine pw_istore (pc := 45) C [(5, .int (0 : Int32)), (4, .int (1 : Int32)), (3, .int t0), (0, .ref (G.2.2 + x0)), (1, .int x1), (2, .int x2)] dX12_explains_45 (by decide) rfl ?_
    refine pw_sub [3, 4, 5, 2, 1, 0] (LV2 := [(0, .ref (G.2.2 + x0)), (1, .int x1), (2, .int x2), (3, .int t0), (4, .int (1 : Int32)), (5, .int (0 : Int32))]) rfl ?_
    obtain ⟨n9, h⟩ := h
    exact cbX12_explains_b47 C hr hin  n9 _ _ _ _ _ _ _ h
set_option maxRecDepth 100000 in
set_option maxHeartbeats 4000000 in
theorem ctX12_explains (l : Launch) (G : PG) (S : PS) (x0 : Nat) (x1 : Int32) (Q : Int32 → PS → Prop) (h : wpX12_explains S x0 x1 Q) : mI l yX12_explains wsX12_explains rmX12_explains G S [.ref (G.2.2 + x0), .int x1] Q := by
  unfold mI
  refine met_of (cc := cX12_explains) (maxL := 7) (ret := (some .int)) (by decide) rfl (Nat.le_of_ble_eq_true rfl) ?_
  intro p e s m args below meth c C hr hin
  unfold wpX12_explains at h
  show PW p l e _ s m args below meth c _ G 7 S 0 0 [(0, .ref (G.2.2 + x0)), (1, .int x1)] 0 []
  refine pw_aload_n (pc := 0) C 0 dX12_explains_0 rfl rfl ?_
  obtain ⟨hk38, h⟩ := h
  obtain ⟨o39, ho39, h⟩ := h
  refine pw_getR (pc := 1) (ref := "SupportSolverModel") (k := 4) (index := 19) C pCl10 iX12_explains_X12 hk38 rfl (by decide +kernel) (Or.inl rfl) (o := o39) ho39 dX12_explains_1 ?_
  refine pw_iconst (pc := 4) (v := 5 ) C dX12_explains_4 (by decide) ?_
  refine pw_iload_n (pc := 5) C 1 dX12_explains_5 rfl rfl ?_
  refine pw_imul (pc := 6) C dX12_explains_6 ?_
  refine pw_iconst (pc := 7) (v := 2 ) C dX12_explains_7 (by decide) ?_
  refine pw_iadd (pc := 8) C dX12_explains_8 ?_
  obtain ⟨hk40, h⟩ := h
  obtain ⟨hi41, h⟩ := h
  refine pw_iald (pc := 9) C hk40 hi41 dX12_explains_9 ?_
  refine pw_istore_n (pc := 10) C [(2, .int (pI S o39 ((((5 : Int32) * x1) + (2 : Int32))).toNatClampNeg)), (0, .ref (G.2.2 + x0)), (1, .int x1)] dX12_explains_10 rfl (by decide) rfl ?_
  refine pw_iload_n (pc := 11) C 0 dX12_explains_11 rfl rfl ?_
  refine pw_bipush (pc := 12) (v := 100 ) C dX12_explains_12 (by decide) ?_
  refine pw_icmp_ne (pc := 14) (tgt := 31) C dX12_explains_14 rfl ⟨fun hc => ?_, fun hc => ?_⟩
  · replace h := h.1 hc
    refine pw_iload_n (pc := 31) C 0 dX12_explains_31 rfl rfl ?_
    refine pw_sub [1, 2, 0] (LV2 := [(0, .ref (G.2.2 + x0)), (1, .int x1), (2, .int (pI S o39 ((((5 : Int32) * x1) + (2 : Int32))).toNatClampNeg))]) rfl ?_
    exact cbX12_explains_b32 C hr hin  _ _ _ _ _ h
  · replace h := h.2 hc
    refine pw_aload_n (pc := 17) C 1 dX12_explains_17 rfl rfl ?_
    refine pw_getR (pc := 18) (ref := "SupportSolverModel") (k := 4) (index := 19) C pCl10 iX12_explains_X12 hk38 rfl (by decide +kernel) (Or.inl rfl) (o := o39) ho39 dX12_explains_18 ?_
    refine pw_iconst (pc := 21) (v := 5 ) C dX12_explains_21 (by decide) ?_
    refine pw_iload_n (pc := 22) C 2 dX12_explains_22 rfl rfl ?_
    refine pw_imul (pc := 23) C dX12_explains_23 ?_
    refine pw_iconst (pc := 24) (v := 4 ) C dX12_explains_24 (by decide) ?_
    refine pw_iadd (pc := 25) C dX12_explains_25 ?_
    obtain ⟨hi42, h⟩ := h
    refine pw_iald (pc := 26) C hk40 hi42 dX12_explains_26 ?_
    refine pw_ineg (pc := 27) C dX12_explains_27 ?_
    refine pw_goto (pc := 28) (tgt := 32) C dX12_explains_28 rfl ?_
    refine pw_sub [1, 2, 0] (LV2 := [(0, .ref (G.2.2 + x0)), (1, .int x1), (2, .int (pI S o39 ((((5 : Int32) * x1) + (2 : Int32))).toNatClampNeg))]) rfl ?_
    exact cbX12_explains_b32 C hr hin  _ _ _ _ _ h

abbrev rmX12_explanationSize : Room := { frames := 5, cells := 0, slots := 0, locals := 129 }
theorem iX12_explanationSize_X12 : ∀ w ∈ u_ws RX12 TX12 32, w ∈ wsX12_explanationSize := fun _ h => List.mem_cons_of_mem _ (List.mem_append_right _ h)
def wpX12_explanationSize (S : PS) (x0 : Nat) (x1 : Int32) (Q : Int32 → PS → Prop) : Prop := (pK S x0 = 11 ∧ (wpX12_isFact (sI S x0 0 (0 : Int32)) x0 x1 (fun r2 S3 => (pK S3 x0 = 11 ∧ (wpX12_may S3 x0 r2 (1 : Int32) (fun r5 S6 => ((r5 = 0 → (Q (0 : Int32) S6)) ∧ (¬ r5 = 0 → (pK S6 x0 = 11 ∧ (wpX12_explains S6 x0 x1 (fun r8 S9 => (Q r8 S9))))))))))))
set_option maxRecDepth 100000 in
set_option maxHeartbeats 4000000 in
theorem ctX12_explanationSize (l : Launch) (G : PG) (S : PS) (x0 : Nat) (x1 : Int32) (Q : Int32 → PS → Prop) (h : wpX12_explanationSize S x0 x1 Q) : mI l yX12_explanationSize wsX12_explanationSize rmX12_explanationSize G S [.ref (G.2.2 + x0), .int x1] Q := by
  unfold mI
  refine met_of (cc := cX12_explanationSize) (maxL := 2) (ret := (some .int)) (by decide) rfl (Nat.le_of_ble_eq_true rfl) ?_
  intro p e s m args below meth c C hr hin
  unfold wpX12_explanationSize at h
  show PW p l e _ s m args below meth c _ G 2 S 0 0 [(0, .ref (G.2.2 + x0)), (1, .int x1)] 0 []
  refine pw_aload_n (pc := 0) C 0 dX12_explanationSize_0 rfl rfl ?_
  refine pw_iconst (pc := 1) (v := 0 ) C dX12_explanationSize_1 (by decide) ?_
  obtain ⟨hk1, h⟩ := h
  refine pw_putI (pc := 2) (ref := "SupportSolverModel") (k := 0) (index := 70) C pCl10 iX12_explanationSize_X12 hk1 rfl (by decide +kernel) (Or.inl rfl) (Or.inl rfl) rfl rfl dX12_explanationSize_2 ?_
  refine pw_aload_n (pc := 5) (S := (sI S x0 0 (0 : Int32))) C 0 dX12_explanationSize_5 rfl rfl ?_
  refine pw_aload_n (pc := 6) (S := (sI S x0 0 (0 : Int32))) C 0 dX12_explanationSize_6 rfl rfl ?_
  refine pw_iload_n (pc := 7) (S := (sI S x0 0 (0 : Int32))) C 1 dX12_explanationSize_7 rfl rfl ?_
  refine pw_calli (pc := 8) (S := (sI S x0 0 (0 : Int32))) (kc2 := 0) (kn2 := 0) (pRunV (pc := 8) (S := (sI S x0 0 (0 : Int32))) C (ctX12_isFact l G  _ x0 x1 _ h) (cwV 1 C.2.2.2.2.1 gX12_explanationSize_X12_isFact rfl rfl rfl (by decide +kernel) ⟨Nat.le_of_ble_eq_true rfl, Nat.le_of_ble_eq_true rfl⟩) pCl10 hk1 rfl rfl (Nat.le_of_ble_eq_true rfl) dX12_explanationSize_8 ⟨Nat.le_of_ble_eq_true rfl, Nat.le_of_ble_eq_true rfl⟩) rfl rfl (fun r2 S3 h => ?_)
  refine pw_iconst (pc := 11) (v := 1 ) C dX12_explanationSize_11 (by decide) ?_
  obtain ⟨hk4, h⟩ := h
  refine pw_calli (pc := 12) (kc2 := 0) (kn2 := 0) (pRunV (pc := 12) C (ctX12_may l G  _ x0 r2 (1 : Int32) _ h) (cwV 2 C.2.2.2.2.1 gX12_explanationSize_X12_may rfl rfl rfl (by decide +kernel) ⟨Nat.le_of_ble_eq_true rfl, Nat.le_of_ble_eq_true rfl⟩) pCl10 hk4 rfl rfl (Nat.le_of_ble_eq_true rfl) dX12_explanationSize_12 ⟨Nat.le_of_ble_eq_true rfl, Nat.le_of_ble_eq_true rfl⟩) rfl rfl (fun r5 S6 h => ?_)
  refine pw_if_eq (pc := 15) (tgt := 26) C dX12_explanationSize_15 rfl ⟨fun hc => ?_, fun hc => ?_⟩
  · replace h := h.1 hc
    refine pw_iconst (pc := 26) (v := 0 ) C dX12_explanationSize_26 (by decide) ?_
    exact pw_iret (pc := 27) C hr h dX12_explanationSize_27
  · replace h := h.2 hc
    refine pw_aload_n (pc := 18) C 0 dX12_explanationSize_18 rfl rfl ?_
    refine pw_iload_n (pc := 19) C 1 dX12_explanationSize_19 rfl rfl ?_
    obtain ⟨hk7, h⟩ := h
    refine pw_calli (pc := 20) (kc2 := 0) (kn2 := 0) (pRunV (pc := 20) C (ctX12_explains l G  _ x0 x1 _ h) (cwV 1 C.2.2.2.2.1 gX12_explanationSize_X12_explains rfl rfl rfl (by decide +kernel) ⟨Nat.le_of_ble_eq_true rfl, Nat.le_of_ble_eq_true rfl⟩) pCl10 hk7 rfl rfl (Nat.le_of_ble_eq_true rfl) dX12_explanationSize_20 ⟨Nat.le_of_ble_eq_true rfl, Nat.le_of_ble_eq_true rfl⟩) rfl rfl (fun r8 S9 h => ?_)
    refine pw_goto (pc := 23) (tgt := 27) C dX12_explanationSize_23 rfl ?_
    exact pw_iret (pc := 27) C hr h dX12_explanationSize_27

abbrev rmX12_explained : Room := { frames := 5, cells := 0, slots := 0, locals := 129 }
theorem iX12_explained_X12 : ∀ w ∈ u_ws RX12 TX12 32, w ∈ wsX12_explained := fun _ h => List.mem_cons_of_mem _ (List.mem_append_right _ h)
def wpX12_explained_b59 (K45 : PS → Nat → Int32 → Int32 → Int32 → Int32 → Prop) (Q : Int32 → PS → Prop) (S : PS) (x0 : Nat) (x1 : Int32) (x2 : Int32) (x3 : Int32) (x4 : Int32) : Prop := (pK S x0 = 11 ∧ (∃ o2, pR S x0 24 = some o2 ∧ (pK S o2 = 15 ∧ (vp_in x3 (pL S o2) ∧ (((pI S o2 (x3).toNatClampNeg) = 0 → (K45 S x0 x1 x2 (x3 + 1) (x4 - (0 : Int32)))) ∧ (¬ (pI S o2 (x3).toNatClampNeg) = 0 → (K45 S x0 x1 x2 (x3 + 1) (x4 - (1 : Int32)))))))))
def wpX12_explained_b45  (Q : Int32 → PS → Prop) : Nat → PS → Nat → Int32 → Int32 → Int32 → Int32 → Prop
  | 0 => fun _ _ _ _ _ _ => False
  | n + 1 => fun S x0 x1 x2 x3 x4 => ((0 < x4 → (wpX12_explained_b59 (wpX12_explained_b45 Q n) Q S x0 x1 x2 x3 x4)) ∧ (¬ 0 < x4 → (pK S x0 = 11 ∧ (∃ o6, pR S x0 24 = some o6 ∧ (pK S o6 = 15 ∧ (vp_in x3 (pL S o6) ∧ ((¬ (pI S o6 (x3).toNatClampNeg) = 0 → (Q x3 S)) ∧ ((pI S o6 (x3).toNatClampNeg) = 0 → (wpX12_explained_b59 (wpX12_explained_b45 Q n) Q S x0 x1 x2 x3 x4)))))))))
def wpX12_explained (S : PS) (x0 : Nat) (x1 : Int32) (x2 : Int32) (Q : Int32 → PS → Prop) : Prop := (pK S x0 = 11 ∧ (wpX12_isFact (sI S x0 0 (0 : Int32)) x0 x1 (fun r10 S11 => (pK S11 x0 = 11 ∧ (wpX12_may S11 x0 r10 (1 : Int32) (fun r13 S14 => ((r13 = 0 → (Q (0 : Int32) S14)) ∧ (¬ r13 = 0 → (pK S14 x0 = 11 ∧ (wpX12_explains S14 x0 x1 (fun r16 S17 => (wpX12_isIn S17 x2 (0 : Int32) (r16 - (1 : Int32)) (fun r18 S19 => (pK S19 x0 = 11 ∧ (wpX12_may S19 x0 r18 (1 : Int32) (fun r21 S22 => ((¬ r21 = 0 → (∃ n9 : Nat, wpX12_explained_b45 Q n9 S22 x0 x1 x2 (0 : Int32) x2)) ∧ (r21 = 0 → (Q (0 : Int32) S22)))))))))))))))))))
set_option maxRecDepth 100000 in
set_option maxHeartbeats 4000000 in
theorem cbX12_explained_b59 {p : Program} {l : Launch} {e : Env} {s : State} {m : MethodId} {args : Array Value} {below : List Frame} {meth : Method} {c : Code} {G : PG} {Q : Int32 → PS → Prop} (C : pCx p s m args meth c G cX12_explained 5 yX12_explained.cls wsX12_explained) (hr : meth.sig.returnType = (some .int)) (hin : meth.name = yX12_explained.name) {K45 : PS → Nat → Int32 → Int32 → Int32 → Int32 → Prop} (hK45 : ∀ (S : PS) (x0 : Nat) (x1 : Int32) (x2 : Int32) (x3 : Int32) (x4 : Int32), K45 S x0 x1 x2 x3 x4 → PW p l e rmX12_explained s m args below meth c (MQ below (va_Qi Q (pB G) (pFr G)) args s rmX12_explained.cells rmX12_explained.slots (pFr G)) G 5 S 0 0 [(0, .ref (G.2.2 + x0)), (1, .int x1), (2, .int x2), (3, .int x3), (4, .int x4)] 45 ([])) : ∀ (S : PS) (x0 : Nat) (x1 : Int32) (x2 : Int32) (x3 : Int32) (x4 : Int32), wpX12_explained_b59 K45 Q S x0 x1 x2 x3 x4 → PW p l e rmX12_explained s m args below meth c (MQ below (va_Qi Q (pB G) (pFr G)) args s rmX12_explained.cells rmX12_explained.slots (pFr G)) G 5 S 0 0 [(0, .ref (G.2.2 + x0)), (1, .int x1), (2, .int x2), (3, .int x3), (4, .int x4)] 59 ([]) := by
  intro S x0 x1 x2 x3 x4 h
  unfold wpX12_explained_b59 at h
  refine pw_iload (pc := 59) C 4 dX12_explained_59 rfl ?_
  refine pw_aload_n (pc := 61) C 0 dX12_explained_61 rfl rfl ?_
  obtain ⟨hk1, h⟩ := h
  obtain ⟨o2, ho2, h⟩ := h
  refine pw_getR (pc := 62) (ref := "SupportSolverModel") (k := 24) (index := 42) C pCl10 iX12_explained_X12 hk1 rfl (by decide +kernel) (Or.inl rfl) (o := o2) ho2 dX12_explained_62 ?_
  refine pw_iload_n (pc := 65) C 3 dX12_explained_65 rfl rfl ?_
  obtain ⟨hk3, h⟩ := h
  obtain ⟨hi4, h⟩ := h
  refine pw_zald (pc := 66) C hk3 hi4 dX12_explained_66 ?_
  refine pw_if_eq (pc := 67) (tgt := 74) C dX12_explained_67 rfl ⟨fun hc => ?_, fun hc => ?_⟩
  · replace h := h.1 hc
    refine pw_iconst (pc := 74) (v := 0 ) C dX12_explained_74 (by decide) ?_
    refine pw_isub (pc := 75) C dX12_explained_75 ?_
    refine pw_istore (pc := 76) C [(4, .int (x4 - (0 : Int32))), (0, .ref (G.2.2 + x0)), (1, .int x1), (2, .int x2), (3, .int x3)] dX12_explained_76 (by decide) rfl ?_
    refine pw_iincK (pc := 78) (w := 1) C [(3, .int (x3 + 1)), (4, .int (x4 - (0 : Int32))), (0, .ref (G.2.2 + x0)), (1, .int x1), (2, .int x2)] 4 dX12_explained_78 (by decide) rfl (by decide) rfl ?_
    refine pw_goto (pc := 81) (tgt := 45) C dX12_explained_81 rfl ?_
    refine pw_sub [2, 3, 4, 0, 1] (LV2 := [(0, .ref (G.2.2 + x0)), (1, .int x1), (2, .int x2), (3, .int (x3 + 1)), (4, .int (x4 - (0 : Int32)))]) rfl ?_
    exact hK45 _ _ _ _ _ _ h
  · replace h := h.2 hc
    refine pw_iconst (pc := 70) (v := 1 ) C dX12_explained_70 (by decide) ?_
    refine pw_goto (pc := 71) (tgt := 75) C dX12_explained_71 rfl ?_
    refine pw_isub (pc := 75) C dX12_explained_75 ?_
    refine pw_istore (pc := 76) C [(4, .int (x4 - (1 : Int32))), (0, .ref (G.2.2 + x0)), (1, .int x1), (2, .int x2), (3, .int x3)] dX12_explained_76 (by decide) rfl ?_
    refine pw_iincK (pc := 78) (w := 1) C [(3, .int (x3 + 1)), (4, .int (x4 - (1 : Int32))), (0, .ref (G.2.2 + x0)), (1, .int x1), (2, .int x2)] 4 dX12_explained_78 (by decide) rfl (by decide) rfl ?_
    refine pw_goto (pc := 81) (tgt := 45) C dX12_explained_81 rfl ?_
    refine pw_sub [2, 3, 4, 0, 1] (LV2 := [(0, .ref (G.2.2 + x0)), (1, .int x1), (2, .int x2), (3, .int (x3 + 1)), (4, .int (x4 - (1 : Int32)))]) rfl ?_
    exact hK45 _ _ _ _ _ _ h
set_option maxRecDepth 100000 in
set_option maxHeartbeats 4000000 in
theorem cbX12_explained_b45 {p : Program} {l : Launch} {e : Env} {s : State} {m : MethodId} {args : Array Value} {below : List Frame} {meth : Method} {c : Code} {G : PG} {Q : Int32 → PS → Prop} (C : pCx p s m args meth c G cX12_explained 5 yX12_explained.cls wsX12_explained) (hr : meth.sig.returnType = (some .int)) (hin : meth.name = yX12_explained.name)  (n : Nat) : ∀ (S : PS) (x0 : Nat) (x1 : Int32) (x2 : Int32) (x3 : Int32) (x4 : Int32), wpX12_explained_b45  Q n S x0 x1 x2 x3 x4 → PW p l e rmX12_explained s m args below meth c (MQ below (va_Qi Q (pB G) (pFr G)) args s rmX12_explained.cells rmX12_explained.slots (pFr G)) G 5 S 0 0 [(0, .ref (G.2.2 + x0)), (1, .int x1), (2, .int x2), (3, .int x3), (4, .int x4)] 45 ([]) := by
  induction n with
  | zero => intro S x0 x1 x2 x3 x4 h; exact h.elim
  | succ n ih =>
    intro S x0 x1 x2 x3 x4 h
    unfold wpX12_explained_b45 at h
    refine pw_iload (pc := 45) C 4 dX12_explained_45 rfl ?_
    refine pw_if_gt (pc := 47) (tgt := 59) C dX12_explained_47 rfl ⟨fun hc => ?_, fun hc => ?_⟩
    · replace h := h.1 hc
      exact cbX12_explained_b59 C hr hin ih _ _ _ _ _ _ h
    · replace h := h.2 hc
      refine pw_aload_n (pc := 50) C 0 dX12_explained_50 rfl rfl ?_
      obtain ⟨hk5, h⟩ := h
      obtain ⟨o6, ho6, h⟩ := h
      refine pw_getR (pc := 51) (ref := "SupportSolverModel") (k := 24) (index := 42) C pCl10 iX12_explained_X12 hk5 rfl (by decide +kernel) (Or.inl rfl) (o := o6) ho6 dX12_explained_51 ?_
      refine pw_iload_n (pc := 54) C 3 dX12_explained_54 rfl rfl ?_
      obtain ⟨hk7, h⟩ := h
      obtain ⟨hi8, h⟩ := h
      refine pw_zald (pc := 55) C hk7 hi8 dX12_explained_55 ?_
      refine pw_if_ne (pc := 56) (tgt := 84) C dX12_explained_56 rfl ⟨fun hc => ?_, fun hc => ?_⟩
      · replace h := h.1 hc
        refine pw_iload_n (pc := 84) C 3 dX12_explained_84 rfl rfl ?_
        exact pw_iret (pc := 85) C hr h dX12_explained_85
      · replace h := h.2 hc
        exact cbX12_explained_b59 C hr hin ih _ _ _ _ _ _ h
set_option maxRecDepth 100000 in
set_option maxHeartbeats 4000000 in
theorem ctX12_explained (l : Launch) (G : PG) (S : PS) (x0 : Nat) (x1 : Int32) (x2 : Int32) (Q : Int32 → PS → Prop) (h : wpX12_explained S x0 x1 x2 Q) : mI l yX12_explained wsX12_explained rmX12_explained G S [.ref (G.2.2 + x0), .int x1, .int x2] Q := by
  unfold mI
  refine met_of (cc := cX12_explained) (maxL := 5) (ret := (some .int)) (by decide) rfl (Nat.le_of_ble_eq_true rfl) ?_
  intro p e s m args below meth c C hr hin
  unfold wpX12_explained at h
  show PW p l e _ s m args below meth c _ G 5 S 0 0 [(0, .ref (G.2.2 + x0)), (1, .int x1), (2, .int x2)] 0 []
  refine pw_aload_n (pc := 0) C 0 dX12_explained_0 rfl rfl ?_
  refine pw_iconst (pc := 1) (v := 0 ) C dX12_explained_1 (by decide) ?_
  obtain ⟨hk9, h⟩ := h
  refine pw_putI (pc := 2) (ref := "SupportSolverModel") (k := 0) (index := 70) C pCl10 iX12_explained_X12 hk9 rfl (by decide +kernel) (Or.inl rfl) (Or.inl rfl) rfl rfl dX12_explained_2 ?_
  refine pw_aload_n (pc := 5) (S := (sI S x0 0 (0 : Int32))) C 0 dX12_explained_5 rfl rfl ?_
  refine pw_aload_n (pc := 6) (S := (sI S x0 0 (0 : Int32))) C 0 dX12_explained_6 rfl rfl ?_
  refine pw_iload_n (pc := 7) (S := (sI S x0 0 (0 : Int32))) C 1 dX12_explained_7 rfl rfl ?_
  refine pw_calli (pc := 8) (S := (sI S x0 0 (0 : Int32))) (kc2 := 0) (kn2 := 0) (pRunV (pc := 8) (S := (sI S x0 0 (0 : Int32))) C (ctX12_isFact l G  _ x0 x1 _ h) (cwV 1 C.2.2.2.2.1 gX12_explained_X12_isFact rfl rfl rfl (by decide +kernel) ⟨Nat.le_of_ble_eq_true rfl, Nat.le_of_ble_eq_true rfl⟩) pCl10 hk9 rfl rfl (Nat.le_of_ble_eq_true rfl) dX12_explained_8 ⟨Nat.le_of_ble_eq_true rfl, Nat.le_of_ble_eq_true rfl⟩) rfl rfl (fun r10 S11 h => ?_)
  refine pw_iconst (pc := 11) (v := 1 ) C dX12_explained_11 (by decide) ?_
  obtain ⟨hk12, h⟩ := h
  refine pw_calli (pc := 12) (kc2 := 0) (kn2 := 0) (pRunV (pc := 12) C (ctX12_may l G  _ x0 r10 (1 : Int32) _ h) (cwV 2 C.2.2.2.2.1 gX12_explained_X12_may rfl rfl rfl (by decide +kernel) ⟨Nat.le_of_ble_eq_true rfl, Nat.le_of_ble_eq_true rfl⟩) pCl10 hk12 rfl rfl (Nat.le_of_ble_eq_true rfl) dX12_explained_12 ⟨Nat.le_of_ble_eq_true rfl, Nat.le_of_ble_eq_true rfl⟩) rfl rfl (fun r13 S14 h => ?_)
  refine pw_if_eq (pc := 15) (tgt := 38) C dX12_explained_15 rfl ⟨fun hc => ?_, fun hc => ?_⟩
  · replace h := h.1 hc
    refine pw_iconst (pc := 38) (v := 0 ) C dX12_explained_38 (by decide) ?_
    exact pw_iret (pc := 39) C hr h dX12_explained_39
  · replace h := h.2 hc
    refine pw_aload_n (pc := 18) C 0 dX12_explained_18 rfl rfl ?_
    refine pw_iload_n (pc := 19) C 2 dX12_explained_19 rfl rfl ?_
    refine pw_iconst (pc := 20) (v := 0 ) C dX12_explained_20 (by decide) ?_
    refine pw_aload_n (pc := 21) C 0 dX12_explained_21 rfl rfl ?_
    refine pw_iload_n (pc := 22) C 1 dX12_explained_22 rfl rfl ?_
    obtain ⟨hk15, h⟩ := h
    refine pw_calli (pc := 23) (kc2 := 0) (kn2 := 0) (pRunV (pc := 23) C (ctX12_explains l G  _ x0 x1 _ h) (cwV 1 C.2.2.2.2.1 gX12_explained_X12_explains rfl rfl rfl (by decide +kernel) ⟨Nat.le_of_ble_eq_true rfl, Nat.le_of_ble_eq_true rfl⟩) pCl10 hk15 rfl rfl (Nat.le_of_ble_eq_true rfl) dX12_explained_23 ⟨Nat.le_of_ble_eq_true rfl, Nat.le_of_ble_eq_true rfl⟩) rfl rfl (fun r16 S17 h => ?_)
    refine pw_iconst (pc := 26) (v := 1 ) C dX12_explained_26 (by decide) ?_
    refine pw_isub (pc := 27) C dX12_explained_27 ?_
    refine pw_calli (pc := 28) (kc2 := 0) (kn2 := 0) (pRunS (pc := 28) C (ctX12_isIn l G  _ x2 (0 : Int32) (r16 - (1 : Int32)) _ h) (va_cwS 3 C.2.2.2.2.1 gX12_explained_X12_isIn rfl rfl rfl (by decide +kernel) ⟨Nat.le_of_ble_eq_true rfl, Nat.le_of_ble_eq_true rfl⟩) rfl rfl (Nat.le_of_ble_eq_true rfl) dX12_explained_28 ⟨Nat.le_of_ble_eq_true rfl, Nat.le_of_ble_eq_true rfl⟩) rfl rfl (fun r18 S19 h => ?_)
    refine pw_iconst (pc := 31) (v := 1 ) C dX12_explained_31 (by decide) ?_
    obtain ⟨hk20, h⟩ := h
    refine pw_calli (pc := 32) (kc2 := 0) (kn2 := 0) (pRunV (pc := 32) C (ctX12_may l G  _ x0 r18 (1 : Int32) _ h) (cwV 2 C.2.2.2.2.1 gX12_explained_X12_may rfl rfl rfl (by decide +kernel) ⟨Nat.le_of_ble_eq_true rfl, Nat.le_of_ble_eq_true rfl⟩) pCl10 hk20 rfl rfl (Nat.le_of_ble_eq_true rfl) dX12_explained_32 ⟨Nat.le_of_ble_eq_true rfl, Nat.le_of_ble_eq_true rfl⟩) rfl rfl (fun r21 S22 h => ?_)
    refine pw_if_ne (pc := 35) (tgt := 40) C dX12_explained_35 rfl ⟨fun hc => ?_, fun hc => ?_⟩
    · replace h := h.1 hc
      refine pw_iconst (pc := 40) (v := 0 ) C dX12_explained_40 (by decide) ?_
      refine pw_istore_n (pc := 41) C [(3, .int (0 : Int32)), (0, .ref (G.2.2 + x0)), (1, .int x1), (2, .int x2)] dX12_explained_41 rfl (by decide) rfl ?_
      refine pw_iload_n (pc := 42) C 3 dX12_explained_42 rfl rfl ?_
      refine pw_istore (pc := 43) C [(4, .int x2), (3, .int (0 : Int32)), (0, .ref (G.2.2 + x0)), (1, .int x1), (2, .int x2)] dX12_explained_43 (by decide) rfl ?_
      refine pw_sub [2, 3, 4, 1, 0] (LV2 := [(0, .ref (G.2.2 + x0)), (1, .int x1), (2, .int x2), (3, .int (0 : Int32)), (4, .int x2)]) rfl ?_
      obtain ⟨n9, h⟩ := h
      exact cbX12_explained_b45 C hr hin  n9 _ _ _ _ _ _ h
    · replace h := h.2 hc
      refine pw_iconst (pc := 38) (v := 0 ) C dX12_explained_38 (by decide) ?_
      exact pw_iret (pc := 39) C hr h dX12_explained_39

abbrev rmX12_depth : Room := { frames := 5, cells := 0, slots := 0, locals := 129 }
theorem iX12_depth_X12 : ∀ w ∈ u_ws RX12 TX12 32, w ∈ wsX12_depth := fun _ h => List.mem_cons_of_mem _ (List.mem_append_right _ h)
def wpX12_depth_b47 (K22 : PS → Nat → Int32 → Int32 → Prop) (Q : Int32 → PS → Prop) : Nat → PS → Nat → Int32 → Int32 → Int32 → Prop
  | 0 => fun _ _ _ _ _ => False
  | n + 1 => fun S x0 x1 x2 x3 => ((x2 ≤ x3 → (K22 S x0 x1 (x2 + 1))) ∧ (¬ x2 ≤ x3 → (pK S x0 = 11 ∧ (∃ o2, pR S x0 24 = some o2 ∧ (pK S o2 = 15 ∧ (vp_in x3 (pL S o2) ∧ (((pI S o2 (x3).toNatClampNeg) = 0 → (wpX12_depth_b47 K22 Q n S x0 x1 x2 (x3 + 1))) ∧ (¬ (pI S o2 (x3).toNatClampNeg) = 0 → (∃ o5, pR S x0 26 = some o5 ∧ (pK S o5 = 13 ∧ (vp_in x3 (pL S o5) ∧ (vp_in x2 (pL S o5) ∧ (((pI S o5 (x3).toNatClampNeg) < (pI S o5 (x2).toNatClampNeg) → (wpX12_depth_b47 K22 Q n S x0 x1 x2 (x3 + 1))) ∧ (¬ (pI S o5 (x3).toNatClampNeg) < (pI S o5 (x2).toNatClampNeg) → (vp_in x3 (pL S o5) ∧ (vp_in x2 (pL S o5) ∧ (wpX12_depth_b47 K22 Q n (sI S o5 (x2).toNatClampNeg ((pI S o5 (x3).toNatClampNeg) + (1 : Int32))) x0 x1 x2 (x3 + 1))))))))))))))))))
def wpX12_depth_b22  (Q : Int32 → PS → Prop) : Nat → PS → Nat → Int32 → Int32 → Prop
  | 0 => fun _ _ _ _ => False
  | n + 1 => fun S x0 x1 x2 => ((x1 < x2 → (pK S x0 = 11 ∧ (∃ o12, pR S x0 26 = some o12 ∧ (pK S o12 = 13 ∧ (vp_in x1 (pL S o12) ∧ (Q (pI S o12 (x1).toNatClampNeg) S)))))) ∧ (¬ x1 < x2 → (pK S x0 = 11 ∧ (∃ o16, pR S x0 26 = some o16 ∧ (pK S o16 = 13 ∧ (vp_in x2 (pL S o16) ∧ (wpX12_explains (sI S o16 (x2).toNatClampNeg (0 : Int32)) x0 x2 (fun r19 S20 => ((¬ r19 = 0 → (∃ n9 : Nat, wpX12_depth_b47 (wpX12_depth_b22 Q n) Q n9 S20 x0 x1 x2 (0 : Int32))) ∧ (r19 = 0 → (wpX12_depth_b22 Q n S20 x0 x1 (x2 + 1))))))))))))
def wpX12_depth (S : PS) (x0 : Nat) (x1 : Int32) (Q : Int32 → PS → Prop) : Prop := (pK S x0 = 11 ∧ (wpX12_isFact (sI S x0 0 (0 : Int32)) x0 x1 (fun r22 S23 => (pK S23 x0 = 11 ∧ (wpX12_may S23 x0 r22 (1 : Int32) (fun r25 S26 => ((¬ r25 = 0 → (∃ n9 : Nat, wpX12_depth_b22 Q n9 S26 x0 x1 (0 : Int32))) ∧ (r25 = 0 → (Q (0 : Int32) S26)))))))))
set_option maxRecDepth 100000 in
set_option maxHeartbeats 4000000 in
theorem cbX12_depth_b47 {p : Program} {l : Launch} {e : Env} {s : State} {m : MethodId} {args : Array Value} {below : List Frame} {meth : Method} {c : Code} {G : PG} {Q : Int32 → PS → Prop} (C : pCx p s m args meth c G cX12_depth 4 yX12_depth.cls wsX12_depth) (hr : meth.sig.returnType = (some .int)) (hin : meth.name = yX12_depth.name) {K22 : PS → Nat → Int32 → Int32 → Prop} (hK22 : ∀ (S : PS) (x0 : Nat) (x1 : Int32) (x2 : Int32), K22 S x0 x1 x2 → PW p l e rmX12_depth s m args below meth c (MQ below (va_Qi Q (pB G) (pFr G)) args s rmX12_depth.cells rmX12_depth.slots (pFr G)) G 4 S 0 0 [(0, .ref (G.2.2 + x0)), (1, .int x1), (2, .int x2)] 22 ([])) (n : Nat) : ∀ (S : PS) (x0 : Nat) (x1 : Int32) (x2 : Int32) (x3 : Int32), wpX12_depth_b47 K22 Q n S x0 x1 x2 x3 → PW p l e rmX12_depth s m args below meth c (MQ below (va_Qi Q (pB G) (pFr G)) args s rmX12_depth.cells rmX12_depth.slots (pFr G)) G 4 S 0 0 [(0, .ref (G.2.2 + x0)), (1, .int x1), (2, .int x2), (3, .int x3)] 47 ([]) := by
  induction n with
  | zero => intro S x0 x1 x2 x3 h; exact h.elim
  | succ n ih =>
    intro S x0 x1 x2 x3 h
    unfold wpX12_depth_b47 at h
    refine pw_iload_n (pc := 47) C 3 dX12_depth_47 rfl rfl ?_
    refine pw_iload_n (pc := 48) C 2 dX12_depth_48 rfl rfl ?_
    refine pw_icmp_ge (pc := 49) (tgt := 96) C dX12_depth_49 rfl ⟨fun hc => ?_, fun hc => ?_⟩
    · replace h := h.1 hc
      refine pw_iincK (pc := 96) (w := 1) C [(2, .int (x2 + 1)), (0, .ref (G.2.2 + x0)), (1, .int x1), (3, .int x3)] 2 dX12_depth_96 (by decide) rfl (by decide) rfl ?_
      refine pw_goto (pc := 99) (tgt := 22) C dX12_depth_99 rfl ?_
      refine pw_sub [1, 2, 0] (LV2 := [(0, .ref (G.2.2 + x0)), (1, .int x1), (2, .int (x2 + 1))]) rfl ?_
      exact hK22 _ _ _ _ h
    · replace h := h.2 hc
      refine pw_aload_n (pc := 52) C 0 dX12_depth_52 rfl rfl ?_
      obtain ⟨hk1, h⟩ := h
      obtain ⟨o2, ho2, h⟩ := h
      refine pw_getR (pc := 53) (ref := "SupportSolverModel") (k := 24) (index := 42) C pCl10 iX12_depth_X12 hk1 rfl (by decide +kernel) (Or.inl rfl) (o := o2) ho2 dX12_depth_53 ?_
      refine pw_iload_n (pc := 56) C 3 dX12_depth_56 rfl rfl ?_
      obtain ⟨hk3, h⟩ := h
      obtain ⟨hi4, h⟩ := h
      refine pw_zald (pc := 57) C hk3 hi4 dX12_depth_57 ?_
      refine pw_if_eq (pc := 58) (tgt := 90) C dX12_depth_58 rfl ⟨fun hc => ?_, fun hc => ?_⟩
      · replace h := h.1 hc
        refine pw_iincK (pc := 90) (w := 1) C [(3, .int (x3 + 1)), (0, .ref (G.2.2 + x0)), (1, .int x1), (2, .int x2)] 3 dX12_depth_90 (by decide) rfl (by decide) rfl ?_
        refine pw_goto (pc := 93) (tgt := 47) C dX12_depth_93 rfl ?_
        refine pw_sub [1, 2, 3, 0] (LV2 := [(0, .ref (G.2.2 + x0)), (1, .int x1), (2, .int x2), (3, .int (x3 + 1))]) rfl ?_
        exact ih _ _ _ _ _ h
      · replace h := h.2 hc
        refine pw_aload_n (pc := 61) C 0 dX12_depth_61 rfl rfl ?_
        obtain ⟨o5, ho5, h⟩ := h
        refine pw_getR (pc := 62) (ref := "SupportSolverModel") (k := 26) (index := 49) C pCl10 iX12_depth_X12 hk1 rfl (by decide +kernel) (Or.inl rfl) (o := o5) ho5 dX12_depth_62 ?_
        refine pw_iload_n (pc := 65) C 3 dX12_depth_65 rfl rfl ?_
        obtain ⟨hk6, h⟩ := h
        obtain ⟨hi7, h⟩ := h
        refine pw_iald (pc := 66) C hk6 hi7 dX12_depth_66 ?_
        refine pw_aload_n (pc := 67) C 0 dX12_depth_67 rfl rfl ?_
        refine pw_getR (pc := 68) (ref := "SupportSolverModel") (k := 26) (index := 49) C pCl10 iX12_depth_X12 hk1 rfl (by decide +kernel) (Or.inl rfl) (o := o5) ho5 dX12_depth_68 ?_
        refine pw_iload_n (pc := 71) C 2 dX12_depth_71 rfl rfl ?_
        obtain ⟨hi8, h⟩ := h
        refine pw_iald (pc := 72) C hk6 hi8 dX12_depth_72 ?_
        refine pw_icmp_lt (pc := 73) (tgt := 90) C dX12_depth_73 rfl ⟨fun hc => ?_, fun hc => ?_⟩
        · replace h := h.1 hc
          refine pw_iincK (pc := 90) (w := 1) C [(3, .int (x3 + 1)), (0, .ref (G.2.2 + x0)), (1, .int x1), (2, .int x2)] 3 dX12_depth_90 (by decide) rfl (by decide) rfl ?_
          refine pw_goto (pc := 93) (tgt := 47) C dX12_depth_93 rfl ?_
          refine pw_sub [1, 2, 3, 0] (LV2 := [(0, .ref (G.2.2 + x0)), (1, .int x1), (2, .int x2), (3, .int (x3 + 1))]) rfl ?_
          exact ih _ _ _ _ _ h
        · replace h := h.2 hc
          refine pw_aload_n (pc := 76) C 0 dX12_depth_76 rfl rfl ?_
          refine pw_getR (pc := 77) (ref := "SupportSolverModel") (k := 26) (index := 49) C pCl10 iX12_depth_X12 hk1 rfl (by decide +kernel) (Or.inl rfl) (o := o5) ho5 dX12_depth_77 ?_
          refine pw_iload_n (pc := 80) C 2 dX12_depth_80 rfl rfl ?_
          refine pw_aload_n (pc := 81) C 0 dX12_depth_81 rfl rfl ?_
          refine pw_getR (pc := 82) (ref := "SupportSolverModel") (k := 26) (index := 49) C pCl10 iX12_depth_X12 hk1 rfl (by decide +kernel) (Or.inl rfl) (o := o5) ho5 dX12_depth_82 ?_
          refine pw_iload_n (pc := 85) C 3 dX12_depth_85 rfl rfl ?_
          obtain ⟨hi9, h⟩ := h
          refine pw_iald (pc := 86) C hk6 hi9 dX12_depth_86 ?_
          refine pw_iconst (pc := 87) (v := 1 ) C dX12_depth_87 (by decide) ?_
          refine pw_iadd (pc := 88) C dX12_depth_88 ?_
          obtain ⟨hi10, h⟩ := h
          refine pw_iast (pc := 89) C hk6 hi10 dX12_depth_89 ?_
          refine pw_iincK (pc := 90) (S := (sI S o5 (x2).toNatClampNeg ((pI S o5 (x3).toNatClampNeg) + (1 : Int32)))) (w := 1) C [(3, .int (x3 + 1)), (0, .ref (G.2.2 + x0)), (1, .int x1), (2, .int x2)] 3 dX12_depth_90 (by decide) rfl (by decide) rfl ?_
          refine pw_goto (pc := 93) (S := (sI S o5 (x2).toNatClampNeg ((pI S o5 (x3).toNatClampNeg) + (1 : Int32)))) (tgt := 47) C dX12_depth_93 rfl ?_
          refine pw_sub [1, 2, 3, 0] (LV2 := [(0, .ref (G.2.2 + x0)), (1, .int x1), (2, .int x2), (3, .int (x3 + 1))]) rfl ?_
          exact ih _ _ _ _ _ h
set_option maxRecDepth 100000 in
set_option maxHeartbeats 4000000 in
theorem cbX12_depth_b22 {p : Program} {l : Launch} {e : Env} {s : State} {m : MethodId} {args : Array Value} {below : List Frame} {meth : Method} {c : Code} {G : PG} {Q : Int32 → PS → Prop} (C : pCx p s m args meth c G cX12_depth 4 yX12_depth.cls wsX12_depth) (hr : meth.sig.returnType = (some .int)) (hin : meth.name = yX12_depth.name)  (n : Nat) : ∀ (S : PS) (x0 : Nat) (x1 : Int32) (x2 : Int32), wpX12_depth_b22  Q n S x0 x1 x2 → PW p l e rmX12_depth s m args below meth c (MQ below (va_Qi Q (pB G) (pFr G)) args s rmX12_depth.cells rmX12_depth.slots (pFr G)) G 4 S 0 0 [(0, .ref (G.2.2 + x0)), (1, .int x1), (2, .int x2)] 22 ([]) := by
  induction n with
  | zero => intro S x0 x1 x2 h; exact h.elim
  | succ n ih =>
    intro S x0 x1 x2 h
    unfold wpX12_depth_b22 at h
    refine pw_iload_n (pc := 22) C 2 dX12_depth_22 rfl rfl ?_
    refine pw_iload_n (pc := 23) C 1 dX12_depth_23 rfl rfl ?_
    refine pw_icmp_gt (pc := 24) (tgt := 102) C dX12_depth_24 rfl ⟨fun hc => ?_, fun hc => ?_⟩
    · replace h := h.1 hc
      refine pw_aload_n (pc := 102) C 0 dX12_depth_102 rfl rfl ?_
      obtain ⟨hk11, h⟩ := h
      obtain ⟨o12, ho12, h⟩ := h
      refine pw_getR (pc := 103) (ref := "SupportSolverModel") (k := 26) (index := 49) C pCl10 iX12_depth_X12 hk11 rfl (by decide +kernel) (Or.inl rfl) (o := o12) ho12 dX12_depth_103 ?_
      refine pw_iload_n (pc := 106) C 1 dX12_depth_106 rfl rfl ?_
      obtain ⟨hk13, h⟩ := h
      obtain ⟨hi14, h⟩ := h
      refine pw_iald (pc := 107) C hk13 hi14 dX12_depth_107 ?_
      exact pw_iret (pc := 108) C hr h dX12_depth_108
    · replace h := h.2 hc
      refine pw_aload_n (pc := 27) C 0 dX12_depth_27 rfl rfl ?_
      obtain ⟨hk15, h⟩ := h
      obtain ⟨o16, ho16, h⟩ := h
      refine pw_getR (pc := 28) (ref := "SupportSolverModel") (k := 26) (index := 49) C pCl10 iX12_depth_X12 hk15 rfl (by decide +kernel) (Or.inl rfl) (o := o16) ho16 dX12_depth_28 ?_
      refine pw_iload_n (pc := 31) C 2 dX12_depth_31 rfl rfl ?_
      refine pw_iconst (pc := 32) (v := 0 ) C dX12_depth_32 (by decide) ?_
      obtain ⟨hk17, h⟩ := h
      obtain ⟨hi18, h⟩ := h
      refine pw_iast (pc := 33) C hk17 hi18 dX12_depth_33 ?_
      refine pw_aload_n (pc := 34) (S := (sI S o16 (x2).toNatClampNeg (0 : Int32))) C 0 dX12_depth_34 rfl rfl ?_
      refine pw_iload_n (pc := 35) (S := (sI S o16 (x2).toNatClampNeg (0 : Int32))) C 2 dX12_depth_35 rfl rfl ?_
      refine pw_calli (pc := 36) (S := (sI S o16 (x2).toNatClampNeg (0 : Int32))) (kc2 := 0) (kn2 := 0) (pRunV (pc := 36) (S := (sI S o16 (x2).toNatClampNeg (0 : Int32))) C (ctX12_explains l G  _ x0 x2 _ h) (cwV 1 C.2.2.2.2.1 gX12_depth_X12_explains rfl rfl rfl (by decide +kernel) ⟨Nat.le_of_ble_eq_true rfl, Nat.le_of_ble_eq_true rfl⟩) pCl10 hk15 rfl rfl (Nat.le_of_ble_eq_true rfl) dX12_depth_36 ⟨Nat.le_of_ble_eq_true rfl, Nat.le_of_ble_eq_true rfl⟩) rfl rfl (fun r19 S20 h => ?_)
      refine pw_if_ne (pc := 39) (tgt := 45) C dX12_depth_39 rfl ⟨fun hc => ?_, fun hc => ?_⟩
      · replace h := h.1 hc
        refine pw_iconst (pc := 45) (v := 0 ) C dX12_depth_45 (by decide) ?_
        refine pw_istore_n (pc := 46) C [(3, .int (0 : Int32)), (0, .ref (G.2.2 + x0)), (1, .int x1), (2, .int x2)] dX12_depth_46 rfl (by decide) rfl ?_
        refine pw_sub [1, 2, 3, 0] (LV2 := [(0, .ref (G.2.2 + x0)), (1, .int x1), (2, .int x2), (3, .int (0 : Int32))]) rfl ?_
        obtain ⟨n9, h⟩ := h
        exact cbX12_depth_b47 C hr hin ih n9 _ _ _ _ _ h
      · replace h := h.2 hc
        refine pw_goto (pc := 42) (tgt := 96) C dX12_depth_42 rfl ?_
        refine pw_iincK (pc := 96) (w := 1) C [(2, .int (x2 + 1)), (0, .ref (G.2.2 + x0)), (1, .int x1)] 2 dX12_depth_96 (by decide) rfl (by decide) rfl ?_
        refine pw_goto (pc := 99) (tgt := 22) C dX12_depth_99 rfl ?_
        refine pw_sub [1, 2, 0] (LV2 := [(0, .ref (G.2.2 + x0)), (1, .int x1), (2, .int (x2 + 1))]) rfl ?_
        exact ih _ _ _ _ h
set_option maxRecDepth 100000 in
set_option maxHeartbeats 4000000 in
theorem ctX12_depth (l : Launch) (G : PG) (S : PS) (x0 : Nat) (x1 : Int32) (Q : Int32 → PS → Prop) (h : wpX12_depth S x0 x1 Q) : mI l yX12_depth wsX12_depth rmX12_depth G S [.ref (G.2.2 + x0), .int x1] Q := by
  unfold mI
  refine met_of (cc := cX12_depth) (maxL := 4) (ret := (some .int)) (by decide) rfl (Nat.le_of_ble_eq_true rfl) ?_
  intro p e s m args below meth c C hr hin
  unfold wpX12_depth at h
  show PW p l e _ s m args below meth c _ G 4 S 0 0 [(0, .ref (G.2.2 + x0)), (1, .int x1)] 0 []
  refine pw_aload_n (pc := 0) C 0 dX12_depth_0 rfl rfl ?_
  refine pw_iconst (pc := 1) (v := 0 ) C dX12_depth_1 (by decide) ?_
  obtain ⟨hk21, h⟩ := h
  refine pw_putI (pc := 2) (ref := "SupportSolverModel") (k := 0) (index := 70) C pCl10 iX12_depth_X12 hk21 rfl (by decide +kernel) (Or.inl rfl) (Or.inl rfl) rfl rfl dX12_depth_2 ?_
  refine pw_aload_n (pc := 5) (S := (sI S x0 0 (0 : Int32))) C 0 dX12_depth_5 rfl rfl ?_
  refine pw_aload_n (pc := 6) (S := (sI S x0 0 (0 : Int32))) C 0 dX12_depth_6 rfl rfl ?_
  refine pw_iload_n (pc := 7) (S := (sI S x0 0 (0 : Int32))) C 1 dX12_depth_7 rfl rfl ?_
  refine pw_calli (pc := 8) (S := (sI S x0 0 (0 : Int32))) (kc2 := 0) (kn2 := 0) (pRunV (pc := 8) (S := (sI S x0 0 (0 : Int32))) C (ctX12_isFact l G  _ x0 x1 _ h) (cwV 1 C.2.2.2.2.1 gX12_depth_X12_isFact rfl rfl rfl (by decide +kernel) ⟨Nat.le_of_ble_eq_true rfl, Nat.le_of_ble_eq_true rfl⟩) pCl10 hk21 rfl rfl (Nat.le_of_ble_eq_true rfl) dX12_depth_8 ⟨Nat.le_of_ble_eq_true rfl, Nat.le_of_ble_eq_true rfl⟩) rfl rfl (fun r22 S23 h => ?_)
  refine pw_iconst (pc := 11) (v := 1 ) C dX12_depth_11 (by decide) ?_
  obtain ⟨hk24, h⟩ := h
  refine pw_calli (pc := 12) (kc2 := 0) (kn2 := 0) (pRunV (pc := 12) C (ctX12_may l G  _ x0 r22 (1 : Int32) _ h) (cwV 2 C.2.2.2.2.1 gX12_depth_X12_may rfl rfl rfl (by decide +kernel) ⟨Nat.le_of_ble_eq_true rfl, Nat.le_of_ble_eq_true rfl⟩) pCl10 hk24 rfl rfl (Nat.le_of_ble_eq_true rfl) dX12_depth_12 ⟨Nat.le_of_ble_eq_true rfl, Nat.le_of_ble_eq_true rfl⟩) rfl rfl (fun r25 S26 h => ?_)
  refine pw_if_ne (pc := 15) (tgt := 20) C dX12_depth_15 rfl ⟨fun hc => ?_, fun hc => ?_⟩
  · replace h := h.1 hc
    refine pw_iconst (pc := 20) (v := 0 ) C dX12_depth_20 (by decide) ?_
    refine pw_istore_n (pc := 21) C [(2, .int (0 : Int32)), (0, .ref (G.2.2 + x0)), (1, .int x1)] dX12_depth_21 rfl (by decide) rfl ?_
    refine pw_sub [1, 2, 0] (LV2 := [(0, .ref (G.2.2 + x0)), (1, .int x1), (2, .int (0 : Int32))]) rfl ?_
    obtain ⟨n9, h⟩ := h
    exact cbX12_depth_b22 C hr hin  n9 _ _ _ _ h
  · replace h := h.2 hc
    refine pw_iconst (pc := 18) (v := 0 ) C dX12_depth_18 (by decide) ?_
    exact pw_iret (pc := 19) C hr h dX12_depth_19

abbrev rmX12_isSupportedNow : Room := { frames := 4, cells := 0, slots := 0, locals := 103 }
theorem iX12_isSupportedNow_X12 : ∀ w ∈ u_ws RX12 TX12 32, w ∈ wsX12_isSupportedNow := fun _ h => List.mem_cons_of_mem _ (List.mem_append_right _ h)
def wpX12_isSupportedNow (S : PS) (x0 : Nat) (x1 : Int32) (x2 : Int32) (x3 : Int32) (Q : Int32 → PS → Prop) : Prop := (pK S x0 = 11 ∧ (∃ o2, pR S x0 3 = some o2 ∧ (pK S o2 = 13 ∧ (vp_in x2 (pL S o2) ∧ (wpX12_has S (pI S o2 (x2).toNatClampNeg) x3 (fun r5 S6 => ((r5 = 0 → (Q (0 : Int32) S6)) ∧ (¬ r5 = 0 → (pK S6 x0 = 11 ∧ (∃ o8, pR S6 x0 3 = some o8 ∧ (wpX12_hasSupport S6 x0 x1 x2 x3 o8 (fun r9 S10 => ((r9 = 0 → (Q (0 : Int32) S10)) ∧ (¬ r9 = 0 → (Q (1 : Int32) S10)))))))))))))))
set_option maxRecDepth 100000 in
set_option maxHeartbeats 4000000 in
theorem ctX12_isSupportedNow (l : Launch) (G : PG) (S : PS) (x0 : Nat) (x1 : Int32) (x2 : Int32) (x3 : Int32) (Q : Int32 → PS → Prop) (h : wpX12_isSupportedNow S x0 x1 x2 x3 Q) : mI l yX12_isSupportedNow wsX12_isSupportedNow rmX12_isSupportedNow G S [.ref (G.2.2 + x0), .int x1, .int x2, .int x3] Q := by
  unfold mI
  refine met_of (cc := cX12_isSupportedNow) (maxL := 4) (ret := (some .boolean)) (by decide) rfl (Nat.le_of_ble_eq_true rfl) ?_
  intro p e s m args below meth c C hr hin
  unfold wpX12_isSupportedNow at h
  show PW p l e _ s m args below meth c _ G 4 S 0 0 [(0, .ref (G.2.2 + x0)), (1, .int x1), (2, .int x2), (3, .int x3)] 0 []
  refine pw_aload_n (pc := 0) C 0 dX12_isSupportedNow_0 rfl rfl ?_
  obtain ⟨hk1, h⟩ := h
  obtain ⟨o2, ho2, h⟩ := h
  refine pw_getR (pc := 1) (ref := "SupportSolverModel") (k := 3) (index := 16) C pCl10 iX12_isSupportedNow_X12 hk1 rfl (by decide +kernel) (Or.inl rfl) (o := o2) ho2 dX12_isSupportedNow_1 ?_
  refine pw_iload_n (pc := 4) C 2 dX12_isSupportedNow_4 rfl rfl ?_
  obtain ⟨hk3, h⟩ := h
  obtain ⟨hi4, h⟩ := h
  refine pw_iald (pc := 5) C hk3 hi4 dX12_isSupportedNow_5 ?_
  refine pw_iload_n (pc := 6) C 3 dX12_isSupportedNow_6 rfl rfl ?_
  refine pw_calli (pc := 7) (kc2 := 0) (kn2 := 0) (pRunS (pc := 7) C (ctX12_has l G  _ (pI S o2 (x2).toNatClampNeg) x3 _ h) (va_cwS 2 C.2.2.2.2.1 gX12_isSupportedNow_X12_has rfl rfl rfl (by decide +kernel) ⟨Nat.le_of_ble_eq_true rfl, Nat.le_of_ble_eq_true rfl⟩) rfl rfl (Nat.le_of_ble_eq_true rfl) dX12_isSupportedNow_7 ⟨Nat.le_of_ble_eq_true rfl, Nat.le_of_ble_eq_true rfl⟩) rfl rfl (fun r5 S6 h => ?_)
  refine pw_if_eq (pc := 10) (tgt := 31) C dX12_isSupportedNow_10 rfl ⟨fun hc => ?_, fun hc => ?_⟩
  · replace h := h.1 hc
    refine pw_iconst (pc := 31) (v := 0 ) C dX12_isSupportedNow_31 (by decide) ?_
    exact pw_zret (pc := 32) C hr rfl h dX12_isSupportedNow_32
  · replace h := h.2 hc
    refine pw_aload_n (pc := 13) C 0 dX12_isSupportedNow_13 rfl rfl ?_
    refine pw_iload_n (pc := 14) C 1 dX12_isSupportedNow_14 rfl rfl ?_
    refine pw_iload_n (pc := 15) C 2 dX12_isSupportedNow_15 rfl rfl ?_
    refine pw_iload_n (pc := 16) C 3 dX12_isSupportedNow_16 rfl rfl ?_
    refine pw_aload_n (pc := 17) C 0 dX12_isSupportedNow_17 rfl rfl ?_
    obtain ⟨hk7, h⟩ := h
    obtain ⟨o8, ho8, h⟩ := h
    refine pw_getR (pc := 18) (ref := "SupportSolverModel") (k := 3) (index := 16) C pCl10 iX12_isSupportedNow_X12 hk7 rfl (by decide +kernel) (Or.inl rfl) (o := o8) ho8 dX12_isSupportedNow_18 ?_
    refine pw_calli (pc := 21) (kc2 := 0) (kn2 := 0) (pRunV (pc := 21) C (ctX12_hasSupport l G  _ x0 x1 x2 x3 o8 _ h) (cwV 4 C.2.2.2.2.1 gX12_isSupportedNow_X12_hasSupport rfl rfl rfl (by decide +kernel) ⟨Nat.le_of_ble_eq_true rfl, Nat.le_of_ble_eq_true rfl⟩) pCl10 hk7 rfl rfl (Nat.le_of_ble_eq_true rfl) dX12_isSupportedNow_21 ⟨Nat.le_of_ble_eq_true rfl, Nat.le_of_ble_eq_true rfl⟩) rfl rfl (fun r9 S10 h => ?_)
    refine pw_if_eq (pc := 24) (tgt := 31) C dX12_isSupportedNow_24 rfl ⟨fun hc => ?_, fun hc => ?_⟩
    · replace h := h.1 hc
      refine pw_iconst (pc := 31) (v := 0 ) C dX12_isSupportedNow_31 (by decide) ?_
      exact pw_zret (pc := 32) C hr rfl h dX12_isSupportedNow_32
    · replace h := h.2 hc
      refine pw_iconst (pc := 27) (v := 1 ) C dX12_isSupportedNow_27 (by decide) ?_
      refine pw_goto (pc := 28) (tgt := 32) C dX12_isSupportedNow_28 rfl ?_
      exact pw_zret (pc := 32) C hr rfl h dX12_isSupportedNow_32

abbrev rmX12_isSupported : Room := { frames := 5, cells := 0, slots := 0, locals := 126 }
theorem iX12_isSupported_X12 : ∀ w ∈ u_ws RX12 TX12 32, w ∈ wsX12_isSupported := fun _ h => List.mem_cons_of_mem _ (List.mem_append_right _ h)
def wpX12_isSupported (S : PS) (x0 : Nat) (x1 : Int32) (x2 : Int32) (x3 : Int32) (Q : Int32 → PS → Prop) : Prop := (pK S x0 = 11 ∧ (wpX12_isMember (sI S x0 0 (0 : Int32)) x0 x1 x2 (fun r2 S3 => (pK S3 x0 = 11 ∧ (wpX12_may S3 x0 r2 (1 : Int32) (fun r5 S6 => ((r5 = 0 → (Q (0 : Int32) S6)) ∧ (¬ r5 = 0 → (wpX12_isIn S6 x3 (0 : Int32) (4 : Int32) (fun r7 S8 => (pK S8 x0 = 11 ∧ (wpX12_may S8 x0 r7 (2 : Int32) (fun r10 S11 => ((r10 = 0 → (Q (0 : Int32) S11)) ∧ (¬ r10 = 0 → (pK S11 x0 = 11 ∧ (wpX12_isSupportedNow S11 x0 x1 x2 x3 (fun r13 S14 => ((r13 = 0 → (Q (0 : Int32) S14)) ∧ (¬ r13 = 0 → (Q (1 : Int32) S14)))))))))))))))))))))
set_option maxRecDepth 100000 in
set_option maxHeartbeats 4000000 in
theorem ctX12_isSupported (l : Launch) (G : PG) (S : PS) (x0 : Nat) (x1 : Int32) (x2 : Int32) (x3 : Int32) (Q : Int32 → PS → Prop) (h : wpX12_isSupported S x0 x1 x2 x3 Q) : mI l yX12_isSupported wsX12_isSupported rmX12_isSupported G S [.ref (G.2.2 + x0), .int x1, .int x2, .int x3] Q := by
  unfold mI
  refine met_of (cc := cX12_isSupported) (maxL := 4) (ret := (some .boolean)) (by decide) rfl (Nat.le_of_ble_eq_true rfl) ?_
  intro p e s m args below meth c C hr hin
  unfold wpX12_isSupported at h
  show PW p l e _ s m args below meth c _ G 4 S 0 0 [(0, .ref (G.2.2 + x0)), (1, .int x1), (2, .int x2), (3, .int x3)] 0 []
  refine pw_aload_n (pc := 0) C 0 dX12_isSupported_0 rfl rfl ?_
  refine pw_iconst (pc := 1) (v := 0 ) C dX12_isSupported_1 (by decide) ?_
  obtain ⟨hk1, h⟩ := h
  refine pw_putI (pc := 2) (ref := "SupportSolverModel") (k := 0) (index := 70) C pCl10 iX12_isSupported_X12 hk1 rfl (by decide +kernel) (Or.inl rfl) (Or.inl rfl) rfl rfl dX12_isSupported_2 ?_
  refine pw_aload_n (pc := 5) (S := (sI S x0 0 (0 : Int32))) C 0 dX12_isSupported_5 rfl rfl ?_
  refine pw_aload_n (pc := 6) (S := (sI S x0 0 (0 : Int32))) C 0 dX12_isSupported_6 rfl rfl ?_
  refine pw_iload_n (pc := 7) (S := (sI S x0 0 (0 : Int32))) C 1 dX12_isSupported_7 rfl rfl ?_
  refine pw_iload_n (pc := 8) (S := (sI S x0 0 (0 : Int32))) C 2 dX12_isSupported_8 rfl rfl ?_
  refine pw_calli (pc := 9) (S := (sI S x0 0 (0 : Int32))) (kc2 := 0) (kn2 := 0) (pRunV (pc := 9) (S := (sI S x0 0 (0 : Int32))) C (ctX12_isMember l G  _ x0 x1 x2 _ h) (cwV 2 C.2.2.2.2.1 gX12_isSupported_X12_isMember rfl rfl rfl (by decide +kernel) ⟨Nat.le_of_ble_eq_true rfl, Nat.le_of_ble_eq_true rfl⟩) pCl10 hk1 rfl rfl (Nat.le_of_ble_eq_true rfl) dX12_isSupported_9 ⟨Nat.le_of_ble_eq_true rfl, Nat.le_of_ble_eq_true rfl⟩) rfl rfl (fun r2 S3 h => ?_)
  refine pw_iconst (pc := 12) (v := 1 ) C dX12_isSupported_12 (by decide) ?_
  obtain ⟨hk4, h⟩ := h
  refine pw_calli (pc := 13) (kc2 := 0) (kn2 := 0) (pRunV (pc := 13) C (ctX12_may l G  _ x0 r2 (1 : Int32) _ h) (cwV 2 C.2.2.2.2.1 gX12_isSupported_X12_may rfl rfl rfl (by decide +kernel) ⟨Nat.le_of_ble_eq_true rfl, Nat.le_of_ble_eq_true rfl⟩) pCl10 hk4 rfl rfl (Nat.le_of_ble_eq_true rfl) dX12_isSupported_13 ⟨Nat.le_of_ble_eq_true rfl, Nat.le_of_ble_eq_true rfl⟩) rfl rfl (fun r5 S6 h => ?_)
  refine pw_if_eq (pc := 16) (tgt := 47) C dX12_isSupported_16 rfl ⟨fun hc => ?_, fun hc => ?_⟩
  · replace h := h.1 hc
    refine pw_iconst (pc := 47) (v := 0 ) C dX12_isSupported_47 (by decide) ?_
    exact pw_zret (pc := 48) C hr rfl h dX12_isSupported_48
  · replace h := h.2 hc
    refine pw_aload_n (pc := 19) C 0 dX12_isSupported_19 rfl rfl ?_
    refine pw_iload_n (pc := 20) C 3 dX12_isSupported_20 rfl rfl ?_
    refine pw_iconst (pc := 21) (v := 0 ) C dX12_isSupported_21 (by decide) ?_
    refine pw_iconst (pc := 22) (v := 4 ) C dX12_isSupported_22 (by decide) ?_
    refine pw_calli (pc := 23) (kc2 := 0) (kn2 := 0) (pRunS (pc := 23) C (ctX12_isIn l G  _ x3 (0 : Int32) (4 : Int32) _ h) (va_cwS 3 C.2.2.2.2.1 gX12_isSupported_X12_isIn rfl rfl rfl (by decide +kernel) ⟨Nat.le_of_ble_eq_true rfl, Nat.le_of_ble_eq_true rfl⟩) rfl rfl (Nat.le_of_ble_eq_true rfl) dX12_isSupported_23 ⟨Nat.le_of_ble_eq_true rfl, Nat.le_of_ble_eq_true rfl⟩) rfl rfl (fun r7 S8 h => ?_)
    refine pw_iconst (pc := 26) (v := 2 ) C dX12_isSupported_26 (by decide) ?_
    obtain ⟨hk9, h⟩ := h
    refine pw_calli (pc := 27) (kc2 := 0) (kn2 := 0) (pRunV (pc := 27) C (ctX12_may l G  _ x0 r7 (2 : Int32) _ h) (cwV 2 C.2.2.2.2.1 gX12_isSupported_X12_may rfl rfl rfl (by decide +kernel) ⟨Nat.le_of_ble_eq_true rfl, Nat.le_of_ble_eq_true rfl⟩) pCl10 hk9 rfl rfl (Nat.le_of_ble_eq_true rfl) dX12_isSupported_27 ⟨Nat.le_of_ble_eq_true rfl, Nat.le_of_ble_eq_true rfl⟩) rfl rfl (fun r10 S11 h => ?_)
    refine pw_if_eq (pc := 30) (tgt := 47) C dX12_isSupported_30 rfl ⟨fun hc => ?_, fun hc => ?_⟩
    · replace h := h.1 hc
      refine pw_iconst (pc := 47) (v := 0 ) C dX12_isSupported_47 (by decide) ?_
      exact pw_zret (pc := 48) C hr rfl h dX12_isSupported_48
    · replace h := h.2 hc
      refine pw_aload_n (pc := 33) C 0 dX12_isSupported_33 rfl rfl ?_
      refine pw_iload_n (pc := 34) C 1 dX12_isSupported_34 rfl rfl ?_
      refine pw_iload_n (pc := 35) C 2 dX12_isSupported_35 rfl rfl ?_
      refine pw_iload_n (pc := 36) C 3 dX12_isSupported_36 rfl rfl ?_
      obtain ⟨hk12, h⟩ := h
      refine pw_calli (pc := 37) (kc2 := 0) (kn2 := 0) (pRunV (pc := 37) C (ctX12_isSupportedNow l G  _ x0 x1 x2 x3 _ h) (cwV 3 C.2.2.2.2.1 gX12_isSupported_X12_isSupportedNow rfl rfl rfl (by decide +kernel) ⟨Nat.le_of_ble_eq_true rfl, Nat.le_of_ble_eq_true rfl⟩) pCl10 hk12 rfl rfl (Nat.le_of_ble_eq_true rfl) dX12_isSupported_37 ⟨Nat.le_of_ble_eq_true rfl, Nat.le_of_ble_eq_true rfl⟩) rfl rfl (fun r13 S14 h => ?_)
      refine pw_if_eq (pc := 40) (tgt := 47) C dX12_isSupported_40 rfl ⟨fun hc => ?_, fun hc => ?_⟩
      · replace h := h.1 hc
        refine pw_iconst (pc := 47) (v := 0 ) C dX12_isSupported_47 (by decide) ?_
        exact pw_zret (pc := 48) C hr rfl h dX12_isSupported_48
      · replace h := h.2 hc
        refine pw_iconst (pc := 43) (v := 1 ) C dX12_isSupported_43 (by decide) ?_
        refine pw_goto (pc := 44) (tgt := 48) C dX12_isSupported_44 rfl ?_
        exact pw_zret (pc := 48) C hr rfl h dX12_isSupported_48

abbrev rmX12_laysLeast : Room := { frames := 4, cells := 0, slots := 0, locals := 103 }
theorem iX12_laysLeast_X12 : ∀ w ∈ u_ws RX12 TX12 32, w ∈ wsX12_laysLeast := fun _ h => List.mem_cons_of_mem _ (List.mem_append_right _ h)
def wpX12_laysLeast_b67 (K42 : PS → Nat → Int32 → Int32 → Int32 → Int32 → Prop) (Q : PS → Prop) : Nat → PS → Nat → Int32 → Int32 → Int32 → Int32 → Int32 → Int32 → Prop
  | 0 => fun _ _ _ _ _ _ _ _ => False
  | n + 1 => fun S x0 x1 x2 x3 x4 x5 x6 => (pK S x0 = 11 ∧ (∃ o2, pR S x0 27 = some o2 ∧ (pK S o2 = 13 ∧ (vp_in x5 (pL S o2) ∧ (wpX12_has S (pI S o2 (x5).toNatClampNeg) x6 (fun r5 S6 => ((r5 = 0 → (wpX12_laysLeast_b67 K42 Q n S6 x0 x1 x2 x3 x4 x5 (x6 + 1))) ∧ (¬ r5 = 0 → (pK S6 x0 = 11 ∧ (∃ o8, pR S6 x0 27 = some o8 ∧ (wpX12_hasSupport S6 x0 x1 x5 x6 o8 (fun r9 S10 => ((¬ r9 = 0 → (pK S10 x0 = 11 ∧ (∃ o12, pR S10 x0 27 = some o12 ∧ (pK S10 o12 = 13 ∧ (vp_in x5 (pL S10 o12) ∧ (K42 (sI S10 o12 (x5).toNatClampNeg ((1 : Int32) <<< (x6 &&& 31))) x0 x1 x2 x3 (x4 + 1))))))) ∧ (r9 = 0 → (wpX12_laysLeast_b67 K42 Q n S10 x0 x1 x2 x3 x4 x5 (x6 + 1))))))))))))))))
def wpX12_laysLeast_b42  (Q : PS → Prop) : Nat → PS → Nat → Int32 → Int32 → Int32 → Int32 → Prop
  | 0 => fun _ _ _ _ _ _ => False
  | n + 1 => fun S x0 x1 x2 x3 x4 => (pK S x0 = 11 ∧ (wpX12_of S x0 x1 (1 : Int32) (fun r16 S17 => ((r16 ≤ x4 → (Q S17)) ∧ (¬ r16 ≤ x4 → (pK S17 x0 = 11 ∧ (wpX12_of S17 x0 x1 ((2 : Int32) + x4) (fun r19 S20 => (∃ n9 : Nat, wpX12_laysLeast_b67 (wpX12_laysLeast_b42 Q n) Q n9 S20 x0 x1 x2 x3 x4 r19 (0 : Int32))))))))))
def wpX12_laysLeast_b3  (Q : PS → Prop) : Nat → PS → Nat → Int32 → Int32 → Int32 → Int32 → Prop
  | 0 => fun _ _ _ _ _ _ => False
  | n + 1 => fun S x0 x1 x2 x3 x4 => (((7 : Int32) ≤ x4 → (pK S x0 = 11 ∧ (∃ o22, pR S x0 27 = some o22 ∧ (pK S o22 = 13 ∧ (vp_in x2 (pL S o22) ∧ (∃ n9 : Nat, wpX12_laysLeast_b42 Q n9 (sI S o22 (x2).toNatClampNeg ((1 : Int32) <<< (x3 &&& 31))) x0 x1 x2 x3 (0 : Int32))))))) ∧ (¬ (7 : Int32) ≤ x4 → (pK S x0 = 11 ∧ (∃ o26, pR S x0 27 = some o26 ∧ (∃ o27, pR S x0 3 = some o27 ∧ (pK S o27 = 13 ∧ (vp_in x4 (pL S o27) ∧ (pK S o26 = 13 ∧ (vp_in x4 (pL S o26) ∧ (wpX12_laysLeast_b3 Q n (sI S o26 (x4).toNatClampNeg (pI S o27 (x4).toNatClampNeg)) x0 x1 x2 x3 (x4 + 1)))))))))))
def wpX12_laysLeast (S : PS) (x0 : Nat) (x1 : Int32) (x2 : Int32) (x3 : Int32) (Q : PS → Prop) : Prop := (∃ n9 : Nat, wpX12_laysLeast_b3 Q n9 S x0 x1 x2 x3 (0 : Int32))
set_option maxRecDepth 100000 in
set_option maxHeartbeats 4000000 in
theorem cbX12_laysLeast_b67 {p : Program} {l : Launch} {e : Env} {s : State} {m : MethodId} {args : Array Value} {below : List Frame} {meth : Method} {c : Code} {G : PG} {Q : PS → Prop} (C : pCx p s m args meth c G cX12_laysLeast 7 yX12_laysLeast.cls wsX12_laysLeast) (hr : meth.sig.returnType = none) (hin : meth.name = yX12_laysLeast.name) {K42 : PS → Nat → Int32 → Int32 → Int32 → Int32 → Prop} (hK42 : ∀ (S : PS) (x0 : Nat) (x1 : Int32) (x2 : Int32) (x3 : Int32) (x4 : Int32), K42 S x0 x1 x2 x3 x4 → PW p l e rmX12_laysLeast s m args below meth c (MQ below (va_Qv Q (pB G) (pFr G)) args s rmX12_laysLeast.cells rmX12_laysLeast.slots (pFr G)) G 7 S 0 0 [(0, .ref (G.2.2 + x0)), (1, .int x1), (2, .int x2), (3, .int x3), (4, .int x4)] 42 ([])) (n : Nat) : ∀ (S : PS) (x0 : Nat) (x1 : Int32) (x2 : Int32) (x3 : Int32) (x4 : Int32) (x5 : Int32) (x6 : Int32), wpX12_laysLeast_b67 K42 Q n S x0 x1 x2 x3 x4 x5 x6 → PW p l e rmX12_laysLeast s m args below meth c (MQ below (va_Qv Q (pB G) (pFr G)) args s rmX12_laysLeast.cells rmX12_laysLeast.slots (pFr G)) G 7 S 0 0 [(0, .ref (G.2.2 + x0)), (1, .int x1), (2, .int x2), (3, .int x3), (4, .int x4), (5, .int x5), (6, .int x6)] 67 ([]) := by
  induction n with
  | zero => intro S x0 x1 x2 x3 x4 x5 x6 h; exact h.elim
  | succ n ih =>
    intro S x0 x1 x2 x3 x4 x5 x6 h
    unfold wpX12_laysLeast_b67 at h
    refine pw_aload_n (pc := 67) C 0 dX12_laysLeast_67 rfl rfl ?_
    obtain ⟨hk1, h⟩ := h
    obtain ⟨o2, ho2, h⟩ := h
    refine pw_getR (pc := 68) (ref := "SupportSolverModel") (k := 27) (index := 52) C pCl10 iX12_laysLeast_X12 hk1 rfl (by decide +kernel) (Or.inl rfl) (o := o2) ho2 dX12_laysLeast_68 ?_
    refine pw_iload (pc := 71) C 5 dX12_laysLeast_71 rfl ?_
    obtain ⟨hk3, h⟩ := h
    obtain ⟨hi4, h⟩ := h
    refine pw_iald (pc := 73) C hk3 hi4 dX12_laysLeast_73 ?_
    refine pw_iload (pc := 74) C 6 dX12_laysLeast_74 rfl ?_
    refine pw_calli (pc := 76) (kc2 := 0) (kn2 := 0) (pRunS (pc := 76) C (ctX12_has l G  _ (pI S o2 (x5).toNatClampNeg) x6 _ h) (va_cwS 2 C.2.2.2.2.1 gX12_laysLeast_X12_has rfl rfl rfl (by decide +kernel) ⟨Nat.le_of_ble_eq_true rfl, Nat.le_of_ble_eq_true rfl⟩) rfl rfl (Nat.le_of_ble_eq_true rfl) dX12_laysLeast_76 ⟨Nat.le_of_ble_eq_true rfl, Nat.le_of_ble_eq_true rfl⟩) rfl rfl (fun r5 S6 h => ?_)
    refine pw_if_eq (pc := 79) (tgt := 98) C dX12_laysLeast_79 rfl ⟨fun hc => ?_, fun hc => ?_⟩
    · replace h := h.1 hc
      refine pw_iincK (pc := 98) (w := 1) C [(6, .int (x6 + 1)), (0, .ref (G.2.2 + x0)), (1, .int x1), (2, .int x2), (3, .int x3), (4, .int x4), (5, .int x5)] 6 dX12_laysLeast_98 (by decide) rfl (by decide) rfl ?_
      refine pw_goto (pc := 101) (tgt := 67) C dX12_laysLeast_101 rfl ?_
      refine pw_sub [1, 2, 3, 4, 5, 6, 0] (LV2 := [(0, .ref (G.2.2 + x0)), (1, .int x1), (2, .int x2), (3, .int x3), (4, .int x4), (5, .int x5), (6, .int (x6 + 1))]) rfl ?_
      exact ih _ _ _ _ _ _ _ _ h
    · replace h := h.2 hc
      refine pw_aload_n (pc := 82) C 0 dX12_laysLeast_82 rfl rfl ?_
      refine pw_iload_n (pc := 83) C 1 dX12_laysLeast_83 rfl rfl ?_
      refine pw_iload (pc := 84) C 5 dX12_laysLeast_84 rfl ?_
      refine pw_iload (pc := 86) C 6 dX12_laysLeast_86 rfl ?_
      refine pw_aload_n (pc := 88) C 0 dX12_laysLeast_88 rfl rfl ?_
      obtain ⟨hk7, h⟩ := h
      obtain ⟨o8, ho8, h⟩ := h
      refine pw_getR (pc := 89) (ref := "SupportSolverModel") (k := 27) (index := 52) C pCl10 iX12_laysLeast_X12 hk7 rfl (by decide +kernel) (Or.inl rfl) (o := o8) ho8 dX12_laysLeast_89 ?_
      refine pw_calli (pc := 92) (kc2 := 0) (kn2 := 0) (pRunV (pc := 92) C (ctX12_hasSupport l G  _ x0 x1 x5 x6 o8 _ h) (cwV 4 C.2.2.2.2.1 gX12_laysLeast_X12_hasSupport rfl rfl rfl (by decide +kernel) ⟨Nat.le_of_ble_eq_true rfl, Nat.le_of_ble_eq_true rfl⟩) pCl10 hk7 rfl rfl (Nat.le_of_ble_eq_true rfl) dX12_laysLeast_92 ⟨Nat.le_of_ble_eq_true rfl, Nat.le_of_ble_eq_true rfl⟩) rfl rfl (fun r9 S10 h => ?_)
      refine pw_if_ne (pc := 95) (tgt := 104) C dX12_laysLeast_95 rfl ⟨fun hc => ?_, fun hc => ?_⟩
      · replace h := h.1 hc
        refine pw_aload_n (pc := 104) C 0 dX12_laysLeast_104 rfl rfl ?_
        obtain ⟨hk11, h⟩ := h
        obtain ⟨o12, ho12, h⟩ := h
        refine pw_getR (pc := 105) (ref := "SupportSolverModel") (k := 27) (index := 52) C pCl10 iX12_laysLeast_X12 hk11 rfl (by decide +kernel) (Or.inl rfl) (o := o12) ho12 dX12_laysLeast_105 ?_
        refine pw_iload (pc := 108) C 5 dX12_laysLeast_108 rfl ?_
        refine pw_iconst (pc := 110) (v := 1 ) C dX12_laysLeast_110 (by decide) ?_
        refine pw_iload (pc := 111) C 6 dX12_laysLeast_111 rfl ?_
        refine pw_ishl (pc := 113) C dX12_laysLeast_113 ?_
        obtain ⟨hk13, h⟩ := h
        obtain ⟨hi14, h⟩ := h
        refine pw_iast (pc := 114) C hk13 hi14 dX12_laysLeast_114 ?_
        refine pw_iincK (pc := 115) (S := (sI S10 o12 (x5).toNatClampNeg ((1 : Int32) <<< (x6 &&& 31)))) (w := 1) C [(4, .int (x4 + 1)), (0, .ref (G.2.2 + x0)), (1, .int x1), (2, .int x2), (3, .int x3), (5, .int x5), (6, .int x6)] 4 dX12_laysLeast_115 (by decide) rfl (by decide) rfl ?_
        refine pw_goto (pc := 118) (S := (sI S10 o12 (x5).toNatClampNeg ((1 : Int32) <<< (x6 &&& 31)))) (tgt := 42) C dX12_laysLeast_118 rfl ?_
        refine pw_sub [1, 2, 3, 4, 0] (LV2 := [(0, .ref (G.2.2 + x0)), (1, .int x1), (2, .int x2), (3, .int x3), (4, .int (x4 + 1))]) rfl ?_
        exact hK42 _ _ _ _ _ _ h
      · replace h := h.2 hc
        refine pw_iincK (pc := 98) (w := 1) C [(6, .int (x6 + 1)), (0, .ref (G.2.2 + x0)), (1, .int x1), (2, .int x2), (3, .int x3), (4, .int x4), (5, .int x5)] 6 dX12_laysLeast_98 (by decide) rfl (by decide) rfl ?_
        refine pw_goto (pc := 101) (tgt := 67) C dX12_laysLeast_101 rfl ?_
        refine pw_sub [1, 2, 3, 4, 5, 6, 0] (LV2 := [(0, .ref (G.2.2 + x0)), (1, .int x1), (2, .int x2), (3, .int x3), (4, .int x4), (5, .int x5), (6, .int (x6 + 1))]) rfl ?_
        exact ih _ _ _ _ _ _ _ _ h
set_option maxRecDepth 100000 in
set_option maxHeartbeats 4000000 in
theorem cbX12_laysLeast_b42 {p : Program} {l : Launch} {e : Env} {s : State} {m : MethodId} {args : Array Value} {below : List Frame} {meth : Method} {c : Code} {G : PG} {Q : PS → Prop} (C : pCx p s m args meth c G cX12_laysLeast 7 yX12_laysLeast.cls wsX12_laysLeast) (hr : meth.sig.returnType = none) (hin : meth.name = yX12_laysLeast.name)  (n : Nat) : ∀ (S : PS) (x0 : Nat) (x1 : Int32) (x2 : Int32) (x3 : Int32) (x4 : Int32), wpX12_laysLeast_b42  Q n S x0 x1 x2 x3 x4 → PW p l e rmX12_laysLeast s m args below meth c (MQ below (va_Qv Q (pB G) (pFr G)) args s rmX12_laysLeast.cells rmX12_laysLeast.slots (pFr G)) G 7 S 0 0 [(0, .ref (G.2.2 + x0)), (1, .int x1), (2, .int x2), (3, .int x3), (4, .int x4)] 42 ([]) := by
  induction n with
  | zero => intro S x0 x1 x2 x3 x4 h; exact h.elim
  | succ n ih =>
    intro S x0 x1 x2 x3 x4 h
    unfold wpX12_laysLeast_b42 at h
    refine pw_iload (pc := 42) C 4 dX12_laysLeast_42 rfl ?_
    refine pw_aload_n (pc := 44) C 0 dX12_laysLeast_44 rfl rfl ?_
    refine pw_iload_n (pc := 45) C 1 dX12_laysLeast_45 rfl rfl ?_
    refine pw_iconst (pc := 46) (v := 1 ) C dX12_laysLeast_46 (by decide) ?_
    obtain ⟨hk15, h⟩ := h
    refine pw_calli (pc := 47) (kc2 := 0) (kn2 := 0) (pRunV (pc := 47) C (ctX12_of l G  _ x0 x1 (1 : Int32) _ h) (cwV 2 C.2.2.2.2.1 gX12_laysLeast_X12_of rfl rfl rfl (by decide +kernel) ⟨Nat.le_of_ble_eq_true rfl, Nat.le_of_ble_eq_true rfl⟩) pCl10 hk15 rfl rfl (Nat.le_of_ble_eq_true rfl) dX12_laysLeast_47 ⟨Nat.le_of_ble_eq_true rfl, Nat.le_of_ble_eq_true rfl⟩) rfl rfl (fun r16 S17 h => ?_)
    refine pw_icmp_ge (pc := 50) (tgt := 121) C dX12_laysLeast_50 rfl ⟨fun hc => ?_, fun hc => ?_⟩
    · replace h := h.1 hc
      exact pw_vret (pc := 121) C hr h dX12_laysLeast_121
    · replace h := h.2 hc
      refine pw_aload_n (pc := 53) C 0 dX12_laysLeast_53 rfl rfl ?_
      refine pw_iload_n (pc := 54) C 1 dX12_laysLeast_54 rfl rfl ?_
      refine pw_iconst (pc := 55) (v := 2 ) C dX12_laysLeast_55 (by decide) ?_
      refine pw_iload (pc := 56) C 4 dX12_laysLeast_56 rfl ?_
      refine pw_iadd (pc := 58) C dX12_laysLeast_58 ?_
      obtain ⟨hk18, h⟩ := h
      refine pw_calli (pc := 59) (kc2 := 0) (kn2 := 0) (pRunV (pc := 59) C (ctX12_of l G  _ x0 x1 ((2 : Int32) + x4) _ h) (cwV 2 C.2.2.2.2.1 gX12_laysLeast_X12_of rfl rfl rfl (by decide +kernel) ⟨Nat.le_of_ble_eq_true rfl, Nat.le_of_ble_eq_true rfl⟩) pCl10 hk18 rfl rfl (Nat.le_of_ble_eq_true rfl) dX12_laysLeast_59 ⟨Nat.le_of_ble_eq_true rfl, Nat.le_of_ble_eq_true rfl⟩) rfl rfl (fun r19 S20 h => ?_)
      refine pw_istore (pc := 62) C [(5, .int r19), (0, .ref (G.2.2 + x0)), (1, .int x1), (2, .int x2), (3, .int x3), (4, .int x4)] dX12_laysLeast_62 (by decide) rfl ?_
      refine pw_iconst (pc := 64) (v := 0 ) C dX12_laysLeast_64 (by decide) ?_
      refine pw_istore (pc := 65) C [(6, .int (0 : Int32)), (5, .int r19), (0, .ref (G.2.2 + x0)), (1, .int x1), (2, .int x2), (3, .int x3), (4, .int x4)] dX12_laysLeast_65 (by decide) rfl ?_
      refine pw_sub [2, 3, 4, 5, 6, 1, 0] (LV2 := [(0, .ref (G.2.2 + x0)), (1, .int x1), (2, .int x2), (3, .int x3), (4, .int x4), (5, .int r19), (6, .int (0 : Int32))]) rfl ?_
      obtain ⟨n9, h⟩ := h
      exact cbX12_laysLeast_b67 C hr hin ih n9 _ _ _ _ _ _ _ _ h
set_option maxRecDepth 100000 in
set_option maxHeartbeats 4000000 in
theorem cbX12_laysLeast_b3 {p : Program} {l : Launch} {e : Env} {s : State} {m : MethodId} {args : Array Value} {below : List Frame} {meth : Method} {c : Code} {G : PG} {Q : PS → Prop} (C : pCx p s m args meth c G cX12_laysLeast 7 yX12_laysLeast.cls wsX12_laysLeast) (hr : meth.sig.returnType = none) (hin : meth.name = yX12_laysLeast.name)  (n : Nat) : ∀ (S : PS) (x0 : Nat) (x1 : Int32) (x2 : Int32) (x3 : Int32) (x4 : Int32), wpX12_laysLeast_b3  Q n S x0 x1 x2 x3 x4 → PW p l e rmX12_laysLeast s m args below meth c (MQ below (va_Qv Q (pB G) (pFr G)) args s rmX12_laysLeast.cells rmX12_laysLeast.slots (pFr G)) G 7 S 0 0 [(0, .ref (G.2.2 + x0)), (1, .int x1), (2, .int x2), (3, .int x3), (4, .int x4)] 3 ([]) := by
  induction n with
  | zero => intro S x0 x1 x2 x3 x4 h; exact h.elim
  | succ n ih =>
    intro S x0 x1 x2 x3 x4 h
    unfold wpX12_laysLeast_b3 at h
    refine pw_iload (pc := 3) C 4 dX12_laysLeast_3 rfl ?_
    refine pw_bipush (pc := 5) (v := 7 ) C dX12_laysLeast_5 (by decide) ?_
    refine pw_icmp_ge (pc := 7) (tgt := 30) C dX12_laysLeast_7 rfl ⟨fun hc => ?_, fun hc => ?_⟩
    · replace h := h.1 hc
      refine pw_aload_n (pc := 30) C 0 dX12_laysLeast_30 rfl rfl ?_
      obtain ⟨hk21, h⟩ := h
      obtain ⟨o22, ho22, h⟩ := h
      refine pw_getR (pc := 31) (ref := "SupportSolverModel") (k := 27) (index := 52) C pCl10 iX12_laysLeast_X12 hk21 rfl (by decide +kernel) (Or.inl rfl) (o := o22) ho22 dX12_laysLeast_31 ?_
      refine pw_iload_n (pc := 34) C 2 dX12_laysLeast_34 rfl rfl ?_
      refine pw_iconst (pc := 35) (v := 1 ) C dX12_laysLeast_35 (by decide) ?_
      refine pw_iload_n (pc := 36) C 3 dX12_laysLeast_36 rfl rfl ?_
      refine pw_ishl (pc := 37) C dX12_laysLeast_37 ?_
      obtain ⟨hk23, h⟩ := h
      obtain ⟨hi24, h⟩ := h
      refine pw_iast (pc := 38) C hk23 hi24 dX12_laysLeast_38 ?_
      refine pw_iconst (pc := 39) (S := (sI S o22 (x2).toNatClampNeg ((1 : Int32) <<< (x3 &&& 31)))) (v := 0 ) C dX12_laysLeast_39 (by decide) ?_
      refine pw_istore (pc := 40) (S := (sI S o22 (x2).toNatClampNeg ((1 : Int32) <<< (x3 &&& 31)))) C [(4, .int (0 : Int32)), (0, .ref (G.2.2 + x0)), (1, .int x1), (2, .int x2), (3, .int x3)] dX12_laysLeast_40 (by decide) rfl ?_
      refine pw_sub [1, 2, 3, 4, 0] (LV2 := [(0, .ref (G.2.2 + x0)), (1, .int x1), (2, .int x2), (3, .int x3), (4, .int (0 : Int32))]) rfl ?_
      obtain ⟨n9, h⟩ := h
      exact cbX12_laysLeast_b42 C hr hin  n9 _ _ _ _ _ _ h
    · replace h := h.2 hc
      refine pw_aload_n (pc := 10) C 0 dX12_laysLeast_10 rfl rfl ?_
      obtain ⟨hk25, h⟩ := h
      obtain ⟨o26, ho26, h⟩ := h
      refine pw_getR (pc := 11) (ref := "SupportSolverModel") (k := 27) (index := 52) C pCl10 iX12_laysLeast_X12 hk25 rfl (by decide +kernel) (Or.inl rfl) (o := o26) ho26 dX12_laysLeast_11 ?_
      refine pw_iload (pc := 14) C 4 dX12_laysLeast_14 rfl ?_
      refine pw_aload_n (pc := 16) C 0 dX12_laysLeast_16 rfl rfl ?_
      obtain ⟨o27, ho27, h⟩ := h
      refine pw_getR (pc := 17) (ref := "SupportSolverModel") (k := 3) (index := 16) C pCl10 iX12_laysLeast_X12 hk25 rfl (by decide +kernel) (Or.inl rfl) (o := o27) ho27 dX12_laysLeast_17 ?_
      refine pw_iload (pc := 20) C 4 dX12_laysLeast_20 rfl ?_
      obtain ⟨hk28, h⟩ := h
      obtain ⟨hi29, h⟩ := h
      refine pw_iald (pc := 22) C hk28 hi29 dX12_laysLeast_22 ?_
      obtain ⟨hk30, h⟩ := h
      obtain ⟨hi31, h⟩ := h
      refine pw_iast (pc := 23) C hk30 hi31 dX12_laysLeast_23 ?_
      refine pw_iincK (pc := 24) (S := (sI S o26 (x4).toNatClampNeg (pI S o27 (x4).toNatClampNeg))) (w := 1) C [(4, .int (x4 + 1)), (0, .ref (G.2.2 + x0)), (1, .int x1), (2, .int x2), (3, .int x3)] 4 dX12_laysLeast_24 (by decide) rfl (by decide) rfl ?_
      refine pw_goto (pc := 27) (S := (sI S o26 (x4).toNatClampNeg (pI S o27 (x4).toNatClampNeg))) (tgt := 3) C dX12_laysLeast_27 rfl ?_
      refine pw_sub [1, 2, 3, 4, 0] (LV2 := [(0, .ref (G.2.2 + x0)), (1, .int x1), (2, .int x2), (3, .int x3), (4, .int (x4 + 1))]) rfl ?_
      exact ih _ _ _ _ _ _ h
set_option maxRecDepth 100000 in
set_option maxHeartbeats 4000000 in
theorem ctX12_laysLeast (l : Launch) (G : PG) (S : PS) (x0 : Nat) (x1 : Int32) (x2 : Int32) (x3 : Int32) (Q : PS → Prop) (h : wpX12_laysLeast S x0 x1 x2 x3 Q) : mV l yX12_laysLeast wsX12_laysLeast rmX12_laysLeast G S [.ref (G.2.2 + x0), .int x1, .int x2, .int x3] Q := by
  unfold mV
  refine met_of (cc := cX12_laysLeast) (maxL := 7) (ret := none) (by decide) rfl (Nat.le_of_ble_eq_true rfl) ?_
  intro p e s m args below meth c C hr hin
  unfold wpX12_laysLeast at h
  show PW p l e _ s m args below meth c _ G 7 S 0 0 [(0, .ref (G.2.2 + x0)), (1, .int x1), (2, .int x2), (3, .int x3)] 0 []
  refine pw_iconst (pc := 0) (v := 0 ) C dX12_laysLeast_0 (by decide) ?_
  refine pw_istore (pc := 1) C [(4, .int (0 : Int32)), (0, .ref (G.2.2 + x0)), (1, .int x1), (2, .int x2), (3, .int x3)] dX12_laysLeast_1 (by decide) rfl ?_
  refine pw_sub [1, 2, 3, 4, 0] (LV2 := [(0, .ref (G.2.2 + x0)), (1, .int x1), (2, .int x2), (3, .int x3), (4, .int (0 : Int32))]) rfl ?_
  obtain ⟨n9, h⟩ := h
  exact cbX12_laysLeast_b3 C hr hin  n9 _ _ _ _ _ _ h

abbrev rmX12_onlyOf : Room := { frames := 1, cells := 0, slots := 0, locals := 21 }
def wpX12_onlyOf_b2  (Q : Int32 → PS → Prop) : Nat → PS → Int32 → Int32 → Prop
  | 0 => fun _ _ _ => False
  | n + 1 => fun S x0 x1 => (wpX12_has S x0 x1 (fun r1 S2 => ((¬ r1 = 0 → (Q x1 S2)) ∧ (r1 = 0 → (wpX12_onlyOf_b2 Q n S2 x0 (x1 + 1))))))
def wpX12_onlyOf (S : PS) (x0 : Int32) (Q : Int32 → PS → Prop) : Prop := (∃ n9 : Nat, wpX12_onlyOf_b2 Q n9 S x0 (0 : Int32))
set_option maxRecDepth 100000 in
set_option maxHeartbeats 4000000 in
theorem cbX12_onlyOf_b2 {p : Program} {l : Launch} {e : Env} {s : State} {m : MethodId} {args : Array Value} {below : List Frame} {meth : Method} {c : Code} {G : PG} {Q : Int32 → PS → Prop} (C : pCx p s m args meth c G cX12_onlyOf 2 yX12_onlyOf.cls wsX12_onlyOf) (hr : meth.sig.returnType = (some .int)) (hin : meth.name = yX12_onlyOf.name)  (n : Nat) : ∀ (S : PS) (x0 : Int32) (x1 : Int32), wpX12_onlyOf_b2  Q n S x0 x1 → PW p l e rmX12_onlyOf s m args below meth c (MQ below (va_Qi Q (pB G) (pFr G)) args s rmX12_onlyOf.cells rmX12_onlyOf.slots (pFr G)) G 2 S 0 0 [(0, .int x0), (1, .int x1)] 2 ([]) := by
  induction n with
  | zero => intro S x0 x1 h; exact h.elim
  | succ n ih =>
    intro S x0 x1 h
    unfold wpX12_onlyOf_b2 at h
    refine pw_iload_n (pc := 2) C 0 dX12_onlyOf_2 rfl rfl ?_
    refine pw_iload_n (pc := 3) C 1 dX12_onlyOf_3 rfl rfl ?_
    refine pw_calli (pc := 4) (kc2 := 0) (kn2 := 0) (pRunS (pc := 4) C (ctX12_has l G  _ x0 x1 _ h) (va_cwS 2 C.2.2.2.2.1 gX12_onlyOf_X12_has rfl rfl rfl (by decide +kernel) ⟨Nat.le_of_ble_eq_true rfl, Nat.le_of_ble_eq_true rfl⟩) rfl rfl (Nat.le_of_ble_eq_true rfl) dX12_onlyOf_4 ⟨Nat.le_of_ble_eq_true rfl, Nat.le_of_ble_eq_true rfl⟩) rfl rfl (fun r1 S2 h => ?_)
    refine pw_if_ne (pc := 7) (tgt := 16) C dX12_onlyOf_7 rfl ⟨fun hc => ?_, fun hc => ?_⟩
    · replace h := h.1 hc
      refine pw_iload_n (pc := 16) C 1 dX12_onlyOf_16 rfl rfl ?_
      exact pw_iret (pc := 17) C hr h dX12_onlyOf_17
    · replace h := h.2 hc
      refine pw_iincK (pc := 10) (w := 1) C [(1, .int (x1 + 1)), (0, .int x0)] 1 dX12_onlyOf_10 (by decide) rfl (by decide) rfl ?_
      refine pw_goto (pc := 13) (tgt := 2) C dX12_onlyOf_13 rfl ?_
      refine pw_sub [1, 0] (LV2 := [(0, .int x0), (1, .int (x1 + 1))]) rfl ?_
      exact ih _ _ _ h
set_option maxRecDepth 100000 in
set_option maxHeartbeats 4000000 in
theorem ctX12_onlyOf (l : Launch) (G : PG) (S : PS) (x0 : Int32) (Q : Int32 → PS → Prop) (h : wpX12_onlyOf S x0 Q) : mI l yX12_onlyOf wsX12_onlyOf rmX12_onlyOf G S [.int x0] Q := by
  unfold mI
  refine met_of (cc := cX12_onlyOf) (maxL := 2) (ret := (some .int)) (by decide) rfl (Nat.le_of_ble_eq_true rfl) ?_
  intro p e s m args below meth c C hr hin
  unfold wpX12_onlyOf at h
  show PW p l e _ s m args below meth c _ G 2 S 0 0 [(0, .int x0)] 0 []
  refine pw_iconst (pc := 0) (v := 0 ) C dX12_onlyOf_0 (by decide) ?_
  refine pw_istore_n (pc := 1) C [(1, .int (0 : Int32)), (0, .int x0)] dX12_onlyOf_1 rfl (by decide) rfl ?_
  refine pw_sub [1, 0] (LV2 := [(0, .int x0), (1, .int (0 : Int32))]) rfl ?_
  obtain ⟨n9, h⟩ := h
  exact cbX12_onlyOf_b2 C hr hin  n9 _ _ _ h

abbrev rmX12_support : Room := { frames := 5, cells := 0, slots := 0, locals := 129 }
theorem iX12_support_X12 : ∀ w ∈ u_ws RX12 TX12 32, w ∈ wsX12_support := fun _ h => List.mem_cons_of_mem _ (List.mem_append_right _ h)
def wpX12_support_b30  (Q : Int32 → PS → Prop) (S : PS) (x0 : Nat) (x1 : Int32) (x2 : Int32) (x3 : Int32) (x4 : Int32) (t0 : Nat) (t1 : Int32) : Prop := (pK S t0 = 11 ∧ (wpX12_may S t0 t1 (1 : Int32) (fun r2 S3 => ((r2 = 0 → (Q (0 : Int32) S3)) ∧ (¬ r2 = 0 → (wpX12_isIn S3 x3 (0 : Int32) (4 : Int32) (fun r4 S5 => (pK S5 x0 = 11 ∧ (wpX12_may S5 x0 r4 (2 : Int32) (fun r7 S8 => ((r7 = 0 → (Q (0 : Int32) S8)) ∧ (¬ r7 = 0 → (pK S8 x0 = 11 ∧ (wpX12_isSupportedNow S8 x0 x1 x2 x3 (fun r10 S11 => (pK S11 x0 = 11 ∧ (wpX12_may S11 x0 r10 (3 : Int32) (fun r13 S14 => ((¬ r13 = 0 → (pK S14 x0 = 11 ∧ (wpX12_laysLeast S14 x0 x1 x2 x3 (fun S17 => (pK S17 x0 = 11 ∧ (∃ o19, pR S17 x0 27 = some o19 ∧ (pK S17 o19 = 13 ∧ (vp_in x4 (pL S17 o19) ∧ (wpX12_onlyOf S17 (pI S17 o19 (x4).toNatClampNeg) (fun r22 S23 => (Q r22 S23))))))))))) ∧ (r13 = 0 → (Q (0 : Int32) S14)))))))))))))))))))))
def wpX12_support_b29  (Q : Int32 → PS → Prop) (S : PS) (x0 : Nat) (x1 : Int32) (x2 : Int32) (x3 : Int32) (x4 : Int32) (t0 : Nat) : Prop := (wpX12_support_b30 Q S x0 x1 x2 x3 x4 t0 (0 : Int32))
def wpX12_support (S : PS) (x0 : Nat) (x1 : Int32) (x2 : Int32) (x3 : Int32) (x4 : Int32) (Q : Int32 → PS → Prop) : Prop := (pK S x0 = 11 ∧ (wpX12_isMember (sI S x0 0 (0 : Int32)) x0 x1 x2 (fun r25 S26 => ((r25 = 0 → (wpX12_support_b29 Q S26 x0 x1 x2 x3 x4 x0)) ∧ (¬ r25 = 0 → (pK S26 x0 = 11 ∧ (wpX12_isMember S26 x0 x1 x4 (fun r28 S29 => ((r28 = 0 → (wpX12_support_b29 Q S29 x0 x1 x2 x3 x4 x0)) ∧ (¬ r28 = 0 → (wpX12_support_b30 Q S29 x0 x1 x2 x3 x4 x0 (1 : Int32))))))))))))
set_option maxRecDepth 100000 in
set_option maxHeartbeats 4000000 in
theorem cbX12_support_b30 {p : Program} {l : Launch} {e : Env} {s : State} {m : MethodId} {args : Array Value} {below : List Frame} {meth : Method} {c : Code} {G : PG} {Q : Int32 → PS → Prop} (C : pCx p s m args meth c G cX12_support 5 yX12_support.cls wsX12_support) (hr : meth.sig.returnType = (some .int)) (hin : meth.name = yX12_support.name)  : ∀ (S : PS) (x0 : Nat) (x1 : Int32) (x2 : Int32) (x3 : Int32) (x4 : Int32) (t0 : Nat) (t1 : Int32), wpX12_support_b30  Q S x0 x1 x2 x3 x4 t0 t1 → PW p l e rmX12_support s m args below meth c (MQ below (va_Qi Q (pB G) (pFr G)) args s rmX12_support.cells rmX12_support.slots (pFr G)) G 5 S 0 0 [(0, .ref (G.2.2 + x0)), (1, .int x1), (2, .int x2), (3, .int x3), (4, .int x4)] 30 (.int t1 :: .ref (G.2.2 + t0) :: []) := by
  intro S x0 x1 x2 x3 x4 t0 t1 h
  unfold wpX12_support_b30 at h
  refine pw_iconst (pc := 30) (v := 1 ) C dX12_support_30 (by decide) ?_
  obtain ⟨hk1, h⟩ := h
  refine pw_calli (pc := 31) (kc2 := 0) (kn2 := 0) (pRunV (pc := 31) C (ctX12_may l G  _ t0 t1 (1 : Int32) _ h) (cwV 2 C.2.2.2.2.1 gX12_support_X12_may rfl rfl rfl (by decide +kernel) ⟨Nat.le_of_ble_eq_true rfl, Nat.le_of_ble_eq_true rfl⟩) pCl10 hk1 rfl rfl (Nat.le_of_ble_eq_true rfl) dX12_support_31 ⟨Nat.le_of_ble_eq_true rfl, Nat.le_of_ble_eq_true rfl⟩) rfl rfl (fun r2 S3 h => ?_)
  refine pw_if_eq (pc := 34) (tgt := 66) C dX12_support_34 rfl ⟨fun hc => ?_, fun hc => ?_⟩
  · replace h := h.1 hc
    refine pw_iconst (pc := 66) (v := 0 ) C dX12_support_66 (by decide) ?_
    exact pw_iret (pc := 67) C hr h dX12_support_67
  · replace h := h.2 hc
    refine pw_aload_n (pc := 37) C 0 dX12_support_37 rfl rfl ?_
    refine pw_iload_n (pc := 38) C 3 dX12_support_38 rfl rfl ?_
    refine pw_iconst (pc := 39) (v := 0 ) C dX12_support_39 (by decide) ?_
    refine pw_iconst (pc := 40) (v := 4 ) C dX12_support_40 (by decide) ?_
    refine pw_calli (pc := 41) (kc2 := 0) (kn2 := 0) (pRunS (pc := 41) C (ctX12_isIn l G  _ x3 (0 : Int32) (4 : Int32) _ h) (va_cwS 3 C.2.2.2.2.1 gX12_support_X12_isIn rfl rfl rfl (by decide +kernel) ⟨Nat.le_of_ble_eq_true rfl, Nat.le_of_ble_eq_true rfl⟩) rfl rfl (Nat.le_of_ble_eq_true rfl) dX12_support_41 ⟨Nat.le_of_ble_eq_true rfl, Nat.le_of_ble_eq_true rfl⟩) rfl rfl (fun r4 S5 h => ?_)
    refine pw_iconst (pc := 44) (v := 2 ) C dX12_support_44 (by decide) ?_
    obtain ⟨hk6, h⟩ := h
    refine pw_calli (pc := 45) (kc2 := 0) (kn2 := 0) (pRunV (pc := 45) C (ctX12_may l G  _ x0 r4 (2 : Int32) _ h) (cwV 2 C.2.2.2.2.1 gX12_support_X12_may rfl rfl rfl (by decide +kernel) ⟨Nat.le_of_ble_eq_true rfl, Nat.le_of_ble_eq_true rfl⟩) pCl10 hk6 rfl rfl (Nat.le_of_ble_eq_true rfl) dX12_support_45 ⟨Nat.le_of_ble_eq_true rfl, Nat.le_of_ble_eq_true rfl⟩) rfl rfl (fun r7 S8 h => ?_)
    refine pw_if_eq (pc := 48) (tgt := 66) C dX12_support_48 rfl ⟨fun hc => ?_, fun hc => ?_⟩
    · replace h := h.1 hc
      refine pw_iconst (pc := 66) (v := 0 ) C dX12_support_66 (by decide) ?_
      exact pw_iret (pc := 67) C hr h dX12_support_67
    · replace h := h.2 hc
      refine pw_aload_n (pc := 51) C 0 dX12_support_51 rfl rfl ?_
      refine pw_aload_n (pc := 52) C 0 dX12_support_52 rfl rfl ?_
      refine pw_iload_n (pc := 53) C 1 dX12_support_53 rfl rfl ?_
      refine pw_iload_n (pc := 54) C 2 dX12_support_54 rfl rfl ?_
      refine pw_iload_n (pc := 55) C 3 dX12_support_55 rfl rfl ?_
      obtain ⟨hk9, h⟩ := h
      refine pw_calli (pc := 56) (kc2 := 0) (kn2 := 0) (pRunV (pc := 56) C (ctX12_isSupportedNow l G  _ x0 x1 x2 x3 _ h) (cwV 3 C.2.2.2.2.1 gX12_support_X12_isSupportedNow rfl rfl rfl (by decide +kernel) ⟨Nat.le_of_ble_eq_true rfl, Nat.le_of_ble_eq_true rfl⟩) pCl10 hk9 rfl rfl (Nat.le_of_ble_eq_true rfl) dX12_support_56 ⟨Nat.le_of_ble_eq_true rfl, Nat.le_of_ble_eq_true rfl⟩) rfl rfl (fun r10 S11 h => ?_)
      refine pw_iconst (pc := 59) (v := 3 ) C dX12_support_59 (by decide) ?_
      obtain ⟨hk12, h⟩ := h
      refine pw_calli (pc := 60) (kc2 := 0) (kn2 := 0) (pRunV (pc := 60) C (ctX12_may l G  _ x0 r10 (3 : Int32) _ h) (cwV 2 C.2.2.2.2.1 gX12_support_X12_may rfl rfl rfl (by decide +kernel) ⟨Nat.le_of_ble_eq_true rfl, Nat.le_of_ble_eq_true rfl⟩) pCl10 hk12 rfl rfl (Nat.le_of_ble_eq_true rfl) dX12_support_60 ⟨Nat.le_of_ble_eq_true rfl, Nat.le_of_ble_eq_true rfl⟩) rfl rfl (fun r13 S14 h => ?_)
      refine pw_if_ne (pc := 63) (tgt := 68) C dX12_support_63 rfl ⟨fun hc => ?_, fun hc => ?_⟩
      · replace h := h.1 hc
        refine pw_aload_n (pc := 68) C 0 dX12_support_68 rfl rfl ?_
        refine pw_iload_n (pc := 69) C 1 dX12_support_69 rfl rfl ?_
        refine pw_iload_n (pc := 70) C 2 dX12_support_70 rfl rfl ?_
        refine pw_iload_n (pc := 71) C 3 dX12_support_71 rfl rfl ?_
        obtain ⟨hk15, h⟩ := h
        refine pw_callv (pc := 72) (kc2 := 0) (kn2 := 0) (pRunV (pc := 72) C (ctX12_laysLeast l G  _ x0 x1 x2 x3 _ h) (cwV 3 C.2.2.2.2.1 gX12_support_X12_laysLeast rfl rfl rfl (by decide +kernel) ⟨Nat.le_of_ble_eq_true rfl, Nat.le_of_ble_eq_true rfl⟩) pCl10 hk15 rfl rfl (Nat.le_of_ble_eq_true rfl) dX12_support_72 ⟨Nat.le_of_ble_eq_true rfl, Nat.le_of_ble_eq_true rfl⟩) rfl rfl (fun S17 h => ?_)
        refine pw_aload_n (pc := 75) C 0 dX12_support_75 rfl rfl ?_
        obtain ⟨hk18, h⟩ := h
        obtain ⟨o19, ho19, h⟩ := h
        refine pw_getR (pc := 76) (ref := "SupportSolverModel") (k := 27) (index := 52) C pCl10 iX12_support_X12 hk18 rfl (by decide +kernel) (Or.inl rfl) (o := o19) ho19 dX12_support_76 ?_
        refine pw_iload (pc := 79) C 4 dX12_support_79 rfl ?_
        obtain ⟨hk20, h⟩ := h
        obtain ⟨hi21, h⟩ := h
        refine pw_iald (pc := 81) C hk20 hi21 dX12_support_81 ?_
        refine pw_calli (pc := 82) (kc2 := 0) (kn2 := 0) (pRunS (pc := 82) C (ctX12_onlyOf l G  _ (pI S17 o19 (x4).toNatClampNeg) _ h) (va_cwS 1 C.2.2.2.2.1 gX12_support_X12_onlyOf rfl rfl rfl (by decide +kernel) ⟨Nat.le_of_ble_eq_true rfl, Nat.le_of_ble_eq_true rfl⟩) rfl rfl (Nat.le_of_ble_eq_true rfl) dX12_support_82 ⟨Nat.le_of_ble_eq_true rfl, Nat.le_of_ble_eq_true rfl⟩) rfl rfl (fun r22 S23 h => ?_)
        exact pw_iret (pc := 85) C hr h dX12_support_85
      · replace h := h.2 hc
        refine pw_iconst (pc := 66) (v := 0 ) C dX12_support_66 (by decide) ?_
        exact pw_iret (pc := 67) C hr h dX12_support_67
set_option maxRecDepth 100000 in
set_option maxHeartbeats 4000000 in
theorem cbX12_support_b29 {p : Program} {l : Launch} {e : Env} {s : State} {m : MethodId} {args : Array Value} {below : List Frame} {meth : Method} {c : Code} {G : PG} {Q : Int32 → PS → Prop} (C : pCx p s m args meth c G cX12_support 5 yX12_support.cls wsX12_support) (hr : meth.sig.returnType = (some .int)) (hin : meth.name = yX12_support.name)  : ∀ (S : PS) (x0 : Nat) (x1 : Int32) (x2 : Int32) (x3 : Int32) (x4 : Int32) (t0 : Nat), wpX12_support_b29  Q S x0 x1 x2 x3 x4 t0 → PW p l e rmX12_support s m args below meth c (MQ below (va_Qi Q (pB G) (pFr G)) args s rmX12_support.cells rmX12_support.slots (pFr G)) G 5 S 0 0 [(0, .ref (G.2.2 + x0)), (1, .int x1), (2, .int x2), (3, .int x3), (4, .int x4)] 29 (.ref (G.2.2 + t0) :: []) := by
  intro S x0 x1 x2 x3 x4 t0 h
  unfold wpX12_support_b29 at h
  refine pw_iconst (pc := 29) (v := 0 ) C dX12_support_29 (by decide) ?_
  exact cbX12_support_b30 C hr hin  _ _ _ _ _ _ _ _ h
set_option maxRecDepth 100000 in
set_option maxHeartbeats 4000000 in
theorem ctX12_support (l : Launch) (G : PG) (S : PS) (x0 : Nat) (x1 : Int32) (x2 : Int32) (x3 : Int32) (x4 : Int32) (Q : Int32 → PS → Prop) (h : wpX12_support S x0 x1 x2 x3 x4 Q) : mI l yX12_support wsX12_support rmX12_support G S [.ref (G.2.2 + x0), .int x1, .int x2, .int x3, .int x4] Q := by
  unfold mI
  refine met_of (cc := cX12_support) (maxL := 5) (ret := (some .int)) (by decide) rfl (Nat.le_of_ble_eq_true rfl) ?_
  intro p e s m args below meth c C hr hin
  unfold wpX12_support at h
  show PW p l e _ s m args below meth c _ G 5 S 0 0 [(0, .ref (G.2.2 + x0)), (1, .int x1), (2, .int x2), (3, .int x3), (4, .int x4)] 0 []
  refine pw_aload_n (pc := 0) C 0 dX12_support_0 rfl rfl ?_
  refine pw_iconst (pc := 1) (v := 0 ) C dX12_support_1 (by decide) ?_
  obtain ⟨hk24, h⟩ := h
  refine pw_putI (pc := 2) (ref := "SupportSolverModel") (k := 0) (index := 70) C pCl10 iX12_support_X12 hk24 rfl (by decide +kernel) (Or.inl rfl) (Or.inl rfl) rfl rfl dX12_support_2 ?_
  refine pw_aload_n (pc := 5) (S := (sI S x0 0 (0 : Int32))) C 0 dX12_support_5 rfl rfl ?_
  refine pw_aload_n (pc := 6) (S := (sI S x0 0 (0 : Int32))) C 0 dX12_support_6 rfl rfl ?_
  refine pw_iload_n (pc := 7) (S := (sI S x0 0 (0 : Int32))) C 1 dX12_support_7 rfl rfl ?_
  refine pw_iload_n (pc := 8) (S := (sI S x0 0 (0 : Int32))) C 2 dX12_support_8 rfl rfl ?_
  refine pw_calli (pc := 9) (S := (sI S x0 0 (0 : Int32))) (kc2 := 0) (kn2 := 0) (pRunV (pc := 9) (S := (sI S x0 0 (0 : Int32))) C (ctX12_isMember l G  _ x0 x1 x2 _ h) (cwV 2 C.2.2.2.2.1 gX12_support_X12_isMember rfl rfl rfl (by decide +kernel) ⟨Nat.le_of_ble_eq_true rfl, Nat.le_of_ble_eq_true rfl⟩) pCl10 hk24 rfl rfl (Nat.le_of_ble_eq_true rfl) dX12_support_9 ⟨Nat.le_of_ble_eq_true rfl, Nat.le_of_ble_eq_true rfl⟩) rfl rfl (fun r25 S26 h => ?_)
  refine pw_if_eq (pc := 12) (tgt := 29) C dX12_support_12 rfl ⟨fun hc => ?_, fun hc => ?_⟩
  · replace h := h.1 hc
    exact cbX12_support_b29 C hr hin  _ _ _ _ _ _ _ h
  · replace h := h.2 hc
    refine pw_aload_n (pc := 15) C 0 dX12_support_15 rfl rfl ?_
    refine pw_iload_n (pc := 16) C 1 dX12_support_16 rfl rfl ?_
    refine pw_iload (pc := 17) C 4 dX12_support_17 rfl ?_
    obtain ⟨hk27, h⟩ := h
    refine pw_calli (pc := 19) (kc2 := 0) (kn2 := 0) (pRunV (pc := 19) C (ctX12_isMember l G  _ x0 x1 x4 _ h) (cwV 2 C.2.2.2.2.1 gX12_support_X12_isMember rfl rfl rfl (by decide +kernel) ⟨Nat.le_of_ble_eq_true rfl, Nat.le_of_ble_eq_true rfl⟩) pCl10 hk27 rfl rfl (Nat.le_of_ble_eq_true rfl) dX12_support_19 ⟨Nat.le_of_ble_eq_true rfl, Nat.le_of_ble_eq_true rfl⟩) rfl rfl (fun r28 S29 h => ?_)
    refine pw_if_eq (pc := 22) (tgt := 29) C dX12_support_22 rfl ⟨fun hc => ?_, fun hc => ?_⟩
    · replace h := h.1 hc
      exact cbX12_support_b29 C hr hin  _ _ _ _ _ _ _ h
    · replace h := h.2 hc
      refine pw_iconst (pc := 25) (v := 1 ) C dX12_support_25 (by decide) ?_
      refine pw_goto (pc := 26) (tgt := 30) C dX12_support_26 rfl ?_
      exact cbX12_support_b30 C hr hin  _ _ _ _ _ _ _ _ h

abbrev rmX12_watchers : Room := { frames := 5, cells := 0, slots := 0, locals := 129 }
theorem iX12_watchers_X12 : ∀ w ∈ u_ws RX12 TX12 32, w ∈ wsX12_watchers := fun _ h => List.mem_cons_of_mem _ (List.mem_append_right _ h)
def wpX12_watchers_b53 (K39 : PS → Nat → Int32 → Int32 → Int32 → Int32 → Prop) (Q : Int32 → PS → Prop) : Nat → PS → Nat → Int32 → Int32 → Int32 → Int32 → Int32 → Prop
  | 0 => fun _ _ _ _ _ _ _ => False
  | n + 1 => fun S x0 x1 x2 x3 x4 x5 => (pK S x0 = 11 ∧ (wpX12_of S x0 x4 (1 : Int32) (fun r2 S3 => (((r2 * (5 : Int32)) ≤ x5 → (K39 S3 x0 x1 x2 x3 (x4 + 1))) ∧ (¬ (r2 * (5 : Int32)) ≤ x5 → (pK S3 x0 = 11 ∧ (wpX12_isAmong S3 x0 x4 x1 (fun r5 S6 => ((r5 = 0 → (K39 S6 x0 x1 x2 x3 (x4 + 1))) ∧ (¬ r5 = 0 → (pK S6 x0 = 11 ∧ (wpX12_of S6 x0 x4 ((2 : Int32) + (x5 / (5 : Int32))) (fun r8 S9 => ((r8 = x1 → (wpX12_watchers_b53 K39 Q n S9 x0 x1 x2 x3 x4 (x5 + 1))) ∧ (¬ r8 = x1 → (pK S9 x0 = 11 ∧ (wpX12_isSupportedNow S9 x0 x4 r8 (x5 - x5 / (5 : Int32) * (5 : Int32)) (fun r11 S12 => ((¬ r11 = 0 → (pK S12 x0 = 11 ∧ (wpX12_laysLeast S12 x0 x4 r8 (x5 - x5 / (5 : Int32) * (5 : Int32)) (fun S15 => (pK S15 x0 = 11 ∧ (∃ o17, pR S15 x0 27 = some o17 ∧ (pK S15 o17 = 13 ∧ (vp_in x1 (pL S15 o17) ∧ ((¬ (pI S15 o17 (x1).toNatClampNeg) = ((1 : Int32) <<< (x2 &&& 31)) → (wpX12_watchers_b53 K39 Q n S15 x0 x1 x2 (x3 + (0 : Int32)) x4 (x5 + 1))) ∧ ((pI S15 o17 (x1).toNatClampNeg) = ((1 : Int32) <<< (x2 &&& 31)) → (wpX12_watchers_b53 K39 Q n S15 x0 x1 x2 (x3 + (1 : Int32)) x4 (x5 + 1)))))))))))) ∧ (r11 = 0 → (wpX12_watchers_b53 K39 Q n S12 x0 x1 x2 x3 x4 (x5 + 1))))))))))))))))))))))
def wpX12_watchers_b39  (Q : Int32 → PS → Prop) : Nat → PS → Nat → Int32 → Int32 → Int32 → Int32 → Prop
  | 0 => fun _ _ _ _ _ _ => False
  | n + 1 => fun S x0 x1 x2 x3 x4 => (pK S x0 = 11 ∧ (∃ o21, pR S x0 1 = some o21 ∧ (pK S o21 = 13 ∧ (vp_in (1 : Int32) (pL S o21) ∧ (((pI S o21 ((1 : Int32)).toNatClampNeg) ≤ x4 → (Q x3 S)) ∧ (¬ (pI S o21 ((1 : Int32)).toNatClampNeg) ≤ x4 → (∃ n9 : Nat, wpX12_watchers_b53 (wpX12_watchers_b39 Q n) Q n9 S x0 x1 x2 x3 x4 (0 : Int32))))))))
def wpX12_watchers (S : PS) (x0 : Nat) (x1 : Int32) (x2 : Int32) (Q : Int32 → PS → Prop) : Prop := (pK S x0 = 11 ∧ (wpX12_isVariable (sI S x0 0 (0 : Int32)) x0 x1 (fun r25 S26 => (pK S26 x0 = 11 ∧ (wpX12_may S26 x0 r25 (1 : Int32) (fun r28 S29 => ((r28 = 0 → (Q (0 : Int32) S29)) ∧ (¬ r28 = 0 → (wpX12_isIn S29 x2 (0 : Int32) (4 : Int32) (fun r30 S31 => (pK S31 x0 = 11 ∧ (wpX12_may S31 x0 r30 (2 : Int32) (fun r33 S34 => ((¬ r33 = 0 → (∃ n9 : Nat, wpX12_watchers_b39 Q n9 S34 x0 x1 x2 (0 : Int32) (0 : Int32))) ∧ (r33 = 0 → (Q (0 : Int32) S34))))))))))))))))
set_option maxRecDepth 100000 in
set_option maxHeartbeats 4000000 in
theorem cbX12_watchers_b53 {p : Program} {l : Launch} {e : Env} {s : State} {m : MethodId} {args : Array Value} {below : List Frame} {meth : Method} {c : Code} {G : PG} {Q : Int32 → PS → Prop} (C : pCx p s m args meth c G cX12_watchers 7 yX12_watchers.cls wsX12_watchers) (hr : meth.sig.returnType = (some .int)) (hin : meth.name = yX12_watchers.name) {K39 : PS → Nat → Int32 → Int32 → Int32 → Int32 → Prop} (hK39 : ∀ (S : PS) (x0 : Nat) (x1 : Int32) (x2 : Int32) (x3 : Int32) (x4 : Int32), K39 S x0 x1 x2 x3 x4 → PW p l e rmX12_watchers s m args below meth c (MQ below (va_Qi Q (pB G) (pFr G)) args s rmX12_watchers.cells rmX12_watchers.slots (pFr G)) G 7 S 0 0 [(0, .ref (G.2.2 + x0)), (1, .int x1), (2, .int x2), (3, .int x3), (4, .int x4)] 39 ([])) (n : Nat) : ∀ (S : PS) (x0 : Nat) (x1 : Int32) (x2 : Int32) (x3 : Int32) (x4 : Int32) (x5 : Int32), wpX12_watchers_b53 K39 Q n S x0 x1 x2 x3 x4 x5 → PW p l e rmX12_watchers s m args below meth c (MQ below (va_Qi Q (pB G) (pFr G)) args s rmX12_watchers.cells rmX12_watchers.slots (pFr G)) G 7 S 0 0 [(0, .ref (G.2.2 + x0)), (1, .int x1), (2, .int x2), (3, .int x3), (4, .int x4), (5, .int x5)] 53 ([]) := by
  induction n with
  | zero => intro S x0 x1 x2 x3 x4 x5 h; exact h.elim
  | succ n ih =>
    intro S x0 x1 x2 x3 x4 x5 h
    unfold wpX12_watchers_b53 at h
    refine pw_iload (pc := 53) C 5 dX12_watchers_53 rfl ?_
    refine pw_aload_n (pc := 55) C 0 dX12_watchers_55 rfl rfl ?_
    refine pw_iload (pc := 56) C 4 dX12_watchers_56 rfl ?_
    refine pw_iconst (pc := 58) (v := 1 ) C dX12_watchers_58 (by decide) ?_
    obtain ⟨hk1, h⟩ := h
    refine pw_calli (pc := 59) (kc2 := 0) (kn2 := 0) (pRunV (pc := 59) C (ctX12_of l G  _ x0 x4 (1 : Int32) _ h) (cwV 2 C.2.2.2.2.1 gX12_watchers_X12_of rfl rfl rfl (by decide +kernel) ⟨Nat.le_of_ble_eq_true rfl, Nat.le_of_ble_eq_true rfl⟩) pCl10 hk1 rfl rfl (Nat.le_of_ble_eq_true rfl) dX12_watchers_59 ⟨Nat.le_of_ble_eq_true rfl, Nat.le_of_ble_eq_true rfl⟩) rfl rfl (fun r2 S3 h => ?_)
    refine pw_iconst (pc := 62) (v := 5 ) C dX12_watchers_62 (by decide) ?_
    refine pw_imul (pc := 63) C dX12_watchers_63 ?_
    refine pw_icmp_ge (pc := 64) (tgt := 153) C dX12_watchers_64 rfl ⟨fun hc => ?_, fun hc => ?_⟩
    · replace h := h.1 hc
      refine pw_iincK (pc := 153) (w := 1) C [(4, .int (x4 + 1)), (0, .ref (G.2.2 + x0)), (1, .int x1), (2, .int x2), (3, .int x3), (5, .int x5)] 4 dX12_watchers_153 (by decide) rfl (by decide) rfl ?_
      refine pw_goto (pc := 156) (tgt := 39) C dX12_watchers_156 rfl ?_
      refine pw_sub [1, 2, 3, 4, 0] (LV2 := [(0, .ref (G.2.2 + x0)), (1, .int x1), (2, .int x2), (3, .int x3), (4, .int (x4 + 1))]) rfl ?_
      exact hK39 _ _ _ _ _ _ h
    · replace h := h.2 hc
      refine pw_aload_n (pc := 67) C 0 dX12_watchers_67 rfl rfl ?_
      refine pw_iload (pc := 68) C 4 dX12_watchers_68 rfl ?_
      refine pw_iload_n (pc := 70) C 1 dX12_watchers_70 rfl rfl ?_
      obtain ⟨hk4, h⟩ := h
      refine pw_calli (pc := 71) (kc2 := 0) (kn2 := 0) (pRunV (pc := 71) C (ctX12_isAmong l G  _ x0 x4 x1 _ h) (cwV 2 C.2.2.2.2.1 gX12_watchers_X12_isAmong rfl rfl rfl (by decide +kernel) ⟨Nat.le_of_ble_eq_true rfl, Nat.le_of_ble_eq_true rfl⟩) pCl10 hk4 rfl rfl (Nat.le_of_ble_eq_true rfl) dX12_watchers_71 ⟨Nat.le_of_ble_eq_true rfl, Nat.le_of_ble_eq_true rfl⟩) rfl rfl (fun r5 S6 h => ?_)
      refine pw_if_eq (pc := 74) (tgt := 153) C dX12_watchers_74 rfl ⟨fun hc => ?_, fun hc => ?_⟩
      · replace h := h.1 hc
        refine pw_iincK (pc := 153) (w := 1) C [(4, .int (x4 + 1)), (0, .ref (G.2.2 + x0)), (1, .int x1), (2, .int x2), (3, .int x3), (5, .int x5)] 4 dX12_watchers_153 (by decide) rfl (by decide) rfl ?_
        refine pw_goto (pc := 156) (tgt := 39) C dX12_watchers_156 rfl ?_
        refine pw_sub [1, 2, 3, 4, 0] (LV2 := [(0, .ref (G.2.2 + x0)), (1, .int x1), (2, .int x2), (3, .int x3), (4, .int (x4 + 1))]) rfl ?_
        exact hK39 _ _ _ _ _ _ h
      · replace h := h.2 hc
        refine pw_aload_n (pc := 77) C 0 dX12_watchers_77 rfl rfl ?_
        refine pw_iload (pc := 78) C 4 dX12_watchers_78 rfl ?_
        refine pw_iconst (pc := 80) (v := 2 ) C dX12_watchers_80 (by decide) ?_
        refine pw_iload (pc := 81) C 5 dX12_watchers_81 rfl ?_
        refine pw_iconst (pc := 83) (v := 5 ) C dX12_watchers_83 (by decide) ?_
        refine pw_idiv (pc := 84) C dX12_watchers_84 (by decide) ?_
        refine pw_iadd (pc := 85) C dX12_watchers_85 ?_
        obtain ⟨hk7, h⟩ := h
        refine pw_calli (pc := 86) (kc2 := 0) (kn2 := 0) (pRunV (pc := 86) C (ctX12_of l G  _ x0 x4 ((2 : Int32) + (x5 / (5 : Int32))) _ h) (cwV 2 C.2.2.2.2.1 gX12_watchers_X12_of rfl rfl rfl (by decide +kernel) ⟨Nat.le_of_ble_eq_true rfl, Nat.le_of_ble_eq_true rfl⟩) pCl10 hk7 rfl rfl (Nat.le_of_ble_eq_true rfl) dX12_watchers_86 ⟨Nat.le_of_ble_eq_true rfl, Nat.le_of_ble_eq_true rfl⟩) rfl rfl (fun r8 S9 h => ?_)
        refine pw_istore (pc := 89) C [(6, .int r8), (0, .ref (G.2.2 + x0)), (1, .int x1), (2, .int x2), (3, .int x3), (4, .int x4), (5, .int x5)] dX12_watchers_89 (by decide) rfl ?_
        refine pw_iload (pc := 91) C 0 dX12_watchers_91 rfl ?_
        refine pw_iload_n (pc := 93) C 2 dX12_watchers_93 rfl rfl ?_
        refine pw_icmp_eq (pc := 94) (tgt := 147) C dX12_watchers_94 rfl ⟨fun hc => ?_, fun hc => ?_⟩
        · replace h := h.1 hc
          refine pw_iincK (pc := 147) (w := 1) C [(5, .int (x5 + 1)), (6, .int r8), (0, .ref (G.2.2 + x0)), (1, .int x1), (2, .int x2), (3, .int x3), (4, .int x4)] 6 dX12_watchers_147 (by decide) rfl (by decide) rfl ?_
          refine pw_goto (pc := 150) (tgt := 53) C dX12_watchers_150 rfl ?_
          refine pw_sub [2, 3, 4, 5, 6, 0] (LV2 := [(0, .ref (G.2.2 + x0)), (1, .int x1), (2, .int x2), (3, .int x3), (4, .int x4), (5, .int (x5 + 1))]) rfl ?_
          exact ih _ _ _ _ _ _ _ h
        · replace h := h.2 hc
          refine pw_aload_n (pc := 97) C 1 dX12_watchers_97 rfl rfl ?_
          refine pw_iload (pc := 98) C 5 dX12_watchers_98 rfl ?_
          refine pw_iload (pc := 100) C 0 dX12_watchers_100 rfl ?_
          refine pw_iload (pc := 102) C 6 dX12_watchers_102 rfl ?_
          refine pw_iconst (pc := 104) (v := 5 ) C dX12_watchers_104 (by decide) ?_
          refine pw_irem (pc := 105) C dX12_watchers_105 (by decide) ?_
          obtain ⟨hk10, h⟩ := h
          refine pw_calli (pc := 106) (kc2 := 0) (kn2 := 0) (pRunV (pc := 106) C (ctX12_isSupportedNow l G  _ x0 x4 r8 (x5 - x5 / (5 : Int32) * (5 : Int32)) _ h) (cwV 3 C.2.2.2.2.1 gX12_watchers_X12_isSupportedNow rfl rfl rfl (by decide +kernel) ⟨Nat.le_of_ble_eq_true rfl, Nat.le_of_ble_eq_true rfl⟩) pCl10 hk10 rfl rfl (Nat.le_of_ble_eq_true rfl) dX12_watchers_106 ⟨Nat.le_of_ble_eq_true rfl, Nat.le_of_ble_eq_true rfl⟩) rfl rfl (fun r11 S12 h => ?_)
          refine pw_if_ne (pc := 109) (tgt := 115) C dX12_watchers_109 rfl ⟨fun hc => ?_, fun hc => ?_⟩
          · replace h := h.1 hc
            refine pw_aload_n (pc := 115) C 1 dX12_watchers_115 rfl rfl ?_
            refine pw_iload (pc := 116) C 5 dX12_watchers_116 rfl ?_
            refine pw_iload (pc := 118) C 0 dX12_watchers_118 rfl ?_
            refine pw_iload (pc := 120) C 6 dX12_watchers_120 rfl ?_
            refine pw_iconst (pc := 122) (v := 5 ) C dX12_watchers_122 (by decide) ?_
            refine pw_irem (pc := 123) C dX12_watchers_123 (by decide) ?_
            obtain ⟨hk13, h⟩ := h
            refine pw_callv (pc := 124) (kc2 := 0) (kn2 := 0) (pRunV (pc := 124) C (ctX12_laysLeast l G  _ x0 x4 r8 (x5 - x5 / (5 : Int32) * (5 : Int32)) _ h) (cwV 3 C.2.2.2.2.1 gX12_watchers_X12_laysLeast rfl rfl rfl (by decide +kernel) ⟨Nat.le_of_ble_eq_true rfl, Nat.le_of_ble_eq_true rfl⟩) pCl10 hk13 rfl rfl (Nat.le_of_ble_eq_true rfl) dX12_watchers_124 ⟨Nat.le_of_ble_eq_true rfl, Nat.le_of_ble_eq_true rfl⟩) rfl rfl (fun S15 h => ?_)
            refine pw_iload_n (pc := 127) C 4 dX12_watchers_127 rfl rfl ?_
            refine pw_aload_n (pc := 128) C 1 dX12_watchers_128 rfl rfl ?_
            obtain ⟨hk16, h⟩ := h
            obtain ⟨o17, ho17, h⟩ := h
            refine pw_getR (pc := 129) (ref := "SupportSolverModel") (k := 27) (index := 52) C pCl10 iX12_watchers_X12 hk16 rfl (by decide +kernel) (Or.inl rfl) (o := o17) ho17 dX12_watchers_129 ?_
            refine pw_iload_n (pc := 132) C 2 dX12_watchers_132 rfl rfl ?_
            obtain ⟨hk18, h⟩ := h
            obtain ⟨hi19, h⟩ := h
            refine pw_iald (pc := 133) C hk18 hi19 dX12_watchers_133 ?_
            refine pw_iconst (pc := 134) (v := 1 ) C dX12_watchers_134 (by decide) ?_
            refine pw_iload_n (pc := 135) C 3 dX12_watchers_135 rfl rfl ?_
            refine pw_ishl (pc := 136) C dX12_watchers_136 ?_
            refine pw_icmp_ne (pc := 137) (tgt := 144) C dX12_watchers_137 rfl ⟨fun hc => ?_, fun hc => ?_⟩
            · replace h := h.1 hc
              refine pw_iconst (pc := 144) (v := 0 ) C dX12_watchers_144 (by decide) ?_
              refine pw_iadd (pc := 145) C dX12_watchers_145 ?_
              refine pw_istore_n (pc := 146) C [(3, .int (x3 + (0 : Int32))), (6, .int r8), (0, .ref (G.2.2 + x0)), (1, .int x1), (2, .int x2), (4, .int x4), (5, .int x5)] dX12_watchers_146 rfl (by decide) rfl ?_
              refine pw_iincK (pc := 147) (w := 1) C [(5, .int (x5 + 1)), (3, .int (x3 + (0 : Int32))), (6, .int r8), (0, .ref (G.2.2 + x0)), (1, .int x1), (2, .int x2), (4, .int x4)] 6 dX12_watchers_147 (by decide) rfl (by decide) rfl ?_
              refine pw_goto (pc := 150) (tgt := 53) C dX12_watchers_150 rfl ?_
              refine pw_sub [3, 4, 5, 1, 6, 0] (LV2 := [(0, .ref (G.2.2 + x0)), (1, .int x1), (2, .int x2), (3, .int (x3 + (0 : Int32))), (4, .int x4), (5, .int (x5 + 1))]) rfl ?_
              exact ih _ _ _ _ _ _ _ h
            · replace h := h.2 hc
              refine pw_iconst (pc := 140) (v := 1 ) C dX12_watchers_140 (by decide) ?_
              refine pw_goto (pc := 141) (tgt := 145) C dX12_watchers_141 rfl ?_
              refine pw_iadd (pc := 145) C dX12_watchers_145 ?_
              refine pw_istore_n (pc := 146) C [(3, .int (x3 + (1 : Int32))), (6, .int r8), (0, .ref (G.2.2 + x0)), (1, .int x1), (2, .int x2), (4, .int x4), (5, .int x5)] dX12_watchers_146 rfl (by decide) rfl ?_
              refine pw_iincK (pc := 147) (w := 1) C [(5, .int (x5 + 1)), (3, .int (x3 + (1 : Int32))), (6, .int r8), (0, .ref (G.2.2 + x0)), (1, .int x1), (2, .int x2), (4, .int x4)] 6 dX12_watchers_147 (by decide) rfl (by decide) rfl ?_
              refine pw_goto (pc := 150) (tgt := 53) C dX12_watchers_150 rfl ?_
              refine pw_sub [3, 4, 5, 1, 6, 0] (LV2 := [(0, .ref (G.2.2 + x0)), (1, .int x1), (2, .int x2), (3, .int (x3 + (1 : Int32))), (4, .int x4), (5, .int (x5 + 1))]) rfl ?_
              exact ih _ _ _ _ _ _ _ h
          · replace h := h.2 hc
            refine pw_goto (pc := 112) (tgt := 147) C dX12_watchers_112 rfl ?_
            refine pw_iincK (pc := 147) (w := 1) C [(5, .int (x5 + 1)), (6, .int r8), (0, .ref (G.2.2 + x0)), (1, .int x1), (2, .int x2), (3, .int x3), (4, .int x4)] 6 dX12_watchers_147 (by decide) rfl (by decide) rfl ?_
            refine pw_goto (pc := 150) (tgt := 53) C dX12_watchers_150 rfl ?_
            refine pw_sub [2, 3, 4, 5, 6, 0] (LV2 := [(0, .ref (G.2.2 + x0)), (1, .int x1), (2, .int x2), (3, .int x3), (4, .int x4), (5, .int (x5 + 1))]) rfl ?_
            exact ih _ _ _ _ _ _ _ h
set_option maxRecDepth 100000 in
set_option maxHeartbeats 4000000 in
theorem cbX12_watchers_b39 {p : Program} {l : Launch} {e : Env} {s : State} {m : MethodId} {args : Array Value} {below : List Frame} {meth : Method} {c : Code} {G : PG} {Q : Int32 → PS → Prop} (C : pCx p s m args meth c G cX12_watchers 7 yX12_watchers.cls wsX12_watchers) (hr : meth.sig.returnType = (some .int)) (hin : meth.name = yX12_watchers.name)  (n : Nat) : ∀ (S : PS) (x0 : Nat) (x1 : Int32) (x2 : Int32) (x3 : Int32) (x4 : Int32), wpX12_watchers_b39  Q n S x0 x1 x2 x3 x4 → PW p l e rmX12_watchers s m args below meth c (MQ below (va_Qi Q (pB G) (pFr G)) args s rmX12_watchers.cells rmX12_watchers.slots (pFr G)) G 7 S 0 0 [(0, .ref (G.2.2 + x0)), (1, .int x1), (2, .int x2), (3, .int x3), (4, .int x4)] 39 ([]) := by
  induction n with
  | zero => intro S x0 x1 x2 x3 x4 h; exact h.elim
  | succ n ih =>
    intro S x0 x1 x2 x3 x4 h
    unfold wpX12_watchers_b39 at h
    refine pw_iload (pc := 39) C 4 dX12_watchers_39 rfl ?_
    refine pw_aload_n (pc := 41) C 0 dX12_watchers_41 rfl rfl ?_
    obtain ⟨hk20, h⟩ := h
    obtain ⟨o21, ho21, h⟩ := h
    refine pw_getR (pc := 42) (ref := "SupportSolverModel") (k := 1) (index := 7) C pCl10 iX12_watchers_X12 hk20 rfl (by decide +kernel) (Or.inl rfl) (o := o21) ho21 dX12_watchers_42 ?_
    refine pw_iconst (pc := 45) (v := 1 ) C dX12_watchers_45 (by decide) ?_
    obtain ⟨hk22, h⟩ := h
    obtain ⟨hi23, h⟩ := h
    refine pw_iald (pc := 46) C hk22 hi23 dX12_watchers_46 ?_
    refine pw_icmp_ge (pc := 47) (tgt := 159) C dX12_watchers_47 rfl ⟨fun hc => ?_, fun hc => ?_⟩
    · replace h := h.1 hc
      refine pw_iload_n (pc := 159) C 3 dX12_watchers_159 rfl rfl ?_
      exact pw_iret (pc := 160) C hr h dX12_watchers_160
    · replace h := h.2 hc
      refine pw_iconst (pc := 50) (v := 0 ) C dX12_watchers_50 (by decide) ?_
      refine pw_istore (pc := 51) C [(5, .int (0 : Int32)), (0, .ref (G.2.2 + x0)), (1, .int x1), (2, .int x2), (3, .int x3), (4, .int x4)] dX12_watchers_51 (by decide) rfl ?_
      refine pw_sub [1, 2, 3, 4, 5, 0] (LV2 := [(0, .ref (G.2.2 + x0)), (1, .int x1), (2, .int x2), (3, .int x3), (4, .int x4), (5, .int (0 : Int32))]) rfl ?_
      obtain ⟨n9, h⟩ := h
      exact cbX12_watchers_b53 C hr hin ih n9 _ _ _ _ _ _ _ h
set_option maxRecDepth 100000 in
set_option maxHeartbeats 4000000 in
theorem ctX12_watchers (l : Launch) (G : PG) (S : PS) (x0 : Nat) (x1 : Int32) (x2 : Int32) (Q : Int32 → PS → Prop) (h : wpX12_watchers S x0 x1 x2 Q) : mI l yX12_watchers wsX12_watchers rmX12_watchers G S [.ref (G.2.2 + x0), .int x1, .int x2] Q := by
  unfold mI
  refine met_of (cc := cX12_watchers) (maxL := 7) (ret := (some .int)) (by decide) rfl (Nat.le_of_ble_eq_true rfl) ?_
  intro p e s m args below meth c C hr hin
  unfold wpX12_watchers at h
  show PW p l e _ s m args below meth c _ G 7 S 0 0 [(0, .ref (G.2.2 + x0)), (1, .int x1), (2, .int x2)] 0 []
  refine pw_aload_n (pc := 0) C 0 dX12_watchers_0 rfl rfl ?_
  refine pw_iconst (pc := 1) (v := 0 ) C dX12_watchers_1 (by decide) ?_
  obtain ⟨hk24, h⟩ := h
  refine pw_putI (pc := 2) (ref := "SupportSolverModel") (k := 0) (index := 70) C pCl10 iX12_watchers_X12 hk24 rfl (by decide +kernel) (Or.inl rfl) (Or.inl rfl) rfl rfl dX12_watchers_2 ?_
  refine pw_aload_n (pc := 5) (S := (sI S x0 0 (0 : Int32))) C 0 dX12_watchers_5 rfl rfl ?_
  refine pw_aload_n (pc := 6) (S := (sI S x0 0 (0 : Int32))) C 0 dX12_watchers_6 rfl rfl ?_
  refine pw_iload_n (pc := 7) (S := (sI S x0 0 (0 : Int32))) C 1 dX12_watchers_7 rfl rfl ?_
  refine pw_calli (pc := 8) (S := (sI S x0 0 (0 : Int32))) (kc2 := 0) (kn2 := 0) (pRunV (pc := 8) (S := (sI S x0 0 (0 : Int32))) C (ctX12_isVariable l G  _ x0 x1 _ h) (cwV 1 C.2.2.2.2.1 gX12_watchers_X12_isVariable rfl rfl rfl (by decide +kernel) ⟨Nat.le_of_ble_eq_true rfl, Nat.le_of_ble_eq_true rfl⟩) pCl10 hk24 rfl rfl (Nat.le_of_ble_eq_true rfl) dX12_watchers_8 ⟨Nat.le_of_ble_eq_true rfl, Nat.le_of_ble_eq_true rfl⟩) rfl rfl (fun r25 S26 h => ?_)
  refine pw_iconst (pc := 11) (v := 1 ) C dX12_watchers_11 (by decide) ?_
  obtain ⟨hk27, h⟩ := h
  refine pw_calli (pc := 12) (kc2 := 0) (kn2 := 0) (pRunV (pc := 12) C (ctX12_may l G  _ x0 r25 (1 : Int32) _ h) (cwV 2 C.2.2.2.2.1 gX12_watchers_X12_may rfl rfl rfl (by decide +kernel) ⟨Nat.le_of_ble_eq_true rfl, Nat.le_of_ble_eq_true rfl⟩) pCl10 hk27 rfl rfl (Nat.le_of_ble_eq_true rfl) dX12_watchers_12 ⟨Nat.le_of_ble_eq_true rfl, Nat.le_of_ble_eq_true rfl⟩) rfl rfl (fun r28 S29 h => ?_)
  refine pw_if_eq (pc := 15) (tgt := 32) C dX12_watchers_15 rfl ⟨fun hc => ?_, fun hc => ?_⟩
  · replace h := h.1 hc
    refine pw_iconst (pc := 32) (v := 0 ) C dX12_watchers_32 (by decide) ?_
    exact pw_iret (pc := 33) C hr h dX12_watchers_33
  · replace h := h.2 hc
    refine pw_aload_n (pc := 18) C 0 dX12_watchers_18 rfl rfl ?_
    refine pw_iload_n (pc := 19) C 2 dX12_watchers_19 rfl rfl ?_
    refine pw_iconst (pc := 20) (v := 0 ) C dX12_watchers_20 (by decide) ?_
    refine pw_iconst (pc := 21) (v := 4 ) C dX12_watchers_21 (by decide) ?_
    refine pw_calli (pc := 22) (kc2 := 0) (kn2 := 0) (pRunS (pc := 22) C (ctX12_isIn l G  _ x2 (0 : Int32) (4 : Int32) _ h) (va_cwS 3 C.2.2.2.2.1 gX12_watchers_X12_isIn rfl rfl rfl (by decide +kernel) ⟨Nat.le_of_ble_eq_true rfl, Nat.le_of_ble_eq_true rfl⟩) rfl rfl (Nat.le_of_ble_eq_true rfl) dX12_watchers_22 ⟨Nat.le_of_ble_eq_true rfl, Nat.le_of_ble_eq_true rfl⟩) rfl rfl (fun r30 S31 h => ?_)
    refine pw_iconst (pc := 25) (v := 2 ) C dX12_watchers_25 (by decide) ?_
    obtain ⟨hk32, h⟩ := h
    refine pw_calli (pc := 26) (kc2 := 0) (kn2 := 0) (pRunV (pc := 26) C (ctX12_may l G  _ x0 r30 (2 : Int32) _ h) (cwV 2 C.2.2.2.2.1 gX12_watchers_X12_may rfl rfl rfl (by decide +kernel) ⟨Nat.le_of_ble_eq_true rfl, Nat.le_of_ble_eq_true rfl⟩) pCl10 hk32 rfl rfl (Nat.le_of_ble_eq_true rfl) dX12_watchers_26 ⟨Nat.le_of_ble_eq_true rfl, Nat.le_of_ble_eq_true rfl⟩) rfl rfl (fun r33 S34 h => ?_)
    refine pw_if_ne (pc := 29) (tgt := 34) C dX12_watchers_29 rfl ⟨fun hc => ?_, fun hc => ?_⟩
    · replace h := h.1 hc
      refine pw_iconst (pc := 34) (v := 0 ) C dX12_watchers_34 (by decide) ?_
      refine pw_istore_n (pc := 35) C [(3, .int (0 : Int32)), (0, .ref (G.2.2 + x0)), (1, .int x1), (2, .int x2)] dX12_watchers_35 rfl (by decide) rfl ?_
      refine pw_iconst (pc := 36) (v := 0 ) C dX12_watchers_36 (by decide) ?_
      refine pw_istore (pc := 37) C [(4, .int (0 : Int32)), (3, .int (0 : Int32)), (0, .ref (G.2.2 + x0)), (1, .int x1), (2, .int x2)] dX12_watchers_37 (by decide) rfl ?_
      refine pw_sub [2, 3, 4, 1, 0] (LV2 := [(0, .ref (G.2.2 + x0)), (1, .int x1), (2, .int x2), (3, .int (0 : Int32)), (4, .int (0 : Int32))]) rfl ?_
      obtain ⟨n9, h⟩ := h
      exact cbX12_watchers_b39 C hr hin  n9 _ _ _ _ _ _ h
    · replace h := h.2 hc
      refine pw_iconst (pc := 32) (v := 0 ) C dX12_watchers_32 (by decide) ?_
      exact pw_iret (pc := 33) C hr h dX12_watchers_33

abbrev rmX12_givenIn : Room := { frames := 1, cells := 0, slots := 0, locals := 22 }
theorem iX12_givenIn_X12 : ∀ w ∈ u_ws RX12 TX12 32, w ∈ wsX12_givenIn := fun _ h => List.mem_cons_of_mem _ (List.mem_append_right _ h)
def wpX12_givenIn_b6  (Q : Int32 → PS → Prop) : Nat → PS → Nat → Int32 → Int32 → Int32 → Int32 → Int32 → Int32 → Prop
  | 0 => fun _ _ _ _ _ _ _ _ => False
  | n + 1 => fun S x0 x1 x2 x3 x4 x5 x6 => ((x3 ≤ x6 → (Q x5 S)) ∧ (¬ x3 ≤ x6 → (pK S x0 = 11 ∧ (∃ o2, pR S x0 28 = some o2 ∧ (wpX12_of S x0 x1 ((2 : Int32) + x6) (fun r3 S4 => (pK S4 o2 = 13 ∧ (vp_in r3 (pL S4 o2) ∧ (wpX12_has S4 x4 (pI S4 o2 (r3).toNatClampNeg) (fun r7 S8 => ((r7 = 0 → (wpX12_givenIn_b6 Q n S8 x0 x1 x2 x3 x4 (x5 + (0 : Int32)) (x6 + 1))) ∧ (¬ r7 = 0 → (wpX12_givenIn_b6 Q n S8 x0 x1 x2 x3 x4 (x5 + (1 : Int32)) (x6 + 1))))))))))))))
def wpX12_givenIn (S : PS) (x0 : Nat) (x1 : Int32) (x2 : Int32) (x3 : Int32) (x4 : Int32) (Q : Int32 → PS → Prop) : Prop := (∃ n9 : Nat, wpX12_givenIn_b6 Q n9 S x0 x1 x2 x3 x4 (0 : Int32) x2)
set_option maxRecDepth 100000 in
set_option maxHeartbeats 4000000 in
theorem cbX12_givenIn_b6 {p : Program} {l : Launch} {e : Env} {s : State} {m : MethodId} {args : Array Value} {below : List Frame} {meth : Method} {c : Code} {G : PG} {Q : Int32 → PS → Prop} (C : pCx p s m args meth c G cX12_givenIn 7 yX12_givenIn.cls wsX12_givenIn) (hr : meth.sig.returnType = (some .int)) (hin : meth.name = yX12_givenIn.name)  (n : Nat) : ∀ (S : PS) (x0 : Nat) (x1 : Int32) (x2 : Int32) (x3 : Int32) (x4 : Int32) (x5 : Int32) (x6 : Int32), wpX12_givenIn_b6  Q n S x0 x1 x2 x3 x4 x5 x6 → PW p l e rmX12_givenIn s m args below meth c (MQ below (va_Qi Q (pB G) (pFr G)) args s rmX12_givenIn.cells rmX12_givenIn.slots (pFr G)) G 7 S 0 0 [(0, .ref (G.2.2 + x0)), (1, .int x1), (2, .int x2), (3, .int x3), (4, .int x4), (5, .int x5), (6, .int x6)] 6 ([]) := by
  induction n with
  | zero => intro S x0 x1 x2 x3 x4 x5 x6 h; exact h.elim
  | succ n ih =>
    intro S x0 x1 x2 x3 x4 x5 x6 h
    unfold wpX12_givenIn_b6 at h
    refine pw_iload (pc := 6) C 6 dX12_givenIn_6 rfl ?_
    refine pw_iload_n (pc := 8) C 3 dX12_givenIn_8 rfl rfl ?_
    refine pw_icmp_ge (pc := 9) (tgt := 50) C dX12_givenIn_9 rfl ⟨fun hc => ?_, fun hc => ?_⟩
    · replace h := h.1 hc
      refine pw_iload (pc := 50) C 5 dX12_givenIn_50 rfl ?_
      exact pw_iret (pc := 52) C hr h dX12_givenIn_52
    · replace h := h.2 hc
      refine pw_iload (pc := 12) C 5 dX12_givenIn_12 rfl ?_
      refine pw_iload (pc := 14) C 4 dX12_givenIn_14 rfl ?_
      refine pw_aload_n (pc := 16) C 0 dX12_givenIn_16 rfl rfl ?_
      obtain ⟨hk1, h⟩ := h
      obtain ⟨o2, ho2, h⟩ := h
      refine pw_getR (pc := 17) (ref := "SupportSolverModel") (k := 28) (index := 55) C pCl10 iX12_givenIn_X12 hk1 rfl (by decide +kernel) (Or.inl rfl) (o := o2) ho2 dX12_givenIn_17 ?_
      refine pw_aload_n (pc := 20) C 0 dX12_givenIn_20 rfl rfl ?_
      refine pw_iload_n (pc := 21) C 1 dX12_givenIn_21 rfl rfl ?_
      refine pw_iconst (pc := 22) (v := 2 ) C dX12_givenIn_22 (by decide) ?_
      refine pw_iload (pc := 23) C 6 dX12_givenIn_23 rfl ?_
      refine pw_iadd (pc := 25) C dX12_givenIn_25 ?_
      refine pw_calli (pc := 26) (kc2 := 0) (kn2 := 0) (pRunV (pc := 26) C (ctX12_of l G  _ x0 x1 ((2 : Int32) + x6) _ h) (cwV 2 C.2.2.2.2.1 gX12_givenIn_X12_of rfl rfl rfl (by decide +kernel) ⟨Nat.le_of_ble_eq_true rfl, Nat.le_of_ble_eq_true rfl⟩) pCl10 hk1 rfl rfl (Nat.le_of_ble_eq_true rfl) dX12_givenIn_26 ⟨Nat.le_of_ble_eq_true rfl, Nat.le_of_ble_eq_true rfl⟩) rfl rfl (fun r3 S4 h => ?_)
      obtain ⟨hk5, h⟩ := h
      obtain ⟨hi6, h⟩ := h
      refine pw_iald (pc := 29) C hk5 hi6 dX12_givenIn_29 ?_
      refine pw_calli (pc := 30) (kc2 := 0) (kn2 := 0) (pRunS (pc := 30) C (ctX12_has l G  _ x4 (pI S4 o2 (r3).toNatClampNeg) _ h) (va_cwS 2 C.2.2.2.2.1 gX12_givenIn_X12_has rfl rfl rfl (by decide +kernel) ⟨Nat.le_of_ble_eq_true rfl, Nat.le_of_ble_eq_true rfl⟩) rfl rfl (Nat.le_of_ble_eq_true rfl) dX12_givenIn_30 ⟨Nat.le_of_ble_eq_true rfl, Nat.le_of_ble_eq_true rfl⟩) rfl rfl (fun r7 S8 h => ?_)
      refine pw_if_eq (pc := 33) (tgt := 40) C dX12_givenIn_33 rfl ⟨fun hc => ?_, fun hc => ?_⟩
      · replace h := h.1 hc
        refine pw_iconst (pc := 40) (v := 0 ) C dX12_givenIn_40 (by decide) ?_
        refine pw_iadd (pc := 41) C dX12_givenIn_41 ?_
        refine pw_istore (pc := 42) C [(5, .int (x5 + (0 : Int32))), (0, .ref (G.2.2 + x0)), (1, .int x1), (2, .int x2), (3, .int x3), (4, .int x4), (6, .int x6)] dX12_givenIn_42 (by decide) rfl ?_
        refine pw_iincK (pc := 44) (w := 1) C [(6, .int (x6 + 1)), (5, .int (x5 + (0 : Int32))), (0, .ref (G.2.2 + x0)), (1, .int x1), (2, .int x2), (3, .int x3), (4, .int x4)] 6 dX12_givenIn_44 (by decide) rfl (by decide) rfl ?_
        refine pw_goto (pc := 47) (tgt := 6) C dX12_givenIn_47 rfl ?_
        refine pw_sub [2, 3, 4, 5, 6, 1, 0] (LV2 := [(0, .ref (G.2.2 + x0)), (1, .int x1), (2, .int x2), (3, .int x3), (4, .int x4), (5, .int (x5 + (0 : Int32))), (6, .int (x6 + 1))]) rfl ?_
        exact ih _ _ _ _ _ _ _ _ h
      · replace h := h.2 hc
        refine pw_iconst (pc := 36) (v := 1 ) C dX12_givenIn_36 (by decide) ?_
        refine pw_goto (pc := 37) (tgt := 41) C dX12_givenIn_37 rfl ?_
        refine pw_iadd (pc := 41) C dX12_givenIn_41 ?_
        refine pw_istore (pc := 42) C [(5, .int (x5 + (1 : Int32))), (0, .ref (G.2.2 + x0)), (1, .int x1), (2, .int x2), (3, .int x3), (4, .int x4), (6, .int x6)] dX12_givenIn_42 (by decide) rfl ?_
        refine pw_iincK (pc := 44) (w := 1) C [(6, .int (x6 + 1)), (5, .int (x5 + (1 : Int32))), (0, .ref (G.2.2 + x0)), (1, .int x1), (2, .int x2), (3, .int x3), (4, .int x4)] 6 dX12_givenIn_44 (by decide) rfl (by decide) rfl ?_
        refine pw_goto (pc := 47) (tgt := 6) C dX12_givenIn_47 rfl ?_
        refine pw_sub [2, 3, 4, 5, 6, 1, 0] (LV2 := [(0, .ref (G.2.2 + x0)), (1, .int x1), (2, .int x2), (3, .int x3), (4, .int x4), (5, .int (x5 + (1 : Int32))), (6, .int (x6 + 1))]) rfl ?_
        exact ih _ _ _ _ _ _ _ _ h
set_option maxRecDepth 100000 in
set_option maxHeartbeats 4000000 in
theorem ctX12_givenIn (l : Launch) (G : PG) (S : PS) (x0 : Nat) (x1 : Int32) (x2 : Int32) (x3 : Int32) (x4 : Int32) (Q : Int32 → PS → Prop) (h : wpX12_givenIn S x0 x1 x2 x3 x4 Q) : mI l yX12_givenIn wsX12_givenIn rmX12_givenIn G S [.ref (G.2.2 + x0), .int x1, .int x2, .int x3, .int x4] Q := by
  unfold mI
  refine met_of (cc := cX12_givenIn) (maxL := 7) (ret := (some .int)) (by decide) rfl (Nat.le_of_ble_eq_true rfl) ?_
  intro p e s m args below meth c C hr hin
  unfold wpX12_givenIn at h
  show PW p l e _ s m args below meth c _ G 7 S 0 0 [(0, .ref (G.2.2 + x0)), (1, .int x1), (2, .int x2), (3, .int x3), (4, .int x4)] 0 []
  refine pw_iconst (pc := 0) (v := 0 ) C dX12_givenIn_0 (by decide) ?_
  refine pw_istore (pc := 1) C [(5, .int (0 : Int32)), (0, .ref (G.2.2 + x0)), (1, .int x1), (2, .int x2), (3, .int x3), (4, .int x4)] dX12_givenIn_1 (by decide) rfl ?_
  refine pw_iload_n (pc := 3) C 3 dX12_givenIn_3 rfl rfl ?_
  refine pw_istore (pc := 4) C [(6, .int x2), (5, .int (0 : Int32)), (0, .ref (G.2.2 + x0)), (1, .int x1), (2, .int x2), (3, .int x3), (4, .int x4)] dX12_givenIn_4 (by decide) rfl ?_
  refine pw_sub [2, 3, 4, 5, 6, 1, 0] (LV2 := [(0, .ref (G.2.2 + x0)), (1, .int x1), (2, .int x2), (3, .int x3), (4, .int x4), (5, .int (0 : Int32)), (6, .int x2)]) rfl ?_
  obtain ⟨n9, h⟩ := h
  exact cbX12_givenIn_b6 C hr hin  n9 _ _ _ _ _ _ _ _ h

abbrev rmX12_isCounted : Room := { frames := 2, cells := 0, slots := 0, locals := 48 }
def wpX12_isCounted_b2  (Q : Int32 → PS → Prop) : Nat → PS → Nat → Int32 → Int32 → Prop
  | 0 => fun _ _ _ _ => False
  | n + 1 => fun S x0 x1 x2 => (((5 : Int32) ≤ x2 → (Q (1 : Int32) S)) ∧ (¬ (5 : Int32) ≤ x2 → (pK S x0 = 11 ∧ (wpX12_of S x0 x1 (1 : Int32) (fun r2 S3 => (pK S3 x0 = 11 ∧ (wpX12_givenIn S3 x0 x1 (0 : Int32) r2 ((1 : Int32) <<< (x2 &&& 31)) (fun r5 S6 => (pK S6 x0 = 11 ∧ (wpX12_of S6 x0 x1 ((9 : Int32) + x2) (fun r8 S9 => (pK S9 x0 = 11 ∧ (wpX12_of S9 x0 x1 ((14 : Int32) + x2) (fun r11 S12 => (wpX12_isIn S12 r5 r8 r11 (fun r13 S14 => ((¬ r13 = 0 → (wpX12_isCounted_b2 Q n S14 x0 x1 (x2 + 1))) ∧ (r13 = 0 → (Q (0 : Int32) S14)))))))))))))))))))
def wpX12_isCounted (S : PS) (x0 : Nat) (x1 : Int32) (Q : Int32 → PS → Prop) : Prop := (∃ n9 : Nat, wpX12_isCounted_b2 Q n9 S x0 x1 (0 : Int32))
set_option maxRecDepth 100000 in
set_option maxHeartbeats 4000000 in
theorem cbX12_isCounted_b2 {p : Program} {l : Launch} {e : Env} {s : State} {m : MethodId} {args : Array Value} {below : List Frame} {meth : Method} {c : Code} {G : PG} {Q : Int32 → PS → Prop} (C : pCx p s m args meth c G cX12_isCounted 3 yX12_isCounted.cls wsX12_isCounted) (hr : meth.sig.returnType = (some .boolean)) (hin : meth.name = yX12_isCounted.name)  (n : Nat) : ∀ (S : PS) (x0 : Nat) (x1 : Int32) (x2 : Int32), wpX12_isCounted_b2  Q n S x0 x1 x2 → PW p l e rmX12_isCounted s m args below meth c (MQ below (va_Qi Q (pB G) (pFr G)) args s rmX12_isCounted.cells rmX12_isCounted.slots (pFr G)) G 3 S 0 0 [(0, .ref (G.2.2 + x0)), (1, .int x1), (2, .int x2)] 2 ([]) := by
  induction n with
  | zero => intro S x0 x1 x2 h; exact h.elim
  | succ n ih =>
    intro S x0 x1 x2 h
    unfold wpX12_isCounted_b2 at h
    refine pw_iload_n (pc := 2) C 2 dX12_isCounted_2 rfl rfl ?_
    refine pw_iconst (pc := 3) (v := 5 ) C dX12_isCounted_3 (by decide) ?_
    refine pw_icmp_ge (pc := 4) (tgt := 54) C dX12_isCounted_4 rfl ⟨fun hc => ?_, fun hc => ?_⟩
    · replace h := h.1 hc
      refine pw_iconst (pc := 54) (v := 1 ) C dX12_isCounted_54 (by decide) ?_
      exact pw_zret (pc := 55) C hr rfl h dX12_isCounted_55
    · replace h := h.2 hc
      refine pw_aload_n (pc := 7) C 0 dX12_isCounted_7 rfl rfl ?_
      refine pw_iload_n (pc := 8) C 1 dX12_isCounted_8 rfl rfl ?_
      refine pw_iconst (pc := 9) (v := 0 ) C dX12_isCounted_9 (by decide) ?_
      refine pw_aload_n (pc := 10) C 0 dX12_isCounted_10 rfl rfl ?_
      refine pw_iload_n (pc := 11) C 1 dX12_isCounted_11 rfl rfl ?_
      refine pw_iconst (pc := 12) (v := 1 ) C dX12_isCounted_12 (by decide) ?_
      obtain ⟨hk1, h⟩ := h
      refine pw_calli (pc := 13) (kc2 := 0) (kn2 := 0) (pRunV (pc := 13) C (ctX12_of l G  _ x0 x1 (1 : Int32) _ h) (cwV 2 C.2.2.2.2.1 gX12_isCounted_X12_of rfl rfl rfl (by decide +kernel) ⟨Nat.le_of_ble_eq_true rfl, Nat.le_of_ble_eq_true rfl⟩) pCl10 hk1 rfl rfl (Nat.le_of_ble_eq_true rfl) dX12_isCounted_13 ⟨Nat.le_of_ble_eq_true rfl, Nat.le_of_ble_eq_true rfl⟩) rfl rfl (fun r2 S3 h => ?_)
      refine pw_iconst (pc := 16) (v := 1 ) C dX12_isCounted_16 (by decide) ?_
      refine pw_iload_n (pc := 17) C 2 dX12_isCounted_17 rfl rfl ?_
      refine pw_ishl (pc := 18) C dX12_isCounted_18 ?_
      obtain ⟨hk4, h⟩ := h
      refine pw_calli (pc := 19) (kc2 := 0) (kn2 := 0) (pRunV (pc := 19) C (ctX12_givenIn l G  _ x0 x1 (0 : Int32) r2 ((1 : Int32) <<< (x2 &&& 31)) _ h) (cwV 4 C.2.2.2.2.1 gX12_isCounted_X12_givenIn rfl rfl rfl (by decide +kernel) ⟨Nat.le_of_ble_eq_true rfl, Nat.le_of_ble_eq_true rfl⟩) pCl10 hk4 rfl rfl (Nat.le_of_ble_eq_true rfl) dX12_isCounted_19 ⟨Nat.le_of_ble_eq_true rfl, Nat.le_of_ble_eq_true rfl⟩) rfl rfl (fun r5 S6 h => ?_)
      refine pw_aload_n (pc := 22) C 0 dX12_isCounted_22 rfl rfl ?_
      refine pw_iload_n (pc := 23) C 1 dX12_isCounted_23 rfl rfl ?_
      refine pw_bipush (pc := 24) (v := 9 ) C dX12_isCounted_24 (by decide) ?_
      refine pw_iload_n (pc := 26) C 2 dX12_isCounted_26 rfl rfl ?_
      refine pw_iadd (pc := 27) C dX12_isCounted_27 ?_
      obtain ⟨hk7, h⟩ := h
      refine pw_calli (pc := 28) (kc2 := 0) (kn2 := 0) (pRunV (pc := 28) C (ctX12_of l G  _ x0 x1 ((9 : Int32) + x2) _ h) (cwV 2 C.2.2.2.2.1 gX12_isCounted_X12_of rfl rfl rfl (by decide +kernel) ⟨Nat.le_of_ble_eq_true rfl, Nat.le_of_ble_eq_true rfl⟩) pCl10 hk7 rfl rfl (Nat.le_of_ble_eq_true rfl) dX12_isCounted_28 ⟨Nat.le_of_ble_eq_true rfl, Nat.le_of_ble_eq_true rfl⟩) rfl rfl (fun r8 S9 h => ?_)
      refine pw_aload_n (pc := 31) C 0 dX12_isCounted_31 rfl rfl ?_
      refine pw_iload_n (pc := 32) C 1 dX12_isCounted_32 rfl rfl ?_
      refine pw_bipush (pc := 33) (v := 14 ) C dX12_isCounted_33 (by decide) ?_
      refine pw_iload_n (pc := 35) C 2 dX12_isCounted_35 rfl rfl ?_
      refine pw_iadd (pc := 36) C dX12_isCounted_36 ?_
      obtain ⟨hk10, h⟩ := h
      refine pw_calli (pc := 37) (kc2 := 0) (kn2 := 0) (pRunV (pc := 37) C (ctX12_of l G  _ x0 x1 ((14 : Int32) + x2) _ h) (cwV 2 C.2.2.2.2.1 gX12_isCounted_X12_of rfl rfl rfl (by decide +kernel) ⟨Nat.le_of_ble_eq_true rfl, Nat.le_of_ble_eq_true rfl⟩) pCl10 hk10 rfl rfl (Nat.le_of_ble_eq_true rfl) dX12_isCounted_37 ⟨Nat.le_of_ble_eq_true rfl, Nat.le_of_ble_eq_true rfl⟩) rfl rfl (fun r11 S12 h => ?_)
      refine pw_calli (pc := 40) (kc2 := 0) (kn2 := 0) (pRunS (pc := 40) C (ctX12_isIn l G  _ r5 r8 r11 _ h) (va_cwS 3 C.2.2.2.2.1 gX12_isCounted_X12_isIn rfl rfl rfl (by decide +kernel) ⟨Nat.le_of_ble_eq_true rfl, Nat.le_of_ble_eq_true rfl⟩) rfl rfl (Nat.le_of_ble_eq_true rfl) dX12_isCounted_40 ⟨Nat.le_of_ble_eq_true rfl, Nat.le_of_ble_eq_true rfl⟩) rfl rfl (fun r13 S14 h => ?_)
      refine pw_if_ne (pc := 43) (tgt := 48) C dX12_isCounted_43 rfl ⟨fun hc => ?_, fun hc => ?_⟩
      · replace h := h.1 hc
        refine pw_iincK (pc := 48) (w := 1) C [(2, .int (x2 + 1)), (0, .ref (G.2.2 + x0)), (1, .int x1)] 2 dX12_isCounted_48 (by decide) rfl (by decide) rfl ?_
        refine pw_goto (pc := 51) (tgt := 2) C dX12_isCounted_51 rfl ?_
        refine pw_sub [1, 2, 0] (LV2 := [(0, .ref (G.2.2 + x0)), (1, .int x1), (2, .int (x2 + 1))]) rfl ?_
        exact ih _ _ _ _ h
      · replace h := h.2 hc
        refine pw_iconst (pc := 46) (v := 0 ) C dX12_isCounted_46 (by decide) ?_
        exact pw_zret (pc := 47) C hr rfl h dX12_isCounted_47
set_option maxRecDepth 100000 in
set_option maxHeartbeats 4000000 in
theorem ctX12_isCounted (l : Launch) (G : PG) (S : PS) (x0 : Nat) (x1 : Int32) (Q : Int32 → PS → Prop) (h : wpX12_isCounted S x0 x1 Q) : mI l yX12_isCounted wsX12_isCounted rmX12_isCounted G S [.ref (G.2.2 + x0), .int x1] Q := by
  unfold mI
  refine met_of (cc := cX12_isCounted) (maxL := 3) (ret := (some .boolean)) (by decide) rfl (Nat.le_of_ble_eq_true rfl) ?_
  intro p e s m args below meth c C hr hin
  unfold wpX12_isCounted at h
  show PW p l e _ s m args below meth c _ G 3 S 0 0 [(0, .ref (G.2.2 + x0)), (1, .int x1)] 0 []
  refine pw_iconst (pc := 0) (v := 0 ) C dX12_isCounted_0 (by decide) ?_
  refine pw_istore_n (pc := 1) C [(2, .int (0 : Int32)), (0, .ref (G.2.2 + x0)), (1, .int x1)] dX12_isCounted_1 rfl (by decide) rfl ?_
  refine pw_sub [1, 2, 0] (LV2 := [(0, .ref (G.2.2 + x0)), (1, .int x1), (2, .int (0 : Int32))]) rfl ?_
  obtain ⟨n9, h⟩ := h
  exact cbX12_isCounted_b2 C hr hin  n9 _ _ _ _ h

abbrev rmX12_isSlid : Room := { frames := 2, cells := 0, slots := 0, locals := 48 }
def wpX12_isSlid_b8  (Q : Int32 → PS → Prop) : Nat → PS → Nat → Int32 → Int32 → Prop
  | 0 => fun _ _ _ _ => False
  | n + 1 => fun S x0 x1 x2 => (pK S x0 = 11 ∧ (wpX12_of S x0 x1 (1 : Int32) (fun r2 S3 => ((r2 < x2 → (Q (1 : Int32) S3)) ∧ (¬ r2 < x2 → (pK S3 x0 = 11 ∧ (wpX12_of S3 x0 x1 (9 : Int32) (fun r5 S6 => (pK S6 x0 = 11 ∧ (wpX12_of S6 x0 x1 (10 : Int32) (fun r8 S9 => (pK S9 x0 = 11 ∧ (wpX12_givenIn S9 x0 x1 (x2 - r5) x2 r8 (fun r11 S12 => (pK S12 x0 = 11 ∧ (wpX12_of S12 x0 x1 (11 : Int32) (fun r14 S15 => (pK S15 x0 = 11 ∧ (wpX12_of S15 x0 x1 (12 : Int32) (fun r17 S18 => (wpX12_isIn S18 r11 r14 r17 (fun r19 S20 => ((¬ r19 = 0 → (wpX12_isSlid_b8 Q n S20 x0 x1 (x2 + 1))) ∧ (r19 = 0 → (Q (0 : Int32) S20)))))))))))))))))))))))))
def wpX12_isSlid (S : PS) (x0 : Nat) (x1 : Int32) (Q : Int32 → PS → Prop) : Prop := (pK S x0 = 11 ∧ (wpX12_of S x0 x1 (9 : Int32) (fun r22 S23 => (∃ n9 : Nat, wpX12_isSlid_b8 Q n9 S23 x0 x1 r22))))
set_option maxRecDepth 100000 in
set_option maxHeartbeats 4000000 in
theorem cbX12_isSlid_b8 {p : Program} {l : Launch} {e : Env} {s : State} {m : MethodId} {args : Array Value} {below : List Frame} {meth : Method} {c : Code} {G : PG} {Q : Int32 → PS → Prop} (C : pCx p s m args meth c G cX12_isSlid 3 yX12_isSlid.cls wsX12_isSlid) (hr : meth.sig.returnType = (some .boolean)) (hin : meth.name = yX12_isSlid.name)  (n : Nat) : ∀ (S : PS) (x0 : Nat) (x1 : Int32) (x2 : Int32), wpX12_isSlid_b8  Q n S x0 x1 x2 → PW p l e rmX12_isSlid s m args below meth c (MQ below (va_Qi Q (pB G) (pFr G)) args s rmX12_isSlid.cells rmX12_isSlid.slots (pFr G)) G 3 S 0 0 [(0, .ref (G.2.2 + x0)), (1, .int x1), (2, .int x2)] 8 ([]) := by
  induction n with
  | zero => intro S x0 x1 x2 h; exact h.elim
  | succ n ih =>
    intro S x0 x1 x2 h
    unfold wpX12_isSlid_b8 at h
    refine pw_iload_n (pc := 8) C 2 dX12_isSlid_8 rfl rfl ?_
    refine pw_aload_n (pc := 9) C 0 dX12_isSlid_9 rfl rfl ?_
    refine pw_iload_n (pc := 10) C 1 dX12_isSlid_10 rfl rfl ?_
    refine pw_iconst (pc := 11) (v := 1 ) C dX12_isSlid_11 (by decide) ?_
    obtain ⟨hk1, h⟩ := h
    refine pw_calli (pc := 12) (kc2 := 0) (kn2 := 0) (pRunV (pc := 12) C (ctX12_of l G  _ x0 x1 (1 : Int32) _ h) (cwV 2 C.2.2.2.2.1 gX12_isSlid_X12_of rfl rfl rfl (by decide +kernel) ⟨Nat.le_of_ble_eq_true rfl, Nat.le_of_ble_eq_true rfl⟩) pCl10 hk1 rfl rfl (Nat.le_of_ble_eq_true rfl) dX12_isSlid_12 ⟨Nat.le_of_ble_eq_true rfl, Nat.le_of_ble_eq_true rfl⟩) rfl rfl (fun r2 S3 h => ?_)
    refine pw_icmp_gt (pc := 15) (tgt := 68) C dX12_isSlid_15 rfl ⟨fun hc => ?_, fun hc => ?_⟩
    · replace h := h.1 hc
      refine pw_iconst (pc := 68) (v := 1 ) C dX12_isSlid_68 (by decide) ?_
      exact pw_zret (pc := 69) C hr rfl h dX12_isSlid_69
    · replace h := h.2 hc
      refine pw_aload_n (pc := 18) C 0 dX12_isSlid_18 rfl rfl ?_
      refine pw_iload_n (pc := 19) C 1 dX12_isSlid_19 rfl rfl ?_
      refine pw_iload_n (pc := 20) C 2 dX12_isSlid_20 rfl rfl ?_
      refine pw_aload_n (pc := 21) C 0 dX12_isSlid_21 rfl rfl ?_
      refine pw_iload_n (pc := 22) C 1 dX12_isSlid_22 rfl rfl ?_
      refine pw_bipush (pc := 23) (v := 9 ) C dX12_isSlid_23 (by decide) ?_
      obtain ⟨hk4, h⟩ := h
      refine pw_calli (pc := 25) (kc2 := 0) (kn2 := 0) (pRunV (pc := 25) C (ctX12_of l G  _ x0 x1 (9 : Int32) _ h) (cwV 2 C.2.2.2.2.1 gX12_isSlid_X12_of rfl rfl rfl (by decide +kernel) ⟨Nat.le_of_ble_eq_true rfl, Nat.le_of_ble_eq_true rfl⟩) pCl10 hk4 rfl rfl (Nat.le_of_ble_eq_true rfl) dX12_isSlid_25 ⟨Nat.le_of_ble_eq_true rfl, Nat.le_of_ble_eq_true rfl⟩) rfl rfl (fun r5 S6 h => ?_)
      refine pw_isub (pc := 28) C dX12_isSlid_28 ?_
      refine pw_iload_n (pc := 29) C 2 dX12_isSlid_29 rfl rfl ?_
      refine pw_aload_n (pc := 30) C 0 dX12_isSlid_30 rfl rfl ?_
      refine pw_iload_n (pc := 31) C 1 dX12_isSlid_31 rfl rfl ?_
      refine pw_bipush (pc := 32) (v := 10 ) C dX12_isSlid_32 (by decide) ?_
      obtain ⟨hk7, h⟩ := h
      refine pw_calli (pc := 34) (kc2 := 0) (kn2 := 0) (pRunV (pc := 34) C (ctX12_of l G  _ x0 x1 (10 : Int32) _ h) (cwV 2 C.2.2.2.2.1 gX12_isSlid_X12_of rfl rfl rfl (by decide +kernel) ⟨Nat.le_of_ble_eq_true rfl, Nat.le_of_ble_eq_true rfl⟩) pCl10 hk7 rfl rfl (Nat.le_of_ble_eq_true rfl) dX12_isSlid_34 ⟨Nat.le_of_ble_eq_true rfl, Nat.le_of_ble_eq_true rfl⟩) rfl rfl (fun r8 S9 h => ?_)
      obtain ⟨hk10, h⟩ := h
      refine pw_calli (pc := 37) (kc2 := 0) (kn2 := 0) (pRunV (pc := 37) C (ctX12_givenIn l G  _ x0 x1 (x2 - r5) x2 r8 _ h) (cwV 4 C.2.2.2.2.1 gX12_isSlid_X12_givenIn rfl rfl rfl (by decide +kernel) ⟨Nat.le_of_ble_eq_true rfl, Nat.le_of_ble_eq_true rfl⟩) pCl10 hk10 rfl rfl (Nat.le_of_ble_eq_true rfl) dX12_isSlid_37 ⟨Nat.le_of_ble_eq_true rfl, Nat.le_of_ble_eq_true rfl⟩) rfl rfl (fun r11 S12 h => ?_)
      refine pw_aload_n (pc := 40) C 0 dX12_isSlid_40 rfl rfl ?_
      refine pw_iload_n (pc := 41) C 1 dX12_isSlid_41 rfl rfl ?_
      refine pw_bipush (pc := 42) (v := 11 ) C dX12_isSlid_42 (by decide) ?_
      obtain ⟨hk13, h⟩ := h
      refine pw_calli (pc := 44) (kc2 := 0) (kn2 := 0) (pRunV (pc := 44) C (ctX12_of l G  _ x0 x1 (11 : Int32) _ h) (cwV 2 C.2.2.2.2.1 gX12_isSlid_X12_of rfl rfl rfl (by decide +kernel) ⟨Nat.le_of_ble_eq_true rfl, Nat.le_of_ble_eq_true rfl⟩) pCl10 hk13 rfl rfl (Nat.le_of_ble_eq_true rfl) dX12_isSlid_44 ⟨Nat.le_of_ble_eq_true rfl, Nat.le_of_ble_eq_true rfl⟩) rfl rfl (fun r14 S15 h => ?_)
      refine pw_aload_n (pc := 47) C 0 dX12_isSlid_47 rfl rfl ?_
      refine pw_iload_n (pc := 48) C 1 dX12_isSlid_48 rfl rfl ?_
      refine pw_bipush (pc := 49) (v := 12 ) C dX12_isSlid_49 (by decide) ?_
      obtain ⟨hk16, h⟩ := h
      refine pw_calli (pc := 51) (kc2 := 0) (kn2 := 0) (pRunV (pc := 51) C (ctX12_of l G  _ x0 x1 (12 : Int32) _ h) (cwV 2 C.2.2.2.2.1 gX12_isSlid_X12_of rfl rfl rfl (by decide +kernel) ⟨Nat.le_of_ble_eq_true rfl, Nat.le_of_ble_eq_true rfl⟩) pCl10 hk16 rfl rfl (Nat.le_of_ble_eq_true rfl) dX12_isSlid_51 ⟨Nat.le_of_ble_eq_true rfl, Nat.le_of_ble_eq_true rfl⟩) rfl rfl (fun r17 S18 h => ?_)
      refine pw_calli (pc := 54) (kc2 := 0) (kn2 := 0) (pRunS (pc := 54) C (ctX12_isIn l G  _ r11 r14 r17 _ h) (va_cwS 3 C.2.2.2.2.1 gX12_isSlid_X12_isIn rfl rfl rfl (by decide +kernel) ⟨Nat.le_of_ble_eq_true rfl, Nat.le_of_ble_eq_true rfl⟩) rfl rfl (Nat.le_of_ble_eq_true rfl) dX12_isSlid_54 ⟨Nat.le_of_ble_eq_true rfl, Nat.le_of_ble_eq_true rfl⟩) rfl rfl (fun r19 S20 h => ?_)
      refine pw_if_ne (pc := 57) (tgt := 62) C dX12_isSlid_57 rfl ⟨fun hc => ?_, fun hc => ?_⟩
      · replace h := h.1 hc
        refine pw_iincK (pc := 62) (w := 1) C [(2, .int (x2 + 1)), (0, .ref (G.2.2 + x0)), (1, .int x1)] 2 dX12_isSlid_62 (by decide) rfl (by decide) rfl ?_
        refine pw_goto (pc := 65) (tgt := 8) C dX12_isSlid_65 rfl ?_
        refine pw_sub [1, 2, 0] (LV2 := [(0, .ref (G.2.2 + x0)), (1, .int x1), (2, .int (x2 + 1))]) rfl ?_
        exact ih _ _ _ _ h
      · replace h := h.2 hc
        refine pw_iconst (pc := 60) (v := 0 ) C dX12_isSlid_60 (by decide) ?_
        exact pw_zret (pc := 61) C hr rfl h dX12_isSlid_61
set_option maxRecDepth 100000 in
set_option maxHeartbeats 4000000 in
theorem ctX12_isSlid (l : Launch) (G : PG) (S : PS) (x0 : Nat) (x1 : Int32) (Q : Int32 → PS → Prop) (h : wpX12_isSlid S x0 x1 Q) : mI l yX12_isSlid wsX12_isSlid rmX12_isSlid G S [.ref (G.2.2 + x0), .int x1] Q := by
  unfold mI
  refine met_of (cc := cX12_isSlid) (maxL := 3) (ret := (some .boolean)) (by decide) rfl (Nat.le_of_ble_eq_true rfl) ?_
  intro p e s m args below meth c C hr hin
  unfold wpX12_isSlid at h
  show PW p l e _ s m args below meth c _ G 3 S 0 0 [(0, .ref (G.2.2 + x0)), (1, .int x1)] 0 []
  refine pw_aload_n (pc := 0) C 0 dX12_isSlid_0 rfl rfl ?_
  refine pw_iload_n (pc := 1) C 1 dX12_isSlid_1 rfl rfl ?_
  refine pw_bipush (pc := 2) (v := 9 ) C dX12_isSlid_2 (by decide) ?_
  obtain ⟨hk21, h⟩ := h
  refine pw_calli (pc := 4) (kc2 := 0) (kn2 := 0) (pRunV (pc := 4) C (ctX12_of l G  _ x0 x1 (9 : Int32) _ h) (cwV 2 C.2.2.2.2.1 gX12_isSlid_X12_of rfl rfl rfl (by decide +kernel) ⟨Nat.le_of_ble_eq_true rfl, Nat.le_of_ble_eq_true rfl⟩) pCl10 hk21 rfl rfl (Nat.le_of_ble_eq_true rfl) dX12_isSlid_4 ⟨Nat.le_of_ble_eq_true rfl, Nat.le_of_ble_eq_true rfl⟩) rfl rfl (fun r22 S23 h => ?_)
  refine pw_istore_n (pc := 7) C [(2, .int r22), (0, .ref (G.2.2 + x0)), (1, .int x1)] dX12_isSlid_7 rfl (by decide) rfl ?_
  refine pw_sub [1, 2, 0] (LV2 := [(0, .ref (G.2.2 + x0)), (1, .int x1), (2, .int r22)]) rfl ?_
  obtain ⟨n9, h⟩ := h
  exact cbX12_isSlid_b8 C hr hin  n9 _ _ _ _ h

abbrev rmX12_fulfils : Room := { frames := 3, cells := 0, slots := 0, locals := 70 }
theorem iX12_fulfils_X12 : ∀ w ∈ u_ws RX12 TX12 32, w ∈ wsX12_fulfils := fun _ h => List.mem_cons_of_mem _ (List.mem_append_right _ h)
def wpX12_fulfils (S : PS) (x0 : Nat) (x1 : Int32) (Q : Int32 → PS → Prop) : Prop := (pK S x0 = 11 ∧ (∃ o2, pR S x0 28 = some o2 ∧ (wpX12_of S x0 x1 (2 : Int32) (fun r3 S4 => (pK S4 o2 = 13 ∧ (vp_in r3 (pL S4 o2) ∧ (pK S4 x0 = 11 ∧ (∃ o8, pR S4 x0 28 = some o8 ∧ (wpX12_of S4 x0 x1 (3 : Int32) (fun r9 S10 => (pK S10 o8 = 13 ∧ (vp_in r9 (pL S10 o8) ∧ (pK S10 x0 = 11 ∧ (wpX12_of S10 x0 x1 (0 : Int32) (fun r14 S15 => ((r14 = 0 → (pK S15 x0 = 11 ∧ (wpX12_isCounted S15 x0 x1 (fun r17 S18 => ((r17 = 0 ∨ r17 = 1) ∧ (Q r17 S18)))))) ∧ (r14 = 1 → (pK S15 x0 = 11 ∧ (wpX12_isSlid S15 x0 x1 (fun r21 S22 => ((r21 = 0 ∨ r21 = 1) ∧ (Q r21 S22)))))) ∧ (r14 = 2 → (((pI S10 o8 (r9).toNatClampNeg) ≤ (pI S4 o2 (r3).toNatClampNeg) → (Q (0 : Int32) S15)) ∧ (¬ (pI S10 o8 (r9).toNatClampNeg) ≤ (pI S4 o2 (r3).toNatClampNeg) → (Q (1 : Int32) S15)))) ∧ ((¬ r14 = 0 ∧ ¬ r14 = 1 ∧ ¬ r14 = 2) → (((pI S4 o2 (r3).toNatClampNeg) = (pI S10 o8 (r9).toNatClampNeg) → (Q (0 : Int32) S15)) ∧ (¬ (pI S4 o2 (r3).toNatClampNeg) = (pI S10 o8 (r9).toNatClampNeg) → (Q (1 : Int32) S15))))))))))))))))))))
set_option maxRecDepth 100000 in
set_option maxHeartbeats 4000000 in
theorem ctX12_fulfils (l : Launch) (G : PG) (S : PS) (x0 : Nat) (x1 : Int32) (Q : Int32 → PS → Prop) (h : wpX12_fulfils S x0 x1 Q) : mI l yX12_fulfils wsX12_fulfils rmX12_fulfils G S [.ref (G.2.2 + x0), .int x1] Q := by
  unfold mI
  refine met_of (cc := cX12_fulfils) (maxL := 4) (ret := (some .boolean)) (by decide) rfl (Nat.le_of_ble_eq_true rfl) ?_
  intro p e s m args below meth c C hr hin
  unfold wpX12_fulfils at h
  show PW p l e _ s m args below meth c _ G 4 S 0 0 [(0, .ref (G.2.2 + x0)), (1, .int x1)] 0 []
  refine pw_aload_n (pc := 0) C 0 dX12_fulfils_0 rfl rfl ?_
  obtain ⟨hk1, h⟩ := h
  obtain ⟨o2, ho2, h⟩ := h
  refine pw_getR (pc := 1) (ref := "SupportSolverModel") (k := 28) (index := 55) C pCl10 iX12_fulfils_X12 hk1 rfl (by decide +kernel) (Or.inl rfl) (o := o2) ho2 dX12_fulfils_1 ?_
  refine pw_aload_n (pc := 4) C 0 dX12_fulfils_4 rfl rfl ?_
  refine pw_iload_n (pc := 5) C 1 dX12_fulfils_5 rfl rfl ?_
  refine pw_iconst (pc := 6) (v := 2 ) C dX12_fulfils_6 (by decide) ?_
  refine pw_calli (pc := 7) (kc2 := 0) (kn2 := 0) (pRunV (pc := 7) C (ctX12_of l G  _ x0 x1 (2 : Int32) _ h) (cwV 2 C.2.2.2.2.1 gX12_fulfils_X12_of rfl rfl rfl (by decide +kernel) ⟨Nat.le_of_ble_eq_true rfl, Nat.le_of_ble_eq_true rfl⟩) pCl10 hk1 rfl rfl (Nat.le_of_ble_eq_true rfl) dX12_fulfils_7 ⟨Nat.le_of_ble_eq_true rfl, Nat.le_of_ble_eq_true rfl⟩) rfl rfl (fun r3 S4 h => ?_)
  obtain ⟨hk5, h⟩ := h
  obtain ⟨hi6, h⟩ := h
  refine pw_iald (pc := 10) C hk5 hi6 dX12_fulfils_10 ?_
  refine pw_istore_n (pc := 11) C [(2, .int (pI S4 o2 (r3).toNatClampNeg)), (0, .ref (G.2.2 + x0)), (1, .int x1)] dX12_fulfils_11 rfl (by decide) rfl ?_
  refine pw_aload_n (pc := 12) C 1 dX12_fulfils_12 rfl rfl ?_
  obtain ⟨hk7, h⟩ := h
  obtain ⟨o8, ho8, h⟩ := h
  refine pw_getR (pc := 13) (ref := "SupportSolverModel") (k := 28) (index := 55) C pCl10 iX12_fulfils_X12 hk7 rfl (by decide +kernel) (Or.inl rfl) (o := o8) ho8 dX12_fulfils_13 ?_
  refine pw_aload_n (pc := 16) C 1 dX12_fulfils_16 rfl rfl ?_
  refine pw_iload_n (pc := 17) C 2 dX12_fulfils_17 rfl rfl ?_
  refine pw_iconst (pc := 18) (v := 3 ) C dX12_fulfils_18 (by decide) ?_
  refine pw_calli (pc := 19) (kc2 := 0) (kn2 := 0) (pRunV (pc := 19) C (ctX12_of l G  _ x0 x1 (3 : Int32) _ h) (cwV 2 C.2.2.2.2.1 gX12_fulfils_X12_of rfl rfl rfl (by decide +kernel) ⟨Nat.le_of_ble_eq_true rfl, Nat.le_of_ble_eq_true rfl⟩) pCl10 hk7 rfl rfl (Nat.le_of_ble_eq_true rfl) dX12_fulfils_19 ⟨Nat.le_of_ble_eq_true rfl, Nat.le_of_ble_eq_true rfl⟩) rfl rfl (fun r9 S10 h => ?_)
  obtain ⟨hk11, h⟩ := h
  obtain ⟨hi12, h⟩ := h
  refine pw_iald (pc := 22) C hk11 hi12 dX12_fulfils_22 ?_
  refine pw_istore_n (pc := 23) C [(3, .int (pI S10 o8 (r9).toNatClampNeg)), (2, .int (pI S4 o2 (r3).toNatClampNeg)), (0, .ref (G.2.2 + x0)), (1, .int x1)] dX12_fulfils_23 rfl (by decide) rfl ?_
  refine pw_aload_n (pc := 24) C 2 dX12_fulfils_24 rfl rfl ?_
  refine pw_iload_n (pc := 25) C 3 dX12_fulfils_25 rfl rfl ?_
  refine pw_iconst (pc := 26) (v := 0 ) C dX12_fulfils_26 (by decide) ?_
  obtain ⟨hk13, h⟩ := h
  refine pw_calli (pc := 27) (kc2 := 0) (kn2 := 0) (pRunV (pc := 27) C (ctX12_of l G  _ x0 x1 (0 : Int32) _ h) (cwV 2 C.2.2.2.2.1 gX12_fulfils_X12_of rfl rfl rfl (by decide +kernel) ⟨Nat.le_of_ble_eq_true rfl, Nat.le_of_ble_eq_true rfl⟩) pCl10 hk13 rfl rfl (Nat.le_of_ble_eq_true rfl) dX12_fulfils_27 ⟨Nat.le_of_ble_eq_true rfl, Nat.le_of_ble_eq_true rfl⟩) rfl rfl (fun r14 S15 h => ?_)
  by_cases hc0 : r14 = 0
  · replace h := h.1 hc0
    refine pw_tableIn (pc := 30) (tgt := 56) C dX12_fulfils_30 (by rw [hc0]; decide) (by rw [hc0]; decide) (by rw [hc0]; rfl) rfl ?_
    refine pw_aload_n (pc := 56) C 2 dX12_fulfils_56 rfl rfl ?_
    refine pw_iload_n (pc := 57) C 3 dX12_fulfils_57 rfl rfl ?_
    obtain ⟨hk16, h⟩ := h
    refine pw_calli (pc := 58) (kc2 := 0) (kn2 := 0) (pRunV (pc := 58) C (ctX12_isCounted l G  _ x0 x1 _ h) (cwV 1 C.2.2.2.2.1 gX12_fulfils_X12_isCounted rfl rfl rfl (by decide +kernel) ⟨Nat.le_of_ble_eq_true rfl, Nat.le_of_ble_eq_true rfl⟩) pCl10 hk16 rfl rfl (Nat.le_of_ble_eq_true rfl) dX12_fulfils_58 ⟨Nat.le_of_ble_eq_true rfl, Nat.le_of_ble_eq_true rfl⟩) rfl rfl (fun r17 S18 h => ?_)
    obtain ⟨hb19, h⟩ := h
    exact pw_zret (pc := 61) C hr (nar_bool hb19) h dX12_fulfils_61
  by_cases hc1 : r14 = 1
  · replace h := h.2.1 hc1
    refine pw_tableIn (pc := 30) (tgt := 62) C dX12_fulfils_30 (by rw [hc1]; decide) (by rw [hc1]; decide) (by rw [hc1]; rfl) rfl ?_
    refine pw_aload_n (pc := 62) C 2 dX12_fulfils_62 rfl rfl ?_
    refine pw_iload_n (pc := 63) C 3 dX12_fulfils_63 rfl rfl ?_
    obtain ⟨hk20, h⟩ := h
    refine pw_calli (pc := 64) (kc2 := 0) (kn2 := 0) (pRunV (pc := 64) C (ctX12_isSlid l G  _ x0 x1 _ h) (cwV 1 C.2.2.2.2.1 gX12_fulfils_X12_isSlid rfl rfl rfl (by decide +kernel) ⟨Nat.le_of_ble_eq_true rfl, Nat.le_of_ble_eq_true rfl⟩) pCl10 hk20 rfl rfl (Nat.le_of_ble_eq_true rfl) dX12_fulfils_64 ⟨Nat.le_of_ble_eq_true rfl, Nat.le_of_ble_eq_true rfl⟩) rfl rfl (fun r21 S22 h => ?_)
    obtain ⟨hb23, h⟩ := h
    exact pw_zret (pc := 67) C hr (nar_bool hb23) h dX12_fulfils_67
  by_cases hc2 : r14 = 2
  · replace h := h.2.2.1 hc2
    refine pw_tableIn (pc := 30) (tgt := 68) C dX12_fulfils_30 (by rw [hc2]; decide) (by rw [hc2]; decide) (by rw [hc2]; rfl) rfl ?_
    refine pw_iload_n (pc := 68) C 1 dX12_fulfils_68 rfl rfl ?_
    refine pw_iload_n (pc := 69) C 0 dX12_fulfils_69 rfl rfl ?_
    refine pw_icmp_ge (pc := 70) (tgt := 77) C dX12_fulfils_70 rfl ⟨fun hc => ?_, fun hc => ?_⟩
    · replace h := h.1 hc
      refine pw_iconst (pc := 77) (v := 0 ) C dX12_fulfils_77 (by decide) ?_
      exact pw_zret (pc := 78) C hr rfl h dX12_fulfils_78
    · replace h := h.2 hc
      refine pw_iconst (pc := 73) (v := 1 ) C dX12_fulfils_73 (by decide) ?_
      refine pw_goto (pc := 74) (tgt := 78) C dX12_fulfils_74 rfl ?_
      exact pw_zret (pc := 78) C hr rfl h dX12_fulfils_78
  replace h := h.2.2.2 ⟨hc0, hc1, hc2⟩
  refine pw_tableOut (pc := 30) (tgt := 79) C dX12_fulfils_30 (sw_out (r14) 0 2 (fun (j : Int) h1 h2 => Or.elim (show j = 0 ∨ j = 1 ∨ j = 2 by omega) (fun q => by subst q; exact lv_neT hc0 (by decide)) (fun q => q.elim (fun q => by subst q; exact lv_neT hc1 (by decide)) (fun q => by subst q; exact lv_neT hc2 (by decide))))) rfl ?_
  refine pw_iload_n (pc := 79) C 1 dX12_fulfils_79 rfl rfl ?_
  refine pw_iload_n (pc := 80) C 0 dX12_fulfils_80 rfl rfl ?_
  refine pw_icmp_eq (pc := 81) (tgt := 88) C dX12_fulfils_81 rfl ⟨fun hc => ?_, fun hc => ?_⟩
  · replace h := h.1 hc
    refine pw_iconst (pc := 88) (v := 0 ) C dX12_fulfils_88 (by decide) ?_
    exact pw_zret (pc := 89) C hr rfl h dX12_fulfils_89
  · replace h := h.2 hc
    refine pw_iconst (pc := 84) (v := 1 ) C dX12_fulfils_84 (by decide) ?_
    refine pw_goto (pc := 85) (tgt := 89) C dX12_fulfils_85 rfl ?_
    exact pw_zret (pc := 89) C hr rfl h dX12_fulfils_89

abbrev rmX12_nextValue : Room := { frames := 1, cells := 0, slots := 0, locals := 21 }
theorem iX12_nextValue_X12 : ∀ w ∈ u_ws RX12 TX12 32, w ∈ wsX12_nextValue := fun _ h => List.mem_cons_of_mem _ (List.mem_append_right _ h)
def wpX12_nextValue_b28  (Q : Int32 → PS → Prop) (S : PS) (x0 : Nat) (x1 : Int32) (x2 : Int32) (x3 : Int32) : Prop := (((5 : Int32) ≤ x3 → (Q (-1 : Int32) S)) ∧ (¬ (5 : Int32) ≤ x3 → (Q x3 S)))
def wpX12_nextValue_b4  (Q : Int32 → PS → Prop) : Nat → PS → Nat → Int32 → Int32 → Int32 → Prop
  | 0 => fun _ _ _ _ _ => False
  | n + 1 => fun S x0 x1 x2 x3 => (((5 : Int32) ≤ x3 → (wpX12_nextValue_b28 Q S x0 x1 x2 x3)) ∧ (¬ (5 : Int32) ≤ x3 → (pK S x0 = 11 ∧ (∃ o2, pR S x0 3 = some o2 ∧ (pK S o2 = 13 ∧ (vp_in x1 (pL S o2) ∧ (wpX12_has S (pI S o2 (x1).toNatClampNeg) x3 (fun r5 S6 => ((¬ r5 = 0 → (wpX12_nextValue_b28 Q S6 x0 x1 x2 x3)) ∧ (r5 = 0 → (wpX12_nextValue_b4 Q n S6 x0 x1 x2 (x3 + 1))))))))))))
def wpX12_nextValue (S : PS) (x0 : Nat) (x1 : Int32) (x2 : Int32) (Q : Int32 → PS → Prop) : Prop := (∃ n9 : Nat, wpX12_nextValue_b4 Q n9 S x0 x1 x2 (x2 + (1 : Int32)))
set_option maxRecDepth 100000 in
set_option maxHeartbeats 4000000 in
theorem cbX12_nextValue_b28 {p : Program} {l : Launch} {e : Env} {s : State} {m : MethodId} {args : Array Value} {below : List Frame} {meth : Method} {c : Code} {G : PG} {Q : Int32 → PS → Prop} (C : pCx p s m args meth c G cX12_nextValue 4 yX12_nextValue.cls wsX12_nextValue) (hr : meth.sig.returnType = (some .int)) (hin : meth.name = yX12_nextValue.name)  : ∀ (S : PS) (x0 : Nat) (x1 : Int32) (x2 : Int32) (x3 : Int32), wpX12_nextValue_b28  Q S x0 x1 x2 x3 → PW p l e rmX12_nextValue s m args below meth c (MQ below (va_Qi Q (pB G) (pFr G)) args s rmX12_nextValue.cells rmX12_nextValue.slots (pFr G)) G 4 S 0 0 [(0, .ref (G.2.2 + x0)), (1, .int x1), (2, .int x2), (3, .int x3)] 28 ([]) := by
  intro S x0 x1 x2 x3 h
  unfold wpX12_nextValue_b28 at h
  refine pw_iload_n (pc := 28) C 3 dX12_nextValue_28 rfl rfl ?_
  refine pw_iconst (pc := 29) (v := 5 ) C dX12_nextValue_29 (by decide) ?_
  refine pw_icmp_ge (pc := 30) (tgt := 37) C dX12_nextValue_30 rfl ⟨fun hc => ?_, fun hc => ?_⟩
  · replace h := h.1 hc
    refine pw_iconst (pc := 37) (v := (-1)) C dX12_nextValue_37 (by decide) ?_
    exact pw_iret (pc := 38) C hr h dX12_nextValue_38
  · replace h := h.2 hc
    refine pw_iload_n (pc := 33) C 3 dX12_nextValue_33 rfl rfl ?_
    refine pw_goto (pc := 34) (tgt := 38) C dX12_nextValue_34 rfl ?_
    exact pw_iret (pc := 38) C hr h dX12_nextValue_38
set_option maxRecDepth 100000 in
set_option maxHeartbeats 4000000 in
theorem cbX12_nextValue_b4 {p : Program} {l : Launch} {e : Env} {s : State} {m : MethodId} {args : Array Value} {below : List Frame} {meth : Method} {c : Code} {G : PG} {Q : Int32 → PS → Prop} (C : pCx p s m args meth c G cX12_nextValue 4 yX12_nextValue.cls wsX12_nextValue) (hr : meth.sig.returnType = (some .int)) (hin : meth.name = yX12_nextValue.name)  (n : Nat) : ∀ (S : PS) (x0 : Nat) (x1 : Int32) (x2 : Int32) (x3 : Int32), wpX12_nextValue_b4  Q n S x0 x1 x2 x3 → PW p l e rmX12_nextValue s m args below meth c (MQ below (va_Qi Q (pB G) (pFr G)) args s rmX12_nextValue.cells rmX12_nextValue.slots (pFr G)) G 4 S 0 0 [(0, .ref (G.2.2 + x0)), (1, .int x1), (2, .int x2), (3, .int x3)] 4 ([]) := by
  induction n with
  | zero => intro S x0 x1 x2 x3 h; exact h.elim
  | succ n ih =>
    intro S x0 x1 x2 x3 h
    unfold wpX12_nextValue_b4 at h
    refine pw_iload_n (pc := 4) C 3 dX12_nextValue_4 rfl rfl ?_
    refine pw_iconst (pc := 5) (v := 5 ) C dX12_nextValue_5 (by decide) ?_
    refine pw_icmp_ge (pc := 6) (tgt := 28) C dX12_nextValue_6 rfl ⟨fun hc => ?_, fun hc => ?_⟩
    · replace h := h.1 hc
      exact cbX12_nextValue_b28 C hr hin  _ _ _ _ _ h
    · replace h := h.2 hc
      refine pw_aload_n (pc := 9) C 0 dX12_nextValue_9 rfl rfl ?_
      obtain ⟨hk1, h⟩ := h
      obtain ⟨o2, ho2, h⟩ := h
      refine pw_getR (pc := 10) (ref := "SupportSolverModel") (k := 3) (index := 16) C pCl10 iX12_nextValue_X12 hk1 rfl (by decide +kernel) (Or.inl rfl) (o := o2) ho2 dX12_nextValue_10 ?_
      refine pw_iload_n (pc := 13) C 1 dX12_nextValue_13 rfl rfl ?_
      obtain ⟨hk3, h⟩ := h
      obtain ⟨hi4, h⟩ := h
      refine pw_iald (pc := 14) C hk3 hi4 dX12_nextValue_14 ?_
      refine pw_iload_n (pc := 15) C 3 dX12_nextValue_15 rfl rfl ?_
      refine pw_calli (pc := 16) (kc2 := 0) (kn2 := 0) (pRunS (pc := 16) C (ctX12_has l G  _ (pI S o2 (x1).toNatClampNeg) x3 _ h) (va_cwS 2 C.2.2.2.2.1 gX12_nextValue_X12_has rfl rfl rfl (by decide +kernel) ⟨Nat.le_of_ble_eq_true rfl, Nat.le_of_ble_eq_true rfl⟩) rfl rfl (Nat.le_of_ble_eq_true rfl) dX12_nextValue_16 ⟨Nat.le_of_ble_eq_true rfl, Nat.le_of_ble_eq_true rfl⟩) rfl rfl (fun r5 S6 h => ?_)
      refine pw_if_ne (pc := 19) (tgt := 28) C dX12_nextValue_19 rfl ⟨fun hc => ?_, fun hc => ?_⟩
      · replace h := h.1 hc
        exact cbX12_nextValue_b28 C hr hin  _ _ _ _ _ h
      · replace h := h.2 hc
        refine pw_iincK (pc := 22) (w := 1) C [(3, .int (x3 + 1)), (0, .ref (G.2.2 + x0)), (1, .int x1), (2, .int x2)] 3 dX12_nextValue_22 (by decide) rfl (by decide) rfl ?_
        refine pw_goto (pc := 25) (tgt := 4) C dX12_nextValue_25 rfl ?_
        refine pw_sub [1, 2, 3, 0] (LV2 := [(0, .ref (G.2.2 + x0)), (1, .int x1), (2, .int x2), (3, .int (x3 + 1))]) rfl ?_
        exact ih _ _ _ _ _ h
set_option maxRecDepth 100000 in
set_option maxHeartbeats 4000000 in
theorem ctX12_nextValue (l : Launch) (G : PG) (S : PS) (x0 : Nat) (x1 : Int32) (x2 : Int32) (Q : Int32 → PS → Prop) (h : wpX12_nextValue S x0 x1 x2 Q) : mI l yX12_nextValue wsX12_nextValue rmX12_nextValue G S [.ref (G.2.2 + x0), .int x1, .int x2] Q := by
  unfold mI
  refine met_of (cc := cX12_nextValue) (maxL := 4) (ret := (some .int)) (by decide) rfl (Nat.le_of_ble_eq_true rfl) ?_
  intro p e s m args below meth c C hr hin
  unfold wpX12_nextValue at h
  show PW p l e _ s m args below meth c _ G 4 S 0 0 [(0, .ref (G.2.2 + x0)), (1, .int x1), (2, .int x2)] 0 []
  refine pw_iload_n (pc := 0) C 2 dX12_nextValue_0 rfl rfl ?_
  refine pw_iconst (pc := 1) (v := 1 ) C dX12_nextValue_1 (by decide) ?_
  refine pw_iadd (pc := 2) C dX12_nextValue_2 ?_
  refine pw_istore_n (pc := 3) C [(3, .int (x2 + (1 : Int32))), (0, .ref (G.2.2 + x0)), (1, .int x1), (2, .int x2)] dX12_nextValue_3 rfl (by decide) rfl ?_
  refine pw_sub [1, 2, 3, 0] (LV2 := [(0, .ref (G.2.2 + x0)), (1, .int x1), (2, .int x2), (3, .int (x2 + (1 : Int32)))]) rfl ?_
  obtain ⟨n9, h⟩ := h
  exact cbX12_nextValue_b4 C hr hin  n9 _ _ _ _ _ h

abbrev rmX12_tuplesOf : Room := { frames := 4, cells := 0, slots := 0, locals := 93 }
theorem iX12_tuplesOf_X12 : ∀ w ∈ u_ws RX12 TX12 32, w ∈ wsX12_tuplesOf := fun _ h => List.mem_cons_of_mem _ (List.mem_append_right _ h)
def wpX12_tuplesOf_b24  (Q : Int32 → PS → Prop) : Nat → PS → Nat → Int32 → Int32 → Int32 → Int32 → Prop
  | 0 => fun _ _ _ _ _ _ => False
  | n + 1 => fun S x0 x1 x2 x3 x4 => ((x4 < 0 → (Q x3 S)) ∧ (¬ x4 < 0 → (pK S x0 = 11 ∧ (wpX12_of S x0 x1 ((2 : Int32) + x4) (fun r2 S3 => (pK S3 x0 = 11 ∧ (∃ o5, pR S3 x0 28 = some o5 ∧ (pK S3 o5 = 13 ∧ (vp_in r2 (pL S3 o5) ∧ (wpX12_nextValue S3 x0 r2 (pI S3 o5 (r2).toNatClampNeg) (fun r8 S9 => (pK S9 o5 = 13 ∧ (vp_in r2 (pL S9 o5) ∧ (pK S9 x0 = 11 ∧ (∃ o13, pR S9 x0 28 = some o13 ∧ (pK S9 o13 = 13 ∧ (vp_in r2 (pL S9 o13) ∧ ((¬ (pI (sI S9 o5 (r2).toNatClampNeg r8) o13 (r2).toNatClampNeg) = (-1 : Int32) → ((x2 ≤ (x4 + (1 : Int32)) → (wpX12_fulfils (sI S9 o5 (r2).toNatClampNeg r8) x0 x1 (fun r16 S17 => ((r16 = 0 → (wpX12_tuplesOf_b24 Q n S17 x0 x1 x2 (x3 + (0 : Int32)) x4)) ∧ (¬ r16 = 0 → (wpX12_tuplesOf_b24 Q n S17 x0 x1 x2 (x3 + (1 : Int32)) x4)))))) ∧ (¬ x2 ≤ (x4 + (1 : Int32)) → (wpX12_of (sI S9 o5 (r2).toNatClampNeg r8) x0 x1 ((2 : Int32) + (x4 + 1)) (fun r18 S19 => (pK S19 o13 = 13 ∧ (vp_in r18 (pL S19 o13) ∧ (wpX12_tuplesOf_b24 Q n (sI S19 o13 (r18).toNatClampNeg (-1 : Int32)) x0 x1 x2 x3 (x4 + 1))))))))) ∧ ((pI (sI S9 o5 (r2).toNatClampNeg r8) o13 (r2).toNatClampNeg) = (-1 : Int32) → (wpX12_tuplesOf_b24 Q n (sI S9 o5 (r2).toNatClampNeg r8) x0 x1 x2 x3 (x4 + (-1))))))))))))))))))))))
def wpX12_tuplesOf (S : PS) (x0 : Nat) (x1 : Int32) (Q : Int32 → PS → Prop) : Prop := (pK S x0 = 11 ∧ (wpX12_of S x0 x1 (1 : Int32) (fun r23 S24 => (pK S24 x0 = 11 ∧ (∃ o26, pR S24 x0 28 = some o26 ∧ (wpX12_of S24 x0 x1 (2 : Int32) (fun r27 S28 => (pK S28 o26 = 13 ∧ (vp_in r27 (pL S28 o26) ∧ (∃ n9 : Nat, wpX12_tuplesOf_b24 Q n9 (sI S28 o26 (r27).toNatClampNeg (-1 : Int32)) x0 x1 r23 (0 : Int32) (0 : Int32)))))))))))
set_option maxRecDepth 100000 in
set_option maxHeartbeats 4000000 in
theorem cbX12_tuplesOf_b24 {p : Program} {l : Launch} {e : Env} {s : State} {m : MethodId} {args : Array Value} {below : List Frame} {meth : Method} {c : Code} {G : PG} {Q : Int32 → PS → Prop} (C : pCx p s m args meth c G cX12_tuplesOf 6 yX12_tuplesOf.cls wsX12_tuplesOf) (hr : meth.sig.returnType = (some .int)) (hin : meth.name = yX12_tuplesOf.name)  (n : Nat) : ∀ (S : PS) (x0 : Nat) (x1 : Int32) (x2 : Int32) (x3 : Int32) (x4 : Int32), wpX12_tuplesOf_b24  Q n S x0 x1 x2 x3 x4 → PW p l e rmX12_tuplesOf s m args below meth c (MQ below (va_Qi Q (pB G) (pFr G)) args s rmX12_tuplesOf.cells rmX12_tuplesOf.slots (pFr G)) G 6 S 0 0 [(0, .ref (G.2.2 + x0)), (1, .int x1), (2, .int x2), (3, .int x3), (4, .int x4)] 24 ([]) := by
  induction n with
  | zero => intro S x0 x1 x2 x3 x4 h; exact h.elim
  | succ n ih =>
    intro S x0 x1 x2 x3 x4 h
    unfold wpX12_tuplesOf_b24 at h
    refine pw_iload (pc := 24) C 4 dX12_tuplesOf_24 rfl ?_
    refine pw_if_lt (pc := 26) (tgt := 125) C dX12_tuplesOf_26 rfl ⟨fun hc => ?_, fun hc => ?_⟩
    · replace h := h.1 hc
      refine pw_iload_n (pc := 125) C 3 dX12_tuplesOf_125 rfl rfl ?_
      exact pw_iret (pc := 126) C hr h dX12_tuplesOf_126
    · replace h := h.2 hc
      refine pw_aload_n (pc := 29) C 0 dX12_tuplesOf_29 rfl rfl ?_
      refine pw_iload_n (pc := 30) C 1 dX12_tuplesOf_30 rfl rfl ?_
      refine pw_iconst (pc := 31) (v := 2 ) C dX12_tuplesOf_31 (by decide) ?_
      refine pw_iload (pc := 32) C 4 dX12_tuplesOf_32 rfl ?_
      refine pw_iadd (pc := 34) C dX12_tuplesOf_34 ?_
      obtain ⟨hk1, h⟩ := h
      refine pw_calli (pc := 35) (kc2 := 0) (kn2 := 0) (pRunV (pc := 35) C (ctX12_of l G  _ x0 x1 ((2 : Int32) + x4) _ h) (cwV 2 C.2.2.2.2.1 gX12_tuplesOf_X12_of rfl rfl rfl (by decide +kernel) ⟨Nat.le_of_ble_eq_true rfl, Nat.le_of_ble_eq_true rfl⟩) pCl10 hk1 rfl rfl (Nat.le_of_ble_eq_true rfl) dX12_tuplesOf_35 ⟨Nat.le_of_ble_eq_true rfl, Nat.le_of_ble_eq_true rfl⟩) rfl rfl (fun r2 S3 h => ?_)
      refine pw_istore (pc := 38) C [(5, .int r2), (0, .ref (G.2.2 + x0)), (1, .int x1), (2, .int x2), (3, .int x3), (4, .int x4)] dX12_tuplesOf_38 (by decide) rfl ?_
      refine pw_aload_n (pc := 40) C 1 dX12_tuplesOf_40 rfl rfl ?_
      obtain ⟨hk4, h⟩ := h
      obtain ⟨o5, ho5, h⟩ := h
      refine pw_getR (pc := 41) (ref := "SupportSolverModel") (k := 28) (index := 55) C pCl10 iX12_tuplesOf_X12 hk4 rfl (by decide +kernel) (Or.inl rfl) (o := o5) ho5 dX12_tuplesOf_41 ?_
      refine pw_iload (pc := 44) C 0 dX12_tuplesOf_44 rfl ?_
      refine pw_aload_n (pc := 46) C 1 dX12_tuplesOf_46 rfl rfl ?_
      refine pw_iload (pc := 47) C 0 dX12_tuplesOf_47 rfl ?_
      refine pw_aload_n (pc := 49) C 1 dX12_tuplesOf_49 rfl rfl ?_
      refine pw_getR (pc := 50) (ref := "SupportSolverModel") (k := 28) (index := 55) C pCl10 iX12_tuplesOf_X12 hk4 rfl (by decide +kernel) (Or.inl rfl) (o := o5) ho5 dX12_tuplesOf_50 ?_
      refine pw_iload (pc := 53) C 0 dX12_tuplesOf_53 rfl ?_
      obtain ⟨hk6, h⟩ := h
      obtain ⟨hi7, h⟩ := h
      refine pw_iald (pc := 55) C hk6 hi7 dX12_tuplesOf_55 ?_
      refine pw_calli (pc := 56) (kc2 := 0) (kn2 := 0) (pRunV (pc := 56) C (ctX12_nextValue l G  _ x0 r2 (pI S3 o5 (r2).toNatClampNeg) _ h) (cwV 2 C.2.2.2.2.1 gX12_tuplesOf_X12_nextValue rfl rfl rfl (by decide +kernel) ⟨Nat.le_of_ble_eq_true rfl, Nat.le_of_ble_eq_true rfl⟩) pCl10 hk4 rfl rfl (Nat.le_of_ble_eq_true rfl) dX12_tuplesOf_56 ⟨Nat.le_of_ble_eq_true rfl, Nat.le_of_ble_eq_true rfl⟩) rfl rfl (fun r8 S9 h => ?_)
      obtain ⟨hk10, h⟩ := h
      obtain ⟨hi11, h⟩ := h
      refine pw_iast (pc := 59) C hk10 hi11 dX12_tuplesOf_59 ?_
      refine pw_aload_n (pc := 60) (S := (sI S9 o5 (r2).toNatClampNeg r8)) C 1 dX12_tuplesOf_60 rfl rfl ?_
      obtain ⟨hk12, h⟩ := h
      obtain ⟨o13, ho13, h⟩ := h
      refine pw_getR (pc := 61) (S := (sI S9 o5 (r2).toNatClampNeg r8)) (ref := "SupportSolverModel") (k := 28) (index := 55) C pCl10 iX12_tuplesOf_X12 hk12 rfl (by decide +kernel) (Or.inl rfl) (o := o13) ho13 dX12_tuplesOf_61 ?_
      refine pw_iload (pc := 64) (S := (sI S9 o5 (r2).toNatClampNeg r8)) C 0 dX12_tuplesOf_64 rfl ?_
      obtain ⟨hk14, h⟩ := h
      obtain ⟨hi15, h⟩ := h
      refine pw_iald (pc := 66) (S := (sI S9 o5 (r2).toNatClampNeg r8)) C hk14 hi15 dX12_tuplesOf_66 ?_
      refine pw_iconst (pc := 67) (S := (sI S9 o5 (r2).toNatClampNeg r8)) (v := (-1)) C dX12_tuplesOf_67 (by decide) ?_
      refine pw_icmp_ne (pc := 68) (S := (sI S9 o5 (r2).toNatClampNeg r8)) (tgt := 77) C dX12_tuplesOf_68 rfl ⟨fun hc => ?_, fun hc => ?_⟩
      · replace h := h.1 hc
        refine pw_iload (pc := 77) (S := (sI S9 o5 (r2).toNatClampNeg r8)) C 5 dX12_tuplesOf_77 rfl ?_
        refine pw_iconst (pc := 79) (S := (sI S9 o5 (r2).toNatClampNeg r8)) (v := 1 ) C dX12_tuplesOf_79 (by decide) ?_
        refine pw_iadd (pc := 80) (S := (sI S9 o5 (r2).toNatClampNeg r8)) C dX12_tuplesOf_80 ?_
        refine pw_iload_n (pc := 81) (S := (sI S9 o5 (r2).toNatClampNeg r8)) C 3 dX12_tuplesOf_81 rfl rfl ?_
        refine pw_icmp_ge (pc := 82) (S := (sI S9 o5 (r2).toNatClampNeg r8)) (tgt := 106) C dX12_tuplesOf_82 rfl ⟨fun hc => ?_, fun hc => ?_⟩
        · replace h := h.1 hc
          refine pw_iload_n (pc := 106) (S := (sI S9 o5 (r2).toNatClampNeg r8)) C 4 dX12_tuplesOf_106 rfl rfl ?_
          refine pw_aload_n (pc := 107) (S := (sI S9 o5 (r2).toNatClampNeg r8)) C 1 dX12_tuplesOf_107 rfl rfl ?_
          refine pw_iload_n (pc := 108) (S := (sI S9 o5 (r2).toNatClampNeg r8)) C 2 dX12_tuplesOf_108 rfl rfl ?_
          refine pw_calli (pc := 109) (S := (sI S9 o5 (r2).toNatClampNeg r8)) (kc2 := 0) (kn2 := 0) (pRunV (pc := 109) (S := (sI S9 o5 (r2).toNatClampNeg r8)) C (ctX12_fulfils l G  _ x0 x1 _ h) (cwV 1 C.2.2.2.2.1 gX12_tuplesOf_X12_fulfils rfl rfl rfl (by decide +kernel) ⟨Nat.le_of_ble_eq_true rfl, Nat.le_of_ble_eq_true rfl⟩) pCl10 hk12 rfl rfl (Nat.le_of_ble_eq_true rfl) dX12_tuplesOf_109 ⟨Nat.le_of_ble_eq_true rfl, Nat.le_of_ble_eq_true rfl⟩) rfl rfl (fun r16 S17 h => ?_)
          refine pw_if_eq (pc := 112) (tgt := 119) C dX12_tuplesOf_112 rfl ⟨fun hc => ?_, fun hc => ?_⟩
          · replace h := h.1 hc
            refine pw_iconst (pc := 119) (v := 0 ) C dX12_tuplesOf_119 (by decide) ?_
            refine pw_iadd (pc := 120) C dX12_tuplesOf_120 ?_
            refine pw_istore_n (pc := 121) C [(3, .int (x3 + (0 : Int32))), (5, .int r2), (0, .ref (G.2.2 + x0)), (1, .int x1), (2, .int x2), (4, .int x4)] dX12_tuplesOf_121 rfl (by decide) rfl ?_
            refine pw_goto (pc := 122) (tgt := 24) C dX12_tuplesOf_122 rfl ?_
            refine pw_sub [2, 3, 4, 0, 5] (LV2 := [(0, .ref (G.2.2 + x0)), (1, .int x1), (2, .int x2), (3, .int (x3 + (0 : Int32))), (4, .int x4)]) rfl ?_
            exact ih _ _ _ _ _ _ h
          · replace h := h.2 hc
            refine pw_iconst (pc := 115) (v := 1 ) C dX12_tuplesOf_115 (by decide) ?_
            refine pw_goto (pc := 116) (tgt := 120) C dX12_tuplesOf_116 rfl ?_
            refine pw_iadd (pc := 120) C dX12_tuplesOf_120 ?_
            refine pw_istore_n (pc := 121) C [(3, .int (x3 + (1 : Int32))), (5, .int r2), (0, .ref (G.2.2 + x0)), (1, .int x1), (2, .int x2), (4, .int x4)] dX12_tuplesOf_121 rfl (by decide) rfl ?_
            refine pw_goto (pc := 122) (tgt := 24) C dX12_tuplesOf_122 rfl ?_
            refine pw_sub [2, 3, 4, 0, 5] (LV2 := [(0, .ref (G.2.2 + x0)), (1, .int x1), (2, .int x2), (3, .int (x3 + (1 : Int32))), (4, .int x4)]) rfl ?_
            exact ih _ _ _ _ _ _ h
        · replace h := h.2 hc
          refine pw_iincK (pc := 85) (S := (sI S9 o5 (r2).toNatClampNeg r8)) (w := 1) C [(4, .int (x4 + 1)), (5, .int r2), (0, .ref (G.2.2 + x0)), (1, .int x1), (2, .int x2), (3, .int x3)] 5 dX12_tuplesOf_85 (by decide) rfl (by decide) rfl ?_
          refine pw_aload_n (pc := 88) (S := (sI S9 o5 (r2).toNatClampNeg r8)) C 2 dX12_tuplesOf_88 rfl rfl ?_
          refine pw_getR (pc := 89) (S := (sI S9 o5 (r2).toNatClampNeg r8)) (ref := "SupportSolverModel") (k := 28) (index := 55) C pCl10 iX12_tuplesOf_X12 hk12 rfl (by decide +kernel) (Or.inl rfl) (o := o13) ho13 dX12_tuplesOf_89 ?_
          refine pw_aload_n (pc := 92) (S := (sI S9 o5 (r2).toNatClampNeg r8)) C 2 dX12_tuplesOf_92 rfl rfl ?_
          refine pw_iload_n (pc := 93) (S := (sI S9 o5 (r2).toNatClampNeg r8)) C 3 dX12_tuplesOf_93 rfl rfl ?_
          refine pw_iconst (pc := 94) (S := (sI S9 o5 (r2).toNatClampNeg r8)) (v := 2 ) C dX12_tuplesOf_94 (by decide) ?_
          refine pw_iload (pc := 95) (S := (sI S9 o5 (r2).toNatClampNeg r8)) C 0 dX12_tuplesOf_95 rfl ?_
          refine pw_iadd (pc := 97) (S := (sI S9 o5 (r2).toNatClampNeg r8)) C dX12_tuplesOf_97 ?_
          refine pw_calli (pc := 98) (S := (sI S9 o5 (r2).toNatClampNeg r8)) (kc2 := 0) (kn2 := 0) (pRunV (pc := 98) (S := (sI S9 o5 (r2).toNatClampNeg r8)) C (ctX12_of l G  _ x0 x1 ((2 : Int32) + (x4 + 1)) _ h) (cwV 2 C.2.2.2.2.1 gX12_tuplesOf_X12_of rfl rfl rfl (by decide +kernel) ⟨Nat.le_of_ble_eq_true rfl, Nat.le_of_ble_eq_true rfl⟩) pCl10 hk12 rfl rfl (Nat.le_of_ble_eq_true rfl) dX12_tuplesOf_98 ⟨Nat.le_of_ble_eq_true rfl, Nat.le_of_ble_eq_true rfl⟩) rfl rfl (fun r18 S19 h => ?_)
          refine pw_iconst (pc := 101) (v := (-1)) C dX12_tuplesOf_101 (by decide) ?_
          obtain ⟨hk20, h⟩ := h
          obtain ⟨hi21, h⟩ := h
          refine pw_iast (pc := 102) C hk20 hi21 dX12_tuplesOf_102 ?_
          refine pw_goto (pc := 103) (S := (sI S19 o13 (r18).toNatClampNeg (-1 : Int32))) (tgt := 122) C dX12_tuplesOf_103 rfl ?_
          refine pw_goto (pc := 122) (S := (sI S19 o13 (r18).toNatClampNeg (-1 : Int32))) (tgt := 24) C dX12_tuplesOf_122 rfl ?_
          refine pw_sub [2, 3, 4, 5, 0] (LV2 := [(0, .ref (G.2.2 + x0)), (1, .int x1), (2, .int x2), (3, .int x3), (4, .int (x4 + 1))]) rfl ?_
          exact ih _ _ _ _ _ _ h
      · replace h := h.2 hc
        refine pw_iincK (pc := 71) (S := (sI S9 o5 (r2).toNatClampNeg r8)) (w := (-1)) C [(4, .int (x4 + (-1))), (5, .int r2), (0, .ref (G.2.2 + x0)), (1, .int x1), (2, .int x2), (3, .int x3)] 5 dX12_tuplesOf_71 (by decide) rfl (by decide) rfl ?_
        refine pw_goto (pc := 74) (S := (sI S9 o5 (r2).toNatClampNeg r8)) (tgt := 122) C dX12_tuplesOf_74 rfl ?_
        refine pw_goto (pc := 122) (S := (sI S9 o5 (r2).toNatClampNeg r8)) (tgt := 24) C dX12_tuplesOf_122 rfl ?_
        refine pw_sub [2, 3, 4, 5, 0] (LV2 := [(0, .ref (G.2.2 + x0)), (1, .int x1), (2, .int x2), (3, .int x3), (4, .int (x4 + (-1)))]) rfl ?_
        exact ih _ _ _ _ _ _ h
set_option maxRecDepth 100000 in
set_option maxHeartbeats 4000000 in
theorem ctX12_tuplesOf (l : Launch) (G : PG) (S : PS) (x0 : Nat) (x1 : Int32) (Q : Int32 → PS → Prop) (h : wpX12_tuplesOf S x0 x1 Q) : mI l yX12_tuplesOf wsX12_tuplesOf rmX12_tuplesOf G S [.ref (G.2.2 + x0), .int x1] Q := by
  unfold mI
  refine met_of (cc := cX12_tuplesOf) (maxL := 6) (ret := (some .int)) (by decide) rfl (Nat.le_of_ble_eq_true rfl) ?_
  intro p e s m args below meth c C hr hin
  unfold wpX12_tuplesOf at h
  show PW p l e _ s m args below meth c _ G 6 S 0 0 [(0, .ref (G.2.2 + x0)), (1, .int x1)] 0 []
  refine pw_aload_n (pc := 0) C 0 dX12_tuplesOf_0 rfl rfl ?_
  refine pw_iload_n (pc := 1) C 1 dX12_tuplesOf_1 rfl rfl ?_
  refine pw_iconst (pc := 2) (v := 1 ) C dX12_tuplesOf_2 (by decide) ?_
  obtain ⟨hk22, h⟩ := h
  refine pw_calli (pc := 3) (kc2 := 0) (kn2 := 0) (pRunV (pc := 3) C (ctX12_of l G  _ x0 x1 (1 : Int32) _ h) (cwV 2 C.2.2.2.2.1 gX12_tuplesOf_X12_of rfl rfl rfl (by decide +kernel) ⟨Nat.le_of_ble_eq_true rfl, Nat.le_of_ble_eq_true rfl⟩) pCl10 hk22 rfl rfl (Nat.le_of_ble_eq_true rfl) dX12_tuplesOf_3 ⟨Nat.le_of_ble_eq_true rfl, Nat.le_of_ble_eq_true rfl⟩) rfl rfl (fun r23 S24 h => ?_)
  refine pw_istore_n (pc := 6) C [(2, .int r23), (0, .ref (G.2.2 + x0)), (1, .int x1)] dX12_tuplesOf_6 rfl (by decide) rfl ?_
  refine pw_iconst (pc := 7) (v := 0 ) C dX12_tuplesOf_7 (by decide) ?_
  refine pw_istore_n (pc := 8) C [(3, .int (0 : Int32)), (2, .int r23), (0, .ref (G.2.2 + x0)), (1, .int x1)] dX12_tuplesOf_8 rfl (by decide) rfl ?_
  refine pw_iconst (pc := 9) (v := 0 ) C dX12_tuplesOf_9 (by decide) ?_
  refine pw_istore (pc := 10) C [(4, .int (0 : Int32)), (3, .int (0 : Int32)), (2, .int r23), (0, .ref (G.2.2 + x0)), (1, .int x1)] dX12_tuplesOf_10 (by decide) rfl ?_
  refine pw_aload_n (pc := 12) C 3 dX12_tuplesOf_12 rfl rfl ?_
  obtain ⟨hk25, h⟩ := h
  obtain ⟨o26, ho26, h⟩ := h
  refine pw_getR (pc := 13) (ref := "SupportSolverModel") (k := 28) (index := 55) C pCl10 iX12_tuplesOf_X12 hk25 rfl (by decide +kernel) (Or.inl rfl) (o := o26) ho26 dX12_tuplesOf_13 ?_
  refine pw_aload_n (pc := 16) C 3 dX12_tuplesOf_16 rfl rfl ?_
  refine pw_iload_n (pc := 17) C 4 dX12_tuplesOf_17 rfl rfl ?_
  refine pw_iconst (pc := 18) (v := 2 ) C dX12_tuplesOf_18 (by decide) ?_
  refine pw_calli (pc := 19) (kc2 := 0) (kn2 := 0) (pRunV (pc := 19) C (ctX12_of l G  _ x0 x1 (2 : Int32) _ h) (cwV 2 C.2.2.2.2.1 gX12_tuplesOf_X12_of rfl rfl rfl (by decide +kernel) ⟨Nat.le_of_ble_eq_true rfl, Nat.le_of_ble_eq_true rfl⟩) pCl10 hk25 rfl rfl (Nat.le_of_ble_eq_true rfl) dX12_tuplesOf_19 ⟨Nat.le_of_ble_eq_true rfl, Nat.le_of_ble_eq_true rfl⟩) rfl rfl (fun r27 S28 h => ?_)
  refine pw_iconst (pc := 22) (v := (-1)) C dX12_tuplesOf_22 (by decide) ?_
  obtain ⟨hk29, h⟩ := h
  obtain ⟨hi30, h⟩ := h
  refine pw_iast (pc := 23) C hk29 hi30 dX12_tuplesOf_23 ?_
  refine pw_sub [3, 4, 2, 1, 0] (LV2 := [(0, .ref (G.2.2 + x0)), (1, .int x1), (2, .int r23), (3, .int (0 : Int32)), (4, .int (0 : Int32))]) rfl ?_
  obtain ⟨n9, h⟩ := h
  exact cbX12_tuplesOf_b24 C hr hin  n9 _ _ _ _ _ _ h

abbrev rmX12_tuples : Room := { frames := 5, cells := 0, slots := 0, locals := 118 }
theorem iX12_tuples_X12 : ∀ w ∈ u_ws RX12 TX12 32, w ∈ wsX12_tuples := fun _ h => List.mem_cons_of_mem _ (List.mem_append_right _ h)
def wpX12_tuples (S : PS) (x0 : Nat) (x1 : Int32) (Q : Int32 → PS → Prop) : Prop := (pK S x0 = 11 ∧ (wpX12_isConstraint (sI S x0 0 (0 : Int32)) x0 x1 (fun r2 S3 => (pK S3 x0 = 11 ∧ (wpX12_may S3 x0 r2 (1 : Int32) (fun r5 S6 => ((r5 = 0 → (Q (0 : Int32) S6)) ∧ (¬ r5 = 0 → (pK S6 x0 = 11 ∧ (wpX12_tuplesOf S6 x0 x1 (fun r8 S9 => (Q r8 S9))))))))))))
set_option maxRecDepth 100000 in
set_option maxHeartbeats 4000000 in
theorem ctX12_tuples (l : Launch) (G : PG) (S : PS) (x0 : Nat) (x1 : Int32) (Q : Int32 → PS → Prop) (h : wpX12_tuples S x0 x1 Q) : mI l yX12_tuples wsX12_tuples rmX12_tuples G S [.ref (G.2.2 + x0), .int x1] Q := by
  unfold mI
  refine met_of (cc := cX12_tuples) (maxL := 2) (ret := (some .int)) (by decide) rfl (Nat.le_of_ble_eq_true rfl) ?_
  intro p e s m args below meth c C hr hin
  unfold wpX12_tuples at h
  show PW p l e _ s m args below meth c _ G 2 S 0 0 [(0, .ref (G.2.2 + x0)), (1, .int x1)] 0 []
  refine pw_aload_n (pc := 0) C 0 dX12_tuples_0 rfl rfl ?_
  refine pw_iconst (pc := 1) (v := 0 ) C dX12_tuples_1 (by decide) ?_
  obtain ⟨hk1, h⟩ := h
  refine pw_putI (pc := 2) (ref := "SupportSolverModel") (k := 0) (index := 70) C pCl10 iX12_tuples_X12 hk1 rfl (by decide +kernel) (Or.inl rfl) (Or.inl rfl) rfl rfl dX12_tuples_2 ?_
  refine pw_aload_n (pc := 5) (S := (sI S x0 0 (0 : Int32))) C 0 dX12_tuples_5 rfl rfl ?_
  refine pw_aload_n (pc := 6) (S := (sI S x0 0 (0 : Int32))) C 0 dX12_tuples_6 rfl rfl ?_
  refine pw_iload_n (pc := 7) (S := (sI S x0 0 (0 : Int32))) C 1 dX12_tuples_7 rfl rfl ?_
  refine pw_calli (pc := 8) (S := (sI S x0 0 (0 : Int32))) (kc2 := 0) (kn2 := 0) (pRunV (pc := 8) (S := (sI S x0 0 (0 : Int32))) C (ctX12_isConstraint l G  _ x0 x1 _ h) (cwV 1 C.2.2.2.2.1 gX12_tuples_X12_isConstraint rfl rfl rfl (by decide +kernel) ⟨Nat.le_of_ble_eq_true rfl, Nat.le_of_ble_eq_true rfl⟩) pCl10 hk1 rfl rfl (Nat.le_of_ble_eq_true rfl) dX12_tuples_8 ⟨Nat.le_of_ble_eq_true rfl, Nat.le_of_ble_eq_true rfl⟩) rfl rfl (fun r2 S3 h => ?_)
  refine pw_iconst (pc := 11) (v := 1 ) C dX12_tuples_11 (by decide) ?_
  obtain ⟨hk4, h⟩ := h
  refine pw_calli (pc := 12) (kc2 := 0) (kn2 := 0) (pRunV (pc := 12) C (ctX12_may l G  _ x0 r2 (1 : Int32) _ h) (cwV 2 C.2.2.2.2.1 gX12_tuples_X12_may rfl rfl rfl (by decide +kernel) ⟨Nat.le_of_ble_eq_true rfl, Nat.le_of_ble_eq_true rfl⟩) pCl10 hk4 rfl rfl (Nat.le_of_ble_eq_true rfl) dX12_tuples_12 ⟨Nat.le_of_ble_eq_true rfl, Nat.le_of_ble_eq_true rfl⟩) rfl rfl (fun r5 S6 h => ?_)
  refine pw_if_eq (pc := 15) (tgt := 26) C dX12_tuples_15 rfl ⟨fun hc => ?_, fun hc => ?_⟩
  · replace h := h.1 hc
    refine pw_iconst (pc := 26) (v := 0 ) C dX12_tuples_26 (by decide) ?_
    exact pw_iret (pc := 27) C hr h dX12_tuples_27
  · replace h := h.2 hc
    refine pw_aload_n (pc := 18) C 0 dX12_tuples_18 rfl rfl ?_
    refine pw_iload_n (pc := 19) C 1 dX12_tuples_19 rfl rfl ?_
    obtain ⟨hk7, h⟩ := h
    refine pw_calli (pc := 20) (kc2 := 0) (kn2 := 0) (pRunV (pc := 20) C (ctX12_tuplesOf l G  _ x0 x1 _ h) (cwV 1 C.2.2.2.2.1 gX12_tuples_X12_tuplesOf rfl rfl rfl (by decide +kernel) ⟨Nat.le_of_ble_eq_true rfl, Nat.le_of_ble_eq_true rfl⟩) pCl10 hk7 rfl rfl (Nat.le_of_ble_eq_true rfl) dX12_tuples_20 ⟨Nat.le_of_ble_eq_true rfl, Nat.le_of_ble_eq_true rfl⟩) rfl rfl (fun r8 S9 h => ?_)
    refine pw_goto (pc := 23) (tgt := 27) C dX12_tuples_23 rfl ?_
    exact pw_iret (pc := 27) C hr h dX12_tuples_27

abbrev rmX12_fits : Room := { frames := 4, cells := 0, slots := 0, locals := 93 }
theorem iX12_fits_X12 : ∀ w ∈ u_ws RX12 TX12 32, w ∈ wsX12_fits := fun _ h => List.mem_cons_of_mem _ (List.mem_append_right _ h)
def wpX12_fits_b2  (Q : Int32 → PS → Prop) : Nat → PS → Nat → Int32 → Int32 → Prop
  | 0 => fun _ _ _ _ => False
  | n + 1 => fun S x0 x1 x2 => (pK S x0 = 11 ∧ (∃ o2, pR S x0 1 = some o2 ∧ (pK S o2 = 13 ∧ (vp_in (1 : Int32) (pL S o2) ∧ (((pI S o2 ((1 : Int32)).toNatClampNeg) ≤ x2 → (Q (1 : Int32) S)) ∧ (¬ (pI S o2 ((1 : Int32)).toNatClampNeg) ≤ x2 → (wpX12_setOf S x0 x2 (fun r5 S6 => ((¬ (r5 >>> (x1 &&& 31)) = (1 : Int32) → (wpX12_fits_b2 Q n S6 x0 x1 (x2 + 1))) ∧ ((r5 >>> (x1 &&& 31)) = (1 : Int32) → (pK S6 x0 = 11 ∧ (wpX12_fulfils S6 x0 x2 (fun r8 S9 => ((¬ r8 = 0 → (wpX12_fits_b2 Q n S9 x0 x1 (x2 + 1))) ∧ (r8 = 0 → (Q (0 : Int32) S9))))))))))))))))
def wpX12_fits (S : PS) (x0 : Nat) (x1 : Int32) (Q : Int32 → PS → Prop) : Prop := (∃ n9 : Nat, wpX12_fits_b2 Q n9 S x0 x1 (0 : Int32))
set_option maxRecDepth 100000 in
set_option maxHeartbeats 4000000 in
theorem cbX12_fits_b2 {p : Program} {l : Launch} {e : Env} {s : State} {m : MethodId} {args : Array Value} {below : List Frame} {meth : Method} {c : Code} {G : PG} {Q : Int32 → PS → Prop} (C : pCx p s m args meth c G cX12_fits 3 yX12_fits.cls wsX12_fits) (hr : meth.sig.returnType = (some .boolean)) (hin : meth.name = yX12_fits.name)  (n : Nat) : ∀ (S : PS) (x0 : Nat) (x1 : Int32) (x2 : Int32), wpX12_fits_b2  Q n S x0 x1 x2 → PW p l e rmX12_fits s m args below meth c (MQ below (va_Qi Q (pB G) (pFr G)) args s rmX12_fits.cells rmX12_fits.slots (pFr G)) G 3 S 0 0 [(0, .ref (G.2.2 + x0)), (1, .int x1), (2, .int x2)] 2 ([]) := by
  induction n with
  | zero => intro S x0 x1 x2 h; exact h.elim
  | succ n ih =>
    intro S x0 x1 x2 h
    unfold wpX12_fits_b2 at h
    refine pw_iload_n (pc := 2) C 2 dX12_fits_2 rfl rfl ?_
    refine pw_aload_n (pc := 3) C 0 dX12_fits_3 rfl rfl ?_
    obtain ⟨hk1, h⟩ := h
    obtain ⟨o2, ho2, h⟩ := h
    refine pw_getR (pc := 4) (ref := "SupportSolverModel") (k := 1) (index := 7) C pCl10 iX12_fits_X12 hk1 rfl (by decide +kernel) (Or.inl rfl) (o := o2) ho2 dX12_fits_4 ?_
    refine pw_iconst (pc := 7) (v := 1 ) C dX12_fits_7 (by decide) ?_
    obtain ⟨hk3, h⟩ := h
    obtain ⟨hi4, h⟩ := h
    refine pw_iald (pc := 8) C hk3 hi4 dX12_fits_8 ?_
    refine pw_icmp_ge (pc := 9) (tgt := 39) C dX12_fits_9 rfl ⟨fun hc => ?_, fun hc => ?_⟩
    · replace h := h.1 hc
      refine pw_iconst (pc := 39) (v := 1 ) C dX12_fits_39 (by decide) ?_
      exact pw_zret (pc := 40) C hr rfl h dX12_fits_40
    · replace h := h.2 hc
      refine pw_aload_n (pc := 12) C 0 dX12_fits_12 rfl rfl ?_
      refine pw_iload_n (pc := 13) C 2 dX12_fits_13 rfl rfl ?_
      refine pw_calli (pc := 14) (kc2 := 0) (kn2 := 0) (pRunV (pc := 14) C (ctX12_setOf l G  _ x0 x2 _ h) (cwV 1 C.2.2.2.2.1 gX12_fits_X12_setOf rfl rfl rfl (by decide +kernel) ⟨Nat.le_of_ble_eq_true rfl, Nat.le_of_ble_eq_true rfl⟩) pCl10 hk1 rfl rfl (Nat.le_of_ble_eq_true rfl) dX12_fits_14 ⟨Nat.le_of_ble_eq_true rfl, Nat.le_of_ble_eq_true rfl⟩) rfl rfl (fun r5 S6 h => ?_)
      refine pw_iload_n (pc := 17) C 1 dX12_fits_17 rfl rfl ?_
      refine pw_ishr (pc := 18) C dX12_fits_18 ?_
      refine pw_iconst (pc := 19) (v := 1 ) C dX12_fits_19 (by decide) ?_
      refine pw_icmp_ne (pc := 20) (tgt := 33) C dX12_fits_20 rfl ⟨fun hc => ?_, fun hc => ?_⟩
      · replace h := h.1 hc
        refine pw_iincK (pc := 33) (w := 1) C [(2, .int (x2 + 1)), (0, .ref (G.2.2 + x0)), (1, .int x1)] 2 dX12_fits_33 (by decide) rfl (by decide) rfl ?_
        refine pw_goto (pc := 36) (tgt := 2) C dX12_fits_36 rfl ?_
        refine pw_sub [1, 2, 0] (LV2 := [(0, .ref (G.2.2 + x0)), (1, .int x1), (2, .int (x2 + 1))]) rfl ?_
        exact ih _ _ _ _ h
      · replace h := h.2 hc
        refine pw_aload_n (pc := 23) C 0 dX12_fits_23 rfl rfl ?_
        refine pw_iload_n (pc := 24) C 2 dX12_fits_24 rfl rfl ?_
        obtain ⟨hk7, h⟩ := h
        refine pw_calli (pc := 25) (kc2 := 0) (kn2 := 0) (pRunV (pc := 25) C (ctX12_fulfils l G  _ x0 x2 _ h) (cwV 1 C.2.2.2.2.1 gX12_fits_X12_fulfils rfl rfl rfl (by decide +kernel) ⟨Nat.le_of_ble_eq_true rfl, Nat.le_of_ble_eq_true rfl⟩) pCl10 hk7 rfl rfl (Nat.le_of_ble_eq_true rfl) dX12_fits_25 ⟨Nat.le_of_ble_eq_true rfl, Nat.le_of_ble_eq_true rfl⟩) rfl rfl (fun r8 S9 h => ?_)
        refine pw_if_ne (pc := 28) (tgt := 33) C dX12_fits_28 rfl ⟨fun hc => ?_, fun hc => ?_⟩
        · replace h := h.1 hc
          refine pw_iincK (pc := 33) (w := 1) C [(2, .int (x2 + 1)), (0, .ref (G.2.2 + x0)), (1, .int x1)] 2 dX12_fits_33 (by decide) rfl (by decide) rfl ?_
          refine pw_goto (pc := 36) (tgt := 2) C dX12_fits_36 rfl ?_
          refine pw_sub [1, 2, 0] (LV2 := [(0, .ref (G.2.2 + x0)), (1, .int x1), (2, .int (x2 + 1))]) rfl ?_
          exact ih _ _ _ _ h
        · replace h := h.2 hc
          refine pw_iconst (pc := 31) (v := 0 ) C dX12_fits_31 (by decide) ?_
          exact pw_zret (pc := 32) C hr rfl h dX12_fits_32
set_option maxRecDepth 100000 in
set_option maxHeartbeats 4000000 in
theorem ctX12_fits (l : Launch) (G : PG) (S : PS) (x0 : Nat) (x1 : Int32) (Q : Int32 → PS → Prop) (h : wpX12_fits S x0 x1 Q) : mI l yX12_fits wsX12_fits rmX12_fits G S [.ref (G.2.2 + x0), .int x1] Q := by
  unfold mI
  refine met_of (cc := cX12_fits) (maxL := 3) (ret := (some .boolean)) (by decide) rfl (Nat.le_of_ble_eq_true rfl) ?_
  intro p e s m args below meth c C hr hin
  unfold wpX12_fits at h
  show PW p l e _ s m args below meth c _ G 3 S 0 0 [(0, .ref (G.2.2 + x0)), (1, .int x1)] 0 []
  refine pw_iconst (pc := 0) (v := 0 ) C dX12_fits_0 (by decide) ?_
  refine pw_istore_n (pc := 1) C [(2, .int (0 : Int32)), (0, .ref (G.2.2 + x0)), (1, .int x1)] dX12_fits_1 rfl (by decide) rfl ?_
  refine pw_sub [1, 2, 0] (LV2 := [(0, .ref (G.2.2 + x0)), (1, .int x1), (2, .int (0 : Int32))]) rfl ?_
  obtain ⟨n9, h⟩ := h
  exact cbX12_fits_b2 C hr hin  n9 _ _ _ _ h

abbrev rmX12_meets : Room := { frames := 0, cells := 0, slots := 0, locals := 0 }
theorem iX12_meets_X12 : ∀ w ∈ u_ws RX12 TX12 32, w ∈ wsX12_meets := fun _ h => List.mem_cons_of_mem _ (List.mem_append_right _ h)
def wpX12_meets_b36 (K2 : PS → Nat → Int32 → Int32 → Prop) (Q : PS → Prop) (S : PS) (x0 : Nat) (x1 : Int32) (x2 : Int32) (t0 : Nat) (t1 : Int32) (t2 : Int32) : Prop := (pK S t0 = 13 ∧ (vp_in t1 (pL S t0) ∧ (pK S x0 = 11 ∧ (∃ o4, pR S x0 30 = some o4 ∧ (pK S o4 = 13 ∧ (vp_in x2 (pL S o4) ∧ (∃ o7, pR S x0 28 = some o7 ∧ (pK S o7 = 13 ∧ (vp_in x2 (pL S o7) ∧ (vp_in x2 (pL S o4) ∧ (K2 (sI (sI S t0 (t1).toNatClampNeg t2) o4 (x2).toNatClampNeg ((pI (sI S t0 (t1).toNatClampNeg t2) o4 (x2).toNatClampNeg) ||| ((1 : Int32) <<< ((pI (sI S t0 (t1).toNatClampNeg t2) o7 (x2).toNatClampNeg) &&& 31)))) x0 x1 (x2 + 1))))))))))))
def wpX12_meets_b2  (Q : PS → Prop) : Nat → PS → Nat → Int32 → Int32 → Prop
  | 0 => fun _ _ _ _ => False
  | n + 1 => fun S x0 x1 x2 => (pK S x0 = 11 ∧ (∃ o12, pR S x0 1 = some o12 ∧ (pK S o12 = 13 ∧ (vp_in (0 : Int32) (pL S o12) ∧ (((pI S o12 ((0 : Int32)).toNatClampNeg) ≤ x2 → (Q S)) ∧ (¬ (pI S o12 ((0 : Int32)).toNatClampNeg) ≤ x2 → (∃ o15, pR S x0 29 = some o15 ∧ ((¬ x1 = 0 → (pK S o15 = 13 ∧ (vp_in x2 (pL S o15) ∧ (wpX12_meets_b36 (wpX12_meets_b2 Q n) Q S x0 x1 x2 o15 x2 (pI S o15 (x2).toNatClampNeg))))) ∧ (x1 = 0 → (∃ o18, pR S x0 28 = some o18 ∧ (pK S o18 = 13 ∧ (vp_in x2 (pL S o18) ∧ (wpX12_meets_b36 (wpX12_meets_b2 Q n) Q S x0 x1 x2 o15 x2 (pI S o18 (x2).toNatClampNeg))))))))))))))
def wpX12_meets (S : PS) (x0 : Nat) (x1 : Int32) (Q : PS → Prop) : Prop := (∃ n9 : Nat, wpX12_meets_b2 Q n9 S x0 x1 (0 : Int32))
set_option maxRecDepth 100000 in
set_option maxHeartbeats 4000000 in
theorem cbX12_meets_b36 {p : Program} {l : Launch} {e : Env} {s : State} {m : MethodId} {args : Array Value} {below : List Frame} {meth : Method} {c : Code} {G : PG} {Q : PS → Prop} (C : pCx p s m args meth c G cX12_meets 3 yX12_meets.cls wsX12_meets) (hr : meth.sig.returnType = none) (hin : meth.name = yX12_meets.name) {K2 : PS → Nat → Int32 → Int32 → Prop} (hK2 : ∀ (S : PS) (x0 : Nat) (x1 : Int32) (x2 : Int32), K2 S x0 x1 x2 → PW p l e rmX12_meets s m args below meth c (MQ below (va_Qv Q (pB G) (pFr G)) args s rmX12_meets.cells rmX12_meets.slots (pFr G)) G 3 S 0 0 [(0, .ref (G.2.2 + x0)), (1, .int x1), (2, .int x2)] 2 ([])) : ∀ (S : PS) (x0 : Nat) (x1 : Int32) (x2 : Int32) (t0 : Nat) (t1 : Int32) (t2 : Int32), wpX12_meets_b36 K2 Q S x0 x1 x2 t0 t1 t2 → PW p l e rmX12_meets s m args below meth c (MQ below (va_Qv Q (pB G) (pFr G)) args s rmX12_meets.cells rmX12_meets.slots (pFr G)) G 3 S 0 0 [(0, .ref (G.2.2 + x0)), (1, .int x1), (2, .int x2)] 36 (.int t2 :: .int t1 :: .ref (G.2.2 + t0) :: []) := by
  intro S x0 x1 x2 t0 t1 t2 h
  unfold wpX12_meets_b36 at h
  obtain ⟨hk1, h⟩ := h
  obtain ⟨hi2, h⟩ := h
  refine pw_iast (pc := 36) C hk1 hi2 dX12_meets_36 ?_
  refine pw_aload_n (pc := 37) (S := (sI S t0 (t1).toNatClampNeg t2)) C 0 dX12_meets_37 rfl rfl ?_
  obtain ⟨hk3, h⟩ := h
  obtain ⟨o4, ho4, h⟩ := h
  refine pw_getR (pc := 38) (S := (sI S t0 (t1).toNatClampNeg t2)) (ref := "SupportSolverModel") (k := 30) (index := 61) C pCl10 iX12_meets_X12 hk3 rfl (by decide +kernel) (Or.inl rfl) (o := o4) ho4 dX12_meets_38 ?_
  refine pw_iload_n (pc := 41) (S := (sI S t0 (t1).toNatClampNeg t2)) C 2 dX12_meets_41 rfl rfl ?_
  refine pw_dup2_11 (pc := 42) (S := (sI S t0 (t1).toNatClampNeg t2)) C dX12_meets_42 rfl rfl ?_
  obtain ⟨hk5, h⟩ := h
  obtain ⟨hi6, h⟩ := h
  refine pw_iald (pc := 43) (S := (sI S t0 (t1).toNatClampNeg t2)) C hk5 hi6 dX12_meets_43 ?_
  refine pw_iconst (pc := 44) (S := (sI S t0 (t1).toNatClampNeg t2)) (v := 1 ) C dX12_meets_44 (by decide) ?_
  refine pw_aload_n (pc := 45) (S := (sI S t0 (t1).toNatClampNeg t2)) C 0 dX12_meets_45 rfl rfl ?_
  obtain ⟨o7, ho7, h⟩ := h
  refine pw_getR (pc := 46) (S := (sI S t0 (t1).toNatClampNeg t2)) (ref := "SupportSolverModel") (k := 28) (index := 55) C pCl10 iX12_meets_X12 hk3 rfl (by decide +kernel) (Or.inl rfl) (o := o7) ho7 dX12_meets_46 ?_
  refine pw_iload_n (pc := 49) (S := (sI S t0 (t1).toNatClampNeg t2)) C 2 dX12_meets_49 rfl rfl ?_
  obtain ⟨hk8, h⟩ := h
  obtain ⟨hi9, h⟩ := h
  refine pw_iald (pc := 50) (S := (sI S t0 (t1).toNatClampNeg t2)) C hk8 hi9 dX12_meets_50 ?_
  refine pw_ishl (pc := 51) (S := (sI S t0 (t1).toNatClampNeg t2)) C dX12_meets_51 ?_
  refine pw_ior (pc := 52) (S := (sI S t0 (t1).toNatClampNeg t2)) C dX12_meets_52 ?_
  obtain ⟨hi10, h⟩ := h
  refine pw_iast (pc := 53) (S := (sI S t0 (t1).toNatClampNeg t2)) C hk5 hi10 dX12_meets_53 ?_
  refine pw_iincK (pc := 54) (S := (sI (sI S t0 (t1).toNatClampNeg t2) o4 (x2).toNatClampNeg ((pI (sI S t0 (t1).toNatClampNeg t2) o4 (x2).toNatClampNeg) ||| ((1 : Int32) <<< ((pI (sI S t0 (t1).toNatClampNeg t2) o7 (x2).toNatClampNeg) &&& 31))))) (w := 1) C [(2, .int (x2 + 1)), (0, .ref (G.2.2 + x0)), (1, .int x1)] 2 dX12_meets_54 (by decide) rfl (by decide) rfl ?_
  refine pw_goto (pc := 57) (S := (sI (sI S t0 (t1).toNatClampNeg t2) o4 (x2).toNatClampNeg ((pI (sI S t0 (t1).toNatClampNeg t2) o4 (x2).toNatClampNeg) ||| ((1 : Int32) <<< ((pI (sI S t0 (t1).toNatClampNeg t2) o7 (x2).toNatClampNeg) &&& 31))))) (tgt := 2) C dX12_meets_57 rfl ?_
  refine pw_sub [1, 2, 0] (LV2 := [(0, .ref (G.2.2 + x0)), (1, .int x1), (2, .int (x2 + 1))]) rfl ?_
  exact hK2 _ _ _ _ h
set_option maxRecDepth 100000 in
set_option maxHeartbeats 4000000 in
theorem cbX12_meets_b2 {p : Program} {l : Launch} {e : Env} {s : State} {m : MethodId} {args : Array Value} {below : List Frame} {meth : Method} {c : Code} {G : PG} {Q : PS → Prop} (C : pCx p s m args meth c G cX12_meets 3 yX12_meets.cls wsX12_meets) (hr : meth.sig.returnType = none) (hin : meth.name = yX12_meets.name)  (n : Nat) : ∀ (S : PS) (x0 : Nat) (x1 : Int32) (x2 : Int32), wpX12_meets_b2  Q n S x0 x1 x2 → PW p l e rmX12_meets s m args below meth c (MQ below (va_Qv Q (pB G) (pFr G)) args s rmX12_meets.cells rmX12_meets.slots (pFr G)) G 3 S 0 0 [(0, .ref (G.2.2 + x0)), (1, .int x1), (2, .int x2)] 2 ([]) := by
  induction n with
  | zero => intro S x0 x1 x2 h; exact h.elim
  | succ n ih =>
    intro S x0 x1 x2 h
    unfold wpX12_meets_b2 at h
    refine pw_iload_n (pc := 2) C 2 dX12_meets_2 rfl rfl ?_
    refine pw_aload_n (pc := 3) C 0 dX12_meets_3 rfl rfl ?_
    obtain ⟨hk11, h⟩ := h
    obtain ⟨o12, ho12, h⟩ := h
    refine pw_getR (pc := 4) (ref := "SupportSolverModel") (k := 1) (index := 7) C pCl10 iX12_meets_X12 hk11 rfl (by decide +kernel) (Or.inl rfl) (o := o12) ho12 dX12_meets_4 ?_
    refine pw_iconst (pc := 7) (v := 0 ) C dX12_meets_7 (by decide) ?_
    obtain ⟨hk13, h⟩ := h
    obtain ⟨hi14, h⟩ := h
    refine pw_iald (pc := 8) C hk13 hi14 dX12_meets_8 ?_
    refine pw_icmp_ge (pc := 9) (tgt := 60) C dX12_meets_9 rfl ⟨fun hc => ?_, fun hc => ?_⟩
    · replace h := h.1 hc
      exact pw_vret (pc := 60) C hr h dX12_meets_60
    · replace h := h.2 hc
      refine pw_aload_n (pc := 12) C 0 dX12_meets_12 rfl rfl ?_
      obtain ⟨o15, ho15, h⟩ := h
      refine pw_getR (pc := 13) (ref := "SupportSolverModel") (k := 29) (index := 58) C pCl10 iX12_meets_X12 hk11 rfl (by decide +kernel) (Or.inl rfl) (o := o15) ho15 dX12_meets_13 ?_
      refine pw_iload_n (pc := 16) C 2 dX12_meets_16 rfl rfl ?_
      refine pw_iload_n (pc := 17) C 1 dX12_meets_17 rfl rfl ?_
      refine pw_if_ne (pc := 18) (tgt := 30) C dX12_meets_18 rfl ⟨fun hc => ?_, fun hc => ?_⟩
      · replace h := h.1 hc
        refine pw_aload_n (pc := 30) C 0 dX12_meets_30 rfl rfl ?_
        refine pw_getR (pc := 31) (ref := "SupportSolverModel") (k := 29) (index := 58) C pCl10 iX12_meets_X12 hk11 rfl (by decide +kernel) (Or.inl rfl) (o := o15) ho15 dX12_meets_31 ?_
        refine pw_iload_n (pc := 34) C 2 dX12_meets_34 rfl rfl ?_
        obtain ⟨hk16, h⟩ := h
        obtain ⟨hi17, h⟩ := h
        refine pw_iald (pc := 35) C hk16 hi17 dX12_meets_35 ?_
        exact cbX12_meets_b36 C hr hin ih _ _ _ _ _ _ _ h
      · replace h := h.2 hc
        refine pw_aload_n (pc := 21) C 0 dX12_meets_21 rfl rfl ?_
        obtain ⟨o18, ho18, h⟩ := h
        refine pw_getR (pc := 22) (ref := "SupportSolverModel") (k := 28) (index := 55) C pCl10 iX12_meets_X12 hk11 rfl (by decide +kernel) (Or.inl rfl) (o := o18) ho18 dX12_meets_22 ?_
        refine pw_iload_n (pc := 25) C 2 dX12_meets_25 rfl rfl ?_
        obtain ⟨hk19, h⟩ := h
        obtain ⟨hi20, h⟩ := h
        refine pw_iald (pc := 26) C hk19 hi20 dX12_meets_26 ?_
        refine pw_goto (pc := 27) (tgt := 36) C dX12_meets_27 rfl ?_
        exact cbX12_meets_b36 C hr hin ih _ _ _ _ _ _ _ h
set_option maxRecDepth 100000 in
set_option maxHeartbeats 4000000 in
theorem ctX12_meets (l : Launch) (G : PG) (S : PS) (x0 : Nat) (x1 : Int32) (Q : PS → Prop) (h : wpX12_meets S x0 x1 Q) : mV l yX12_meets wsX12_meets rmX12_meets G S [.ref (G.2.2 + x0), .int x1] Q := by
  unfold mV
  refine met_of (cc := cX12_meets) (maxL := 3) (ret := none) (by decide) rfl (Nat.le_of_ble_eq_true rfl) ?_
  intro p e s m args below meth c C hr hin
  unfold wpX12_meets at h
  show PW p l e _ s m args below meth c _ G 3 S 0 0 [(0, .ref (G.2.2 + x0)), (1, .int x1)] 0 []
  refine pw_iconst (pc := 0) (v := 0 ) C dX12_meets_0 (by decide) ?_
  refine pw_istore_n (pc := 1) C [(2, .int (0 : Int32)), (0, .ref (G.2.2 + x0)), (1, .int x1)] dX12_meets_1 rfl (by decide) rfl ?_
  refine pw_sub [1, 2, 0] (LV2 := [(0, .ref (G.2.2 + x0)), (1, .int x1), (2, .int (0 : Int32))]) rfl ?_
  obtain ⟨n9, h⟩ := h
  exact cbX12_meets_b2 C hr hin  n9 _ _ _ _ h

abbrev rmX12_solves : Room := { frames := 5, cells := 0, slots := 0, locals := 115 }
theorem iX12_solves_X12 : ∀ w ∈ u_ws RX12 TX12 32, w ∈ wsX12_solves := fun _ h => List.mem_cons_of_mem _ (List.mem_append_right _ h)
def wpX12_solves_b43  (Q : Int32 → PS → Prop) : Nat → PS → Nat → Int32 → Int32 → Prop
  | 0 => fun _ _ _ _ => False
  | n + 1 => fun S x0 x1 x2 => ((x2 < 0 → (Q x1 S)) ∧ (¬ x2 < 0 → (pK S x0 = 11 ∧ (∃ o2, pR S x0 28 = some o2 ∧ (pK S o2 = 13 ∧ (vp_in x2 (pL S o2) ∧ (wpX12_nextValue S x0 x2 (pI S o2 (x2).toNatClampNeg) (fun r5 S6 => (pK S6 o2 = 13 ∧ (vp_in x2 (pL S6 o2) ∧ (pK S6 x0 = 11 ∧ (∃ o10, pR S6 x0 28 = some o10 ∧ (pK S6 o10 = 13 ∧ (vp_in x2 (pL S6 o10) ∧ ((¬ (pI (sI S6 o2 (x2).toNatClampNeg r5) o10 (x2).toNatClampNeg) = (-1 : Int32) → (wpX12_fits (sI S6 o2 (x2).toNatClampNeg r5) x0 x2 (fun r13 S14 => ((r13 = 0 → (wpX12_solves_b43 Q n S14 x0 x1 x2)) ∧ (¬ r13 = 0 → (pK S14 x0 = 11 ∧ (∃ o16, pR S14 x0 1 = some o16 ∧ (pK S14 o16 = 13 ∧ (vp_in (0 : Int32) (pL S14 o16) ∧ ((¬ (x2 + (1 : Int32)) = (pI S14 o16 ((0 : Int32)).toNatClampNeg) → (∃ o19, pR S14 x0 28 = some o19 ∧ (pK S14 o19 = 13 ∧ (vp_in (x2 + 1) (pL S14 o19) ∧ (wpX12_solves_b43 Q n (sI S14 o19 ((x2 + 1)).toNatClampNeg (-1 : Int32)) x0 x1 (x2 + 1)))))) ∧ ((x2 + (1 : Int32)) = (pI S14 o16 ((0 : Int32)).toNatClampNeg) → (wpX12_meets S14 x0 x1 (fun S23 => (wpX12_solves_b43 Q n S23 x0 (x1 + 1) x2)))))))))))))) ∧ ((pI (sI S6 o2 (x2).toNatClampNeg r5) o10 (x2).toNatClampNeg) = (-1 : Int32) → (wpX12_solves_b43 Q n (sI S6 o2 (x2).toNatClampNeg r5) x0 x1 (x2 + (-1)))))))))))))))))))
def wpX12_solves_b2  (Q : Int32 → PS → Prop) : Nat → PS → Nat → Int32 → Prop
  | 0 => fun _ _ _ => False
  | n + 1 => fun S x0 x1 => (((7 : Int32) ≤ x1 → (pK S x0 = 11 ∧ (∃ o25, pR S x0 1 = some o25 ∧ (pK S o25 = 13 ∧ (vp_in (0 : Int32) (pL S o25) ∧ ((¬ (pI S o25 ((0 : Int32)).toNatClampNeg) = 0 → (∃ n9 : Nat, wpX12_solves_b43 Q n9 S x0 (0 : Int32) (0 : Int32))) ∧ ((pI S o25 ((0 : Int32)).toNatClampNeg) = 0 → (Q (1 : Int32) S)))))))) ∧ (¬ (7 : Int32) ≤ x1 → (pK S x0 = 11 ∧ (∃ o29, pR S x0 28 = some o29 ∧ (pK S o29 = 13 ∧ (vp_in x1 (pL S o29) ∧ (∃ o32, pR S x0 30 = some o32 ∧ (pK S o32 = 13 ∧ (vp_in x1 (pL S o32) ∧ (wpX12_solves_b2 Q n (sI (sI S o29 (x1).toNatClampNeg (-1 : Int32)) o32 (x1).toNatClampNeg (0 : Int32)) x0 (x1 + 1)))))))))))
def wpX12_solves (S : PS) (x0 : Nat) (Q : Int32 → PS → Prop) : Prop := (∃ n9 : Nat, wpX12_solves_b2 Q n9 S x0 (0 : Int32))
set_option maxRecDepth 100000 in
set_option maxHeartbeats 4000000 in
theorem cbX12_solves_b43 {p : Program} {l : Launch} {e : Env} {s : State} {m : MethodId} {args : Array Value} {below : List Frame} {meth : Method} {c : Code} {G : PG} {Q : Int32 → PS → Prop} (C : pCx p s m args meth c G cX12_solves 3 yX12_solves.cls wsX12_solves) (hr : meth.sig.returnType = (some .int)) (hin : meth.name = yX12_solves.name)  (n : Nat) : ∀ (S : PS) (x0 : Nat) (x1 : Int32) (x2 : Int32), wpX12_solves_b43  Q n S x0 x1 x2 → PW p l e rmX12_solves s m args below meth c (MQ below (va_Qi Q (pB G) (pFr G)) args s rmX12_solves.cells rmX12_solves.slots (pFr G)) G 3 S 0 0 [(0, .ref (G.2.2 + x0)), (1, .int x1), (2, .int x2)] 43 ([]) := by
  induction n with
  | zero => intro S x0 x1 x2 h; exact h.elim
  | succ n ih =>
    intro S x0 x1 x2 h
    unfold wpX12_solves_b43 at h
    refine pw_iload_n (pc := 43) C 2 dX12_solves_43 rfl rfl ?_
    refine pw_if_lt (pc := 44) (tgt := 124) C dX12_solves_44 rfl ⟨fun hc => ?_, fun hc => ?_⟩
    · replace h := h.1 hc
      refine pw_iload_n (pc := 124) C 1 dX12_solves_124 rfl rfl ?_
      exact pw_iret (pc := 125) C hr h dX12_solves_125
    · replace h := h.2 hc
      refine pw_aload_n (pc := 47) C 0 dX12_solves_47 rfl rfl ?_
      obtain ⟨hk1, h⟩ := h
      obtain ⟨o2, ho2, h⟩ := h
      refine pw_getR (pc := 48) (ref := "SupportSolverModel") (k := 28) (index := 55) C pCl10 iX12_solves_X12 hk1 rfl (by decide +kernel) (Or.inl rfl) (o := o2) ho2 dX12_solves_48 ?_
      refine pw_iload_n (pc := 51) C 2 dX12_solves_51 rfl rfl ?_
      refine pw_aload_n (pc := 52) C 0 dX12_solves_52 rfl rfl ?_
      refine pw_iload_n (pc := 53) C 2 dX12_solves_53 rfl rfl ?_
      refine pw_aload_n (pc := 54) C 0 dX12_solves_54 rfl rfl ?_
      refine pw_getR (pc := 55) (ref := "SupportSolverModel") (k := 28) (index := 55) C pCl10 iX12_solves_X12 hk1 rfl (by decide +kernel) (Or.inl rfl) (o := o2) ho2 dX12_solves_55 ?_
      refine pw_iload_n (pc := 58) C 2 dX12_solves_58 rfl rfl ?_
      obtain ⟨hk3, h⟩ := h
      obtain ⟨hi4, h⟩ := h
      refine pw_iald (pc := 59) C hk3 hi4 dX12_solves_59 ?_
      refine pw_calli (pc := 60) (kc2 := 0) (kn2 := 0) (pRunV (pc := 60) C (ctX12_nextValue l G  _ x0 x2 (pI S o2 (x2).toNatClampNeg) _ h) (cwV 2 C.2.2.2.2.1 gX12_solves_X12_nextValue rfl rfl rfl (by decide +kernel) ⟨Nat.le_of_ble_eq_true rfl, Nat.le_of_ble_eq_true rfl⟩) pCl10 hk1 rfl rfl (Nat.le_of_ble_eq_true rfl) dX12_solves_60 ⟨Nat.le_of_ble_eq_true rfl, Nat.le_of_ble_eq_true rfl⟩) rfl rfl (fun r5 S6 h => ?_)
      obtain ⟨hk7, h⟩ := h
      obtain ⟨hi8, h⟩ := h
      refine pw_iast (pc := 63) C hk7 hi8 dX12_solves_63 ?_
      refine pw_aload_n (pc := 64) (S := (sI S6 o2 (x2).toNatClampNeg r5)) C 0 dX12_solves_64 rfl rfl ?_
      obtain ⟨hk9, h⟩ := h
      obtain ⟨o10, ho10, h⟩ := h
      refine pw_getR (pc := 65) (S := (sI S6 o2 (x2).toNatClampNeg r5)) (ref := "SupportSolverModel") (k := 28) (index := 55) C pCl10 iX12_solves_X12 hk9 rfl (by decide +kernel) (Or.inl rfl) (o := o10) ho10 dX12_solves_65 ?_
      refine pw_iload_n (pc := 68) (S := (sI S6 o2 (x2).toNatClampNeg r5)) C 2 dX12_solves_68 rfl rfl ?_
      obtain ⟨hk11, h⟩ := h
      obtain ⟨hi12, h⟩ := h
      refine pw_iald (pc := 69) (S := (sI S6 o2 (x2).toNatClampNeg r5)) C hk11 hi12 dX12_solves_69 ?_
      refine pw_iconst (pc := 70) (S := (sI S6 o2 (x2).toNatClampNeg r5)) (v := (-1)) C dX12_solves_70 (by decide) ?_
      refine pw_icmp_ne (pc := 71) (S := (sI S6 o2 (x2).toNatClampNeg r5)) (tgt := 80) C dX12_solves_71 rfl ⟨fun hc => ?_, fun hc => ?_⟩
      · replace h := h.1 hc
        refine pw_aload_n (pc := 80) (S := (sI S6 o2 (x2).toNatClampNeg r5)) C 0 dX12_solves_80 rfl rfl ?_
        refine pw_iload_n (pc := 81) (S := (sI S6 o2 (x2).toNatClampNeg r5)) C 2 dX12_solves_81 rfl rfl ?_
        refine pw_calli (pc := 82) (S := (sI S6 o2 (x2).toNatClampNeg r5)) (kc2 := 0) (kn2 := 0) (pRunV (pc := 82) (S := (sI S6 o2 (x2).toNatClampNeg r5)) C (ctX12_fits l G  _ x0 x2 _ h) (cwV 1 C.2.2.2.2.1 gX12_solves_X12_fits rfl rfl rfl (by decide +kernel) ⟨Nat.le_of_ble_eq_true rfl, Nat.le_of_ble_eq_true rfl⟩) pCl10 hk9 rfl rfl (Nat.le_of_ble_eq_true rfl) dX12_solves_82 ⟨Nat.le_of_ble_eq_true rfl, Nat.le_of_ble_eq_true rfl⟩) rfl rfl (fun r13 S14 h => ?_)
        refine pw_if_eq (pc := 85) (tgt := 43) C dX12_solves_85 rfl ⟨fun hc => ?_, fun hc => ?_⟩
        · replace h := h.1 hc
          exact ih _ _ _ _ h
        · replace h := h.2 hc
          refine pw_iload_n (pc := 88) C 2 dX12_solves_88 rfl rfl ?_
          refine pw_iconst (pc := 89) (v := 1 ) C dX12_solves_89 (by decide) ?_
          refine pw_iadd (pc := 90) C dX12_solves_90 ?_
          refine pw_aload_n (pc := 91) C 0 dX12_solves_91 rfl rfl ?_
          obtain ⟨hk15, h⟩ := h
          obtain ⟨o16, ho16, h⟩ := h
          refine pw_getR (pc := 92) (ref := "SupportSolverModel") (k := 1) (index := 7) C pCl10 iX12_solves_X12 hk15 rfl (by decide +kernel) (Or.inl rfl) (o := o16) ho16 dX12_solves_92 ?_
          refine pw_iconst (pc := 95) (v := 0 ) C dX12_solves_95 (by decide) ?_
          obtain ⟨hk17, h⟩ := h
          obtain ⟨hi18, h⟩ := h
          refine pw_iald (pc := 96) C hk17 hi18 dX12_solves_96 ?_
          refine pw_icmp_ne (pc := 97) (tgt := 111) C dX12_solves_97 rfl ⟨fun hc => ?_, fun hc => ?_⟩
          · replace h := h.1 hc
            refine pw_iincK (pc := 111) (w := 1) C [(2, .int (x2 + 1)), (0, .ref (G.2.2 + x0)), (1, .int x1)] 2 dX12_solves_111 (by decide) rfl (by decide) rfl ?_
            refine pw_aload_n (pc := 114) C 1 dX12_solves_114 rfl rfl ?_
            obtain ⟨o19, ho19, h⟩ := h
            refine pw_getR (pc := 115) (ref := "SupportSolverModel") (k := 28) (index := 55) C pCl10 iX12_solves_X12 hk15 rfl (by decide +kernel) (Or.inl rfl) (o := o19) ho19 dX12_solves_115 ?_
            refine pw_iload_n (pc := 118) C 0 dX12_solves_118 rfl rfl ?_
            refine pw_iconst (pc := 119) (v := (-1)) C dX12_solves_119 (by decide) ?_
            obtain ⟨hk20, h⟩ := h
            obtain ⟨hi21, h⟩ := h
            refine pw_iast (pc := 120) C hk20 hi21 dX12_solves_120 ?_
            refine pw_goto (pc := 121) (S := (sI S14 o19 ((x2 + 1)).toNatClampNeg (-1 : Int32))) (tgt := 43) C dX12_solves_121 rfl ?_
            refine pw_sub [1, 2, 0] (LV2 := [(0, .ref (G.2.2 + x0)), (1, .int x1), (2, .int (x2 + 1))]) rfl ?_
            exact ih _ _ _ _ h
          · replace h := h.2 hc
            refine pw_aload_n (pc := 100) C 0 dX12_solves_100 rfl rfl ?_
            refine pw_iload_n (pc := 101) C 1 dX12_solves_101 rfl rfl ?_
            refine pw_callv (pc := 102) (kc2 := 0) (kn2 := 0) (pRunV (pc := 102) C (ctX12_meets l G  _ x0 x1 _ h) (cwV 1 C.2.2.2.2.1 gX12_solves_X12_meets rfl rfl rfl (by decide +kernel) ⟨Nat.le_of_ble_eq_true rfl, Nat.le_of_ble_eq_true rfl⟩) pCl10 hk15 rfl rfl (Nat.le_of_ble_eq_true rfl) dX12_solves_102 ⟨Nat.le_of_ble_eq_true rfl, Nat.le_of_ble_eq_true rfl⟩) rfl rfl (fun S23 h => ?_)
            refine pw_iincK (pc := 105) (w := 1) C [(1, .int (x1 + 1)), (0, .ref (G.2.2 + x0)), (2, .int x2)] 1 dX12_solves_105 (by decide) rfl (by decide) rfl ?_
            refine pw_goto (pc := 108) (tgt := 43) C dX12_solves_108 rfl ?_
            refine pw_sub [1, 0, 2] (LV2 := [(0, .ref (G.2.2 + x0)), (1, .int (x1 + 1)), (2, .int x2)]) rfl ?_
            exact ih _ _ _ _ h
      · replace h := h.2 hc
        refine pw_iincK (pc := 74) (S := (sI S6 o2 (x2).toNatClampNeg r5)) (w := (-1)) C [(2, .int (x2 + (-1))), (0, .ref (G.2.2 + x0)), (1, .int x1)] 2 dX12_solves_74 (by decide) rfl (by decide) rfl ?_
        refine pw_goto (pc := 77) (S := (sI S6 o2 (x2).toNatClampNeg r5)) (tgt := 43) C dX12_solves_77 rfl ?_
        refine pw_sub [1, 2, 0] (LV2 := [(0, .ref (G.2.2 + x0)), (1, .int x1), (2, .int (x2 + (-1)))]) rfl ?_
        exact ih _ _ _ _ h
set_option maxRecDepth 100000 in
set_option maxHeartbeats 4000000 in
theorem cbX12_solves_b2 {p : Program} {l : Launch} {e : Env} {s : State} {m : MethodId} {args : Array Value} {below : List Frame} {meth : Method} {c : Code} {G : PG} {Q : Int32 → PS → Prop} (C : pCx p s m args meth c G cX12_solves 3 yX12_solves.cls wsX12_solves) (hr : meth.sig.returnType = (some .int)) (hin : meth.name = yX12_solves.name)  (n : Nat) : ∀ (S : PS) (x0 : Nat) (x1 : Int32), wpX12_solves_b2  Q n S x0 x1 → PW p l e rmX12_solves s m args below meth c (MQ below (va_Qi Q (pB G) (pFr G)) args s rmX12_solves.cells rmX12_solves.slots (pFr G)) G 3 S 0 0 [(0, .ref (G.2.2 + x0)), (1, .int x1)] 2 ([]) := by
  induction n with
  | zero => intro S x0 x1 h; exact h.elim
  | succ n ih =>
    intro S x0 x1 h
    unfold wpX12_solves_b2 at h
    refine pw_iload_n (pc := 2) C 1 dX12_solves_2 rfl rfl ?_
    refine pw_bipush (pc := 3) (v := 7 ) C dX12_solves_3 (by decide) ?_
    refine pw_icmp_ge (pc := 5) (tgt := 28) C dX12_solves_5 rfl ⟨fun hc => ?_, fun hc => ?_⟩
    · replace h := h.1 hc
      refine pw_aload_n (pc := 28) C 0 dX12_solves_28 rfl rfl ?_
      obtain ⟨hk24, h⟩ := h
      obtain ⟨o25, ho25, h⟩ := h
      refine pw_getR (pc := 29) (ref := "SupportSolverModel") (k := 1) (index := 7) C pCl10 iX12_solves_X12 hk24 rfl (by decide +kernel) (Or.inl rfl) (o := o25) ho25 dX12_solves_29 ?_
      refine pw_iconst (pc := 32) (v := 0 ) C dX12_solves_32 (by decide) ?_
      obtain ⟨hk26, h⟩ := h
      obtain ⟨hi27, h⟩ := h
      refine pw_iald (pc := 33) C hk26 hi27 dX12_solves_33 ?_
      refine pw_if_ne (pc := 34) (tgt := 39) C dX12_solves_34 rfl ⟨fun hc => ?_, fun hc => ?_⟩
      · replace h := h.1 hc
        refine pw_iconst (pc := 39) (v := 0 ) C dX12_solves_39 (by decide) ?_
        refine pw_istore_n (pc := 40) C [(1, .int (0 : Int32)), (0, .ref (G.2.2 + x0))] dX12_solves_40 rfl (by decide) rfl ?_
        refine pw_iconst (pc := 41) (v := 0 ) C dX12_solves_41 (by decide) ?_
        refine pw_istore_n (pc := 42) C [(2, .int (0 : Int32)), (1, .int (0 : Int32)), (0, .ref (G.2.2 + x0))] dX12_solves_42 rfl (by decide) rfl ?_
        refine pw_sub [2, 1, 0] (LV2 := [(0, .ref (G.2.2 + x0)), (1, .int (0 : Int32)), (2, .int (0 : Int32))]) rfl ?_
        obtain ⟨n9, h⟩ := h
        exact cbX12_solves_b43 C hr hin  n9 _ _ _ _ h
      · replace h := h.2 hc
        refine pw_iconst (pc := 37) (v := 1 ) C dX12_solves_37 (by decide) ?_
        exact pw_iret (pc := 38) C hr h dX12_solves_38
    · replace h := h.2 hc
      refine pw_aload_n (pc := 8) C 0 dX12_solves_8 rfl rfl ?_
      obtain ⟨hk28, h⟩ := h
      obtain ⟨o29, ho29, h⟩ := h
      refine pw_getR (pc := 9) (ref := "SupportSolverModel") (k := 28) (index := 55) C pCl10 iX12_solves_X12 hk28 rfl (by decide +kernel) (Or.inl rfl) (o := o29) ho29 dX12_solves_9 ?_
      refine pw_iload_n (pc := 12) C 1 dX12_solves_12 rfl rfl ?_
      refine pw_iconst (pc := 13) (v := (-1)) C dX12_solves_13 (by decide) ?_
      obtain ⟨hk30, h⟩ := h
      obtain ⟨hi31, h⟩ := h
      refine pw_iast (pc := 14) C hk30 hi31 dX12_solves_14 ?_
      refine pw_aload_n (pc := 15) (S := (sI S o29 (x1).toNatClampNeg (-1 : Int32))) C 0 dX12_solves_15 rfl rfl ?_
      obtain ⟨o32, ho32, h⟩ := h
      refine pw_getR (pc := 16) (S := (sI S o29 (x1).toNatClampNeg (-1 : Int32))) (ref := "SupportSolverModel") (k := 30) (index := 61) C pCl10 iX12_solves_X12 hk28 rfl (by decide +kernel) (Or.inl rfl) (o := o32) ho32 dX12_solves_16 ?_
      refine pw_iload_n (pc := 19) (S := (sI S o29 (x1).toNatClampNeg (-1 : Int32))) C 1 dX12_solves_19 rfl rfl ?_
      refine pw_iconst (pc := 20) (S := (sI S o29 (x1).toNatClampNeg (-1 : Int32))) (v := 0 ) C dX12_solves_20 (by decide) ?_
      obtain ⟨hk33, h⟩ := h
      obtain ⟨hi34, h⟩ := h
      refine pw_iast (pc := 21) (S := (sI S o29 (x1).toNatClampNeg (-1 : Int32))) C hk33 hi34 dX12_solves_21 ?_
      refine pw_iincK (pc := 22) (S := (sI (sI S o29 (x1).toNatClampNeg (-1 : Int32)) o32 (x1).toNatClampNeg (0 : Int32))) (w := 1) C [(1, .int (x1 + 1)), (0, .ref (G.2.2 + x0))] 1 dX12_solves_22 (by decide) rfl (by decide) rfl ?_
      refine pw_goto (pc := 25) (S := (sI (sI S o29 (x1).toNatClampNeg (-1 : Int32)) o32 (x1).toNatClampNeg (0 : Int32))) (tgt := 2) C dX12_solves_25 rfl ?_
      refine pw_sub [1, 0] (LV2 := [(0, .ref (G.2.2 + x0)), (1, .int (x1 + 1))]) rfl ?_
      exact ih _ _ _ h
set_option maxRecDepth 100000 in
set_option maxHeartbeats 4000000 in
theorem ctX12_solves (l : Launch) (G : PG) (S : PS) (x0 : Nat) (Q : Int32 → PS → Prop) (h : wpX12_solves S x0 Q) : mI l yX12_solves wsX12_solves rmX12_solves G S [.ref (G.2.2 + x0)] Q := by
  unfold mI
  refine met_of (cc := cX12_solves) (maxL := 3) (ret := (some .int)) (by decide) rfl (Nat.le_of_ble_eq_true rfl) ?_
  intro p e s m args below meth c C hr hin
  unfold wpX12_solves at h
  show PW p l e _ s m args below meth c _ G 3 S 0 0 [(0, .ref (G.2.2 + x0))] 0 []
  refine pw_iconst (pc := 0) (v := 0 ) C dX12_solves_0 (by decide) ?_
  refine pw_istore_n (pc := 1) C [(1, .int (0 : Int32)), (0, .ref (G.2.2 + x0))] dX12_solves_1 rfl (by decide) rfl ?_
  refine pw_sub [1, 0] (LV2 := [(0, .ref (G.2.2 + x0)), (1, .int (0 : Int32))]) rfl ?_
  obtain ⟨n9, h⟩ := h
  exact cbX12_solves_b2 C hr hin  n9 _ _ _ h

abbrev rmX12_solutions : Room := { frames := 6, cells := 0, slots := 0, locals := 137 }
theorem iX12_solutions_X12 : ∀ w ∈ u_ws RX12 TX12 32, w ∈ wsX12_solutions := fun _ h => List.mem_cons_of_mem _ (List.mem_append_right _ h)
def wpX12_solutions (S : PS) (x0 : Nat) (Q : Int32 → PS → Prop) : Prop := (pK S x0 = 11 ∧ (wpX12_solves (sI S x0 0 (0 : Int32)) x0 (fun r2 S3 => (Q r2 S3))))
set_option maxRecDepth 100000 in
set_option maxHeartbeats 4000000 in
theorem ctX12_solutions (l : Launch) (G : PG) (S : PS) (x0 : Nat) (Q : Int32 → PS → Prop) (h : wpX12_solutions S x0 Q) : mI l yX12_solutions wsX12_solutions rmX12_solutions G S [.ref (G.2.2 + x0)] Q := by
  unfold mI
  refine met_of (cc := cX12_solutions) (maxL := 1) (ret := (some .int)) (by decide) rfl (Nat.le_of_ble_eq_true rfl) ?_
  intro p e s m args below meth c C hr hin
  unfold wpX12_solutions at h
  show PW p l e _ s m args below meth c _ G 1 S 0 0 [(0, .ref (G.2.2 + x0))] 0 []
  refine pw_aload_n (pc := 0) C 0 dX12_solutions_0 rfl rfl ?_
  refine pw_iconst (pc := 1) (v := 0 ) C dX12_solutions_1 (by decide) ?_
  obtain ⟨hk1, h⟩ := h
  refine pw_putI (pc := 2) (ref := "SupportSolverModel") (k := 0) (index := 70) C pCl10 iX12_solutions_X12 hk1 rfl (by decide +kernel) (Or.inl rfl) (Or.inl rfl) rfl rfl dX12_solutions_2 ?_
  refine pw_aload_n (pc := 5) (S := (sI S x0 0 (0 : Int32))) C 0 dX12_solutions_5 rfl rfl ?_
  refine pw_calli (pc := 6) (S := (sI S x0 0 (0 : Int32))) (kc2 := 0) (kn2 := 0) (pRunV (pc := 6) (S := (sI S x0 0 (0 : Int32))) C (ctX12_solves l G  _ x0 _ h) (cwV 0 C.2.2.2.2.1 gX12_solutions_X12_solves rfl rfl rfl (by decide +kernel) ⟨Nat.le_of_ble_eq_true rfl, Nat.le_of_ble_eq_true rfl⟩) pCl10 hk1 rfl rfl (Nat.le_of_ble_eq_true rfl) dX12_solutions_6 ⟨Nat.le_of_ble_eq_true rfl, Nat.le_of_ble_eq_true rfl⟩) rfl rfl (fun r2 S3 h => ?_)
  exact pw_iret (pc := 9) C hr h dX12_solutions_9

abbrev rmX12_first : Room := { frames := 6, cells := 0, slots := 0, locals := 137 }
theorem iX12_first_X12 : ∀ w ∈ u_ws RX12 TX12 32, w ∈ wsX12_first := fun _ h => List.mem_cons_of_mem _ (List.mem_append_right _ h)
def wpX12_first_b31  (Q : Int32 → PS → Prop) (S : PS) (x0 : Nat) (x1 : Int32) (t0 : Nat) (t1 : Int32) : Prop := (pK S t0 = 11 ∧ (wpX12_may S t0 t1 (2 : Int32) (fun r2 S3 => ((r2 = 0 → (Q (0 : Int32) S3)) ∧ (¬ r2 = 0 → (pK S3 x0 = 11 ∧ (∃ o5, pR S3 x0 29 = some o5 ∧ (pK S3 o5 = 13 ∧ (vp_in x1 (pL S3 o5) ∧ (Q (pI S3 o5 (x1).toNatClampNeg) S3))))))))))
def wpX12_first (S : PS) (x0 : Nat) (x1 : Int32) (Q : Int32 → PS → Prop) : Prop := (pK S x0 = 11 ∧ (wpX12_isVariable (sI S x0 0 (0 : Int32)) x0 x1 (fun r9 S10 => (pK S10 x0 = 11 ∧ (wpX12_may S10 x0 r9 (1 : Int32) (fun r12 S13 => ((r12 = 0 → (Q (0 : Int32) S13)) ∧ (¬ r12 = 0 → (pK S13 x0 = 11 ∧ (wpX12_solves S13 x0 (fun r15 S16 => ((r15 ≤ 0 → (wpX12_first_b31 Q S16 x0 x1 x0 (0 : Int32))) ∧ (¬ r15 ≤ 0 → (wpX12_first_b31 Q S16 x0 x1 x0 (1 : Int32)))))))))))))))
set_option maxRecDepth 100000 in
set_option maxHeartbeats 4000000 in
theorem cbX12_first_b31 {p : Program} {l : Launch} {e : Env} {s : State} {m : MethodId} {args : Array Value} {below : List Frame} {meth : Method} {c : Code} {G : PG} {Q : Int32 → PS → Prop} (C : pCx p s m args meth c G cX12_first 2 yX12_first.cls wsX12_first) (hr : meth.sig.returnType = (some .int)) (hin : meth.name = yX12_first.name)  : ∀ (S : PS) (x0 : Nat) (x1 : Int32) (t0 : Nat) (t1 : Int32), wpX12_first_b31  Q S x0 x1 t0 t1 → PW p l e rmX12_first s m args below meth c (MQ below (va_Qi Q (pB G) (pFr G)) args s rmX12_first.cells rmX12_first.slots (pFr G)) G 2 S 0 0 [(0, .ref (G.2.2 + x0)), (1, .int x1)] 31 (.int t1 :: .ref (G.2.2 + t0) :: []) := by
  intro S x0 x1 t0 t1 h
  unfold wpX12_first_b31 at h
  refine pw_iconst (pc := 31) (v := 2 ) C dX12_first_31 (by decide) ?_
  obtain ⟨hk1, h⟩ := h
  refine pw_calli (pc := 32) (kc2 := 0) (kn2 := 0) (pRunV (pc := 32) C (ctX12_may l G  _ t0 t1 (2 : Int32) _ h) (cwV 2 C.2.2.2.2.1 gX12_first_X12_may rfl rfl rfl (by decide +kernel) ⟨Nat.le_of_ble_eq_true rfl, Nat.le_of_ble_eq_true rfl⟩) pCl10 hk1 rfl rfl (Nat.le_of_ble_eq_true rfl) dX12_first_32 ⟨Nat.le_of_ble_eq_true rfl, Nat.le_of_ble_eq_true rfl⟩) rfl rfl (fun r2 S3 h => ?_)
  refine pw_if_eq (pc := 35) (tgt := 47) C dX12_first_35 rfl ⟨fun hc => ?_, fun hc => ?_⟩
  · replace h := h.1 hc
    refine pw_iconst (pc := 47) (v := 0 ) C dX12_first_47 (by decide) ?_
    exact pw_iret (pc := 48) C hr h dX12_first_48
  · replace h := h.2 hc
    refine pw_aload_n (pc := 38) C 0 dX12_first_38 rfl rfl ?_
    obtain ⟨hk4, h⟩ := h
    obtain ⟨o5, ho5, h⟩ := h
    refine pw_getR (pc := 39) (ref := "SupportSolverModel") (k := 29) (index := 58) C pCl10 iX12_first_X12 hk4 rfl (by decide +kernel) (Or.inl rfl) (o := o5) ho5 dX12_first_39 ?_
    refine pw_iload_n (pc := 42) C 1 dX12_first_42 rfl rfl ?_
    obtain ⟨hk6, h⟩ := h
    obtain ⟨hi7, h⟩ := h
    refine pw_iald (pc := 43) C hk6 hi7 dX12_first_43 ?_
    refine pw_goto (pc := 44) (tgt := 48) C dX12_first_44 rfl ?_
    exact pw_iret (pc := 48) C hr h dX12_first_48
set_option maxRecDepth 100000 in
set_option maxHeartbeats 4000000 in
theorem ctX12_first (l : Launch) (G : PG) (S : PS) (x0 : Nat) (x1 : Int32) (Q : Int32 → PS → Prop) (h : wpX12_first S x0 x1 Q) : mI l yX12_first wsX12_first rmX12_first G S [.ref (G.2.2 + x0), .int x1] Q := by
  unfold mI
  refine met_of (cc := cX12_first) (maxL := 2) (ret := (some .int)) (by decide) rfl (Nat.le_of_ble_eq_true rfl) ?_
  intro p e s m args below meth c C hr hin
  unfold wpX12_first at h
  show PW p l e _ s m args below meth c _ G 2 S 0 0 [(0, .ref (G.2.2 + x0)), (1, .int x1)] 0 []
  refine pw_aload_n (pc := 0) C 0 dX12_first_0 rfl rfl ?_
  refine pw_iconst (pc := 1) (v := 0 ) C dX12_first_1 (by decide) ?_
  obtain ⟨hk8, h⟩ := h
  refine pw_putI (pc := 2) (ref := "SupportSolverModel") (k := 0) (index := 70) C pCl10 iX12_first_X12 hk8 rfl (by decide +kernel) (Or.inl rfl) (Or.inl rfl) rfl rfl dX12_first_2 ?_
  refine pw_aload_n (pc := 5) (S := (sI S x0 0 (0 : Int32))) C 0 dX12_first_5 rfl rfl ?_
  refine pw_aload_n (pc := 6) (S := (sI S x0 0 (0 : Int32))) C 0 dX12_first_6 rfl rfl ?_
  refine pw_iload_n (pc := 7) (S := (sI S x0 0 (0 : Int32))) C 1 dX12_first_7 rfl rfl ?_
  refine pw_calli (pc := 8) (S := (sI S x0 0 (0 : Int32))) (kc2 := 0) (kn2 := 0) (pRunV (pc := 8) (S := (sI S x0 0 (0 : Int32))) C (ctX12_isVariable l G  _ x0 x1 _ h) (cwV 1 C.2.2.2.2.1 gX12_first_X12_isVariable rfl rfl rfl (by decide +kernel) ⟨Nat.le_of_ble_eq_true rfl, Nat.le_of_ble_eq_true rfl⟩) pCl10 hk8 rfl rfl (Nat.le_of_ble_eq_true rfl) dX12_first_8 ⟨Nat.le_of_ble_eq_true rfl, Nat.le_of_ble_eq_true rfl⟩) rfl rfl (fun r9 S10 h => ?_)
  refine pw_iconst (pc := 11) (v := 1 ) C dX12_first_11 (by decide) ?_
  obtain ⟨hk11, h⟩ := h
  refine pw_calli (pc := 12) (kc2 := 0) (kn2 := 0) (pRunV (pc := 12) C (ctX12_may l G  _ x0 r9 (1 : Int32) _ h) (cwV 2 C.2.2.2.2.1 gX12_first_X12_may rfl rfl rfl (by decide +kernel) ⟨Nat.le_of_ble_eq_true rfl, Nat.le_of_ble_eq_true rfl⟩) pCl10 hk11 rfl rfl (Nat.le_of_ble_eq_true rfl) dX12_first_12 ⟨Nat.le_of_ble_eq_true rfl, Nat.le_of_ble_eq_true rfl⟩) rfl rfl (fun r12 S13 h => ?_)
  refine pw_if_eq (pc := 15) (tgt := 47) C dX12_first_15 rfl ⟨fun hc => ?_, fun hc => ?_⟩
  · replace h := h.1 hc
    refine pw_iconst (pc := 47) (v := 0 ) C dX12_first_47 (by decide) ?_
    exact pw_iret (pc := 48) C hr h dX12_first_48
  · replace h := h.2 hc
    refine pw_aload_n (pc := 18) C 0 dX12_first_18 rfl rfl ?_
    refine pw_aload_n (pc := 19) C 0 dX12_first_19 rfl rfl ?_
    obtain ⟨hk14, h⟩ := h
    refine pw_calli (pc := 20) (kc2 := 0) (kn2 := 0) (pRunV (pc := 20) C (ctX12_solves l G  _ x0 _ h) (cwV 0 C.2.2.2.2.1 gX12_first_X12_solves rfl rfl rfl (by decide +kernel) ⟨Nat.le_of_ble_eq_true rfl, Nat.le_of_ble_eq_true rfl⟩) pCl10 hk14 rfl rfl (Nat.le_of_ble_eq_true rfl) dX12_first_20 ⟨Nat.le_of_ble_eq_true rfl, Nat.le_of_ble_eq_true rfl⟩) rfl rfl (fun r15 S16 h => ?_)
    refine pw_if_le (pc := 23) (tgt := 30) C dX12_first_23 rfl ⟨fun hc => ?_, fun hc => ?_⟩
    · replace h := h.1 hc
      refine pw_iconst (pc := 30) (v := 0 ) C dX12_first_30 (by decide) ?_
      exact cbX12_first_b31 C hr hin  _ _ _ _ _ h
    · replace h := h.2 hc
      refine pw_iconst (pc := 26) (v := 1 ) C dX12_first_26 (by decide) ?_
      refine pw_goto (pc := 27) (tgt := 31) C dX12_first_27 rfl ?_
      exact cbX12_first_b31 C hr hin  _ _ _ _ _ h

abbrev rmX12_possible : Room := { frames := 6, cells := 0, slots := 0, locals := 137 }
theorem iX12_possible_X12 : ∀ w ∈ u_ws RX12 TX12 32, w ∈ wsX12_possible := fun _ h => List.mem_cons_of_mem _ (List.mem_append_right _ h)
def wpX12_possible (S : PS) (x0 : Nat) (x1 : Int32) (Q : Int32 → PS → Prop) : Prop := (pK S x0 = 11 ∧ (wpX12_isVariable (sI S x0 0 (0 : Int32)) x0 x1 (fun r2 S3 => (pK S3 x0 = 11 ∧ (wpX12_may S3 x0 r2 (1 : Int32) (fun r5 S6 => ((¬ r5 = 0 → (pK S6 x0 = 11 ∧ (wpX12_solves S6 x0 (fun r8 S9 => ((r8 ≤ 0 → (Q (0 : Int32) S9)) ∧ (¬ r8 ≤ 0 → (pK S9 x0 = 11 ∧ (∃ o11, pR S9 x0 30 = some o11 ∧ (pK S9 o11 = 13 ∧ (vp_in x1 (pL S9 o11) ∧ (Q (pI S9 o11 (x1).toNatClampNeg) S9))))))))))) ∧ (r5 = 0 → (Q (0 : Int32) S6)))))))))
set_option maxRecDepth 100000 in
set_option maxHeartbeats 4000000 in
theorem ctX12_possible (l : Launch) (G : PG) (S : PS) (x0 : Nat) (x1 : Int32) (Q : Int32 → PS → Prop) (h : wpX12_possible S x0 x1 Q) : mI l yX12_possible wsX12_possible rmX12_possible G S [.ref (G.2.2 + x0), .int x1] Q := by
  unfold mI
  refine met_of (cc := cX12_possible) (maxL := 2) (ret := (some .int)) (by decide) rfl (Nat.le_of_ble_eq_true rfl) ?_
  intro p e s m args below meth c C hr hin
  unfold wpX12_possible at h
  show PW p l e _ s m args below meth c _ G 2 S 0 0 [(0, .ref (G.2.2 + x0)), (1, .int x1)] 0 []
  refine pw_aload_n (pc := 0) C 0 dX12_possible_0 rfl rfl ?_
  refine pw_iconst (pc := 1) (v := 0 ) C dX12_possible_1 (by decide) ?_
  obtain ⟨hk1, h⟩ := h
  refine pw_putI (pc := 2) (ref := "SupportSolverModel") (k := 0) (index := 70) C pCl10 iX12_possible_X12 hk1 rfl (by decide +kernel) (Or.inl rfl) (Or.inl rfl) rfl rfl dX12_possible_2 ?_
  refine pw_aload_n (pc := 5) (S := (sI S x0 0 (0 : Int32))) C 0 dX12_possible_5 rfl rfl ?_
  refine pw_aload_n (pc := 6) (S := (sI S x0 0 (0 : Int32))) C 0 dX12_possible_6 rfl rfl ?_
  refine pw_iload_n (pc := 7) (S := (sI S x0 0 (0 : Int32))) C 1 dX12_possible_7 rfl rfl ?_
  refine pw_calli (pc := 8) (S := (sI S x0 0 (0 : Int32))) (kc2 := 0) (kn2 := 0) (pRunV (pc := 8) (S := (sI S x0 0 (0 : Int32))) C (ctX12_isVariable l G  _ x0 x1 _ h) (cwV 1 C.2.2.2.2.1 gX12_possible_X12_isVariable rfl rfl rfl (by decide +kernel) ⟨Nat.le_of_ble_eq_true rfl, Nat.le_of_ble_eq_true rfl⟩) pCl10 hk1 rfl rfl (Nat.le_of_ble_eq_true rfl) dX12_possible_8 ⟨Nat.le_of_ble_eq_true rfl, Nat.le_of_ble_eq_true rfl⟩) rfl rfl (fun r2 S3 h => ?_)
  refine pw_iconst (pc := 11) (v := 1 ) C dX12_possible_11 (by decide) ?_
  obtain ⟨hk4, h⟩ := h
  refine pw_calli (pc := 12) (kc2 := 0) (kn2 := 0) (pRunV (pc := 12) C (ctX12_may l G  _ x0 r2 (1 : Int32) _ h) (cwV 2 C.2.2.2.2.1 gX12_possible_X12_may rfl rfl rfl (by decide +kernel) ⟨Nat.le_of_ble_eq_true rfl, Nat.le_of_ble_eq_true rfl⟩) pCl10 hk4 rfl rfl (Nat.le_of_ble_eq_true rfl) dX12_possible_12 ⟨Nat.le_of_ble_eq_true rfl, Nat.le_of_ble_eq_true rfl⟩) rfl rfl (fun r5 S6 h => ?_)
  refine pw_if_ne (pc := 15) (tgt := 20) C dX12_possible_15 rfl ⟨fun hc => ?_, fun hc => ?_⟩
  · replace h := h.1 hc
    refine pw_aload_n (pc := 20) C 0 dX12_possible_20 rfl rfl ?_
    obtain ⟨hk7, h⟩ := h
    refine pw_calli (pc := 21) (kc2 := 0) (kn2 := 0) (pRunV (pc := 21) C (ctX12_solves l G  _ x0 _ h) (cwV 0 C.2.2.2.2.1 gX12_possible_X12_solves rfl rfl rfl (by decide +kernel) ⟨Nat.le_of_ble_eq_true rfl, Nat.le_of_ble_eq_true rfl⟩) pCl10 hk7 rfl rfl (Nat.le_of_ble_eq_true rfl) dX12_possible_21 ⟨Nat.le_of_ble_eq_true rfl, Nat.le_of_ble_eq_true rfl⟩) rfl rfl (fun r8 S9 h => ?_)
    refine pw_if_le (pc := 24) (tgt := 36) C dX12_possible_24 rfl ⟨fun hc => ?_, fun hc => ?_⟩
    · replace h := h.1 hc
      refine pw_iconst (pc := 36) (v := 0 ) C dX12_possible_36 (by decide) ?_
      exact pw_iret (pc := 37) C hr h dX12_possible_37
    · replace h := h.2 hc
      refine pw_aload_n (pc := 27) C 0 dX12_possible_27 rfl rfl ?_
      obtain ⟨hk10, h⟩ := h
      obtain ⟨o11, ho11, h⟩ := h
      refine pw_getR (pc := 28) (ref := "SupportSolverModel") (k := 30) (index := 61) C pCl10 iX12_possible_X12 hk10 rfl (by decide +kernel) (Or.inl rfl) (o := o11) ho11 dX12_possible_28 ?_
      refine pw_iload_n (pc := 31) C 1 dX12_possible_31 rfl rfl ?_
      obtain ⟨hk12, h⟩ := h
      obtain ⟨hi13, h⟩ := h
      refine pw_iald (pc := 32) C hk12 hi13 dX12_possible_32 ?_
      refine pw_goto (pc := 33) (tgt := 37) C dX12_possible_33 rfl ?_
      exact pw_iret (pc := 37) C hr h dX12_possible_37
  · replace h := h.2 hc
    refine pw_iconst (pc := 18) (v := 0 ) C dX12_possible_18 (by decide) ?_
    exact pw_iret (pc := 19) C hr h dX12_possible_19

abbrev rmX12_overlooked : Room := { frames := 6, cells := 0, slots := 0, locals := 137 }
theorem iX12_overlooked_X12 : ∀ w ∈ u_ws RX12 TX12 32, w ∈ wsX12_overlooked := fun _ h => List.mem_cons_of_mem _ (List.mem_append_right _ h)
def wpX12_overlooked_b45 (K14 : PS → Nat → Int32 → Int32 → Int32 → Prop) (Q : Int32 → PS → Prop) (S : PS) (x0 : Nat) (x1 : Int32) (x2 : Int32) (x3 : Int32) (t0 : Int32) (t1 : Int32) (t2 : Int32) : Prop := (wpX12_sizeOf S (t1 &&& (t2 ^^^ (-1 : Int32))) (fun r1 S2 => (K14 S2 x0 x1 (t0 + r1) (x3 + 1))))
def wpX12_overlooked_b14  (Q : Int32 → PS → Prop) : Nat → PS → Nat → Int32 → Int32 → Int32 → Prop
  | 0 => fun _ _ _ _ _ => False
  | n + 1 => fun S x0 x1 x2 x3 => (pK S x0 = 11 ∧ (∃ o4, pR S x0 1 = some o4 ∧ (pK S o4 = 13 ∧ (vp_in (0 : Int32) (pL S o4) ∧ (((pI S o4 ((0 : Int32)).toNatClampNeg) ≤ x3 → (Q x2 S)) ∧ (¬ (pI S o4 ((0 : Int32)).toNatClampNeg) ≤ x3 → (∃ o7, pR S x0 3 = some o7 ∧ (pK S o7 = 13 ∧ (vp_in x3 (pL S o7) ∧ ((x1 ≤ 0 → (wpX12_overlooked_b45 (wpX12_overlooked_b14 Q n) Q S x0 x1 x2 x3 x2 (pI S o7 (x3).toNatClampNeg) (0 : Int32))) ∧ (¬ x1 ≤ 0 → (∃ o10, pR S x0 30 = some o10 ∧ (pK S o10 = 13 ∧ (vp_in x3 (pL S o10) ∧ (wpX12_overlooked_b45 (wpX12_overlooked_b14 Q n) Q S x0 x1 x2 x3 x2 (pI S o7 (x3).toNatClampNeg) (pI S o10 (x3).toNatClampNeg))))))))))))))))
def wpX12_overlooked (S : PS) (x0 : Nat) (Q : Int32 → PS → Prop) : Prop := (pK S x0 = 11 ∧ (wpX12_solves (sI S x0 0 (0 : Int32)) x0 (fun r14 S15 => (∃ n9 : Nat, wpX12_overlooked_b14 Q n9 S15 x0 r14 (0 : Int32) (0 : Int32)))))
set_option maxRecDepth 100000 in
set_option maxHeartbeats 4000000 in
theorem cbX12_overlooked_b45 {p : Program} {l : Launch} {e : Env} {s : State} {m : MethodId} {args : Array Value} {below : List Frame} {meth : Method} {c : Code} {G : PG} {Q : Int32 → PS → Prop} (C : pCx p s m args meth c G cX12_overlooked 4 yX12_overlooked.cls wsX12_overlooked) (hr : meth.sig.returnType = (some .int)) (hin : meth.name = yX12_overlooked.name) {K14 : PS → Nat → Int32 → Int32 → Int32 → Prop} (hK14 : ∀ (S : PS) (x0 : Nat) (x1 : Int32) (x2 : Int32) (x3 : Int32), K14 S x0 x1 x2 x3 → PW p l e rmX12_overlooked s m args below meth c (MQ below (va_Qi Q (pB G) (pFr G)) args s rmX12_overlooked.cells rmX12_overlooked.slots (pFr G)) G 4 S 0 0 [(0, .ref (G.2.2 + x0)), (1, .int x1), (2, .int x2), (3, .int x3)] 14 ([])) : ∀ (S : PS) (x0 : Nat) (x1 : Int32) (x2 : Int32) (x3 : Int32) (t0 : Int32) (t1 : Int32) (t2 : Int32), wpX12_overlooked_b45 K14 Q S x0 x1 x2 x3 t0 t1 t2 → PW p l e rmX12_overlooked s m args below meth c (MQ below (va_Qi Q (pB G) (pFr G)) args s rmX12_overlooked.cells rmX12_overlooked.slots (pFr G)) G 4 S 0 0 [(0, .ref (G.2.2 + x0)), (1, .int x1), (2, .int x2), (3, .int x3)] 45 (.int t2 :: .int t1 :: .int t0 :: []) := by
  intro S x0 x1 x2 x3 t0 t1 t2 h
  unfold wpX12_overlooked_b45 at h
  refine pw_iconst (pc := 45) (v := (-1)) C dX12_overlooked_45 (by decide) ?_
  refine pw_ixor (pc := 46) C dX12_overlooked_46 ?_
  refine pw_iand (pc := 47) C dX12_overlooked_47 ?_
  refine pw_calli (pc := 48) (kc2 := 0) (kn2 := 0) (pRunS (pc := 48) C (ctX12_sizeOf l G  _ (t1 &&& (t2 ^^^ (-1 : Int32))) _ h) (va_cwS 1 C.2.2.2.2.1 gX12_overlooked_X12_sizeOf rfl rfl rfl (by decide +kernel) ⟨Nat.le_of_ble_eq_true rfl, Nat.le_of_ble_eq_true rfl⟩) rfl rfl (Nat.le_of_ble_eq_true rfl) dX12_overlooked_48 ⟨Nat.le_of_ble_eq_true rfl, Nat.le_of_ble_eq_true rfl⟩) rfl rfl (fun r1 S2 h => ?_)
  refine pw_iadd (pc := 51) C dX12_overlooked_51 ?_
  refine pw_istore_n (pc := 52) C [(2, .int (t0 + r1)), (0, .ref (G.2.2 + x0)), (1, .int x1), (3, .int x3)] dX12_overlooked_52 rfl (by decide) rfl ?_
  refine pw_iincK (pc := 53) (w := 1) C [(3, .int (x3 + 1)), (2, .int (t0 + r1)), (0, .ref (G.2.2 + x0)), (1, .int x1)] 3 dX12_overlooked_53 (by decide) rfl (by decide) rfl ?_
  refine pw_goto (pc := 56) (tgt := 14) C dX12_overlooked_56 rfl ?_
  refine pw_sub [2, 3, 1, 0] (LV2 := [(0, .ref (G.2.2 + x0)), (1, .int x1), (2, .int (t0 + r1)), (3, .int (x3 + 1))]) rfl ?_
  exact hK14 _ _ _ _ _ h
set_option maxRecDepth 100000 in
set_option maxHeartbeats 4000000 in
theorem cbX12_overlooked_b14 {p : Program} {l : Launch} {e : Env} {s : State} {m : MethodId} {args : Array Value} {below : List Frame} {meth : Method} {c : Code} {G : PG} {Q : Int32 → PS → Prop} (C : pCx p s m args meth c G cX12_overlooked 4 yX12_overlooked.cls wsX12_overlooked) (hr : meth.sig.returnType = (some .int)) (hin : meth.name = yX12_overlooked.name)  (n : Nat) : ∀ (S : PS) (x0 : Nat) (x1 : Int32) (x2 : Int32) (x3 : Int32), wpX12_overlooked_b14  Q n S x0 x1 x2 x3 → PW p l e rmX12_overlooked s m args below meth c (MQ below (va_Qi Q (pB G) (pFr G)) args s rmX12_overlooked.cells rmX12_overlooked.slots (pFr G)) G 4 S 0 0 [(0, .ref (G.2.2 + x0)), (1, .int x1), (2, .int x2), (3, .int x3)] 14 ([]) := by
  induction n with
  | zero => intro S x0 x1 x2 x3 h; exact h.elim
  | succ n ih =>
    intro S x0 x1 x2 x3 h
    unfold wpX12_overlooked_b14 at h
    refine pw_iload_n (pc := 14) C 3 dX12_overlooked_14 rfl rfl ?_
    refine pw_aload_n (pc := 15) C 0 dX12_overlooked_15 rfl rfl ?_
    obtain ⟨hk3, h⟩ := h
    obtain ⟨o4, ho4, h⟩ := h
    refine pw_getR (pc := 16) (ref := "SupportSolverModel") (k := 1) (index := 7) C pCl10 iX12_overlooked_X12 hk3 rfl (by decide +kernel) (Or.inl rfl) (o := o4) ho4 dX12_overlooked_16 ?_
    refine pw_iconst (pc := 19) (v := 0 ) C dX12_overlooked_19 (by decide) ?_
    obtain ⟨hk5, h⟩ := h
    obtain ⟨hi6, h⟩ := h
    refine pw_iald (pc := 20) C hk5 hi6 dX12_overlooked_20 ?_
    refine pw_icmp_ge (pc := 21) (tgt := 59) C dX12_overlooked_21 rfl ⟨fun hc => ?_, fun hc => ?_⟩
    · replace h := h.1 hc
      refine pw_iload_n (pc := 59) C 2 dX12_overlooked_59 rfl rfl ?_
      exact pw_iret (pc := 60) C hr h dX12_overlooked_60
    · replace h := h.2 hc
      refine pw_iload_n (pc := 24) C 2 dX12_overlooked_24 rfl rfl ?_
      refine pw_aload_n (pc := 25) C 0 dX12_overlooked_25 rfl rfl ?_
      obtain ⟨o7, ho7, h⟩ := h
      refine pw_getR (pc := 26) (ref := "SupportSolverModel") (k := 3) (index := 16) C pCl10 iX12_overlooked_X12 hk3 rfl (by decide +kernel) (Or.inl rfl) (o := o7) ho7 dX12_overlooked_26 ?_
      refine pw_iload_n (pc := 29) C 3 dX12_overlooked_29 rfl rfl ?_
      obtain ⟨hk8, h⟩ := h
      obtain ⟨hi9, h⟩ := h
      refine pw_iald (pc := 30) C hk8 hi9 dX12_overlooked_30 ?_
      refine pw_iload_n (pc := 31) C 1 dX12_overlooked_31 rfl rfl ?_
      refine pw_if_le (pc := 32) (tgt := 44) C dX12_overlooked_32 rfl ⟨fun hc => ?_, fun hc => ?_⟩
      · replace h := h.1 hc
        refine pw_iconst (pc := 44) (v := 0 ) C dX12_overlooked_44 (by decide) ?_
        exact cbX12_overlooked_b45 C hr hin ih _ _ _ _ _ _ _ _ h
      · replace h := h.2 hc
        refine pw_aload_n (pc := 35) C 0 dX12_overlooked_35 rfl rfl ?_
        obtain ⟨o10, ho10, h⟩ := h
        refine pw_getR (pc := 36) (ref := "SupportSolverModel") (k := 30) (index := 61) C pCl10 iX12_overlooked_X12 hk3 rfl (by decide +kernel) (Or.inl rfl) (o := o10) ho10 dX12_overlooked_36 ?_
        refine pw_iload_n (pc := 39) C 3 dX12_overlooked_39 rfl rfl ?_
        obtain ⟨hk11, h⟩ := h
        obtain ⟨hi12, h⟩ := h
        refine pw_iald (pc := 40) C hk11 hi12 dX12_overlooked_40 ?_
        refine pw_goto (pc := 41) (tgt := 45) C dX12_overlooked_41 rfl ?_
        exact cbX12_overlooked_b45 C hr hin ih _ _ _ _ _ _ _ _ h
set_option maxRecDepth 100000 in
set_option maxHeartbeats 4000000 in
theorem ctX12_overlooked (l : Launch) (G : PG) (S : PS) (x0 : Nat) (Q : Int32 → PS → Prop) (h : wpX12_overlooked S x0 Q) : mI l yX12_overlooked wsX12_overlooked rmX12_overlooked G S [.ref (G.2.2 + x0)] Q := by
  unfold mI
  refine met_of (cc := cX12_overlooked) (maxL := 4) (ret := (some .int)) (by decide) rfl (Nat.le_of_ble_eq_true rfl) ?_
  intro p e s m args below meth c C hr hin
  unfold wpX12_overlooked at h
  show PW p l e _ s m args below meth c _ G 4 S 0 0 [(0, .ref (G.2.2 + x0))] 0 []
  refine pw_aload_n (pc := 0) C 0 dX12_overlooked_0 rfl rfl ?_
  refine pw_iconst (pc := 1) (v := 0 ) C dX12_overlooked_1 (by decide) ?_
  obtain ⟨hk13, h⟩ := h
  refine pw_putI (pc := 2) (ref := "SupportSolverModel") (k := 0) (index := 70) C pCl10 iX12_overlooked_X12 hk13 rfl (by decide +kernel) (Or.inl rfl) (Or.inl rfl) rfl rfl dX12_overlooked_2 ?_
  refine pw_aload_n (pc := 5) (S := (sI S x0 0 (0 : Int32))) C 0 dX12_overlooked_5 rfl rfl ?_
  refine pw_calli (pc := 6) (S := (sI S x0 0 (0 : Int32))) (kc2 := 0) (kn2 := 0) (pRunV (pc := 6) (S := (sI S x0 0 (0 : Int32))) C (ctX12_solves l G  _ x0 _ h) (cwV 0 C.2.2.2.2.1 gX12_overlooked_X12_solves rfl rfl rfl (by decide +kernel) ⟨Nat.le_of_ble_eq_true rfl, Nat.le_of_ble_eq_true rfl⟩) pCl10 hk13 rfl rfl (Nat.le_of_ble_eq_true rfl) dX12_overlooked_6 ⟨Nat.le_of_ble_eq_true rfl, Nat.le_of_ble_eq_true rfl⟩) rfl rfl (fun r14 S15 h => ?_)
  refine pw_istore_n (pc := 9) C [(1, .int r14), (0, .ref (G.2.2 + x0))] dX12_overlooked_9 rfl (by decide) rfl ?_
  refine pw_iconst (pc := 10) (v := 0 ) C dX12_overlooked_10 (by decide) ?_
  refine pw_istore_n (pc := 11) C [(2, .int (0 : Int32)), (1, .int r14), (0, .ref (G.2.2 + x0))] dX12_overlooked_11 rfl (by decide) rfl ?_
  refine pw_iconst (pc := 12) (v := 0 ) C dX12_overlooked_12 (by decide) ?_
  refine pw_istore_n (pc := 13) C [(3, .int (0 : Int32)), (2, .int (0 : Int32)), (1, .int r14), (0, .ref (G.2.2 + x0))] dX12_overlooked_13 rfl (by decide) rfl ?_
  refine pw_sub [3, 2, 1, 0] (LV2 := [(0, .ref (G.2.2 + x0)), (1, .int r14), (2, .int (0 : Int32)), (3, .int (0 : Int32))]) rfl ?_
  obtain ⟨n9, h⟩ := h
  exact cbX12_overlooked_b14 C hr hin  n9 _ _ _ _ _ h

abbrev rmX12_isValue : Room := { frames := 1, cells := 0, slots := 0, locals := 22 }
theorem iX12_isValue_X12 : ∀ w ∈ u_ws RX12 TX12 32, w ∈ wsX12_isValue := fun _ h => List.mem_cons_of_mem _ (List.mem_append_right _ h)
def wpX12_isValue (S : PS) (x0 : Nat) (x1 : Int32) (x2 : Int32) (Q : Int32 → PS → Prop) : Prop := (wpX12_isIn S x2 (0 : Int32) (4 : Int32) (fun r1 S2 => ((r1 = 0 → (Q (0 : Int32) S2)) ∧ (¬ r1 = 0 → (pK S2 x0 = 11 ∧ (∃ o4, pR S2 x0 3 = some o4 ∧ (pK S2 o4 = 13 ∧ (vp_in x1 (pL S2 o4) ∧ (wpX12_has S2 (pI S2 o4 (x1).toNatClampNeg) x2 (fun r7 S8 => ((r7 = 0 → (Q (0 : Int32) S8)) ∧ (¬ r7 = 0 → (Q (1 : Int32) S8)))))))))))))
set_option maxRecDepth 100000 in
set_option maxHeartbeats 4000000 in
theorem ctX12_isValue (l : Launch) (G : PG) (S : PS) (x0 : Nat) (x1 : Int32) (x2 : Int32) (Q : Int32 → PS → Prop) (h : wpX12_isValue S x0 x1 x2 Q) : mI l yX12_isValue wsX12_isValue rmX12_isValue G S [.ref (G.2.2 + x0), .int x1, .int x2] Q := by
  unfold mI
  refine met_of (cc := cX12_isValue) (maxL := 3) (ret := (some .boolean)) (by decide) rfl (Nat.le_of_ble_eq_true rfl) ?_
  intro p e s m args below meth c C hr hin
  unfold wpX12_isValue at h
  show PW p l e _ s m args below meth c _ G 3 S 0 0 [(0, .ref (G.2.2 + x0)), (1, .int x1), (2, .int x2)] 0 []
  refine pw_iload_n (pc := 0) C 2 dX12_isValue_0 rfl rfl ?_
  refine pw_iconst (pc := 1) (v := 0 ) C dX12_isValue_1 (by decide) ?_
  refine pw_iconst (pc := 2) (v := 4 ) C dX12_isValue_2 (by decide) ?_
  refine pw_calli (pc := 3) (kc2 := 0) (kn2 := 0) (pRunS (pc := 3) C (ctX12_isIn l G  _ x2 (0 : Int32) (4 : Int32) _ h) (va_cwS 3 C.2.2.2.2.1 gX12_isValue_X12_isIn rfl rfl rfl (by decide +kernel) ⟨Nat.le_of_ble_eq_true rfl, Nat.le_of_ble_eq_true rfl⟩) rfl rfl (Nat.le_of_ble_eq_true rfl) dX12_isValue_3 ⟨Nat.le_of_ble_eq_true rfl, Nat.le_of_ble_eq_true rfl⟩) rfl rfl (fun r1 S2 h => ?_)
  refine pw_if_eq (pc := 6) (tgt := 26) C dX12_isValue_6 rfl ⟨fun hc => ?_, fun hc => ?_⟩
  · replace h := h.1 hc
    refine pw_iconst (pc := 26) (v := 0 ) C dX12_isValue_26 (by decide) ?_
    exact pw_zret (pc := 27) C hr rfl h dX12_isValue_27
  · replace h := h.2 hc
    refine pw_aload_n (pc := 9) C 0 dX12_isValue_9 rfl rfl ?_
    obtain ⟨hk3, h⟩ := h
    obtain ⟨o4, ho4, h⟩ := h
    refine pw_getR (pc := 10) (ref := "SupportSolverModel") (k := 3) (index := 16) C pCl10 iX12_isValue_X12 hk3 rfl (by decide +kernel) (Or.inl rfl) (o := o4) ho4 dX12_isValue_10 ?_
    refine pw_iload_n (pc := 13) C 1 dX12_isValue_13 rfl rfl ?_
    obtain ⟨hk5, h⟩ := h
    obtain ⟨hi6, h⟩ := h
    refine pw_iald (pc := 14) C hk5 hi6 dX12_isValue_14 ?_
    refine pw_iload_n (pc := 15) C 2 dX12_isValue_15 rfl rfl ?_
    refine pw_calli (pc := 16) (kc2 := 0) (kn2 := 0) (pRunS (pc := 16) C (ctX12_has l G  _ (pI S2 o4 (x1).toNatClampNeg) x2 _ h) (va_cwS 2 C.2.2.2.2.1 gX12_isValue_X12_has rfl rfl rfl (by decide +kernel) ⟨Nat.le_of_ble_eq_true rfl, Nat.le_of_ble_eq_true rfl⟩) rfl rfl (Nat.le_of_ble_eq_true rfl) dX12_isValue_16 ⟨Nat.le_of_ble_eq_true rfl, Nat.le_of_ble_eq_true rfl⟩) rfl rfl (fun r7 S8 h => ?_)
    refine pw_if_eq (pc := 19) (tgt := 26) C dX12_isValue_19 rfl ⟨fun hc => ?_, fun hc => ?_⟩
    · replace h := h.1 hc
      refine pw_iconst (pc := 26) (v := 0 ) C dX12_isValue_26 (by decide) ?_
      exact pw_zret (pc := 27) C hr rfl h dX12_isValue_27
    · replace h := h.2 hc
      refine pw_iconst (pc := 22) (v := 1 ) C dX12_isValue_22 (by decide) ?_
      refine pw_goto (pc := 23) (tgt := 27) C dX12_isValue_23 rfl ?_
      exact pw_zret (pc := 27) C hr rfl h dX12_isValue_27

abbrev rmX12_forbid : Room := { frames := 6, cells := 0, slots := 0, locals := 156 }
theorem iX12_forbid_X12 : ∀ w ∈ u_ws RX12 TX12 32, w ∈ wsX12_forbid := fun _ h => List.mem_cons_of_mem _ (List.mem_append_right _ h)
def wpX12_forbid_b116  (Q : Int32 → PS → Prop) (S : PS) (x0 : Nat) (x1 : Int32) (x2 : Int32) (x3 : Int32) (t0 : Nat) (t1 : Int32) : Prop := (pK S t0 = 11 ∧ ((t1 = 0 ∨ t1 = 1) ∧ (pK S x0 = 11 ∧ (wpX12_factsFrom (sI S t0 11 t1) x0 x3 (fun r4 S5 => (Q r4 S5))))))
def wpX12_forbid_b111  (Q : Int32 → PS → Prop) (S : PS) (x0 : Nat) (x1 : Int32) (x2 : Int32) (x3 : Int32) (t0 : Nat) : Prop := (wpX12_forbid_b116 Q S x0 x1 x2 x3 t0 (1 : Int32))
def wpX12_forbid_b52  (Q : Int32 → PS → Prop) (S : PS) (x0 : Nat) (x1 : Int32) (x2 : Int32) (t0 : Nat) (t1 : Int32) : Prop := (pK S t0 = 11 ∧ (wpX12_may S t0 t1 (3 : Int32) (fun r7 S8 => ((¬ r7 = 0 → (pK S8 x0 = 11 ∧ (∃ o10, pR S8 x0 3 = some o10 ∧ (pK S8 o10 = 13 ∧ (vp_in x1 (pL S8 o10) ∧ (vp_in x1 (pL S8 o10) ∧ (wpX12_lays (sI S8 o10 (x1).toNatClampNeg ((pI S8 o10 (x1).toNatClampNeg) &&& (((1 : Int32) <<< (x2 &&& 31)) ^^^ (-1 : Int32)))) x0 x1 x2 (-2 : Int32) (0 : Int32) (fun S15 => (pK S15 x0 = 11 ∧ (∃ o17, pR S15 x0 3 = some o17 ∧ (pK S15 o17 = 13 ∧ (vp_in x1 (pL S15 o17) ∧ (((pI S15 o17 (x1).toNatClampNeg) = 0 → (wpX12_forbid_b111 Q S15 x0 x1 x2 (pI S8 x0 7) x0)) ∧ (¬ (pI S15 o17 (x1).toNatClampNeg) = 0 → (wpX12_sweeps S15 x0 o17 (1 : Int32) (fun r20 S21 => ((¬ r20 = 0 → (wpX12_forbid_b116 Q S21 x0 x1 x2 (pI S8 x0 7) x0 (0 : Int32))) ∧ (r20 = 0 → (wpX12_forbid_b111 Q S21 x0 x1 x2 (pI S8 x0 7) x0))))))))))))))))))) ∧ (r7 = 0 → (Q (0 : Int32) S8))))))
def wpX12_forbid_b51  (Q : Int32 → PS → Prop) (S : PS) (x0 : Nat) (x1 : Int32) (x2 : Int32) (t0 : Nat) : Prop := (wpX12_forbid_b52 Q S x0 x1 x2 t0 (0 : Int32))
def wpX12_forbid (S : PS) (x0 : Nat) (x1 : Int32) (x2 : Int32) (Q : Int32 → PS → Prop) : Prop := (pK S x0 = 11 ∧ (wpX12_isVariable (sI S x0 0 (0 : Int32)) x0 x1 (fun r23 S24 => (pK S24 x0 = 11 ∧ (wpX12_may S24 x0 r23 (1 : Int32) (fun r26 S27 => ((r26 = 0 → (Q (0 : Int32) S27)) ∧ (¬ r26 = 0 → (pK S27 x0 = 11 ∧ (wpX12_isValue S27 x0 x1 x2 (fun r29 S30 => (pK S30 x0 = 11 ∧ (wpX12_may S30 x0 r29 (2 : Int32) (fun r32 S33 => ((r32 = 0 → (Q (0 : Int32) S33)) ∧ (¬ r32 = 0 → (pK S33 x0 = 11 ∧ ((¬ (pI S33 x0 8) = 0 → (wpX12_forbid_b51 Q S33 x0 x1 x2 x0)) ∧ ((pI S33 x0 8) = 0 → ((¬ (pI S33 x0 11) = 0 → (wpX12_forbid_b51 Q S33 x0 x1 x2 x0)) ∧ ((pI S33 x0 11) = 0 → (wpX12_forbid_b52 Q S33 x0 x1 x2 x0 (1 : Int32)))))))))))))))))))))))
set_option maxRecDepth 100000 in
set_option maxHeartbeats 4000000 in
theorem cbX12_forbid_b116 {p : Program} {l : Launch} {e : Env} {s : State} {m : MethodId} {args : Array Value} {below : List Frame} {meth : Method} {c : Code} {G : PG} {Q : Int32 → PS → Prop} (C : pCx p s m args meth c G cX12_forbid 4 yX12_forbid.cls wsX12_forbid) (hr : meth.sig.returnType = (some .int)) (hin : meth.name = yX12_forbid.name)  : ∀ (S : PS) (x0 : Nat) (x1 : Int32) (x2 : Int32) (x3 : Int32) (t0 : Nat) (t1 : Int32), wpX12_forbid_b116  Q S x0 x1 x2 x3 t0 t1 → PW p l e rmX12_forbid s m args below meth c (MQ below (va_Qi Q (pB G) (pFr G)) args s rmX12_forbid.cells rmX12_forbid.slots (pFr G)) G 4 S 0 0 [(0, .ref (G.2.2 + x0)), (1, .int x1), (2, .int x2), (3, .int x3)] 116 (.int t1 :: .ref (G.2.2 + t0) :: []) := by
  intro S x0 x1 x2 x3 t0 t1 h
  unfold wpX12_forbid_b116 at h
  obtain ⟨hk1, h⟩ := h
  obtain ⟨hb2, h⟩ := h
  refine pw_putI (pc := 116) (ref := "SupportSolverModel") (k := 11) (index := 85) C pCl10 iX12_forbid_X12 hk1 rfl (by decide +kernel) (Or.inl rfl) (Or.inl rfl) (nar_bool hb2) (fit_bool hb2) dX12_forbid_116 ?_
  refine pw_aload_n (pc := 119) (S := (sI S t0 11 t1)) C 0 dX12_forbid_119 rfl rfl ?_
  refine pw_iload_n (pc := 120) (S := (sI S t0 11 t1)) C 3 dX12_forbid_120 rfl rfl ?_
  obtain ⟨hk3, h⟩ := h
  refine pw_calli (pc := 121) (S := (sI S t0 11 t1)) (kc2 := 0) (kn2 := 0) (pRunV (pc := 121) (S := (sI S t0 11 t1)) C (ctX12_factsFrom l G  _ x0 x3 _ h) (cwV 1 C.2.2.2.2.1 gX12_forbid_X12_factsFrom rfl rfl rfl (by decide +kernel) ⟨Nat.le_of_ble_eq_true rfl, Nat.le_of_ble_eq_true rfl⟩) pCl10 hk3 rfl rfl (Nat.le_of_ble_eq_true rfl) dX12_forbid_121 ⟨Nat.le_of_ble_eq_true rfl, Nat.le_of_ble_eq_true rfl⟩) rfl rfl (fun r4 S5 h => ?_)
  exact pw_iret (pc := 124) C hr h dX12_forbid_124
set_option maxRecDepth 100000 in
set_option maxHeartbeats 4000000 in
theorem cbX12_forbid_b111 {p : Program} {l : Launch} {e : Env} {s : State} {m : MethodId} {args : Array Value} {below : List Frame} {meth : Method} {c : Code} {G : PG} {Q : Int32 → PS → Prop} (C : pCx p s m args meth c G cX12_forbid 4 yX12_forbid.cls wsX12_forbid) (hr : meth.sig.returnType = (some .int)) (hin : meth.name = yX12_forbid.name)  : ∀ (S : PS) (x0 : Nat) (x1 : Int32) (x2 : Int32) (x3 : Int32) (t0 : Nat), wpX12_forbid_b111  Q S x0 x1 x2 x3 t0 → PW p l e rmX12_forbid s m args below meth c (MQ below (va_Qi Q (pB G) (pFr G)) args s rmX12_forbid.cells rmX12_forbid.slots (pFr G)) G 4 S 0 0 [(0, .ref (G.2.2 + x0)), (1, .int x1), (2, .int x2), (3, .int x3)] 111 (.ref (G.2.2 + t0) :: []) := by
  intro S x0 x1 x2 x3 t0 h
  unfold wpX12_forbid_b111 at h
  refine pw_iconst (pc := 111) (v := 1 ) C dX12_forbid_111 (by decide) ?_
  refine pw_goto (pc := 112) (tgt := 116) C dX12_forbid_112 rfl ?_
  exact cbX12_forbid_b116 C hr hin  _ _ _ _ _ _ _ h
set_option maxRecDepth 100000 in
set_option maxHeartbeats 4000000 in
theorem cbX12_forbid_b52 {p : Program} {l : Launch} {e : Env} {s : State} {m : MethodId} {args : Array Value} {below : List Frame} {meth : Method} {c : Code} {G : PG} {Q : Int32 → PS → Prop} (C : pCx p s m args meth c G cX12_forbid 4 yX12_forbid.cls wsX12_forbid) (hr : meth.sig.returnType = (some .int)) (hin : meth.name = yX12_forbid.name)  : ∀ (S : PS) (x0 : Nat) (x1 : Int32) (x2 : Int32) (t0 : Nat) (t1 : Int32), wpX12_forbid_b52  Q S x0 x1 x2 t0 t1 → PW p l e rmX12_forbid s m args below meth c (MQ below (va_Qi Q (pB G) (pFr G)) args s rmX12_forbid.cells rmX12_forbid.slots (pFr G)) G 4 S 0 0 [(0, .ref (G.2.2 + x0)), (1, .int x1), (2, .int x2)] 52 (.int t1 :: .ref (G.2.2 + t0) :: []) := by
  intro S x0 x1 x2 t0 t1 h
  unfold wpX12_forbid_b52 at h
  refine pw_iconst (pc := 52) (v := 3 ) C dX12_forbid_52 (by decide) ?_
  obtain ⟨hk6, h⟩ := h
  refine pw_calli (pc := 53) (kc2 := 0) (kn2 := 0) (pRunV (pc := 53) C (ctX12_may l G  _ t0 t1 (3 : Int32) _ h) (cwV 2 C.2.2.2.2.1 gX12_forbid_X12_may rfl rfl rfl (by decide +kernel) ⟨Nat.le_of_ble_eq_true rfl, Nat.le_of_ble_eq_true rfl⟩) pCl10 hk6 rfl rfl (Nat.le_of_ble_eq_true rfl) dX12_forbid_53 ⟨Nat.le_of_ble_eq_true rfl, Nat.le_of_ble_eq_true rfl⟩) rfl rfl (fun r7 S8 h => ?_)
  refine pw_if_ne (pc := 56) (tgt := 61) C dX12_forbid_56 rfl ⟨fun hc => ?_, fun hc => ?_⟩
  · replace h := h.1 hc
    refine pw_aload_n (pc := 61) C 0 dX12_forbid_61 rfl rfl ?_
    obtain ⟨hk9, h⟩ := h
    refine pw_getI (pc := 62) (ref := "SupportSolverModel") (k := 7) (index := 73) C pCl10 iX12_forbid_X12 hk9 rfl (by decide +kernel) (Or.inl rfl) dX12_forbid_62 ?_
    refine pw_istore_n (pc := 65) C [(3, .int (pI S8 x0 7)), (0, .ref (G.2.2 + x0)), (1, .int x1), (2, .int x2)] dX12_forbid_65 rfl (by decide) rfl ?_
    refine pw_aload_n (pc := 66) C 1 dX12_forbid_66 rfl rfl ?_
    obtain ⟨o10, ho10, h⟩ := h
    refine pw_getR (pc := 67) (ref := "SupportSolverModel") (k := 3) (index := 16) C pCl10 iX12_forbid_X12 hk9 rfl (by decide +kernel) (Or.inl rfl) (o := o10) ho10 dX12_forbid_67 ?_
    refine pw_iload_n (pc := 70) C 2 dX12_forbid_70 rfl rfl ?_
    refine pw_dup2_11 (pc := 71) C dX12_forbid_71 rfl rfl ?_
    obtain ⟨hk11, h⟩ := h
    obtain ⟨hi12, h⟩ := h
    refine pw_iald (pc := 72) C hk11 hi12 dX12_forbid_72 ?_
    refine pw_iconst (pc := 73) (v := 1 ) C dX12_forbid_73 (by decide) ?_
    refine pw_iload_n (pc := 74) C 3 dX12_forbid_74 rfl rfl ?_
    refine pw_ishl (pc := 75) C dX12_forbid_75 ?_
    refine pw_iconst (pc := 76) (v := (-1)) C dX12_forbid_76 (by decide) ?_
    refine pw_ixor (pc := 77) C dX12_forbid_77 ?_
    refine pw_iand (pc := 78) C dX12_forbid_78 ?_
    obtain ⟨hi13, h⟩ := h
    refine pw_iast (pc := 79) C hk11 hi13 dX12_forbid_79 ?_
    refine pw_aload_n (pc := 80) (S := (sI S8 o10 (x1).toNatClampNeg ((pI S8 o10 (x1).toNatClampNeg) &&& (((1 : Int32) <<< (x2 &&& 31)) ^^^ (-1 : Int32))))) C 1 dX12_forbid_80 rfl rfl ?_
    refine pw_iload_n (pc := 81) (S := (sI S8 o10 (x1).toNatClampNeg ((pI S8 o10 (x1).toNatClampNeg) &&& (((1 : Int32) <<< (x2 &&& 31)) ^^^ (-1 : Int32))))) C 2 dX12_forbid_81 rfl rfl ?_
    refine pw_iload_n (pc := 82) (S := (sI S8 o10 (x1).toNatClampNeg ((pI S8 o10 (x1).toNatClampNeg) &&& (((1 : Int32) <<< (x2 &&& 31)) ^^^ (-1 : Int32))))) C 3 dX12_forbid_82 rfl rfl ?_
    refine pw_bipush (pc := 83) (S := (sI S8 o10 (x1).toNatClampNeg ((pI S8 o10 (x1).toNatClampNeg) &&& (((1 : Int32) <<< (x2 &&& 31)) ^^^ (-1 : Int32))))) (v := (-2)) C dX12_forbid_83 (by decide) ?_
    refine pw_iconst (pc := 85) (S := (sI S8 o10 (x1).toNatClampNeg ((pI S8 o10 (x1).toNatClampNeg) &&& (((1 : Int32) <<< (x2 &&& 31)) ^^^ (-1 : Int32))))) (v := 0 ) C dX12_forbid_85 (by decide) ?_
    refine pw_callv (pc := 86) (S := (sI S8 o10 (x1).toNatClampNeg ((pI S8 o10 (x1).toNatClampNeg) &&& (((1 : Int32) <<< (x2 &&& 31)) ^^^ (-1 : Int32))))) (kc2 := 0) (kn2 := 0) (pRunV (pc := 86) (S := (sI S8 o10 (x1).toNatClampNeg ((pI S8 o10 (x1).toNatClampNeg) &&& (((1 : Int32) <<< (x2 &&& 31)) ^^^ (-1 : Int32))))) C (ctX12_lays l G  _ x0 x1 x2 (-2 : Int32) (0 : Int32) _ h) (cwV 4 C.2.2.2.2.1 gX12_forbid_X12_lays rfl rfl rfl (by decide +kernel) ⟨Nat.le_of_ble_eq_true rfl, Nat.le_of_ble_eq_true rfl⟩) pCl10 hk9 rfl rfl (Nat.le_of_ble_eq_true rfl) dX12_forbid_86 ⟨Nat.le_of_ble_eq_true rfl, Nat.le_of_ble_eq_true rfl⟩) rfl rfl (fun S15 h => ?_)
    refine pw_aload_n (pc := 89) C 1 dX12_forbid_89 rfl rfl ?_
    refine pw_aload_n (pc := 90) C 1 dX12_forbid_90 rfl rfl ?_
    obtain ⟨hk16, h⟩ := h
    obtain ⟨o17, ho17, h⟩ := h
    refine pw_getR (pc := 91) (ref := "SupportSolverModel") (k := 3) (index := 16) C pCl10 iX12_forbid_X12 hk16 rfl (by decide +kernel) (Or.inl rfl) (o := o17) ho17 dX12_forbid_91 ?_
    refine pw_iload_n (pc := 94) C 2 dX12_forbid_94 rfl rfl ?_
    obtain ⟨hk18, h⟩ := h
    obtain ⟨hi19, h⟩ := h
    refine pw_iald (pc := 95) C hk18 hi19 dX12_forbid_95 ?_
    refine pw_if_eq (pc := 96) (tgt := 111) C dX12_forbid_96 rfl ⟨fun hc => ?_, fun hc => ?_⟩
    · replace h := h.1 hc
      refine pw_sub [1, 2, 3, 0] (LV2 := [(0, .ref (G.2.2 + x0)), (1, .int x1), (2, .int x2), (3, .int (pI S8 x0 7))]) rfl ?_
      exact cbX12_forbid_b111 C hr hin  _ _ _ _ _ _ h
    · replace h := h.2 hc
      refine pw_aload_n (pc := 99) C 1 dX12_forbid_99 rfl rfl ?_
      refine pw_aload_n (pc := 100) C 1 dX12_forbid_100 rfl rfl ?_
      refine pw_getR (pc := 101) (ref := "SupportSolverModel") (k := 3) (index := 16) C pCl10 iX12_forbid_X12 hk16 rfl (by decide +kernel) (Or.inl rfl) (o := o17) ho17 dX12_forbid_101 ?_
      refine pw_iconst (pc := 104) (v := 1 ) C dX12_forbid_104 (by decide) ?_
      refine pw_calli (pc := 105) (kc2 := 0) (kn2 := 0) (pRunV (pc := 105) C (ctX12_sweeps l G  _ x0 o17 (1 : Int32) _ h) (cwV 2 C.2.2.2.2.1 gX12_forbid_X12_sweeps rfl rfl rfl (by decide +kernel) ⟨Nat.le_of_ble_eq_true rfl, Nat.le_of_ble_eq_true rfl⟩) pCl10 hk16 rfl rfl (Nat.le_of_ble_eq_true rfl) dX12_forbid_105 ⟨Nat.le_of_ble_eq_true rfl, Nat.le_of_ble_eq_true rfl⟩) rfl rfl (fun r20 S21 h => ?_)
      refine pw_if_ne (pc := 108) (tgt := 115) C dX12_forbid_108 rfl ⟨fun hc => ?_, fun hc => ?_⟩
      · replace h := h.1 hc
        refine pw_iconst (pc := 115) (v := 0 ) C dX12_forbid_115 (by decide) ?_
        refine pw_sub [1, 2, 3, 0] (LV2 := [(0, .ref (G.2.2 + x0)), (1, .int x1), (2, .int x2), (3, .int (pI S8 x0 7))]) rfl ?_
        exact cbX12_forbid_b116 C hr hin  _ _ _ _ _ _ _ h
      · replace h := h.2 hc
        refine pw_sub [1, 2, 3, 0] (LV2 := [(0, .ref (G.2.2 + x0)), (1, .int x1), (2, .int x2), (3, .int (pI S8 x0 7))]) rfl ?_
        exact cbX12_forbid_b111 C hr hin  _ _ _ _ _ _ h
  · replace h := h.2 hc
    refine pw_iconst (pc := 59) (v := 0 ) C dX12_forbid_59 (by decide) ?_
    exact pw_iret (pc := 60) C hr h dX12_forbid_60
set_option maxRecDepth 100000 in
set_option maxHeartbeats 4000000 in
theorem cbX12_forbid_b51 {p : Program} {l : Launch} {e : Env} {s : State} {m : MethodId} {args : Array Value} {below : List Frame} {meth : Method} {c : Code} {G : PG} {Q : Int32 → PS → Prop} (C : pCx p s m args meth c G cX12_forbid 4 yX12_forbid.cls wsX12_forbid) (hr : meth.sig.returnType = (some .int)) (hin : meth.name = yX12_forbid.name)  : ∀ (S : PS) (x0 : Nat) (x1 : Int32) (x2 : Int32) (t0 : Nat), wpX12_forbid_b51  Q S x0 x1 x2 t0 → PW p l e rmX12_forbid s m args below meth c (MQ below (va_Qi Q (pB G) (pFr G)) args s rmX12_forbid.cells rmX12_forbid.slots (pFr G)) G 4 S 0 0 [(0, .ref (G.2.2 + x0)), (1, .int x1), (2, .int x2)] 51 (.ref (G.2.2 + t0) :: []) := by
  intro S x0 x1 x2 t0 h
  unfold wpX12_forbid_b51 at h
  refine pw_iconst (pc := 51) (v := 0 ) C dX12_forbid_51 (by decide) ?_
  exact cbX12_forbid_b52 C hr hin  _ _ _ _ _ _ h
set_option maxRecDepth 100000 in
set_option maxHeartbeats 4000000 in
theorem ctX12_forbid (l : Launch) (G : PG) (S : PS) (x0 : Nat) (x1 : Int32) (x2 : Int32) (Q : Int32 → PS → Prop) (h : wpX12_forbid S x0 x1 x2 Q) : mI l yX12_forbid wsX12_forbid rmX12_forbid G S [.ref (G.2.2 + x0), .int x1, .int x2] Q := by
  unfold mI
  refine met_of (cc := cX12_forbid) (maxL := 4) (ret := (some .int)) (by decide) rfl (Nat.le_of_ble_eq_true rfl) ?_
  intro p e s m args below meth c C hr hin
  unfold wpX12_forbid at h
  show PW p l e _ s m args below meth c _ G 4 S 0 0 [(0, .ref (G.2.2 + x0)), (1, .int x1), (2, .int x2)] 0 []
  refine pw_aload_n (pc := 0) C 0 dX12_forbid_0 rfl rfl ?_
  refine pw_iconst (pc := 1) (v := 0 ) C dX12_forbid_1 (by decide) ?_
  obtain ⟨hk22, h⟩ := h
  refine pw_putI (pc := 2) (ref := "SupportSolverModel") (k := 0) (index := 70) C pCl10 iX12_forbid_X12 hk22 rfl (by decide +kernel) (Or.inl rfl) (Or.inl rfl) rfl rfl dX12_forbid_2 ?_
  refine pw_aload_n (pc := 5) (S := (sI S x0 0 (0 : Int32))) C 0 dX12_forbid_5 rfl rfl ?_
  refine pw_aload_n (pc := 6) (S := (sI S x0 0 (0 : Int32))) C 0 dX12_forbid_6 rfl rfl ?_
  refine pw_iload_n (pc := 7) (S := (sI S x0 0 (0 : Int32))) C 1 dX12_forbid_7 rfl rfl ?_
  refine pw_calli (pc := 8) (S := (sI S x0 0 (0 : Int32))) (kc2 := 0) (kn2 := 0) (pRunV (pc := 8) (S := (sI S x0 0 (0 : Int32))) C (ctX12_isVariable l G  _ x0 x1 _ h) (cwV 1 C.2.2.2.2.1 gX12_forbid_X12_isVariable rfl rfl rfl (by decide +kernel) ⟨Nat.le_of_ble_eq_true rfl, Nat.le_of_ble_eq_true rfl⟩) pCl10 hk22 rfl rfl (Nat.le_of_ble_eq_true rfl) dX12_forbid_8 ⟨Nat.le_of_ble_eq_true rfl, Nat.le_of_ble_eq_true rfl⟩) rfl rfl (fun r23 S24 h => ?_)
  refine pw_iconst (pc := 11) (v := 1 ) C dX12_forbid_11 (by decide) ?_
  obtain ⟨hk25, h⟩ := h
  refine pw_calli (pc := 12) (kc2 := 0) (kn2 := 0) (pRunV (pc := 12) C (ctX12_may l G  _ x0 r23 (1 : Int32) _ h) (cwV 2 C.2.2.2.2.1 gX12_forbid_X12_may rfl rfl rfl (by decide +kernel) ⟨Nat.le_of_ble_eq_true rfl, Nat.le_of_ble_eq_true rfl⟩) pCl10 hk25 rfl rfl (Nat.le_of_ble_eq_true rfl) dX12_forbid_12 ⟨Nat.le_of_ble_eq_true rfl, Nat.le_of_ble_eq_true rfl⟩) rfl rfl (fun r26 S27 h => ?_)
  refine pw_if_eq (pc := 15) (tgt := 59) C dX12_forbid_15 rfl ⟨fun hc => ?_, fun hc => ?_⟩
  · replace h := h.1 hc
    refine pw_iconst (pc := 59) (v := 0 ) C dX12_forbid_59 (by decide) ?_
    exact pw_iret (pc := 60) C hr h dX12_forbid_60
  · replace h := h.2 hc
    refine pw_aload_n (pc := 18) C 0 dX12_forbid_18 rfl rfl ?_
    refine pw_aload_n (pc := 19) C 0 dX12_forbid_19 rfl rfl ?_
    refine pw_iload_n (pc := 20) C 1 dX12_forbid_20 rfl rfl ?_
    refine pw_iload_n (pc := 21) C 2 dX12_forbid_21 rfl rfl ?_
    obtain ⟨hk28, h⟩ := h
    refine pw_calli (pc := 22) (kc2 := 0) (kn2 := 0) (pRunV (pc := 22) C (ctX12_isValue l G  _ x0 x1 x2 _ h) (cwV 2 C.2.2.2.2.1 gX12_forbid_X12_isValue rfl rfl rfl (by decide +kernel) ⟨Nat.le_of_ble_eq_true rfl, Nat.le_of_ble_eq_true rfl⟩) pCl10 hk28 rfl rfl (Nat.le_of_ble_eq_true rfl) dX12_forbid_22 ⟨Nat.le_of_ble_eq_true rfl, Nat.le_of_ble_eq_true rfl⟩) rfl rfl (fun r29 S30 h => ?_)
    refine pw_iconst (pc := 25) (v := 2 ) C dX12_forbid_25 (by decide) ?_
    obtain ⟨hk31, h⟩ := h
    refine pw_calli (pc := 26) (kc2 := 0) (kn2 := 0) (pRunV (pc := 26) C (ctX12_may l G  _ x0 r29 (2 : Int32) _ h) (cwV 2 C.2.2.2.2.1 gX12_forbid_X12_may rfl rfl rfl (by decide +kernel) ⟨Nat.le_of_ble_eq_true rfl, Nat.le_of_ble_eq_true rfl⟩) pCl10 hk31 rfl rfl (Nat.le_of_ble_eq_true rfl) dX12_forbid_26 ⟨Nat.le_of_ble_eq_true rfl, Nat.le_of_ble_eq_true rfl⟩) rfl rfl (fun r32 S33 h => ?_)
    refine pw_if_eq (pc := 29) (tgt := 59) C dX12_forbid_29 rfl ⟨fun hc => ?_, fun hc => ?_⟩
    · replace h := h.1 hc
      refine pw_iconst (pc := 59) (v := 0 ) C dX12_forbid_59 (by decide) ?_
      exact pw_iret (pc := 60) C hr h dX12_forbid_60
    · replace h := h.2 hc
      refine pw_aload_n (pc := 32) C 0 dX12_forbid_32 rfl rfl ?_
      refine pw_aload_n (pc := 33) C 0 dX12_forbid_33 rfl rfl ?_
      obtain ⟨hk34, h⟩ := h
      refine pw_getI (pc := 34) (ref := "SupportSolverModel") (k := 8) (index := 76) C pCl10 iX12_forbid_X12 hk34 rfl (by decide +kernel) (Or.inl rfl) dX12_forbid_34 ?_
      refine pw_if_ne (pc := 37) (tgt := 51) C dX12_forbid_37 rfl ⟨fun hc => ?_, fun hc => ?_⟩
      · replace h := h.1 hc
        exact cbX12_forbid_b51 C hr hin  _ _ _ _ _ h
      · replace h := h.2 hc
        refine pw_aload_n (pc := 40) C 0 dX12_forbid_40 rfl rfl ?_
        refine pw_getI (pc := 41) (ref := "SupportSolverModel") (k := 11) (index := 85) C pCl10 iX12_forbid_X12 hk34 rfl (by decide +kernel) (Or.inl rfl) dX12_forbid_41 ?_
        refine pw_if_ne (pc := 44) (tgt := 51) C dX12_forbid_44 rfl ⟨fun hc => ?_, fun hc => ?_⟩
        · replace h := h.1 hc
          exact cbX12_forbid_b51 C hr hin  _ _ _ _ _ h
        · replace h := h.2 hc
          refine pw_iconst (pc := 47) (v := 1 ) C dX12_forbid_47 (by decide) ?_
          refine pw_goto (pc := 48) (tgt := 52) C dX12_forbid_48 rfl ?_
          exact cbX12_forbid_b52 C hr hin  _ _ _ _ _ _ h

abbrev rmX12_decides : Room := { frames := 6, cells := 0, slots := 0, locals := 156 }
theorem iX12_decides_X12 : ∀ w ∈ u_ws RX12 TX12 32, w ∈ wsX12_decides := fun _ h => List.mem_cons_of_mem _ (List.mem_append_right _ h)
def wpX12_decides_b112  (Q : Int32 → PS → Prop) (S : PS) (x0 : Nat) (x1 : Int32) (x2 : Int32) (x3 : Int32) (x4 : Int32) (t0 : Nat) (t1 : Int32) : Prop := (pK S t0 = 11 ∧ ((t1 = 0 ∨ t1 = 1) ∧ (pK S x0 = 11 ∧ (wpX12_factsFrom (sI S t0 11 t1) x0 x3 (fun r4 S5 => (Q r4 S5))))))
def wpX12_decides_b44  (Q : Int32 → PS → Prop) : Nat → PS → Nat → Int32 → Int32 → Int32 → Int32 → Prop
  | 0 => fun _ _ _ _ _ _ => False
  | n + 1 => fun S x0 x1 x2 x3 x4 => (((5 : Int32) ≤ x4 → (pK S x0 = 11 ∧ (∃ o7, pR S x0 3 = some o7 ∧ (pK S o7 = 13 ∧ (vp_in x1 (pL S o7) ∧ (wpX12_sweeps (sI S o7 (x1).toNatClampNeg ((1 : Int32) <<< (x2 &&& 31))) x0 o7 (1 : Int32) (fun r10 S11 => ((¬ r10 = 0 → (wpX12_decides_b112 Q S11 x0 x1 x2 x3 x4 x0 (0 : Int32))) ∧ (r10 = 0 → (wpX12_decides_b112 Q S11 x0 x1 x2 x3 x4 x0 (1 : Int32))))))))))) ∧ (¬ (5 : Int32) ≤ x4 → ((x4 = x2 → (wpX12_decides_b44 Q n S x0 x1 x2 x3 (x4 + 1))) ∧ (¬ x4 = x2 → (pK S x0 = 11 ∧ (∃ o13, pR S x0 3 = some o13 ∧ (pK S o13 = 13 ∧ (vp_in x1 (pL S o13) ∧ (wpX12_has S (pI S o13 (x1).toNatClampNeg) x4 (fun r16 S17 => ((r16 = 0 → (wpX12_decides_b44 Q n S17 x0 x1 x2 x3 (x4 + 1))) ∧ (¬ r16 = 0 → (pK S17 x0 = 11 ∧ (wpX12_lays S17 x0 x1 x4 (-1 : Int32) (0 : Int32) (fun S20 => (wpX12_decides_b44 Q n S20 x0 x1 x2 x3 (x4 + 1)))))))))))))))))
def wpX12_decides (S : PS) (x0 : Nat) (x1 : Int32) (x2 : Int32) (Q : Int32 → PS → Prop) : Prop := (pK S x0 = 11 ∧ (∃ o22, pR S x0 5 = some o22 ∧ (pK S o22 = 13 ∧ (vp_in ((2 : Int32) * (pI S x0 8)) (pL S o22) ∧ (vp_in (((2 : Int32) * (pI (sI S o22 (((2 : Int32) * (pI S x0 8))).toNatClampNeg x1) x0 8)) + (1 : Int32)) (pL S o22) ∧ (∃ n9 : Nat, wpX12_decides_b44 Q n9 (sI (sI (sI S o22 (((2 : Int32) * (pI S x0 8))).toNatClampNeg x1) o22 ((((2 : Int32) * (pI (sI S o22 (((2 : Int32) * (pI S x0 8))).toNatClampNeg x1) x0 8)) + (1 : Int32))).toNatClampNeg x2) x0 8 ((pI (sI (sI S o22 (((2 : Int32) * (pI S x0 8))).toNatClampNeg x1) o22 ((((2 : Int32) * (pI (sI S o22 (((2 : Int32) * (pI S x0 8))).toNatClampNeg x1) x0 8)) + (1 : Int32))).toNatClampNeg x2) x0 8) + (1 : Int32))) x0 x1 x2 (pI S x0 7) (0 : Int32)))))))
set_option maxRecDepth 100000 in
set_option maxHeartbeats 4000000 in
theorem cbX12_decides_b112 {p : Program} {l : Launch} {e : Env} {s : State} {m : MethodId} {args : Array Value} {below : List Frame} {meth : Method} {c : Code} {G : PG} {Q : Int32 → PS → Prop} (C : pCx p s m args meth c G cX12_decides 5 yX12_decides.cls wsX12_decides) (hr : meth.sig.returnType = (some .int)) (hin : meth.name = yX12_decides.name)  : ∀ (S : PS) (x0 : Nat) (x1 : Int32) (x2 : Int32) (x3 : Int32) (x4 : Int32) (t0 : Nat) (t1 : Int32), wpX12_decides_b112  Q S x0 x1 x2 x3 x4 t0 t1 → PW p l e rmX12_decides s m args below meth c (MQ below (va_Qi Q (pB G) (pFr G)) args s rmX12_decides.cells rmX12_decides.slots (pFr G)) G 5 S 0 0 [(0, .ref (G.2.2 + x0)), (1, .int x1), (2, .int x2), (3, .int x3), (4, .int x4)] 112 (.int t1 :: .ref (G.2.2 + t0) :: []) := by
  intro S x0 x1 x2 x3 x4 t0 t1 h
  unfold wpX12_decides_b112 at h
  obtain ⟨hk1, h⟩ := h
  obtain ⟨hb2, h⟩ := h
  refine pw_putI (pc := 112) (ref := "SupportSolverModel") (k := 11) (index := 85) C pCl10 iX12_decides_X12 hk1 rfl (by decide +kernel) (Or.inl rfl) (Or.inl rfl) (nar_bool hb2) (fit_bool hb2) dX12_decides_112 ?_
  refine pw_aload_n (pc := 115) (S := (sI S t0 11 t1)) C 0 dX12_decides_115 rfl rfl ?_
  refine pw_iload_n (pc := 116) (S := (sI S t0 11 t1)) C 3 dX12_decides_116 rfl rfl ?_
  obtain ⟨hk3, h⟩ := h
  refine pw_calli (pc := 117) (S := (sI S t0 11 t1)) (kc2 := 0) (kn2 := 0) (pRunV (pc := 117) (S := (sI S t0 11 t1)) C (ctX12_factsFrom l G  _ x0 x3 _ h) (cwV 1 C.2.2.2.2.1 gX12_decides_X12_factsFrom rfl rfl rfl (by decide +kernel) ⟨Nat.le_of_ble_eq_true rfl, Nat.le_of_ble_eq_true rfl⟩) pCl10 hk3 rfl rfl (Nat.le_of_ble_eq_true rfl) dX12_decides_117 ⟨Nat.le_of_ble_eq_true rfl, Nat.le_of_ble_eq_true rfl⟩) rfl rfl (fun r4 S5 h => ?_)
  exact pw_iret (pc := 120) C hr h dX12_decides_120
set_option maxRecDepth 100000 in
set_option maxHeartbeats 4000000 in
theorem cbX12_decides_b44 {p : Program} {l : Launch} {e : Env} {s : State} {m : MethodId} {args : Array Value} {below : List Frame} {meth : Method} {c : Code} {G : PG} {Q : Int32 → PS → Prop} (C : pCx p s m args meth c G cX12_decides 5 yX12_decides.cls wsX12_decides) (hr : meth.sig.returnType = (some .int)) (hin : meth.name = yX12_decides.name)  (n : Nat) : ∀ (S : PS) (x0 : Nat) (x1 : Int32) (x2 : Int32) (x3 : Int32) (x4 : Int32), wpX12_decides_b44  Q n S x0 x1 x2 x3 x4 → PW p l e rmX12_decides s m args below meth c (MQ below (va_Qi Q (pB G) (pFr G)) args s rmX12_decides.cells rmX12_decides.slots (pFr G)) G 5 S 0 0 [(0, .ref (G.2.2 + x0)), (1, .int x1), (2, .int x2), (3, .int x3), (4, .int x4)] 44 ([]) := by
  induction n with
  | zero => intro S x0 x1 x2 x3 x4 h; exact h.elim
  | succ n ih =>
    intro S x0 x1 x2 x3 x4 h
    unfold wpX12_decides_b44 at h
    refine pw_iload (pc := 44) C 4 dX12_decides_44 rfl ?_
    refine pw_iconst (pc := 46) (v := 5 ) C dX12_decides_46 (by decide) ?_
    refine pw_icmp_ge (pc := 47) (tgt := 85) C dX12_decides_47 rfl ⟨fun hc => ?_, fun hc => ?_⟩
    · replace h := h.1 hc
      refine pw_aload_n (pc := 85) C 0 dX12_decides_85 rfl rfl ?_
      obtain ⟨hk6, h⟩ := h
      obtain ⟨o7, ho7, h⟩ := h
      refine pw_getR (pc := 86) (ref := "SupportSolverModel") (k := 3) (index := 16) C pCl10 iX12_decides_X12 hk6 rfl (by decide +kernel) (Or.inl rfl) (o := o7) ho7 dX12_decides_86 ?_
      refine pw_iload_n (pc := 89) C 1 dX12_decides_89 rfl rfl ?_
      refine pw_iconst (pc := 90) (v := 1 ) C dX12_decides_90 (by decide) ?_
      refine pw_iload_n (pc := 91) C 2 dX12_decides_91 rfl rfl ?_
      refine pw_ishl (pc := 92) C dX12_decides_92 ?_
      obtain ⟨hk8, h⟩ := h
      obtain ⟨hi9, h⟩ := h
      refine pw_iast (pc := 93) C hk8 hi9 dX12_decides_93 ?_
      refine pw_aload_n (pc := 94) (S := (sI S o7 (x1).toNatClampNeg ((1 : Int32) <<< (x2 &&& 31)))) C 0 dX12_decides_94 rfl rfl ?_
      refine pw_aload_n (pc := 95) (S := (sI S o7 (x1).toNatClampNeg ((1 : Int32) <<< (x2 &&& 31)))) C 0 dX12_decides_95 rfl rfl ?_
      refine pw_aload_n (pc := 96) (S := (sI S o7 (x1).toNatClampNeg ((1 : Int32) <<< (x2 &&& 31)))) C 0 dX12_decides_96 rfl rfl ?_
      refine pw_getR (pc := 97) (S := (sI S o7 (x1).toNatClampNeg ((1 : Int32) <<< (x2 &&& 31)))) (ref := "SupportSolverModel") (k := 3) (index := 16) C pCl10 iX12_decides_X12 hk6 rfl (by decide +kernel) (Or.inl rfl) (o := o7) ho7 dX12_decides_97 ?_
      refine pw_iconst (pc := 100) (S := (sI S o7 (x1).toNatClampNeg ((1 : Int32) <<< (x2 &&& 31)))) (v := 1 ) C dX12_decides_100 (by decide) ?_
      refine pw_calli (pc := 101) (S := (sI S o7 (x1).toNatClampNeg ((1 : Int32) <<< (x2 &&& 31)))) (kc2 := 0) (kn2 := 0) (pRunV (pc := 101) (S := (sI S o7 (x1).toNatClampNeg ((1 : Int32) <<< (x2 &&& 31)))) C (ctX12_sweeps l G  _ x0 o7 (1 : Int32) _ h) (cwV 2 C.2.2.2.2.1 gX12_decides_X12_sweeps rfl rfl rfl (by decide +kernel) ⟨Nat.le_of_ble_eq_true rfl, Nat.le_of_ble_eq_true rfl⟩) pCl10 hk6 rfl rfl (Nat.le_of_ble_eq_true rfl) dX12_decides_101 ⟨Nat.le_of_ble_eq_true rfl, Nat.le_of_ble_eq_true rfl⟩) rfl rfl (fun r10 S11 h => ?_)
      refine pw_if_ne (pc := 104) (tgt := 111) C dX12_decides_104 rfl ⟨fun hc => ?_, fun hc => ?_⟩
      · replace h := h.1 hc
        refine pw_iconst (pc := 111) (v := 0 ) C dX12_decides_111 (by decide) ?_
        exact cbX12_decides_b112 C hr hin  _ _ _ _ _ _ _ _ h
      · replace h := h.2 hc
        refine pw_iconst (pc := 107) (v := 1 ) C dX12_decides_107 (by decide) ?_
        refine pw_goto (pc := 108) (tgt := 112) C dX12_decides_108 rfl ?_
        exact cbX12_decides_b112 C hr hin  _ _ _ _ _ _ _ _ h
    · replace h := h.2 hc
      refine pw_iload (pc := 50) C 4 dX12_decides_50 rfl ?_
      refine pw_iload_n (pc := 52) C 2 dX12_decides_52 rfl rfl ?_
      refine pw_icmp_eq (pc := 53) (tgt := 79) C dX12_decides_53 rfl ⟨fun hc => ?_, fun hc => ?_⟩
      · replace h := h.1 hc
        refine pw_iincK (pc := 79) (w := 1) C [(4, .int (x4 + 1)), (0, .ref (G.2.2 + x0)), (1, .int x1), (2, .int x2), (3, .int x3)] 4 dX12_decides_79 (by decide) rfl (by decide) rfl ?_
        refine pw_goto (pc := 82) (tgt := 44) C dX12_decides_82 rfl ?_
        refine pw_sub [1, 2, 3, 4, 0] (LV2 := [(0, .ref (G.2.2 + x0)), (1, .int x1), (2, .int x2), (3, .int x3), (4, .int (x4 + 1))]) rfl ?_
        exact ih _ _ _ _ _ _ h
      · replace h := h.2 hc
        refine pw_aload_n (pc := 56) C 0 dX12_decides_56 rfl rfl ?_
        obtain ⟨hk12, h⟩ := h
        obtain ⟨o13, ho13, h⟩ := h
        refine pw_getR (pc := 57) (ref := "SupportSolverModel") (k := 3) (index := 16) C pCl10 iX12_decides_X12 hk12 rfl (by decide +kernel) (Or.inl rfl) (o := o13) ho13 dX12_decides_57 ?_
        refine pw_iload_n (pc := 60) C 1 dX12_decides_60 rfl rfl ?_
        obtain ⟨hk14, h⟩ := h
        obtain ⟨hi15, h⟩ := h
        refine pw_iald (pc := 61) C hk14 hi15 dX12_decides_61 ?_
        refine pw_iload (pc := 62) C 4 dX12_decides_62 rfl ?_
        refine pw_calli (pc := 64) (kc2 := 0) (kn2 := 0) (pRunS (pc := 64) C (ctX12_has l G  _ (pI S o13 (x1).toNatClampNeg) x4 _ h) (va_cwS 2 C.2.2.2.2.1 gX12_decides_X12_has rfl rfl rfl (by decide +kernel) ⟨Nat.le_of_ble_eq_true rfl, Nat.le_of_ble_eq_true rfl⟩) rfl rfl (Nat.le_of_ble_eq_true rfl) dX12_decides_64 ⟨Nat.le_of_ble_eq_true rfl, Nat.le_of_ble_eq_true rfl⟩) rfl rfl (fun r16 S17 h => ?_)
        refine pw_if_eq (pc := 67) (tgt := 79) C dX12_decides_67 rfl ⟨fun hc => ?_, fun hc => ?_⟩
        · replace h := h.1 hc
          refine pw_iincK (pc := 79) (w := 1) C [(4, .int (x4 + 1)), (0, .ref (G.2.2 + x0)), (1, .int x1), (2, .int x2), (3, .int x3)] 4 dX12_decides_79 (by decide) rfl (by decide) rfl ?_
          refine pw_goto (pc := 82) (tgt := 44) C dX12_decides_82 rfl ?_
          refine pw_sub [1, 2, 3, 4, 0] (LV2 := [(0, .ref (G.2.2 + x0)), (1, .int x1), (2, .int x2), (3, .int x3), (4, .int (x4 + 1))]) rfl ?_
          exact ih _ _ _ _ _ _ h
        · replace h := h.2 hc
          refine pw_aload_n (pc := 70) C 0 dX12_decides_70 rfl rfl ?_
          refine pw_iload_n (pc := 71) C 1 dX12_decides_71 rfl rfl ?_
          refine pw_iload (pc := 72) C 4 dX12_decides_72 rfl ?_
          refine pw_iconst (pc := 74) (v := (-1)) C dX12_decides_74 (by decide) ?_
          refine pw_iconst (pc := 75) (v := 0 ) C dX12_decides_75 (by decide) ?_
          obtain ⟨hk18, h⟩ := h
          refine pw_callv (pc := 76) (kc2 := 0) (kn2 := 0) (pRunV (pc := 76) C (ctX12_lays l G  _ x0 x1 x4 (-1 : Int32) (0 : Int32) _ h) (cwV 4 C.2.2.2.2.1 gX12_decides_X12_lays rfl rfl rfl (by decide +kernel) ⟨Nat.le_of_ble_eq_true rfl, Nat.le_of_ble_eq_true rfl⟩) pCl10 hk18 rfl rfl (Nat.le_of_ble_eq_true rfl) dX12_decides_76 ⟨Nat.le_of_ble_eq_true rfl, Nat.le_of_ble_eq_true rfl⟩) rfl rfl (fun S20 h => ?_)
          refine pw_iincK (pc := 79) (w := 1) C [(4, .int (x4 + 1)), (0, .ref (G.2.2 + x0)), (1, .int x1), (2, .int x2), (3, .int x3)] 4 dX12_decides_79 (by decide) rfl (by decide) rfl ?_
          refine pw_goto (pc := 82) (tgt := 44) C dX12_decides_82 rfl ?_
          refine pw_sub [1, 2, 3, 4, 0] (LV2 := [(0, .ref (G.2.2 + x0)), (1, .int x1), (2, .int x2), (3, .int x3), (4, .int (x4 + 1))]) rfl ?_
          exact ih _ _ _ _ _ _ h
set_option maxRecDepth 100000 in
set_option maxHeartbeats 4000000 in
theorem ctX12_decides (l : Launch) (G : PG) (S : PS) (x0 : Nat) (x1 : Int32) (x2 : Int32) (Q : Int32 → PS → Prop) (h : wpX12_decides S x0 x1 x2 Q) : mI l yX12_decides wsX12_decides rmX12_decides G S [.ref (G.2.2 + x0), .int x1, .int x2] Q := by
  unfold mI
  refine met_of (cc := cX12_decides) (maxL := 5) (ret := (some .int)) (by decide) rfl (Nat.le_of_ble_eq_true rfl) ?_
  intro p e s m args below meth c C hr hin
  unfold wpX12_decides at h
  show PW p l e _ s m args below meth c _ G 5 S 0 0 [(0, .ref (G.2.2 + x0)), (1, .int x1), (2, .int x2)] 0 []
  refine pw_aload_n (pc := 0) C 0 dX12_decides_0 rfl rfl ?_
  obtain ⟨hk21, h⟩ := h
  refine pw_getI (pc := 1) (ref := "SupportSolverModel") (k := 7) (index := 73) C pCl10 iX12_decides_X12 hk21 rfl (by decide +kernel) (Or.inl rfl) dX12_decides_1 ?_
  refine pw_istore_n (pc := 4) C [(3, .int (pI S x0 7)), (0, .ref (G.2.2 + x0)), (1, .int x1), (2, .int x2)] dX12_decides_4 rfl (by decide) rfl ?_
  refine pw_aload_n (pc := 5) C 1 dX12_decides_5 rfl rfl ?_
  obtain ⟨o22, ho22, h⟩ := h
  refine pw_getR (pc := 6) (ref := "SupportSolverModel") (k := 5) (index := 22) C pCl10 iX12_decides_X12 hk21 rfl (by decide +kernel) (Or.inl rfl) (o := o22) ho22 dX12_decides_6 ?_
  refine pw_iconst (pc := 9) (v := 2 ) C dX12_decides_9 (by decide) ?_
  refine pw_aload_n (pc := 10) C 1 dX12_decides_10 rfl rfl ?_
  refine pw_getI (pc := 11) (ref := "SupportSolverModel") (k := 8) (index := 76) C pCl10 iX12_decides_X12 hk21 rfl (by decide +kernel) (Or.inl rfl) dX12_decides_11 ?_
  refine pw_imul (pc := 14) C dX12_decides_14 ?_
  refine pw_iload_n (pc := 15) C 2 dX12_decides_15 rfl rfl ?_
  obtain ⟨hk23, h⟩ := h
  obtain ⟨hi24, h⟩ := h
  refine pw_iast (pc := 16) C hk23 hi24 dX12_decides_16 ?_
  refine pw_aload_n (pc := 17) (S := (sI S o22 (((2 : Int32) * (pI S x0 8))).toNatClampNeg x1)) C 1 dX12_decides_17 rfl rfl ?_
  refine pw_getR (pc := 18) (S := (sI S o22 (((2 : Int32) * (pI S x0 8))).toNatClampNeg x1)) (ref := "SupportSolverModel") (k := 5) (index := 22) C pCl10 iX12_decides_X12 hk21 rfl (by decide +kernel) (Or.inl rfl) (o := o22) ho22 dX12_decides_18 ?_
  refine pw_iconst (pc := 21) (S := (sI S o22 (((2 : Int32) * (pI S x0 8))).toNatClampNeg x1)) (v := 2 ) C dX12_decides_21 (by decide) ?_
  refine pw_aload_n (pc := 22) (S := (sI S o22 (((2 : Int32) * (pI S x0 8))).toNatClampNeg x1)) C 1 dX12_decides_22 rfl rfl ?_
  refine pw_getI (pc := 23) (S := (sI S o22 (((2 : Int32) * (pI S x0 8))).toNatClampNeg x1)) (ref := "SupportSolverModel") (k := 8) (index := 76) C pCl10 iX12_decides_X12 hk21 rfl (by decide +kernel) (Or.inl rfl) dX12_decides_23 ?_
  refine pw_imul (pc := 26) (S := (sI S o22 (((2 : Int32) * (pI S x0 8))).toNatClampNeg x1)) C dX12_decides_26 ?_
  refine pw_iconst (pc := 27) (S := (sI S o22 (((2 : Int32) * (pI S x0 8))).toNatClampNeg x1)) (v := 1 ) C dX12_decides_27 (by decide) ?_
  refine pw_iadd (pc := 28) (S := (sI S o22 (((2 : Int32) * (pI S x0 8))).toNatClampNeg x1)) C dX12_decides_28 ?_
  refine pw_iload_n (pc := 29) (S := (sI S o22 (((2 : Int32) * (pI S x0 8))).toNatClampNeg x1)) C 3 dX12_decides_29 rfl rfl ?_
  obtain ⟨hi25, h⟩ := h
  refine pw_iast (pc := 30) (S := (sI S o22 (((2 : Int32) * (pI S x0 8))).toNatClampNeg x1)) C hk23 hi25 dX12_decides_30 ?_
  refine pw_aload_n (pc := 31) (S := (sI (sI S o22 (((2 : Int32) * (pI S x0 8))).toNatClampNeg x1) o22 ((((2 : Int32) * (pI (sI S o22 (((2 : Int32) * (pI S x0 8))).toNatClampNeg x1) x0 8)) + (1 : Int32))).toNatClampNeg x2)) C 1 dX12_decides_31 rfl rfl ?_
  refine pw_dup (pc := 32) (S := (sI (sI S o22 (((2 : Int32) * (pI S x0 8))).toNatClampNeg x1) o22 ((((2 : Int32) * (pI (sI S o22 (((2 : Int32) * (pI S x0 8))).toNatClampNeg x1) x0 8)) + (1 : Int32))).toNatClampNeg x2)) C dX12_decides_32 rfl ?_
  refine pw_getI (pc := 33) (S := (sI (sI S o22 (((2 : Int32) * (pI S x0 8))).toNatClampNeg x1) o22 ((((2 : Int32) * (pI (sI S o22 (((2 : Int32) * (pI S x0 8))).toNatClampNeg x1) x0 8)) + (1 : Int32))).toNatClampNeg x2)) (ref := "SupportSolverModel") (k := 8) (index := 76) C pCl10 iX12_decides_X12 hk21 rfl (by decide +kernel) (Or.inl rfl) dX12_decides_33 ?_
  refine pw_iconst (pc := 36) (S := (sI (sI S o22 (((2 : Int32) * (pI S x0 8))).toNatClampNeg x1) o22 ((((2 : Int32) * (pI (sI S o22 (((2 : Int32) * (pI S x0 8))).toNatClampNeg x1) x0 8)) + (1 : Int32))).toNatClampNeg x2)) (v := 1 ) C dX12_decides_36 (by decide) ?_
  refine pw_iadd (pc := 37) (S := (sI (sI S o22 (((2 : Int32) * (pI S x0 8))).toNatClampNeg x1) o22 ((((2 : Int32) * (pI (sI S o22 (((2 : Int32) * (pI S x0 8))).toNatClampNeg x1) x0 8)) + (1 : Int32))).toNatClampNeg x2)) C dX12_decides_37 ?_
  refine pw_putI (pc := 38) (S := (sI (sI S o22 (((2 : Int32) * (pI S x0 8))).toNatClampNeg x1) o22 ((((2 : Int32) * (pI (sI S o22 (((2 : Int32) * (pI S x0 8))).toNatClampNeg x1) x0 8)) + (1 : Int32))).toNatClampNeg x2)) (ref := "SupportSolverModel") (k := 8) (index := 76) C pCl10 iX12_decides_X12 hk21 rfl (by decide +kernel) (Or.inl rfl) (Or.inl rfl) rfl rfl dX12_decides_38 ?_
  refine pw_iconst (pc := 41) (S := (sI (sI (sI S o22 (((2 : Int32) * (pI S x0 8))).toNatClampNeg x1) o22 ((((2 : Int32) * (pI (sI S o22 (((2 : Int32) * (pI S x0 8))).toNatClampNeg x1) x0 8)) + (1 : Int32))).toNatClampNeg x2) x0 8 ((pI (sI (sI S o22 (((2 : Int32) * (pI S x0 8))).toNatClampNeg x1) o22 ((((2 : Int32) * (pI (sI S o22 (((2 : Int32) * (pI S x0 8))).toNatClampNeg x1) x0 8)) + (1 : Int32))).toNatClampNeg x2) x0 8) + (1 : Int32)))) (v := 0 ) C dX12_decides_41 (by decide) ?_
  refine pw_istore (pc := 42) (S := (sI (sI (sI S o22 (((2 : Int32) * (pI S x0 8))).toNatClampNeg x1) o22 ((((2 : Int32) * (pI (sI S o22 (((2 : Int32) * (pI S x0 8))).toNatClampNeg x1) x0 8)) + (1 : Int32))).toNatClampNeg x2) x0 8 ((pI (sI (sI S o22 (((2 : Int32) * (pI S x0 8))).toNatClampNeg x1) o22 ((((2 : Int32) * (pI (sI S o22 (((2 : Int32) * (pI S x0 8))).toNatClampNeg x1) x0 8)) + (1 : Int32))).toNatClampNeg x2) x0 8) + (1 : Int32)))) C [(4, .int (0 : Int32)), (3, .int (pI S x0 7)), (0, .ref (G.2.2 + x0)), (1, .int x1), (2, .int x2)] dX12_decides_42 (by decide) rfl ?_
  refine pw_sub [2, 3, 4, 1, 0] (LV2 := [(0, .ref (G.2.2 + x0)), (1, .int x1), (2, .int x2), (3, .int (pI S x0 7)), (4, .int (0 : Int32))]) rfl ?_
  obtain ⟨n9, h⟩ := h
  exact cbX12_decides_b44 C hr hin  n9 _ _ _ _ _ _ h

abbrev rmX12_takesBack : Room := { frames := 0, cells := 0, slots := 0, locals := 0 }
theorem iX12_takesBack_X12 : ∀ w ∈ u_ws RX12 TX12 32, w ∈ wsX12_takesBack := fun _ h => List.mem_cons_of_mem _ (List.mem_append_right _ h)
def wpX12_takesBack_b79  (Q : Int32 → PS → Prop) (S : PS) (x0 : Nat) (x1 : Int32) : Prop := (pK S x0 = 11 ∧ (Q (x1 - (pI (sI (sI S x0 8 ((pI S x0 8) - (1 : Int32))) x0 11 (0 : Int32)) x0 7)) (sI (sI S x0 8 ((pI S x0 8) - (1 : Int32))) x0 11 (0 : Int32))))
def wpX12_takesBack_b5  (Q : Int32 → PS → Prop) : Nat → PS → Nat → Int32 → Prop
  | 0 => fun _ _ _ => False
  | n + 1 => fun S x0 x1 => (pK S x0 = 11 ∧ (((pI S x0 7) ≤ 0 → (wpX12_takesBack_b79 Q S x0 x1)) ∧ (¬ (pI S x0 7) ≤ 0 → (∃ o3, pR S x0 4 = some o3 ∧ (pK S o3 = 13 ∧ (vp_in (((5 : Int32) * (pI S x0 7)) - (2 : Int32)) (pL S o3) ∧ ((¬ (pI S o3 ((((5 : Int32) * (pI S x0 7)) - (2 : Int32))).toNatClampNeg) = (pI S x0 8) → (wpX12_takesBack_b79 Q S x0 x1)) ∧ ((pI S o3 ((((5 : Int32) * (pI S x0 7)) - (2 : Int32))).toNatClampNeg) = (pI S x0 8) → (∃ o6, pR S x0 3 = some o6 ∧ (vp_in ((5 : Int32) * (pI (sI S x0 7 ((pI S x0 7) - (1 : Int32))) x0 7)) (pL S o3) ∧ (pK S o6 = 13 ∧ (vp_in (pI (sI S x0 7 ((pI S x0 7) - (1 : Int32))) o3 (((5 : Int32) * (pI (sI S x0 7 ((pI S x0 7) - (1 : Int32))) x0 7))).toNatClampNeg) (pL S o6) ∧ (vp_in (((5 : Int32) * (pI (sI S x0 7 ((pI S x0 7) - (1 : Int32))) x0 7)) + (1 : Int32)) (pL S o3) ∧ (vp_in (pI (sI S x0 7 ((pI S x0 7) - (1 : Int32))) o3 (((5 : Int32) * (pI (sI S x0 7 ((pI S x0 7) - (1 : Int32))) x0 7))).toNatClampNeg) (pL S o6) ∧ (wpX12_takesBack_b5 Q n (sI (sI S x0 7 ((pI S x0 7) - (1 : Int32))) o6 ((pI (sI S x0 7 ((pI S x0 7) - (1 : Int32))) o3 (((5 : Int32) * (pI (sI S x0 7 ((pI S x0 7) - (1 : Int32))) x0 7))).toNatClampNeg)).toNatClampNeg ((pI (sI S x0 7 ((pI S x0 7) - (1 : Int32))) o6 ((pI (sI S x0 7 ((pI S x0 7) - (1 : Int32))) o3 (((5 : Int32) * (pI (sI S x0 7 ((pI S x0 7) - (1 : Int32))) x0 7))).toNatClampNeg)).toNatClampNeg) ||| ((1 : Int32) <<< ((pI (sI S x0 7 ((pI S x0 7) - (1 : Int32))) o3 ((((5 : Int32) * (pI (sI S x0 7 ((pI S x0 7) - (1 : Int32))) x0 7)) + (1 : Int32))).toNatClampNeg) &&& 31)))) x0 x1)))))))))))))))
def wpX12_takesBack (S : PS) (x0 : Nat) (Q : Int32 → PS → Prop) : Prop := (pK S x0 = 11 ∧ (∃ n9 : Nat, wpX12_takesBack_b5 Q n9 S x0 (pI S x0 7)))
set_option maxRecDepth 100000 in
set_option maxHeartbeats 4000000 in
theorem cbX12_takesBack_b79 {p : Program} {l : Launch} {e : Env} {s : State} {m : MethodId} {args : Array Value} {below : List Frame} {meth : Method} {c : Code} {G : PG} {Q : Int32 → PS → Prop} (C : pCx p s m args meth c G cX12_takesBack 2 yX12_takesBack.cls wsX12_takesBack) (hr : meth.sig.returnType = (some .int)) (hin : meth.name = yX12_takesBack.name)  : ∀ (S : PS) (x0 : Nat) (x1 : Int32), wpX12_takesBack_b79  Q S x0 x1 → PW p l e rmX12_takesBack s m args below meth c (MQ below (va_Qi Q (pB G) (pFr G)) args s rmX12_takesBack.cells rmX12_takesBack.slots (pFr G)) G 2 S 0 0 [(0, .ref (G.2.2 + x0)), (1, .int x1)] 79 ([]) := by
  intro S x0 x1 h
  unfold wpX12_takesBack_b79 at h
  refine pw_aload_n (pc := 79) C 0 dX12_takesBack_79 rfl rfl ?_
  refine pw_dup (pc := 80) C dX12_takesBack_80 rfl ?_
  obtain ⟨hk1, h⟩ := h
  refine pw_getI (pc := 81) (ref := "SupportSolverModel") (k := 8) (index := 76) C pCl10 iX12_takesBack_X12 hk1 rfl (by decide +kernel) (Or.inl rfl) dX12_takesBack_81 ?_
  refine pw_iconst (pc := 84) (v := 1 ) C dX12_takesBack_84 (by decide) ?_
  refine pw_isub (pc := 85) C dX12_takesBack_85 ?_
  refine pw_putI (pc := 86) (ref := "SupportSolverModel") (k := 8) (index := 76) C pCl10 iX12_takesBack_X12 hk1 rfl (by decide +kernel) (Or.inl rfl) (Or.inl rfl) rfl rfl dX12_takesBack_86 ?_
  refine pw_aload_n (pc := 89) (S := (sI S x0 8 ((pI S x0 8) - (1 : Int32)))) C 0 dX12_takesBack_89 rfl rfl ?_
  refine pw_iconst (pc := 90) (S := (sI S x0 8 ((pI S x0 8) - (1 : Int32)))) (v := 0 ) C dX12_takesBack_90 (by decide) ?_
  refine pw_putI (pc := 91) (S := (sI S x0 8 ((pI S x0 8) - (1 : Int32)))) (ref := "SupportSolverModel") (k := 11) (index := 85) C pCl10 iX12_takesBack_X12 hk1 rfl (by decide +kernel) (Or.inl rfl) (Or.inl rfl) rfl rfl dX12_takesBack_91 ?_
  refine pw_iload_n (pc := 94) (S := (sI (sI S x0 8 ((pI S x0 8) - (1 : Int32))) x0 11 (0 : Int32))) C 1 dX12_takesBack_94 rfl rfl ?_
  refine pw_aload_n (pc := 95) (S := (sI (sI S x0 8 ((pI S x0 8) - (1 : Int32))) x0 11 (0 : Int32))) C 0 dX12_takesBack_95 rfl rfl ?_
  refine pw_getI (pc := 96) (S := (sI (sI S x0 8 ((pI S x0 8) - (1 : Int32))) x0 11 (0 : Int32))) (ref := "SupportSolverModel") (k := 7) (index := 73) C pCl10 iX12_takesBack_X12 hk1 rfl (by decide +kernel) (Or.inl rfl) dX12_takesBack_96 ?_
  refine pw_isub (pc := 99) (S := (sI (sI S x0 8 ((pI S x0 8) - (1 : Int32))) x0 11 (0 : Int32))) C dX12_takesBack_99 ?_
  exact pw_iret (pc := 100) (S := (sI (sI S x0 8 ((pI S x0 8) - (1 : Int32))) x0 11 (0 : Int32))) C hr h dX12_takesBack_100
set_option maxRecDepth 100000 in
set_option maxHeartbeats 4000000 in
theorem cbX12_takesBack_b5 {p : Program} {l : Launch} {e : Env} {s : State} {m : MethodId} {args : Array Value} {below : List Frame} {meth : Method} {c : Code} {G : PG} {Q : Int32 → PS → Prop} (C : pCx p s m args meth c G cX12_takesBack 2 yX12_takesBack.cls wsX12_takesBack) (hr : meth.sig.returnType = (some .int)) (hin : meth.name = yX12_takesBack.name)  (n : Nat) : ∀ (S : PS) (x0 : Nat) (x1 : Int32), wpX12_takesBack_b5  Q n S x0 x1 → PW p l e rmX12_takesBack s m args below meth c (MQ below (va_Qi Q (pB G) (pFr G)) args s rmX12_takesBack.cells rmX12_takesBack.slots (pFr G)) G 2 S 0 0 [(0, .ref (G.2.2 + x0)), (1, .int x1)] 5 ([]) := by
  induction n with
  | zero => intro S x0 x1 h; exact h.elim
  | succ n ih =>
    intro S x0 x1 h
    unfold wpX12_takesBack_b5 at h
    refine pw_aload_n (pc := 5) C 0 dX12_takesBack_5 rfl rfl ?_
    obtain ⟨hk2, h⟩ := h
    refine pw_getI (pc := 6) (ref := "SupportSolverModel") (k := 7) (index := 73) C pCl10 iX12_takesBack_X12 hk2 rfl (by decide +kernel) (Or.inl rfl) dX12_takesBack_6 ?_
    refine pw_if_le (pc := 9) (tgt := 79) C dX12_takesBack_9 rfl ⟨fun hc => ?_, fun hc => ?_⟩
    · replace h := h.1 hc
      exact cbX12_takesBack_b79 C hr hin  _ _ _ h
    · replace h := h.2 hc
      refine pw_aload_n (pc := 12) C 0 dX12_takesBack_12 rfl rfl ?_
      obtain ⟨o3, ho3, h⟩ := h
      refine pw_getR (pc := 13) (ref := "SupportSolverModel") (k := 4) (index := 19) C pCl10 iX12_takesBack_X12 hk2 rfl (by decide +kernel) (Or.inl rfl) (o := o3) ho3 dX12_takesBack_13 ?_
      refine pw_iconst (pc := 16) (v := 5 ) C dX12_takesBack_16 (by decide) ?_
      refine pw_aload_n (pc := 17) C 0 dX12_takesBack_17 rfl rfl ?_
      refine pw_getI (pc := 18) (ref := "SupportSolverModel") (k := 7) (index := 73) C pCl10 iX12_takesBack_X12 hk2 rfl (by decide +kernel) (Or.inl rfl) dX12_takesBack_18 ?_
      refine pw_imul (pc := 21) C dX12_takesBack_21 ?_
      refine pw_iconst (pc := 22) (v := 2 ) C dX12_takesBack_22 (by decide) ?_
      refine pw_isub (pc := 23) C dX12_takesBack_23 ?_
      obtain ⟨hk4, h⟩ := h
      obtain ⟨hi5, h⟩ := h
      refine pw_iald (pc := 24) C hk4 hi5 dX12_takesBack_24 ?_
      refine pw_aload_n (pc := 25) C 0 dX12_takesBack_25 rfl rfl ?_
      refine pw_getI (pc := 26) (ref := "SupportSolverModel") (k := 8) (index := 76) C pCl10 iX12_takesBack_X12 hk2 rfl (by decide +kernel) (Or.inl rfl) dX12_takesBack_26 ?_
      refine pw_icmp_ne (pc := 29) (tgt := 79) C dX12_takesBack_29 rfl ⟨fun hc => ?_, fun hc => ?_⟩
      · replace h := h.1 hc
        exact cbX12_takesBack_b79 C hr hin  _ _ _ h
      · replace h := h.2 hc
        refine pw_aload_n (pc := 32) C 0 dX12_takesBack_32 rfl rfl ?_
        refine pw_dup (pc := 33) C dX12_takesBack_33 rfl ?_
        refine pw_getI (pc := 34) (ref := "SupportSolverModel") (k := 7) (index := 73) C pCl10 iX12_takesBack_X12 hk2 rfl (by decide +kernel) (Or.inl rfl) dX12_takesBack_34 ?_
        refine pw_iconst (pc := 37) (v := 1 ) C dX12_takesBack_37 (by decide) ?_
        refine pw_isub (pc := 38) C dX12_takesBack_38 ?_
        refine pw_putI (pc := 39) (ref := "SupportSolverModel") (k := 7) (index := 73) C pCl10 iX12_takesBack_X12 hk2 rfl (by decide +kernel) (Or.inl rfl) (Or.inl rfl) rfl rfl dX12_takesBack_39 ?_
        refine pw_aload_n (pc := 42) (S := (sI S x0 7 ((pI S x0 7) - (1 : Int32)))) C 0 dX12_takesBack_42 rfl rfl ?_
        obtain ⟨o6, ho6, h⟩ := h
        refine pw_getR (pc := 43) (S := (sI S x0 7 ((pI S x0 7) - (1 : Int32)))) (ref := "SupportSolverModel") (k := 3) (index := 16) C pCl10 iX12_takesBack_X12 hk2 rfl (by decide +kernel) (Or.inl rfl) (o := o6) ho6 dX12_takesBack_43 ?_
        refine pw_aload_n (pc := 46) (S := (sI S x0 7 ((pI S x0 7) - (1 : Int32)))) C 0 dX12_takesBack_46 rfl rfl ?_
        refine pw_getR (pc := 47) (S := (sI S x0 7 ((pI S x0 7) - (1 : Int32)))) (ref := "SupportSolverModel") (k := 4) (index := 19) C pCl10 iX12_takesBack_X12 hk2 rfl (by decide +kernel) (Or.inl rfl) (o := o3) ho3 dX12_takesBack_47 ?_
        refine pw_iconst (pc := 50) (S := (sI S x0 7 ((pI S x0 7) - (1 : Int32)))) (v := 5 ) C dX12_takesBack_50 (by decide) ?_
        refine pw_aload_n (pc := 51) (S := (sI S x0 7 ((pI S x0 7) - (1 : Int32)))) C 0 dX12_takesBack_51 rfl rfl ?_
        refine pw_getI (pc := 52) (S := (sI S x0 7 ((pI S x0 7) - (1 : Int32)))) (ref := "SupportSolverModel") (k := 7) (index := 73) C pCl10 iX12_takesBack_X12 hk2 rfl (by decide +kernel) (Or.inl rfl) dX12_takesBack_52 ?_
        refine pw_imul (pc := 55) (S := (sI S x0 7 ((pI S x0 7) - (1 : Int32)))) C dX12_takesBack_55 ?_
        obtain ⟨hi7, h⟩ := h
        refine pw_iald (pc := 56) (S := (sI S x0 7 ((pI S x0 7) - (1 : Int32)))) C hk4 hi7 dX12_takesBack_56 ?_
        refine pw_dup2_11 (pc := 57) (S := (sI S x0 7 ((pI S x0 7) - (1 : Int32)))) C dX12_takesBack_57 rfl rfl ?_
        obtain ⟨hk8, h⟩ := h
        obtain ⟨hi9, h⟩ := h
        refine pw_iald (pc := 58) (S := (sI S x0 7 ((pI S x0 7) - (1 : Int32)))) C hk8 hi9 dX12_takesBack_58 ?_
        refine pw_iconst (pc := 59) (S := (sI S x0 7 ((pI S x0 7) - (1 : Int32)))) (v := 1 ) C dX12_takesBack_59 (by decide) ?_
        refine pw_aload_n (pc := 60) (S := (sI S x0 7 ((pI S x0 7) - (1 : Int32)))) C 0 dX12_takesBack_60 rfl rfl ?_
        refine pw_getR (pc := 61) (S := (sI S x0 7 ((pI S x0 7) - (1 : Int32)))) (ref := "SupportSolverModel") (k := 4) (index := 19) C pCl10 iX12_takesBack_X12 hk2 rfl (by decide +kernel) (Or.inl rfl) (o := o3) ho3 dX12_takesBack_61 ?_
        refine pw_iconst (pc := 64) (S := (sI S x0 7 ((pI S x0 7) - (1 : Int32)))) (v := 5 ) C dX12_takesBack_64 (by decide) ?_
        refine pw_aload_n (pc := 65) (S := (sI S x0 7 ((pI S x0 7) - (1 : Int32)))) C 0 dX12_takesBack_65 rfl rfl ?_
        refine pw_getI (pc := 66) (S := (sI S x0 7 ((pI S x0 7) - (1 : Int32)))) (ref := "SupportSolverModel") (k := 7) (index := 73) C pCl10 iX12_takesBack_X12 hk2 rfl (by decide +kernel) (Or.inl rfl) dX12_takesBack_66 ?_
        refine pw_imul (pc := 69) (S := (sI S x0 7 ((pI S x0 7) - (1 : Int32)))) C dX12_takesBack_69 ?_
        refine pw_iconst (pc := 70) (S := (sI S x0 7 ((pI S x0 7) - (1 : Int32)))) (v := 1 ) C dX12_takesBack_70 (by decide) ?_
        refine pw_iadd (pc := 71) (S := (sI S x0 7 ((pI S x0 7) - (1 : Int32)))) C dX12_takesBack_71 ?_
        obtain ⟨hi10, h⟩ := h
        refine pw_iald (pc := 72) (S := (sI S x0 7 ((pI S x0 7) - (1 : Int32)))) C hk4 hi10 dX12_takesBack_72 ?_
        refine pw_ishl (pc := 73) (S := (sI S x0 7 ((pI S x0 7) - (1 : Int32)))) C dX12_takesBack_73 ?_
        refine pw_ior (pc := 74) (S := (sI S x0 7 ((pI S x0 7) - (1 : Int32)))) C dX12_takesBack_74 ?_
        obtain ⟨hi11, h⟩ := h
        refine pw_iast (pc := 75) (S := (sI S x0 7 ((pI S x0 7) - (1 : Int32)))) C hk8 hi11 dX12_takesBack_75 ?_
        refine pw_goto (pc := 76) (S := (sI (sI S x0 7 ((pI S x0 7) - (1 : Int32))) o6 ((pI (sI S x0 7 ((pI S x0 7) - (1 : Int32))) o3 (((5 : Int32) * (pI (sI S x0 7 ((pI S x0 7) - (1 : Int32))) x0 7))).toNatClampNeg)).toNatClampNeg ((pI (sI S x0 7 ((pI S x0 7) - (1 : Int32))) o6 ((pI (sI S x0 7 ((pI S x0 7) - (1 : Int32))) o3 (((5 : Int32) * (pI (sI S x0 7 ((pI S x0 7) - (1 : Int32))) x0 7))).toNatClampNeg)).toNatClampNeg) ||| ((1 : Int32) <<< ((pI (sI S x0 7 ((pI S x0 7) - (1 : Int32))) o3 ((((5 : Int32) * (pI (sI S x0 7 ((pI S x0 7) - (1 : Int32))) x0 7)) + (1 : Int32))).toNatClampNeg) &&& 31))))) (tgt := 5) C dX12_takesBack_76 rfl ?_
        exact ih _ _ _ h
set_option maxRecDepth 100000 in
set_option maxHeartbeats 4000000 in
theorem ctX12_takesBack (l : Launch) (G : PG) (S : PS) (x0 : Nat) (Q : Int32 → PS → Prop) (h : wpX12_takesBack S x0 Q) : mI l yX12_takesBack wsX12_takesBack rmX12_takesBack G S [.ref (G.2.2 + x0)] Q := by
  unfold mI
  refine met_of (cc := cX12_takesBack) (maxL := 2) (ret := (some .int)) (by decide) rfl (Nat.le_of_ble_eq_true rfl) ?_
  intro p e s m args below meth c C hr hin
  unfold wpX12_takesBack at h
  show PW p l e _ s m args below meth c _ G 2 S 0 0 [(0, .ref (G.2.2 + x0))] 0 []
  refine pw_aload_n (pc := 0) C 0 dX12_takesBack_0 rfl rfl ?_
  obtain ⟨hk12, h⟩ := h
  refine pw_getI (pc := 1) (ref := "SupportSolverModel") (k := 7) (index := 73) C pCl10 iX12_takesBack_X12 hk12 rfl (by decide +kernel) (Or.inl rfl) dX12_takesBack_1 ?_
  refine pw_istore_n (pc := 4) C [(1, .int (pI S x0 7)), (0, .ref (G.2.2 + x0))] dX12_takesBack_4 rfl (by decide) rfl ?_
  refine pw_sub [1, 0] (LV2 := [(0, .ref (G.2.2 + x0)), (1, .int (pI S x0 7))]) rfl ?_
  obtain ⟨n9, h⟩ := h
  exact cbX12_takesBack_b5 C hr hin  n9 _ _ _ h

abbrev rmX12_mayDecide : Room := { frames := 2, cells := 0, slots := 0, locals := 44 }
theorem iX12_mayDecide_X12 : ∀ w ∈ u_ws RX12 TX12 32, w ∈ wsX12_mayDecide := fun _ h => List.mem_cons_of_mem _ (List.mem_append_right _ h)
def wpX12_mayDecide_b53  (Q : Int32 → PS → Prop) (S : PS) (x0 : Nat) (x1 : Int32) (x2 : Int32) (t0 : Nat) (t1 : Int32) : Prop := (pK S t0 = 11 ∧ (wpX12_may S t0 t1 (3 : Int32) (fun r2 S3 => ((r2 = 0 → (Q (0 : Int32) S3)) ∧ (¬ r2 = 0 → (Q (1 : Int32) S3))))))
def wpX12_mayDecide_b52  (Q : Int32 → PS → Prop) (S : PS) (x0 : Nat) (x1 : Int32) (x2 : Int32) (t0 : Nat) : Prop := (wpX12_mayDecide_b53 Q S x0 x1 x2 t0 (0 : Int32))
def wpX12_mayDecide (S : PS) (x0 : Nat) (x1 : Int32) (x2 : Int32) (Q : Int32 → PS → Prop) : Prop := (pK S x0 = 11 ∧ (wpX12_isVariable S x0 x1 (fun r5 S6 => (pK S6 x0 = 11 ∧ (wpX12_may S6 x0 r5 (1 : Int32) (fun r8 S9 => ((r8 = 0 → (Q (0 : Int32) S9)) ∧ (¬ r8 = 0 → (pK S9 x0 = 11 ∧ (wpX12_isValue S9 x0 x1 x2 (fun r11 S12 => (pK S12 x0 = 11 ∧ (wpX12_may S12 x0 r11 (2 : Int32) (fun r14 S15 => ((r14 = 0 → (Q (0 : Int32) S15)) ∧ (¬ r14 = 0 → (pK S15 x0 = 11 ∧ (∃ o17, pR S15 x0 3 = some o17 ∧ (pK S15 o17 = 13 ∧ (vp_in x1 (pL S15 o17) ∧ (wpX12_sizeOf S15 (pI S15 o17 (x1).toNatClampNeg) (fun r20 S21 => ((r20 ≤ (1 : Int32) → (wpX12_mayDecide_b52 Q S21 x0 x1 x2 x0)) ∧ (¬ r20 ≤ (1 : Int32) → (pK S21 x0 = 11 ∧ ((¬ (pI S21 x0 11) = 0 → (wpX12_mayDecide_b52 Q S21 x0 x1 x2 x0)) ∧ ((pI S21 x0 11) = 0 → (wpX12_mayDecide_b53 Q S21 x0 x1 x2 x0 (1 : Int32)))))))))))))))))))))))))))))
set_option maxRecDepth 100000 in
set_option maxHeartbeats 4000000 in
theorem cbX12_mayDecide_b53 {p : Program} {l : Launch} {e : Env} {s : State} {m : MethodId} {args : Array Value} {below : List Frame} {meth : Method} {c : Code} {G : PG} {Q : Int32 → PS → Prop} (C : pCx p s m args meth c G cX12_mayDecide 3 yX12_mayDecide.cls wsX12_mayDecide) (hr : meth.sig.returnType = (some .boolean)) (hin : meth.name = yX12_mayDecide.name)  : ∀ (S : PS) (x0 : Nat) (x1 : Int32) (x2 : Int32) (t0 : Nat) (t1 : Int32), wpX12_mayDecide_b53  Q S x0 x1 x2 t0 t1 → PW p l e rmX12_mayDecide s m args below meth c (MQ below (va_Qi Q (pB G) (pFr G)) args s rmX12_mayDecide.cells rmX12_mayDecide.slots (pFr G)) G 3 S 0 0 [(0, .ref (G.2.2 + x0)), (1, .int x1), (2, .int x2)] 53 (.int t1 :: .ref (G.2.2 + t0) :: []) := by
  intro S x0 x1 x2 t0 t1 h
  unfold wpX12_mayDecide_b53 at h
  refine pw_iconst (pc := 53) (v := 3 ) C dX12_mayDecide_53 (by decide) ?_
  obtain ⟨hk1, h⟩ := h
  refine pw_calli (pc := 54) (kc2 := 0) (kn2 := 0) (pRunV (pc := 54) C (ctX12_may l G  _ t0 t1 (3 : Int32) _ h) (cwV 2 C.2.2.2.2.1 gX12_mayDecide_X12_may rfl rfl rfl (by decide +kernel) ⟨Nat.le_of_ble_eq_true rfl, Nat.le_of_ble_eq_true rfl⟩) pCl10 hk1 rfl rfl (Nat.le_of_ble_eq_true rfl) dX12_mayDecide_54 ⟨Nat.le_of_ble_eq_true rfl, Nat.le_of_ble_eq_true rfl⟩) rfl rfl (fun r2 S3 h => ?_)
  refine pw_if_eq (pc := 57) (tgt := 64) C dX12_mayDecide_57 rfl ⟨fun hc => ?_, fun hc => ?_⟩
  · replace h := h.1 hc
    refine pw_iconst (pc := 64) (v := 0 ) C dX12_mayDecide_64 (by decide) ?_
    exact pw_zret (pc := 65) C hr rfl h dX12_mayDecide_65
  · replace h := h.2 hc
    refine pw_iconst (pc := 60) (v := 1 ) C dX12_mayDecide_60 (by decide) ?_
    refine pw_goto (pc := 61) (tgt := 65) C dX12_mayDecide_61 rfl ?_
    exact pw_zret (pc := 65) C hr rfl h dX12_mayDecide_65
set_option maxRecDepth 100000 in
set_option maxHeartbeats 4000000 in
theorem cbX12_mayDecide_b52 {p : Program} {l : Launch} {e : Env} {s : State} {m : MethodId} {args : Array Value} {below : List Frame} {meth : Method} {c : Code} {G : PG} {Q : Int32 → PS → Prop} (C : pCx p s m args meth c G cX12_mayDecide 3 yX12_mayDecide.cls wsX12_mayDecide) (hr : meth.sig.returnType = (some .boolean)) (hin : meth.name = yX12_mayDecide.name)  : ∀ (S : PS) (x0 : Nat) (x1 : Int32) (x2 : Int32) (t0 : Nat), wpX12_mayDecide_b52  Q S x0 x1 x2 t0 → PW p l e rmX12_mayDecide s m args below meth c (MQ below (va_Qi Q (pB G) (pFr G)) args s rmX12_mayDecide.cells rmX12_mayDecide.slots (pFr G)) G 3 S 0 0 [(0, .ref (G.2.2 + x0)), (1, .int x1), (2, .int x2)] 52 (.ref (G.2.2 + t0) :: []) := by
  intro S x0 x1 x2 t0 h
  unfold wpX12_mayDecide_b52 at h
  refine pw_iconst (pc := 52) (v := 0 ) C dX12_mayDecide_52 (by decide) ?_
  exact cbX12_mayDecide_b53 C hr hin  _ _ _ _ _ _ h
set_option maxRecDepth 100000 in
set_option maxHeartbeats 4000000 in
theorem ctX12_mayDecide (l : Launch) (G : PG) (S : PS) (x0 : Nat) (x1 : Int32) (x2 : Int32) (Q : Int32 → PS → Prop) (h : wpX12_mayDecide S x0 x1 x2 Q) : mI l yX12_mayDecide wsX12_mayDecide rmX12_mayDecide G S [.ref (G.2.2 + x0), .int x1, .int x2] Q := by
  unfold mI
  refine met_of (cc := cX12_mayDecide) (maxL := 3) (ret := (some .boolean)) (by decide) rfl (Nat.le_of_ble_eq_true rfl) ?_
  intro p e s m args below meth c C hr hin
  unfold wpX12_mayDecide at h
  show PW p l e _ s m args below meth c _ G 3 S 0 0 [(0, .ref (G.2.2 + x0)), (1, .int x1), (2, .int x2)] 0 []
  refine pw_aload_n (pc := 0) C 0 dX12_mayDecide_0 rfl rfl ?_
  refine pw_aload_n (pc := 1) C 0 dX12_mayDecide_1 rfl rfl ?_
  refine pw_iload_n (pc := 2) C 1 dX12_mayDecide_2 rfl rfl ?_
  obtain ⟨hk4, h⟩ := h
  refine pw_calli (pc := 3) (kc2 := 0) (kn2 := 0) (pRunV (pc := 3) C (ctX12_isVariable l G  _ x0 x1 _ h) (cwV 1 C.2.2.2.2.1 gX12_mayDecide_X12_isVariable rfl rfl rfl (by decide +kernel) ⟨Nat.le_of_ble_eq_true rfl, Nat.le_of_ble_eq_true rfl⟩) pCl10 hk4 rfl rfl (Nat.le_of_ble_eq_true rfl) dX12_mayDecide_3 ⟨Nat.le_of_ble_eq_true rfl, Nat.le_of_ble_eq_true rfl⟩) rfl rfl (fun r5 S6 h => ?_)
  refine pw_iconst (pc := 6) (v := 1 ) C dX12_mayDecide_6 (by decide) ?_
  obtain ⟨hk7, h⟩ := h
  refine pw_calli (pc := 7) (kc2 := 0) (kn2 := 0) (pRunV (pc := 7) C (ctX12_may l G  _ x0 r5 (1 : Int32) _ h) (cwV 2 C.2.2.2.2.1 gX12_mayDecide_X12_may rfl rfl rfl (by decide +kernel) ⟨Nat.le_of_ble_eq_true rfl, Nat.le_of_ble_eq_true rfl⟩) pCl10 hk7 rfl rfl (Nat.le_of_ble_eq_true rfl) dX12_mayDecide_7 ⟨Nat.le_of_ble_eq_true rfl, Nat.le_of_ble_eq_true rfl⟩) rfl rfl (fun r8 S9 h => ?_)
  refine pw_if_eq (pc := 10) (tgt := 64) C dX12_mayDecide_10 rfl ⟨fun hc => ?_, fun hc => ?_⟩
  · replace h := h.1 hc
    refine pw_iconst (pc := 64) (v := 0 ) C dX12_mayDecide_64 (by decide) ?_
    exact pw_zret (pc := 65) C hr rfl h dX12_mayDecide_65
  · replace h := h.2 hc
    refine pw_aload_n (pc := 13) C 0 dX12_mayDecide_13 rfl rfl ?_
    refine pw_aload_n (pc := 14) C 0 dX12_mayDecide_14 rfl rfl ?_
    refine pw_iload_n (pc := 15) C 1 dX12_mayDecide_15 rfl rfl ?_
    refine pw_iload_n (pc := 16) C 2 dX12_mayDecide_16 rfl rfl ?_
    obtain ⟨hk10, h⟩ := h
    refine pw_calli (pc := 17) (kc2 := 0) (kn2 := 0) (pRunV (pc := 17) C (ctX12_isValue l G  _ x0 x1 x2 _ h) (cwV 2 C.2.2.2.2.1 gX12_mayDecide_X12_isValue rfl rfl rfl (by decide +kernel) ⟨Nat.le_of_ble_eq_true rfl, Nat.le_of_ble_eq_true rfl⟩) pCl10 hk10 rfl rfl (Nat.le_of_ble_eq_true rfl) dX12_mayDecide_17 ⟨Nat.le_of_ble_eq_true rfl, Nat.le_of_ble_eq_true rfl⟩) rfl rfl (fun r11 S12 h => ?_)
    refine pw_iconst (pc := 20) (v := 2 ) C dX12_mayDecide_20 (by decide) ?_
    obtain ⟨hk13, h⟩ := h
    refine pw_calli (pc := 21) (kc2 := 0) (kn2 := 0) (pRunV (pc := 21) C (ctX12_may l G  _ x0 r11 (2 : Int32) _ h) (cwV 2 C.2.2.2.2.1 gX12_mayDecide_X12_may rfl rfl rfl (by decide +kernel) ⟨Nat.le_of_ble_eq_true rfl, Nat.le_of_ble_eq_true rfl⟩) pCl10 hk13 rfl rfl (Nat.le_of_ble_eq_true rfl) dX12_mayDecide_21 ⟨Nat.le_of_ble_eq_true rfl, Nat.le_of_ble_eq_true rfl⟩) rfl rfl (fun r14 S15 h => ?_)
    refine pw_if_eq (pc := 24) (tgt := 64) C dX12_mayDecide_24 rfl ⟨fun hc => ?_, fun hc => ?_⟩
    · replace h := h.1 hc
      refine pw_iconst (pc := 64) (v := 0 ) C dX12_mayDecide_64 (by decide) ?_
      exact pw_zret (pc := 65) C hr rfl h dX12_mayDecide_65
    · replace h := h.2 hc
      refine pw_aload_n (pc := 27) C 0 dX12_mayDecide_27 rfl rfl ?_
      refine pw_aload_n (pc := 28) C 0 dX12_mayDecide_28 rfl rfl ?_
      obtain ⟨hk16, h⟩ := h
      obtain ⟨o17, ho17, h⟩ := h
      refine pw_getR (pc := 29) (ref := "SupportSolverModel") (k := 3) (index := 16) C pCl10 iX12_mayDecide_X12 hk16 rfl (by decide +kernel) (Or.inl rfl) (o := o17) ho17 dX12_mayDecide_29 ?_
      refine pw_iload_n (pc := 32) C 1 dX12_mayDecide_32 rfl rfl ?_
      obtain ⟨hk18, h⟩ := h
      obtain ⟨hi19, h⟩ := h
      refine pw_iald (pc := 33) C hk18 hi19 dX12_mayDecide_33 ?_
      refine pw_calli (pc := 34) (kc2 := 0) (kn2 := 0) (pRunS (pc := 34) C (ctX12_sizeOf l G  _ (pI S15 o17 (x1).toNatClampNeg) _ h) (va_cwS 1 C.2.2.2.2.1 gX12_mayDecide_X12_sizeOf rfl rfl rfl (by decide +kernel) ⟨Nat.le_of_ble_eq_true rfl, Nat.le_of_ble_eq_true rfl⟩) rfl rfl (Nat.le_of_ble_eq_true rfl) dX12_mayDecide_34 ⟨Nat.le_of_ble_eq_true rfl, Nat.le_of_ble_eq_true rfl⟩) rfl rfl (fun r20 S21 h => ?_)
      refine pw_iconst (pc := 37) (v := 1 ) C dX12_mayDecide_37 (by decide) ?_
      refine pw_icmp_le (pc := 38) (tgt := 52) C dX12_mayDecide_38 rfl ⟨fun hc => ?_, fun hc => ?_⟩
      · replace h := h.1 hc
        exact cbX12_mayDecide_b52 C hr hin  _ _ _ _ _ h
      · replace h := h.2 hc
        refine pw_aload_n (pc := 41) C 0 dX12_mayDecide_41 rfl rfl ?_
        obtain ⟨hk22, h⟩ := h
        refine pw_getI (pc := 42) (ref := "SupportSolverModel") (k := 11) (index := 85) C pCl10 iX12_mayDecide_X12 hk22 rfl (by decide +kernel) (Or.inl rfl) dX12_mayDecide_42 ?_
        refine pw_if_ne (pc := 45) (tgt := 52) C dX12_mayDecide_45 rfl ⟨fun hc => ?_, fun hc => ?_⟩
        · replace h := h.1 hc
          exact cbX12_mayDecide_b52 C hr hin  _ _ _ _ _ h
        · replace h := h.2 hc
          refine pw_iconst (pc := 48) (v := 1 ) C dX12_mayDecide_48 (by decide) ?_
          refine pw_goto (pc := 49) (tgt := 53) C dX12_mayDecide_49 rfl ?_
          exact cbX12_mayDecide_b53 C hr hin  _ _ _ _ _ _ h

abbrev rmX12_decide : Room := { frames := 7, cells := 0, slots := 0, locals := 180 }
theorem iX12_decide_X12 : ∀ w ∈ u_ws RX12 TX12 32, w ∈ wsX12_decide := fun _ h => List.mem_cons_of_mem _ (List.mem_append_right _ h)
def wpX12_decide (S : PS) (x0 : Nat) (x1 : Int32) (x2 : Int32) (Q : Int32 → PS → Prop) : Prop := (pK S x0 = 11 ∧ (wpX12_mayDecide (sI S x0 0 (0 : Int32)) x0 x1 x2 (fun r2 S3 => ((¬ r2 = 0 → (pK S3 x0 = 11 ∧ (wpX12_decides (sI S3 x0 10 ((pI S3 x0 10) + (1 : Int32))) x0 x1 x2 (fun r5 S6 => (Q r5 S6))))) ∧ (r2 = 0 → (Q (0 : Int32) S3))))))
set_option maxRecDepth 100000 in
set_option maxHeartbeats 4000000 in
theorem ctX12_decide (l : Launch) (G : PG) (S : PS) (x0 : Nat) (x1 : Int32) (x2 : Int32) (Q : Int32 → PS → Prop) (h : wpX12_decide S x0 x1 x2 Q) : mI l yX12_decide wsX12_decide rmX12_decide G S [.ref (G.2.2 + x0), .int x1, .int x2] Q := by
  unfold mI
  refine met_of (cc := cX12_decide) (maxL := 3) (ret := (some .int)) (by decide) rfl (Nat.le_of_ble_eq_true rfl) ?_
  intro p e s m args below meth c C hr hin
  unfold wpX12_decide at h
  show PW p l e _ s m args below meth c _ G 3 S 0 0 [(0, .ref (G.2.2 + x0)), (1, .int x1), (2, .int x2)] 0 []
  refine pw_aload_n (pc := 0) C 0 dX12_decide_0 rfl rfl ?_
  refine pw_iconst (pc := 1) (v := 0 ) C dX12_decide_1 (by decide) ?_
  obtain ⟨hk1, h⟩ := h
  refine pw_putI (pc := 2) (ref := "SupportSolverModel") (k := 0) (index := 70) C pCl10 iX12_decide_X12 hk1 rfl (by decide +kernel) (Or.inl rfl) (Or.inl rfl) rfl rfl dX12_decide_2 ?_
  refine pw_aload_n (pc := 5) (S := (sI S x0 0 (0 : Int32))) C 0 dX12_decide_5 rfl rfl ?_
  refine pw_iload_n (pc := 6) (S := (sI S x0 0 (0 : Int32))) C 1 dX12_decide_6 rfl rfl ?_
  refine pw_iload_n (pc := 7) (S := (sI S x0 0 (0 : Int32))) C 2 dX12_decide_7 rfl rfl ?_
  refine pw_calli (pc := 8) (S := (sI S x0 0 (0 : Int32))) (kc2 := 0) (kn2 := 0) (pRunV (pc := 8) (S := (sI S x0 0 (0 : Int32))) C (ctX12_mayDecide l G  _ x0 x1 x2 _ h) (cwV 2 C.2.2.2.2.1 gX12_decide_X12_mayDecide rfl rfl rfl (by decide +kernel) ⟨Nat.le_of_ble_eq_true rfl, Nat.le_of_ble_eq_true rfl⟩) pCl10 hk1 rfl rfl (Nat.le_of_ble_eq_true rfl) dX12_decide_8 ⟨Nat.le_of_ble_eq_true rfl, Nat.le_of_ble_eq_true rfl⟩) rfl rfl (fun r2 S3 h => ?_)
  refine pw_if_ne (pc := 11) (tgt := 16) C dX12_decide_11 rfl ⟨fun hc => ?_, fun hc => ?_⟩
  · replace h := h.1 hc
    refine pw_aload_n (pc := 16) C 0 dX12_decide_16 rfl rfl ?_
    refine pw_dup (pc := 17) C dX12_decide_17 rfl ?_
    obtain ⟨hk4, h⟩ := h
    refine pw_getI (pc := 18) (ref := "SupportSolverModel") (k := 10) (index := 82) C pCl10 iX12_decide_X12 hk4 rfl (by decide +kernel) (Or.inl rfl) dX12_decide_18 ?_
    refine pw_iconst (pc := 21) (v := 1 ) C dX12_decide_21 (by decide) ?_
    refine pw_iadd (pc := 22) C dX12_decide_22 ?_
    refine pw_putI (pc := 23) (ref := "SupportSolverModel") (k := 10) (index := 82) C pCl10 iX12_decide_X12 hk4 rfl (by decide +kernel) (Or.inl rfl) (Or.inl rfl) rfl rfl dX12_decide_23 ?_
    refine pw_aload_n (pc := 26) (S := (sI S3 x0 10 ((pI S3 x0 10) + (1 : Int32)))) C 0 dX12_decide_26 rfl rfl ?_
    refine pw_iload_n (pc := 27) (S := (sI S3 x0 10 ((pI S3 x0 10) + (1 : Int32)))) C 1 dX12_decide_27 rfl rfl ?_
    refine pw_iload_n (pc := 28) (S := (sI S3 x0 10 ((pI S3 x0 10) + (1 : Int32)))) C 2 dX12_decide_28 rfl rfl ?_
    refine pw_calli (pc := 29) (S := (sI S3 x0 10 ((pI S3 x0 10) + (1 : Int32)))) (kc2 := 0) (kn2 := 0) (pRunV (pc := 29) (S := (sI S3 x0 10 ((pI S3 x0 10) + (1 : Int32)))) C (ctX12_decides l G  _ x0 x1 x2 _ h) (cwV 2 C.2.2.2.2.1 gX12_decide_X12_decides rfl rfl rfl (by decide +kernel) ⟨Nat.le_of_ble_eq_true rfl, Nat.le_of_ble_eq_true rfl⟩) pCl10 hk4 rfl rfl (Nat.le_of_ble_eq_true rfl) dX12_decide_29 ⟨Nat.le_of_ble_eq_true rfl, Nat.le_of_ble_eq_true rfl⟩) rfl rfl (fun r5 S6 h => ?_)
    exact pw_iret (pc := 32) C hr h dX12_decide_32
  · replace h := h.2 hc
    refine pw_iconst (pc := 14) (v := 0 ) C dX12_decide_14 (by decide) ?_
    exact pw_iret (pc := 15) C hr h dX12_decide_15

abbrev rmX12_back : Room := { frames := 1, cells := 0, slots := 0, locals := 22 }
theorem iX12_back_X12 : ∀ w ∈ u_ws RX12 TX12 32, w ∈ wsX12_back := fun _ h => List.mem_cons_of_mem _ (List.mem_append_right _ h)
def wpX12_back_b18  (Q : Int32 → PS → Prop) (S : PS) (x0 : Nat) (t0 : Nat) (t1 : Int32) : Prop := (pK S t0 = 11 ∧ (wpX12_may S t0 t1 (1 : Int32) (fun r2 S3 => ((r2 = 0 → (Q (0 : Int32) S3)) ∧ (¬ r2 = 0 → (pK S3 x0 = 11 ∧ (wpX12_takesBack S3 x0 (fun r5 S6 => (Q r5 S6)))))))))
def wpX12_back (S : PS) (x0 : Nat) (Q : Int32 → PS → Prop) : Prop := (pK S x0 = 11 ∧ (((pI (sI S x0 0 (0 : Int32)) x0 8) ≤ 0 → (wpX12_back_b18 Q (sI S x0 0 (0 : Int32)) x0 x0 (0 : Int32))) ∧ (¬ (pI (sI S x0 0 (0 : Int32)) x0 8) ≤ 0 → (wpX12_back_b18 Q (sI S x0 0 (0 : Int32)) x0 x0 (1 : Int32)))))
set_option maxRecDepth 100000 in
set_option maxHeartbeats 4000000 in
theorem cbX12_back_b18 {p : Program} {l : Launch} {e : Env} {s : State} {m : MethodId} {args : Array Value} {below : List Frame} {meth : Method} {c : Code} {G : PG} {Q : Int32 → PS → Prop} (C : pCx p s m args meth c G cX12_back 1 yX12_back.cls wsX12_back) (hr : meth.sig.returnType = (some .int)) (hin : meth.name = yX12_back.name)  : ∀ (S : PS) (x0 : Nat) (t0 : Nat) (t1 : Int32), wpX12_back_b18  Q S x0 t0 t1 → PW p l e rmX12_back s m args below meth c (MQ below (va_Qi Q (pB G) (pFr G)) args s rmX12_back.cells rmX12_back.slots (pFr G)) G 1 S 0 0 [(0, .ref (G.2.2 + x0))] 18 (.int t1 :: .ref (G.2.2 + t0) :: []) := by
  intro S x0 t0 t1 h
  unfold wpX12_back_b18 at h
  refine pw_iconst (pc := 18) (v := 1 ) C dX12_back_18 (by decide) ?_
  obtain ⟨hk1, h⟩ := h
  refine pw_calli (pc := 19) (kc2 := 0) (kn2 := 0) (pRunV (pc := 19) C (ctX12_may l G  _ t0 t1 (1 : Int32) _ h) (cwV 2 C.2.2.2.2.1 gX12_back_X12_may rfl rfl rfl (by decide +kernel) ⟨Nat.le_of_ble_eq_true rfl, Nat.le_of_ble_eq_true rfl⟩) pCl10 hk1 rfl rfl (Nat.le_of_ble_eq_true rfl) dX12_back_19 ⟨Nat.le_of_ble_eq_true rfl, Nat.le_of_ble_eq_true rfl⟩) rfl rfl (fun r2 S3 h => ?_)
  refine pw_if_eq (pc := 22) (tgt := 32) C dX12_back_22 rfl ⟨fun hc => ?_, fun hc => ?_⟩
  · replace h := h.1 hc
    refine pw_iconst (pc := 32) (v := 0 ) C dX12_back_32 (by decide) ?_
    exact pw_iret (pc := 33) C hr h dX12_back_33
  · replace h := h.2 hc
    refine pw_aload_n (pc := 25) C 0 dX12_back_25 rfl rfl ?_
    obtain ⟨hk4, h⟩ := h
    refine pw_calli (pc := 26) (kc2 := 0) (kn2 := 0) (pRunV (pc := 26) C (ctX12_takesBack l G  _ x0 _ h) (cwV 0 C.2.2.2.2.1 gX12_back_X12_takesBack rfl rfl rfl (by decide +kernel) ⟨Nat.le_of_ble_eq_true rfl, Nat.le_of_ble_eq_true rfl⟩) pCl10 hk4 rfl rfl (Nat.le_of_ble_eq_true rfl) dX12_back_26 ⟨Nat.le_of_ble_eq_true rfl, Nat.le_of_ble_eq_true rfl⟩) rfl rfl (fun r5 S6 h => ?_)
    refine pw_goto (pc := 29) (tgt := 33) C dX12_back_29 rfl ?_
    exact pw_iret (pc := 33) C hr h dX12_back_33
set_option maxRecDepth 100000 in
set_option maxHeartbeats 4000000 in
theorem ctX12_back (l : Launch) (G : PG) (S : PS) (x0 : Nat) (Q : Int32 → PS → Prop) (h : wpX12_back S x0 Q) : mI l yX12_back wsX12_back rmX12_back G S [.ref (G.2.2 + x0)] Q := by
  unfold mI
  refine met_of (cc := cX12_back) (maxL := 1) (ret := (some .int)) (by decide) rfl (Nat.le_of_ble_eq_true rfl) ?_
  intro p e s m args below meth c C hr hin
  unfold wpX12_back at h
  show PW p l e _ s m args below meth c _ G 1 S 0 0 [(0, .ref (G.2.2 + x0))] 0 []
  refine pw_aload_n (pc := 0) C 0 dX12_back_0 rfl rfl ?_
  refine pw_iconst (pc := 1) (v := 0 ) C dX12_back_1 (by decide) ?_
  obtain ⟨hk7, h⟩ := h
  refine pw_putI (pc := 2) (ref := "SupportSolverModel") (k := 0) (index := 70) C pCl10 iX12_back_X12 hk7 rfl (by decide +kernel) (Or.inl rfl) (Or.inl rfl) rfl rfl dX12_back_2 ?_
  refine pw_aload_n (pc := 5) (S := (sI S x0 0 (0 : Int32))) C 0 dX12_back_5 rfl rfl ?_
  refine pw_aload_n (pc := 6) (S := (sI S x0 0 (0 : Int32))) C 0 dX12_back_6 rfl rfl ?_
  refine pw_getI (pc := 7) (S := (sI S x0 0 (0 : Int32))) (ref := "SupportSolverModel") (k := 8) (index := 76) C pCl10 iX12_back_X12 hk7 rfl (by decide +kernel) (Or.inl rfl) dX12_back_7 ?_
  refine pw_if_le (pc := 10) (S := (sI S x0 0 (0 : Int32))) (tgt := 17) C dX12_back_10 rfl ⟨fun hc => ?_, fun hc => ?_⟩
  · replace h := h.1 hc
    refine pw_iconst (pc := 17) (S := (sI S x0 0 (0 : Int32))) (v := 0 ) C dX12_back_17 (by decide) ?_
    exact cbX12_back_b18 C hr hin  _ _ _ _ h
  · replace h := h.2 hc
    refine pw_iconst (pc := 13) (S := (sI S x0 0 (0 : Int32))) (v := 1 ) C dX12_back_13 (by decide) ?_
    refine pw_goto (pc := 14) (S := (sI S x0 0 (0 : Int32))) (tgt := 18) C dX12_back_14 rfl ?_
    exact cbX12_back_b18 C hr hin  _ _ _ _ h

abbrev rmX12_decision : Room := { frames := 1, cells := 0, slots := 0, locals := 22 }
theorem iX12_decision_X12 : ∀ w ∈ u_ws RX12 TX12 32, w ∈ wsX12_decision := fun _ h => List.mem_cons_of_mem _ (List.mem_append_right _ h)
def wpX12_decision (S : PS) (x0 : Nat) (x1 : Int32) (Q : Int32 → PS → Prop) : Prop := (pK S x0 = 11 ∧ (wpX12_isIn (sI S x0 0 (0 : Int32)) x1 (0 : Int32) ((pI (sI S x0 0 (0 : Int32)) x0 8) - (1 : Int32)) (fun r2 S3 => (pK S3 x0 = 11 ∧ (wpX12_may S3 x0 r2 (1 : Int32) (fun r5 S6 => ((r5 = 0 → (Q (0 : Int32) S6)) ∧ (¬ r5 = 0 → (pK S6 x0 = 11 ∧ (∃ o8, pR S6 x0 5 = some o8 ∧ (pK S6 o8 = 13 ∧ (vp_in ((2 : Int32) * x1) (pL S6 o8) ∧ (vp_in (((2 : Int32) * x1) + (1 : Int32)) (pL S6 o8) ∧ (Q (((10 : Int32) * (pI S6 o8 (((2 : Int32) * x1)).toNatClampNeg)) + (pI S6 o8 ((((2 : Int32) * x1) + (1 : Int32))).toNatClampNeg)) S6))))))))))))))
set_option maxRecDepth 100000 in
set_option maxHeartbeats 4000000 in
theorem ctX12_decision (l : Launch) (G : PG) (S : PS) (x0 : Nat) (x1 : Int32) (Q : Int32 → PS → Prop) (h : wpX12_decision S x0 x1 Q) : mI l yX12_decision wsX12_decision rmX12_decision G S [.ref (G.2.2 + x0), .int x1] Q := by
  unfold mI
  refine met_of (cc := cX12_decision) (maxL := 2) (ret := (some .int)) (by decide) rfl (Nat.le_of_ble_eq_true rfl) ?_
  intro p e s m args below meth c C hr hin
  unfold wpX12_decision at h
  show PW p l e _ s m args below meth c _ G 2 S 0 0 [(0, .ref (G.2.2 + x0)), (1, .int x1)] 0 []
  refine pw_aload_n (pc := 0) C 0 dX12_decision_0 rfl rfl ?_
  refine pw_iconst (pc := 1) (v := 0 ) C dX12_decision_1 (by decide) ?_
  obtain ⟨hk1, h⟩ := h
  refine pw_putI (pc := 2) (ref := "SupportSolverModel") (k := 0) (index := 70) C pCl10 iX12_decision_X12 hk1 rfl (by decide +kernel) (Or.inl rfl) (Or.inl rfl) rfl rfl dX12_decision_2 ?_
  refine pw_aload_n (pc := 5) (S := (sI S x0 0 (0 : Int32))) C 0 dX12_decision_5 rfl rfl ?_
  refine pw_iload_n (pc := 6) (S := (sI S x0 0 (0 : Int32))) C 1 dX12_decision_6 rfl rfl ?_
  refine pw_iconst (pc := 7) (S := (sI S x0 0 (0 : Int32))) (v := 0 ) C dX12_decision_7 (by decide) ?_
  refine pw_aload_n (pc := 8) (S := (sI S x0 0 (0 : Int32))) C 0 dX12_decision_8 rfl rfl ?_
  refine pw_getI (pc := 9) (S := (sI S x0 0 (0 : Int32))) (ref := "SupportSolverModel") (k := 8) (index := 76) C pCl10 iX12_decision_X12 hk1 rfl (by decide +kernel) (Or.inl rfl) dX12_decision_9 ?_
  refine pw_iconst (pc := 12) (S := (sI S x0 0 (0 : Int32))) (v := 1 ) C dX12_decision_12 (by decide) ?_
  refine pw_isub (pc := 13) (S := (sI S x0 0 (0 : Int32))) C dX12_decision_13 ?_
  refine pw_calli (pc := 14) (S := (sI S x0 0 (0 : Int32))) (kc2 := 0) (kn2 := 0) (pRunS (pc := 14) (S := (sI S x0 0 (0 : Int32))) C (ctX12_isIn l G  _ x1 (0 : Int32) ((pI (sI S x0 0 (0 : Int32)) x0 8) - (1 : Int32)) _ h) (va_cwS 3 C.2.2.2.2.1 gX12_decision_X12_isIn rfl rfl rfl (by decide +kernel) ⟨Nat.le_of_ble_eq_true rfl, Nat.le_of_ble_eq_true rfl⟩) rfl rfl (Nat.le_of_ble_eq_true rfl) dX12_decision_14 ⟨Nat.le_of_ble_eq_true rfl, Nat.le_of_ble_eq_true rfl⟩) rfl rfl (fun r2 S3 h => ?_)
  refine pw_iconst (pc := 17) (v := 1 ) C dX12_decision_17 (by decide) ?_
  obtain ⟨hk4, h⟩ := h
  refine pw_calli (pc := 18) (kc2 := 0) (kn2 := 0) (pRunV (pc := 18) C (ctX12_may l G  _ x0 r2 (1 : Int32) _ h) (cwV 2 C.2.2.2.2.1 gX12_decision_X12_may rfl rfl rfl (by decide +kernel) ⟨Nat.le_of_ble_eq_true rfl, Nat.le_of_ble_eq_true rfl⟩) pCl10 hk4 rfl rfl (Nat.le_of_ble_eq_true rfl) dX12_decision_18 ⟨Nat.le_of_ble_eq_true rfl, Nat.le_of_ble_eq_true rfl⟩) rfl rfl (fun r5 S6 h => ?_)
  refine pw_if_eq (pc := 21) (tgt := 49) C dX12_decision_21 rfl ⟨fun hc => ?_, fun hc => ?_⟩
  · replace h := h.1 hc
    refine pw_iconst (pc := 49) (v := 0 ) C dX12_decision_49 (by decide) ?_
    exact pw_iret (pc := 50) C hr h dX12_decision_50
  · replace h := h.2 hc
    refine pw_bipush (pc := 24) (v := 10 ) C dX12_decision_24 (by decide) ?_
    refine pw_aload_n (pc := 26) C 0 dX12_decision_26 rfl rfl ?_
    obtain ⟨hk7, h⟩ := h
    obtain ⟨o8, ho8, h⟩ := h
    refine pw_getR (pc := 27) (ref := "SupportSolverModel") (k := 5) (index := 22) C pCl10 iX12_decision_X12 hk7 rfl (by decide +kernel) (Or.inl rfl) (o := o8) ho8 dX12_decision_27 ?_
    refine pw_iconst (pc := 30) (v := 2 ) C dX12_decision_30 (by decide) ?_
    refine pw_iload_n (pc := 31) C 1 dX12_decision_31 rfl rfl ?_
    refine pw_imul (pc := 32) C dX12_decision_32 ?_
    obtain ⟨hk9, h⟩ := h
    obtain ⟨hi10, h⟩ := h
    refine pw_iald (pc := 33) C hk9 hi10 dX12_decision_33 ?_
    refine pw_imul (pc := 34) C dX12_decision_34 ?_
    refine pw_aload_n (pc := 35) C 0 dX12_decision_35 rfl rfl ?_
    refine pw_getR (pc := 36) (ref := "SupportSolverModel") (k := 5) (index := 22) C pCl10 iX12_decision_X12 hk7 rfl (by decide +kernel) (Or.inl rfl) (o := o8) ho8 dX12_decision_36 ?_
    refine pw_iconst (pc := 39) (v := 2 ) C dX12_decision_39 (by decide) ?_
    refine pw_iload_n (pc := 40) C 1 dX12_decision_40 rfl rfl ?_
    refine pw_imul (pc := 41) C dX12_decision_41 ?_
    refine pw_iconst (pc := 42) (v := 1 ) C dX12_decision_42 (by decide) ?_
    refine pw_iadd (pc := 43) C dX12_decision_43 ?_
    obtain ⟨hi11, h⟩ := h
    refine pw_iald (pc := 44) C hk9 hi11 dX12_decision_44 ?_
    refine pw_iadd (pc := 45) C dX12_decision_45 ?_
    refine pw_goto (pc := 46) (tgt := 50) C dX12_decision_46 rfl ?_
    exact pw_iret (pc := 50) C hr h dX12_decision_50

abbrev rmX12_probe : Room := { frames := 7, cells := 0, slots := 0, locals := 180 }
theorem iX12_probe_X12 : ∀ w ∈ u_ws RX12 TX12 32, w ∈ wsX12_probe := fun _ h => List.mem_cons_of_mem _ (List.mem_append_right _ h)
def wpX12_probe (S : PS) (x0 : Nat) (x1 : Int32) (x2 : Int32) (Q : Int32 → PS → Prop) : Prop := (pK S x0 = 11 ∧ (wpX12_mayDecide (sI S x0 0 (0 : Int32)) x0 x1 x2 (fun r2 S3 => ((¬ r2 = 0 → (pK S3 x0 = 11 ∧ (wpX12_decides S3 x0 x1 x2 (fun r5 S6 => (pK S6 x0 = 11 ∧ (wpX12_takesBack S6 x0 (fun r8 S9 => (((pI S6 x0 11) = 0 → (Q r8 S9)) ∧ (¬ (pI S6 x0 11) = 0 → (Q (-1 : Int32) S9)))))))))) ∧ (r2 = 0 → (Q (0 : Int32) S3))))))
set_option maxRecDepth 100000 in
set_option maxHeartbeats 4000000 in
theorem ctX12_probe (l : Launch) (G : PG) (S : PS) (x0 : Nat) (x1 : Int32) (x2 : Int32) (Q : Int32 → PS → Prop) (h : wpX12_probe S x0 x1 x2 Q) : mI l yX12_probe wsX12_probe rmX12_probe G S [.ref (G.2.2 + x0), .int x1, .int x2] Q := by
  unfold mI
  refine met_of (cc := cX12_probe) (maxL := 6) (ret := (some .int)) (by decide) rfl (Nat.le_of_ble_eq_true rfl) ?_
  intro p e s m args below meth c C hr hin
  unfold wpX12_probe at h
  show PW p l e _ s m args below meth c _ G 6 S 0 0 [(0, .ref (G.2.2 + x0)), (1, .int x1), (2, .int x2)] 0 []
  refine pw_aload_n (pc := 0) C 0 dX12_probe_0 rfl rfl ?_
  refine pw_iconst (pc := 1) (v := 0 ) C dX12_probe_1 (by decide) ?_
  obtain ⟨hk1, h⟩ := h
  refine pw_putI (pc := 2) (ref := "SupportSolverModel") (k := 0) (index := 70) C pCl10 iX12_probe_X12 hk1 rfl (by decide +kernel) (Or.inl rfl) (Or.inl rfl) rfl rfl dX12_probe_2 ?_
  refine pw_aload_n (pc := 5) (S := (sI S x0 0 (0 : Int32))) C 0 dX12_probe_5 rfl rfl ?_
  refine pw_iload_n (pc := 6) (S := (sI S x0 0 (0 : Int32))) C 1 dX12_probe_6 rfl rfl ?_
  refine pw_iload_n (pc := 7) (S := (sI S x0 0 (0 : Int32))) C 2 dX12_probe_7 rfl rfl ?_
  refine pw_calli (pc := 8) (S := (sI S x0 0 (0 : Int32))) (kc2 := 0) (kn2 := 0) (pRunV (pc := 8) (S := (sI S x0 0 (0 : Int32))) C (ctX12_mayDecide l G  _ x0 x1 x2 _ h) (cwV 2 C.2.2.2.2.1 gX12_probe_X12_mayDecide rfl rfl rfl (by decide +kernel) ⟨Nat.le_of_ble_eq_true rfl, Nat.le_of_ble_eq_true rfl⟩) pCl10 hk1 rfl rfl (Nat.le_of_ble_eq_true rfl) dX12_probe_8 ⟨Nat.le_of_ble_eq_true rfl, Nat.le_of_ble_eq_true rfl⟩) rfl rfl (fun r2 S3 h => ?_)
  refine pw_if_ne (pc := 11) (tgt := 16) C dX12_probe_11 rfl ⟨fun hc => ?_, fun hc => ?_⟩
  · replace h := h.1 hc
    refine pw_aload_n (pc := 16) C 0 dX12_probe_16 rfl rfl ?_
    refine pw_iload_n (pc := 17) C 1 dX12_probe_17 rfl rfl ?_
    refine pw_iload_n (pc := 18) C 2 dX12_probe_18 rfl rfl ?_
    obtain ⟨hk4, h⟩ := h
    refine pw_calli (pc := 19) (kc2 := 0) (kn2 := 0) (pRunV (pc := 19) C (ctX12_decides l G  _ x0 x1 x2 _ h) (cwV 2 C.2.2.2.2.1 gX12_probe_X12_decides rfl rfl rfl (by decide +kernel) ⟨Nat.le_of_ble_eq_true rfl, Nat.le_of_ble_eq_true rfl⟩) pCl10 hk4 rfl rfl (Nat.le_of_ble_eq_true rfl) dX12_probe_19 ⟨Nat.le_of_ble_eq_true rfl, Nat.le_of_ble_eq_true rfl⟩) rfl rfl (fun r5 S6 h => ?_)
    refine pw_istore_n (pc := 22) C [(3, .int r5), (0, .ref (G.2.2 + x0)), (1, .int x1), (2, .int x2)] dX12_probe_22 rfl (by decide) rfl ?_
    refine pw_aload_n (pc := 23) C 1 dX12_probe_23 rfl rfl ?_
    obtain ⟨hk7, h⟩ := h
    refine pw_getI (pc := 24) (ref := "SupportSolverModel") (k := 11) (index := 85) C pCl10 iX12_probe_X12 hk7 rfl (by decide +kernel) (Or.inl rfl) dX12_probe_24 ?_
    refine pw_istore (pc := 27) C [(4, .int (pI S6 x0 11)), (3, .int r5), (0, .ref (G.2.2 + x0)), (1, .int x1), (2, .int x2)] dX12_probe_27 (by decide) rfl ?_
    refine pw_aload_n (pc := 29) C 2 dX12_probe_29 rfl rfl ?_
    refine pw_calli (pc := 30) (kc2 := 0) (kn2 := 0) (pRunV (pc := 30) C (ctX12_takesBack l G  _ x0 _ h) (cwV 0 C.2.2.2.2.1 gX12_probe_X12_takesBack rfl rfl rfl (by decide +kernel) ⟨Nat.le_of_ble_eq_true rfl, Nat.le_of_ble_eq_true rfl⟩) pCl10 hk7 rfl rfl (Nat.le_of_ble_eq_true rfl) dX12_probe_30 ⟨Nat.le_of_ble_eq_true rfl, Nat.le_of_ble_eq_true rfl⟩) rfl rfl (fun r8 S9 h => ?_)
    refine pw_istore (pc := 33) C [(5, .int r8), (4, .int (pI S6 x0 11)), (3, .int r5), (0, .ref (G.2.2 + x0)), (1, .int x1), (2, .int x2)] dX12_probe_33 (by decide) rfl ?_
    refine pw_iload (pc := 35) C 1 dX12_probe_35 rfl ?_
    refine pw_if_eq (pc := 37) (tgt := 44) C dX12_probe_37 rfl ⟨fun hc => ?_, fun hc => ?_⟩
    · replace h := h.1 hc
      refine pw_iload (pc := 44) C 0 dX12_probe_44 rfl ?_
      exact pw_iret (pc := 46) C hr h dX12_probe_46
    · replace h := h.2 hc
      refine pw_iconst (pc := 40) (v := (-1)) C dX12_probe_40 (by decide) ?_
      refine pw_goto (pc := 41) (tgt := 46) C dX12_probe_41 rfl ?_
      exact pw_iret (pc := 46) C hr h dX12_probe_46
  · replace h := h.2 hc
    refine pw_iconst (pc := 14) (v := 0 ) C dX12_probe_14 (by decide) ?_
    exact pw_iret (pc := 15) C hr h dX12_probe_15

abbrev rmX12_makeFail : Room := { frames := 6, cells := 0, slots := 0, locals := 156 }
theorem iX12_makeFail_X12 : ∀ w ∈ u_ws RX12 TX12 32, w ∈ wsX12_makeFail := fun _ h => List.mem_cons_of_mem _ (List.mem_append_right _ h)
def wpX12_makeFail_b89  (Q : Int32 → PS → Prop) : Nat → PS → Nat → Int32 → Int32 → Prop
  | 0 => fun _ _ _ _ => False
  | n + 1 => fun S x0 x1 x2 => (pK S x0 = 11 ∧ (((pI S x0 8) ≤ x2 → (∃ o2, pR S x0 31 = some o2 ∧ (wpX12_sweeps S x0 o2 (0 : Int32) (fun r3 S4 => ((¬ r3 = 0 → (Q (0 : Int32) S4)) ∧ (r3 = 0 → (Q (1 : Int32) S4))))))) ∧ (¬ (pI S x0 8) ≤ x2 → (wpX12_has S x1 x2 (fun r5 S6 => ((r5 = 0 → (wpX12_makeFail_b89 Q n S6 x0 x1 (x2 + 1))) ∧ (¬ r5 = 0 → (pK S6 x0 = 11 ∧ (∃ o8, pR S6 x0 31 = some o8 ∧ (∃ o9, pR S6 x0 5 = some o9 ∧ (pK S6 o9 = 13 ∧ (vp_in ((2 : Int32) * x2) (pL S6 o9) ∧ (vp_in (((2 : Int32) * x2) + (1 : Int32)) (pL S6 o9) ∧ (pK S6 o8 = 13 ∧ (vp_in (pI S6 o9 (((2 : Int32) * x2)).toNatClampNeg) (pL S6 o8) ∧ (wpX12_makeFail_b89 Q n (sI S6 o8 ((pI S6 o9 (((2 : Int32) * x2)).toNatClampNeg)).toNatClampNeg ((1 : Int32) <<< ((pI S6 o9 ((((2 : Int32) * x2) + (1 : Int32))).toNatClampNeg) &&& 31))) x0 x1 (x2 + 1)))))))))))))))))
def wpX12_makeFail_b30  (Q : Int32 → PS → Prop) : Nat → PS → Nat → Int32 → Int32 → Prop
  | 0 => fun _ _ _ _ => False
  | n + 1 => fun S x0 x1 x2 => (pK S x0 = 11 ∧ (((pI S x0 7) ≤ x2 → (∃ n9 : Nat, wpX12_makeFail_b89 Q n9 S x0 x1 (0 : Int32))) ∧ (¬ (pI S x0 7) ≤ x2 → (∃ o16, pR S x0 4 = some o16 ∧ (pK S o16 = 13 ∧ (vp_in (((5 : Int32) * x2) + (3 : Int32)) (pL S o16) ∧ ((¬ (pI S o16 ((((5 : Int32) * x2) + (3 : Int32))).toNatClampNeg) = 0 → (∃ n9 : Nat, wpX12_makeFail_b89 Q n9 S x0 x1 (0 : Int32))) ∧ ((pI S o16 ((((5 : Int32) * x2) + (3 : Int32))).toNatClampNeg) = 0 → (∃ o19, pR S x0 31 = some o19 ∧ (vp_in ((5 : Int32) * x2) (pL S o16) ∧ (pK S o19 = 13 ∧ (vp_in (pI S o16 (((5 : Int32) * x2)).toNatClampNeg) (pL S o19) ∧ (vp_in (((5 : Int32) * x2) + (1 : Int32)) (pL S o16) ∧ (vp_in (pI S o16 (((5 : Int32) * x2)).toNatClampNeg) (pL S o19) ∧ (wpX12_makeFail_b30 Q n (sI S o19 ((pI S o16 (((5 : Int32) * x2)).toNatClampNeg)).toNatClampNeg ((pI S o19 ((pI S o16 (((5 : Int32) * x2)).toNatClampNeg)).toNatClampNeg) &&& (((1 : Int32) <<< ((pI S o16 ((((5 : Int32) * x2) + (1 : Int32))).toNatClampNeg) &&& 31)) ^^^ (-1 : Int32)))) x0 x1 (x2 + 1))))))))))))))))
def wpX12_makeFail_b2  (Q : Int32 → PS → Prop) : Nat → PS → Nat → Int32 → Int32 → Prop
  | 0 => fun _ _ _ _ => False
  | n + 1 => fun S x0 x1 x2 => (((7 : Int32) ≤ x2 → (∃ n9 : Nat, wpX12_makeFail_b30 Q n9 S x0 x1 (0 : Int32))) ∧ (¬ (7 : Int32) ≤ x2 → (pK S x0 = 11 ∧ (∃ o26, pR S x0 31 = some o26 ∧ (∃ o27, pR S x0 1 = some o27 ∧ (pK S o27 = 13 ∧ (vp_in ((2 : Int32) + x2) (pL S o27) ∧ (pK S o26 = 13 ∧ (vp_in x2 (pL S o26) ∧ (wpX12_makeFail_b2 Q n (sI S o26 (x2).toNatClampNeg (pI S o27 (((2 : Int32) + x2)).toNatClampNeg)) x0 x1 (x2 + 1)))))))))))
def wpX12_makeFail (S : PS) (x0 : Nat) (x1 : Int32) (Q : Int32 → PS → Prop) : Prop := (∃ n9 : Nat, wpX12_makeFail_b2 Q n9 S x0 x1 (0 : Int32))
set_option maxRecDepth 100000 in
set_option maxHeartbeats 4000000 in
theorem cbX12_makeFail_b89 {p : Program} {l : Launch} {e : Env} {s : State} {m : MethodId} {args : Array Value} {below : List Frame} {meth : Method} {c : Code} {G : PG} {Q : Int32 → PS → Prop} (C : pCx p s m args meth c G cX12_makeFail 3 yX12_makeFail.cls wsX12_makeFail) (hr : meth.sig.returnType = (some .boolean)) (hin : meth.name = yX12_makeFail.name)  (n : Nat) : ∀ (S : PS) (x0 : Nat) (x1 : Int32) (x2 : Int32), wpX12_makeFail_b89  Q n S x0 x1 x2 → PW p l e rmX12_makeFail s m args below meth c (MQ below (va_Qi Q (pB G) (pFr G)) args s rmX12_makeFail.cells rmX12_makeFail.slots (pFr G)) G 3 S 0 0 [(0, .ref (G.2.2 + x0)), (1, .int x1), (2, .int x2)] 89 ([]) := by
  induction n with
  | zero => intro S x0 x1 x2 h; exact h.elim
  | succ n ih =>
    intro S x0 x1 x2 h
    unfold wpX12_makeFail_b89 at h
    refine pw_iload_n (pc := 89) C 2 dX12_makeFail_89 rfl rfl ?_
    refine pw_aload_n (pc := 90) C 0 dX12_makeFail_90 rfl rfl ?_
    obtain ⟨hk1, h⟩ := h
    refine pw_getI (pc := 91) (ref := "SupportSolverModel") (k := 8) (index := 76) C pCl10 iX12_makeFail_X12 hk1 rfl (by decide +kernel) (Or.inl rfl) dX12_makeFail_91 ?_
    refine pw_icmp_ge (pc := 94) (tgt := 136) C dX12_makeFail_94 rfl ⟨fun hc => ?_, fun hc => ?_⟩
    · replace h := h.1 hc
      refine pw_aload_n (pc := 136) C 0 dX12_makeFail_136 rfl rfl ?_
      refine pw_aload_n (pc := 137) C 0 dX12_makeFail_137 rfl rfl ?_
      obtain ⟨o2, ho2, h⟩ := h
      refine pw_getR (pc := 138) (ref := "SupportSolverModel") (k := 31) (index := 64) C pCl10 iX12_makeFail_X12 hk1 rfl (by decide +kernel) (Or.inl rfl) (o := o2) ho2 dX12_makeFail_138 ?_
      refine pw_iconst (pc := 141) (v := 0 ) C dX12_makeFail_141 (by decide) ?_
      refine pw_calli (pc := 142) (kc2 := 0) (kn2 := 0) (pRunV (pc := 142) C (ctX12_sweeps l G  _ x0 o2 (0 : Int32) _ h) (cwV 2 C.2.2.2.2.1 gX12_makeFail_X12_sweeps rfl rfl rfl (by decide +kernel) ⟨Nat.le_of_ble_eq_true rfl, Nat.le_of_ble_eq_true rfl⟩) pCl10 hk1 rfl rfl (Nat.le_of_ble_eq_true rfl) dX12_makeFail_142 ⟨Nat.le_of_ble_eq_true rfl, Nat.le_of_ble_eq_true rfl⟩) rfl rfl (fun r3 S4 h => ?_)
      refine pw_if_ne (pc := 145) (tgt := 152) C dX12_makeFail_145 rfl ⟨fun hc => ?_, fun hc => ?_⟩
      · replace h := h.1 hc
        refine pw_iconst (pc := 152) (v := 0 ) C dX12_makeFail_152 (by decide) ?_
        exact pw_zret (pc := 153) C hr rfl h dX12_makeFail_153
      · replace h := h.2 hc
        refine pw_iconst (pc := 148) (v := 1 ) C dX12_makeFail_148 (by decide) ?_
        refine pw_goto (pc := 149) (tgt := 153) C dX12_makeFail_149 rfl ?_
        exact pw_zret (pc := 153) C hr rfl h dX12_makeFail_153
    · replace h := h.2 hc
      refine pw_iload_n (pc := 97) C 1 dX12_makeFail_97 rfl rfl ?_
      refine pw_iload_n (pc := 98) C 2 dX12_makeFail_98 rfl rfl ?_
      refine pw_calli (pc := 99) (kc2 := 0) (kn2 := 0) (pRunS (pc := 99) C (ctX12_has l G  _ x1 x2 _ h) (va_cwS 2 C.2.2.2.2.1 gX12_makeFail_X12_has rfl rfl rfl (by decide +kernel) ⟨Nat.le_of_ble_eq_true rfl, Nat.le_of_ble_eq_true rfl⟩) rfl rfl (Nat.le_of_ble_eq_true rfl) dX12_makeFail_99 ⟨Nat.le_of_ble_eq_true rfl, Nat.le_of_ble_eq_true rfl⟩) rfl rfl (fun r5 S6 h => ?_)
      refine pw_if_eq (pc := 102) (tgt := 130) C dX12_makeFail_102 rfl ⟨fun hc => ?_, fun hc => ?_⟩
      · replace h := h.1 hc
        refine pw_iincK (pc := 130) (w := 1) C [(2, .int (x2 + 1)), (0, .ref (G.2.2 + x0)), (1, .int x1)] 2 dX12_makeFail_130 (by decide) rfl (by decide) rfl ?_
        refine pw_goto (pc := 133) (tgt := 89) C dX12_makeFail_133 rfl ?_
        refine pw_sub [1, 2, 0] (LV2 := [(0, .ref (G.2.2 + x0)), (1, .int x1), (2, .int (x2 + 1))]) rfl ?_
        exact ih _ _ _ _ h
      · replace h := h.2 hc
        refine pw_aload_n (pc := 105) C 0 dX12_makeFail_105 rfl rfl ?_
        obtain ⟨hk7, h⟩ := h
        obtain ⟨o8, ho8, h⟩ := h
        refine pw_getR (pc := 106) (ref := "SupportSolverModel") (k := 31) (index := 64) C pCl10 iX12_makeFail_X12 hk7 rfl (by decide +kernel) (Or.inl rfl) (o := o8) ho8 dX12_makeFail_106 ?_
        refine pw_aload_n (pc := 109) C 0 dX12_makeFail_109 rfl rfl ?_
        obtain ⟨o9, ho9, h⟩ := h
        refine pw_getR (pc := 110) (ref := "SupportSolverModel") (k := 5) (index := 22) C pCl10 iX12_makeFail_X12 hk7 rfl (by decide +kernel) (Or.inl rfl) (o := o9) ho9 dX12_makeFail_110 ?_
        refine pw_iconst (pc := 113) (v := 2 ) C dX12_makeFail_113 (by decide) ?_
        refine pw_iload_n (pc := 114) C 2 dX12_makeFail_114 rfl rfl ?_
        refine pw_imul (pc := 115) C dX12_makeFail_115 ?_
        obtain ⟨hk10, h⟩ := h
        obtain ⟨hi11, h⟩ := h
        refine pw_iald (pc := 116) C hk10 hi11 dX12_makeFail_116 ?_
        refine pw_iconst (pc := 117) (v := 1 ) C dX12_makeFail_117 (by decide) ?_
        refine pw_aload_n (pc := 118) C 0 dX12_makeFail_118 rfl rfl ?_
        refine pw_getR (pc := 119) (ref := "SupportSolverModel") (k := 5) (index := 22) C pCl10 iX12_makeFail_X12 hk7 rfl (by decide +kernel) (Or.inl rfl) (o := o9) ho9 dX12_makeFail_119 ?_
        refine pw_iconst (pc := 122) (v := 2 ) C dX12_makeFail_122 (by decide) ?_
        refine pw_iload_n (pc := 123) C 2 dX12_makeFail_123 rfl rfl ?_
        refine pw_imul (pc := 124) C dX12_makeFail_124 ?_
        refine pw_iconst (pc := 125) (v := 1 ) C dX12_makeFail_125 (by decide) ?_
        refine pw_iadd (pc := 126) C dX12_makeFail_126 ?_
        obtain ⟨hi12, h⟩ := h
        refine pw_iald (pc := 127) C hk10 hi12 dX12_makeFail_127 ?_
        refine pw_ishl (pc := 128) C dX12_makeFail_128 ?_
        obtain ⟨hk13, h⟩ := h
        obtain ⟨hi14, h⟩ := h
        refine pw_iast (pc := 129) C hk13 hi14 dX12_makeFail_129 ?_
        refine pw_iincK (pc := 130) (S := (sI S6 o8 ((pI S6 o9 (((2 : Int32) * x2)).toNatClampNeg)).toNatClampNeg ((1 : Int32) <<< ((pI S6 o9 ((((2 : Int32) * x2) + (1 : Int32))).toNatClampNeg) &&& 31)))) (w := 1) C [(2, .int (x2 + 1)), (0, .ref (G.2.2 + x0)), (1, .int x1)] 2 dX12_makeFail_130 (by decide) rfl (by decide) rfl ?_
        refine pw_goto (pc := 133) (S := (sI S6 o8 ((pI S6 o9 (((2 : Int32) * x2)).toNatClampNeg)).toNatClampNeg ((1 : Int32) <<< ((pI S6 o9 ((((2 : Int32) * x2) + (1 : Int32))).toNatClampNeg) &&& 31)))) (tgt := 89) C dX12_makeFail_133 rfl ?_
        refine pw_sub [1, 2, 0] (LV2 := [(0, .ref (G.2.2 + x0)), (1, .int x1), (2, .int (x2 + 1))]) rfl ?_
        exact ih _ _ _ _ h
set_option maxRecDepth 100000 in
set_option maxHeartbeats 4000000 in
theorem cbX12_makeFail_b30 {p : Program} {l : Launch} {e : Env} {s : State} {m : MethodId} {args : Array Value} {below : List Frame} {meth : Method} {c : Code} {G : PG} {Q : Int32 → PS → Prop} (C : pCx p s m args meth c G cX12_makeFail 3 yX12_makeFail.cls wsX12_makeFail) (hr : meth.sig.returnType = (some .boolean)) (hin : meth.name = yX12_makeFail.name)  (n : Nat) : ∀ (S : PS) (x0 : Nat) (x1 : Int32) (x2 : Int32), wpX12_makeFail_b30  Q n S x0 x1 x2 → PW p l e rmX12_makeFail s m args below meth c (MQ below (va_Qi Q (pB G) (pFr G)) args s rmX12_makeFail.cells rmX12_makeFail.slots (pFr G)) G 3 S 0 0 [(0, .ref (G.2.2 + x0)), (1, .int x1), (2, .int x2)] 30 ([]) := by
  induction n with
  | zero => intro S x0 x1 x2 h; exact h.elim
  | succ n ih =>
    intro S x0 x1 x2 h
    unfold wpX12_makeFail_b30 at h
    refine pw_iload_n (pc := 30) C 2 dX12_makeFail_30 rfl rfl ?_
    refine pw_aload_n (pc := 31) C 0 dX12_makeFail_31 rfl rfl ?_
    obtain ⟨hk15, h⟩ := h
    refine pw_getI (pc := 32) (ref := "SupportSolverModel") (k := 7) (index := 73) C pCl10 iX12_makeFail_X12 hk15 rfl (by decide +kernel) (Or.inl rfl) dX12_makeFail_32 ?_
    refine pw_icmp_ge (pc := 35) (tgt := 87) C dX12_makeFail_35 rfl ⟨fun hc => ?_, fun hc => ?_⟩
    · replace h := h.1 hc
      refine pw_iconst (pc := 87) (v := 0 ) C dX12_makeFail_87 (by decide) ?_
      refine pw_istore_n (pc := 88) C [(2, .int (0 : Int32)), (0, .ref (G.2.2 + x0)), (1, .int x1)] dX12_makeFail_88 rfl (by decide) rfl ?_
      refine pw_sub [1, 2, 0] (LV2 := [(0, .ref (G.2.2 + x0)), (1, .int x1), (2, .int (0 : Int32))]) rfl ?_
      obtain ⟨n9, h⟩ := h
      exact cbX12_makeFail_b89 C hr hin  n9 _ _ _ _ h
    · replace h := h.2 hc
      refine pw_aload_n (pc := 38) C 0 dX12_makeFail_38 rfl rfl ?_
      obtain ⟨o16, ho16, h⟩ := h
      refine pw_getR (pc := 39) (ref := "SupportSolverModel") (k := 4) (index := 19) C pCl10 iX12_makeFail_X12 hk15 rfl (by decide +kernel) (Or.inl rfl) (o := o16) ho16 dX12_makeFail_39 ?_
      refine pw_iconst (pc := 42) (v := 5 ) C dX12_makeFail_42 (by decide) ?_
      refine pw_iload_n (pc := 43) C 2 dX12_makeFail_43 rfl rfl ?_
      refine pw_imul (pc := 44) C dX12_makeFail_44 ?_
      refine pw_iconst (pc := 45) (v := 3 ) C dX12_makeFail_45 (by decide) ?_
      refine pw_iadd (pc := 46) C dX12_makeFail_46 ?_
      obtain ⟨hk17, h⟩ := h
      obtain ⟨hi18, h⟩ := h
      refine pw_iald (pc := 47) C hk17 hi18 dX12_makeFail_47 ?_
      refine pw_if_ne (pc := 48) (tgt := 87) C dX12_makeFail_48 rfl ⟨fun hc => ?_, fun hc => ?_⟩
      · replace h := h.1 hc
        refine pw_iconst (pc := 87) (v := 0 ) C dX12_makeFail_87 (by decide) ?_
        refine pw_istore_n (pc := 88) C [(2, .int (0 : Int32)), (0, .ref (G.2.2 + x0)), (1, .int x1)] dX12_makeFail_88 rfl (by decide) rfl ?_
        refine pw_sub [1, 2, 0] (LV2 := [(0, .ref (G.2.2 + x0)), (1, .int x1), (2, .int (0 : Int32))]) rfl ?_
        obtain ⟨n9, h⟩ := h
        exact cbX12_makeFail_b89 C hr hin  n9 _ _ _ _ h
      · replace h := h.2 hc
        refine pw_aload_n (pc := 51) C 0 dX12_makeFail_51 rfl rfl ?_
        obtain ⟨o19, ho19, h⟩ := h
        refine pw_getR (pc := 52) (ref := "SupportSolverModel") (k := 31) (index := 64) C pCl10 iX12_makeFail_X12 hk15 rfl (by decide +kernel) (Or.inl rfl) (o := o19) ho19 dX12_makeFail_52 ?_
        refine pw_aload_n (pc := 55) C 0 dX12_makeFail_55 rfl rfl ?_
        refine pw_getR (pc := 56) (ref := "SupportSolverModel") (k := 4) (index := 19) C pCl10 iX12_makeFail_X12 hk15 rfl (by decide +kernel) (Or.inl rfl) (o := o16) ho16 dX12_makeFail_56 ?_
        refine pw_iconst (pc := 59) (v := 5 ) C dX12_makeFail_59 (by decide) ?_
        refine pw_iload_n (pc := 60) C 2 dX12_makeFail_60 rfl rfl ?_
        refine pw_imul (pc := 61) C dX12_makeFail_61 ?_
        obtain ⟨hi20, h⟩ := h
        refine pw_iald (pc := 62) C hk17 hi20 dX12_makeFail_62 ?_
        refine pw_dup2_11 (pc := 63) C dX12_makeFail_63 rfl rfl ?_
        obtain ⟨hk21, h⟩ := h
        obtain ⟨hi22, h⟩ := h
        refine pw_iald (pc := 64) C hk21 hi22 dX12_makeFail_64 ?_
        refine pw_iconst (pc := 65) (v := 1 ) C dX12_makeFail_65 (by decide) ?_
        refine pw_aload_n (pc := 66) C 0 dX12_makeFail_66 rfl rfl ?_
        refine pw_getR (pc := 67) (ref := "SupportSolverModel") (k := 4) (index := 19) C pCl10 iX12_makeFail_X12 hk15 rfl (by decide +kernel) (Or.inl rfl) (o := o16) ho16 dX12_makeFail_67 ?_
        refine pw_iconst (pc := 70) (v := 5 ) C dX12_makeFail_70 (by decide) ?_
        refine pw_iload_n (pc := 71) C 2 dX12_makeFail_71 rfl rfl ?_
        refine pw_imul (pc := 72) C dX12_makeFail_72 ?_
        refine pw_iconst (pc := 73) (v := 1 ) C dX12_makeFail_73 (by decide) ?_
        refine pw_iadd (pc := 74) C dX12_makeFail_74 ?_
        obtain ⟨hi23, h⟩ := h
        refine pw_iald (pc := 75) C hk17 hi23 dX12_makeFail_75 ?_
        refine pw_ishl (pc := 76) C dX12_makeFail_76 ?_
        refine pw_iconst (pc := 77) (v := (-1)) C dX12_makeFail_77 (by decide) ?_
        refine pw_ixor (pc := 78) C dX12_makeFail_78 ?_
        refine pw_iand (pc := 79) C dX12_makeFail_79 ?_
        obtain ⟨hi24, h⟩ := h
        refine pw_iast (pc := 80) C hk21 hi24 dX12_makeFail_80 ?_
        refine pw_iincK (pc := 81) (S := (sI S o19 ((pI S o16 (((5 : Int32) * x2)).toNatClampNeg)).toNatClampNeg ((pI S o19 ((pI S o16 (((5 : Int32) * x2)).toNatClampNeg)).toNatClampNeg) &&& (((1 : Int32) <<< ((pI S o16 ((((5 : Int32) * x2) + (1 : Int32))).toNatClampNeg) &&& 31)) ^^^ (-1 : Int32))))) (w := 1) C [(2, .int (x2 + 1)), (0, .ref (G.2.2 + x0)), (1, .int x1)] 2 dX12_makeFail_81 (by decide) rfl (by decide) rfl ?_
        refine pw_goto (pc := 84) (S := (sI S o19 ((pI S o16 (((5 : Int32) * x2)).toNatClampNeg)).toNatClampNeg ((pI S o19 ((pI S o16 (((5 : Int32) * x2)).toNatClampNeg)).toNatClampNeg) &&& (((1 : Int32) <<< ((pI S o16 ((((5 : Int32) * x2) + (1 : Int32))).toNatClampNeg) &&& 31)) ^^^ (-1 : Int32))))) (tgt := 30) C dX12_makeFail_84 rfl ?_
        refine pw_sub [1, 2, 0] (LV2 := [(0, .ref (G.2.2 + x0)), (1, .int x1), (2, .int (x2 + 1))]) rfl ?_
        exact ih _ _ _ _ h
set_option maxRecDepth 100000 in
set_option maxHeartbeats 4000000 in
theorem cbX12_makeFail_b2 {p : Program} {l : Launch} {e : Env} {s : State} {m : MethodId} {args : Array Value} {below : List Frame} {meth : Method} {c : Code} {G : PG} {Q : Int32 → PS → Prop} (C : pCx p s m args meth c G cX12_makeFail 3 yX12_makeFail.cls wsX12_makeFail) (hr : meth.sig.returnType = (some .boolean)) (hin : meth.name = yX12_makeFail.name)  (n : Nat) : ∀ (S : PS) (x0 : Nat) (x1 : Int32) (x2 : Int32), wpX12_makeFail_b2  Q n S x0 x1 x2 → PW p l e rmX12_makeFail s m args below meth c (MQ below (va_Qi Q (pB G) (pFr G)) args s rmX12_makeFail.cells rmX12_makeFail.slots (pFr G)) G 3 S 0 0 [(0, .ref (G.2.2 + x0)), (1, .int x1), (2, .int x2)] 2 ([]) := by
  induction n with
  | zero => intro S x0 x1 x2 h; exact h.elim
  | succ n ih =>
    intro S x0 x1 x2 h
    unfold wpX12_makeFail_b2 at h
    refine pw_iload_n (pc := 2) C 2 dX12_makeFail_2 rfl rfl ?_
    refine pw_bipush (pc := 3) (v := 7 ) C dX12_makeFail_3 (by decide) ?_
    refine pw_icmp_ge (pc := 5) (tgt := 28) C dX12_makeFail_5 rfl ⟨fun hc => ?_, fun hc => ?_⟩
    · replace h := h.1 hc
      refine pw_iconst (pc := 28) (v := 0 ) C dX12_makeFail_28 (by decide) ?_
      refine pw_istore_n (pc := 29) C [(2, .int (0 : Int32)), (0, .ref (G.2.2 + x0)), (1, .int x1)] dX12_makeFail_29 rfl (by decide) rfl ?_
      refine pw_sub [1, 2, 0] (LV2 := [(0, .ref (G.2.2 + x0)), (1, .int x1), (2, .int (0 : Int32))]) rfl ?_
      obtain ⟨n9, h⟩ := h
      exact cbX12_makeFail_b30 C hr hin  n9 _ _ _ _ h
    · replace h := h.2 hc
      refine pw_aload_n (pc := 8) C 0 dX12_makeFail_8 rfl rfl ?_
      obtain ⟨hk25, h⟩ := h
      obtain ⟨o26, ho26, h⟩ := h
      refine pw_getR (pc := 9) (ref := "SupportSolverModel") (k := 31) (index := 64) C pCl10 iX12_makeFail_X12 hk25 rfl (by decide +kernel) (Or.inl rfl) (o := o26) ho26 dX12_makeFail_9 ?_
      refine pw_iload_n (pc := 12) C 2 dX12_makeFail_12 rfl rfl ?_
      refine pw_aload_n (pc := 13) C 0 dX12_makeFail_13 rfl rfl ?_
      obtain ⟨o27, ho27, h⟩ := h
      refine pw_getR (pc := 14) (ref := "SupportSolverModel") (k := 1) (index := 7) C pCl10 iX12_makeFail_X12 hk25 rfl (by decide +kernel) (Or.inl rfl) (o := o27) ho27 dX12_makeFail_14 ?_
      refine pw_iconst (pc := 17) (v := 2 ) C dX12_makeFail_17 (by decide) ?_
      refine pw_iload_n (pc := 18) C 2 dX12_makeFail_18 rfl rfl ?_
      refine pw_iadd (pc := 19) C dX12_makeFail_19 ?_
      obtain ⟨hk28, h⟩ := h
      obtain ⟨hi29, h⟩ := h
      refine pw_iald (pc := 20) C hk28 hi29 dX12_makeFail_20 ?_
      obtain ⟨hk30, h⟩ := h
      obtain ⟨hi31, h⟩ := h
      refine pw_iast (pc := 21) C hk30 hi31 dX12_makeFail_21 ?_
      refine pw_iincK (pc := 22) (S := (sI S o26 (x2).toNatClampNeg (pI S o27 (((2 : Int32) + x2)).toNatClampNeg))) (w := 1) C [(2, .int (x2 + 1)), (0, .ref (G.2.2 + x0)), (1, .int x1)] 2 dX12_makeFail_22 (by decide) rfl (by decide) rfl ?_
      refine pw_goto (pc := 25) (S := (sI S o26 (x2).toNatClampNeg (pI S o27 (((2 : Int32) + x2)).toNatClampNeg))) (tgt := 2) C dX12_makeFail_25 rfl ?_
      refine pw_sub [1, 2, 0] (LV2 := [(0, .ref (G.2.2 + x0)), (1, .int x1), (2, .int (x2 + 1))]) rfl ?_
      exact ih _ _ _ _ h
set_option maxRecDepth 100000 in
set_option maxHeartbeats 4000000 in
theorem ctX12_makeFail (l : Launch) (G : PG) (S : PS) (x0 : Nat) (x1 : Int32) (Q : Int32 → PS → Prop) (h : wpX12_makeFail S x0 x1 Q) : mI l yX12_makeFail wsX12_makeFail rmX12_makeFail G S [.ref (G.2.2 + x0), .int x1] Q := by
  unfold mI
  refine met_of (cc := cX12_makeFail) (maxL := 3) (ret := (some .boolean)) (by decide) rfl (Nat.le_of_ble_eq_true rfl) ?_
  intro p e s m args below meth c C hr hin
  unfold wpX12_makeFail at h
  show PW p l e _ s m args below meth c _ G 3 S 0 0 [(0, .ref (G.2.2 + x0)), (1, .int x1)] 0 []
  refine pw_iconst (pc := 0) (v := 0 ) C dX12_makeFail_0 (by decide) ?_
  refine pw_istore_n (pc := 1) C [(2, .int (0 : Int32)), (0, .ref (G.2.2 + x0)), (1, .int x1)] dX12_makeFail_1 rfl (by decide) rfl ?_
  refine pw_sub [1, 2, 0] (LV2 := [(0, .ref (G.2.2 + x0)), (1, .int x1), (2, .int (0 : Int32))]) rfl ?_
  obtain ⟨n9, h⟩ := h
  exact cbX12_makeFail_b2 C hr hin  n9 _ _ _ _ h

abbrev rmX12_learns : Room := { frames := 7, cells := 0, slots := 0, locals := 178 }
theorem iX12_learns_X12 : ∀ w ∈ u_ws RX12 TX12 32, w ∈ wsX12_learns := fun _ h => List.mem_cons_of_mem _ (List.mem_append_right _ h)
def wpX12_learns_b199  (Q : Int32 → PS → Prop) (S : PS) (x0 : Nat) (x1 : Int32) (x2 : Int32) (x3 : Int32) (t0 : Nat) (t1 : Int32) : Prop := (pK S t0 = 11 ∧ ((t1 = 0 ∨ t1 = 1) ∧ ((0 ≤ x3 → (wpX12_sizeOf (sI S t0 11 t1) x1 (fun r3 S4 => (Q r3 S4)))) ∧ (¬ 0 ≤ x3 → (Q (-1 : Int32) (sI S t0 11 t1))))))
def wpX12_learns_b156  (Q : Int32 → PS → Prop) (S : PS) (x0 : Nat) (x1 : Int32) (x2 : Int32) (x3 : Int32) : Prop := (pK S x0 = 11 ∧ (∃ o6, pR S x0 6 = some o6 ∧ (pK S o6 = 13 ∧ (vp_in (pI S x0 9) (pL S o6) ∧ (wpX12_takesBack (sI (sI S o6 ((pI S x0 9)).toNatClampNeg x2) x0 9 ((pI (sI S o6 ((pI S x0 9)).toNatClampNeg x2) x0 9) + (1 : Int32))) x0 (fun r9 S10 => (pK S10 x0 = 11 ∧ (∃ o12, pR S10 x0 3 = some o12 ∧ (wpX12_sweeps S10 x0 o12 (1 : Int32) (fun r13 S14 => ((¬ r13 = 0 → (wpX12_learns_b199 Q S14 x0 x1 x2 r9 x0 (0 : Int32))) ∧ (r13 = 0 → (wpX12_learns_b199 Q S14 x0 x1 x2 r9 x0 (1 : Int32))))))))))))))
def wpX12_learns_b128  (Q : Int32 → PS → Prop) : Nat → PS → Nat → Int32 → Int32 → Int32 → Prop
  | 0 => fun _ _ _ _ _ => False
  | n + 1 => fun S x0 x1 x2 x3 => (pK S x0 = 11 ∧ (((pI S x0 9) ≤ x3 → (wpX12_learns_b156 Q S x0 x1 x2 x3)) ∧ (¬ (pI S x0 9) ≤ x3 → (∃ o16, pR S x0 6 = some o16 ∧ (pK S o16 = 13 ∧ (vp_in (x3 + (1 : Int32)) (pL S o16) ∧ (vp_in x3 (pL S o16) ∧ (wpX12_learns_b128 Q n (sI S o16 (x3).toNatClampNeg (pI S o16 ((x3 + (1 : Int32))).toNatClampNeg)) x0 x1 x2 (x3 + 1)))))))))
def wpX12_learns_b55  (Q : Int32 → PS → Prop) : Nat → PS → Nat → Int32 → Int32 → Int32 → Prop
  | 0 => fun _ _ _ _ _ => False
  | n + 1 => fun S x0 x1 x2 x3 => (pK S x0 = 11 ∧ (((pI S x0 8) ≤ x3 → ((¬ (pI S x0 9) = (12 : Int32) → (wpX12_learns_b156 Q S x0 x1 x2 x3)) ∧ ((pI S x0 9) = (12 : Int32) → (∃ n9 : Nat, wpX12_learns_b128 Q n9 (sI S x0 9 ((pI S x0 9) - (1 : Int32))) x0 x1 x2 (0 : Int32))))) ∧ (¬ (pI S x0 8) ≤ x3 → (wpX12_has S x1 x3 (fun r21 S22 => ((r21 = 0 → (wpX12_learns_b55 Q n S22 x0 x1 (x2 ||| (0 : Int32)) (x3 + 1))) ∧ (¬ r21 = 0 → (pK S22 x0 = 11 ∧ (∃ o24, pR S22 x0 5 = some o24 ∧ (pK S22 o24 = 13 ∧ (vp_in (((2 : Int32) * x3) + (1 : Int32)) (pL S22 o24) ∧ (vp_in ((2 : Int32) * x3) (pL S22 o24) ∧ (wpX12_learns_b55 Q n S22 x0 x1 (x2 ||| (((pI S22 o24 ((((2 : Int32) * x3) + (1 : Int32))).toNatClampNeg) + (1 : Int32)) <<< (((3 : Int32) * (pI S22 o24 (((2 : Int32) * x3)).toNatClampNeg)) &&& 31))) (x3 + 1))))))))))))))
def wpX12_learns_b11  (Q : Int32 → PS → Prop) : Nat → PS → Nat → Int32 → Int32 → Prop
  | 0 => fun _ _ _ _ => False
  | n + 1 => fun S x0 x1 x2 => (pK S x0 = 11 ∧ (((pI S x0 8) ≤ x2 → (∃ n9 : Nat, wpX12_learns_b55 Q n9 S x0 x1 (0 : Int32) (0 : Int32))) ∧ (¬ (pI S x0 8) ≤ x2 → (wpX12_makeFail S x0 (x1 &&& (((1 : Int32) <<< (x2 &&& 31)) ^^^ (-1 : Int32))) (fun r29 S30 => ((r29 = 0 → (wpX12_learns_b11 Q n S30 x0 (x1 &&& (-1 : Int32)) (x2 + 1))) ∧ (¬ r29 = 0 → (wpX12_learns_b11 Q n S30 x0 (x1 &&& (((1 : Int32) <<< (x2 &&& 31)) ^^^ (-1 : Int32))) (x2 + 1)))))))))
def wpX12_learns (S : PS) (x0 : Nat) (Q : Int32 → PS → Prop) : Prop := (pK S x0 = 11 ∧ (∃ n9 : Nat, wpX12_learns_b11 Q n9 S x0 (((1 : Int32) <<< ((pI S x0 8) &&& 31)) - (1 : Int32)) (0 : Int32)))
set_option maxRecDepth 100000 in
set_option maxHeartbeats 4000000 in
theorem cbX12_learns_b199 {p : Program} {l : Launch} {e : Env} {s : State} {m : MethodId} {args : Array Value} {below : List Frame} {meth : Method} {c : Code} {G : PG} {Q : Int32 → PS → Prop} (C : pCx p s m args meth c G cX12_learns 4 yX12_learns.cls wsX12_learns) (hr : meth.sig.returnType = (some .int)) (hin : meth.name = yX12_learns.name)  : ∀ (S : PS) (x0 : Nat) (x1 : Int32) (x2 : Int32) (x3 : Int32) (t0 : Nat) (t1 : Int32), wpX12_learns_b199  Q S x0 x1 x2 x3 t0 t1 → PW p l e rmX12_learns s m args below meth c (MQ below (va_Qi Q (pB G) (pFr G)) args s rmX12_learns.cells rmX12_learns.slots (pFr G)) G 4 S 0 0 [(0, .ref (G.2.2 + x0)), (1, .int x1), (2, .int x2), (3, .int x3)] 199 (.int t1 :: .ref (G.2.2 + t0) :: []) := by
  intro S x0 x1 x2 x3 t0 t1 h
  unfold wpX12_learns_b199 at h
  obtain ⟨hk1, h⟩ := h
  obtain ⟨hb2, h⟩ := h
  refine pw_putI (pc := 199) (ref := "SupportSolverModel") (k := 11) (index := 85) C pCl10 iX12_learns_X12 hk1 rfl (by decide +kernel) (Or.inl rfl) (Or.inl rfl) (nar_bool hb2) (fit_bool hb2) dX12_learns_199 ?_
  refine pw_iload_n (pc := 202) (S := (sI S t0 11 t1)) C 3 dX12_learns_202 rfl rfl ?_
  refine pw_if_ge (pc := 203) (S := (sI S t0 11 t1)) (tgt := 210) C dX12_learns_203 rfl ⟨fun hc => ?_, fun hc => ?_⟩
  · replace h := h.1 hc
    refine pw_iload_n (pc := 210) (S := (sI S t0 11 t1)) C 1 dX12_learns_210 rfl rfl ?_
    refine pw_calli (pc := 211) (S := (sI S t0 11 t1)) (kc2 := 0) (kn2 := 0) (pRunS (pc := 211) (S := (sI S t0 11 t1)) C (ctX12_sizeOf l G  _ x1 _ h) (va_cwS 1 C.2.2.2.2.1 gX12_learns_X12_sizeOf rfl rfl rfl (by decide +kernel) ⟨Nat.le_of_ble_eq_true rfl, Nat.le_of_ble_eq_true rfl⟩) rfl rfl (Nat.le_of_ble_eq_true rfl) dX12_learns_211 ⟨Nat.le_of_ble_eq_true rfl, Nat.le_of_ble_eq_true rfl⟩) rfl rfl (fun r3 S4 h => ?_)
    exact pw_iret (pc := 214) C hr h dX12_learns_214
  · replace h := h.2 hc
    refine pw_iconst (pc := 206) (S := (sI S t0 11 t1)) (v := (-1)) C dX12_learns_206 (by decide) ?_
    refine pw_goto (pc := 207) (S := (sI S t0 11 t1)) (tgt := 214) C dX12_learns_207 rfl ?_
    exact pw_iret (pc := 214) (S := (sI S t0 11 t1)) C hr h dX12_learns_214
set_option maxRecDepth 100000 in
set_option maxHeartbeats 4000000 in
theorem cbX12_learns_b156 {p : Program} {l : Launch} {e : Env} {s : State} {m : MethodId} {args : Array Value} {below : List Frame} {meth : Method} {c : Code} {G : PG} {Q : Int32 → PS → Prop} (C : pCx p s m args meth c G cX12_learns 4 yX12_learns.cls wsX12_learns) (hr : meth.sig.returnType = (some .int)) (hin : meth.name = yX12_learns.name)  : ∀ (S : PS) (x0 : Nat) (x1 : Int32) (x2 : Int32) (x3 : Int32), wpX12_learns_b156  Q S x0 x1 x2 x3 → PW p l e rmX12_learns s m args below meth c (MQ below (va_Qi Q (pB G) (pFr G)) args s rmX12_learns.cells rmX12_learns.slots (pFr G)) G 4 S 0 0 [(0, .ref (G.2.2 + x0)), (1, .int x1), (2, .int x2), (3, .int x3)] 156 ([]) := by
  intro S x0 x1 x2 x3 h
  unfold wpX12_learns_b156 at h
  refine pw_aload_n (pc := 156) C 0 dX12_learns_156 rfl rfl ?_
  obtain ⟨hk5, h⟩ := h
  obtain ⟨o6, ho6, h⟩ := h
  refine pw_getR (pc := 157) (ref := "SupportSolverModel") (k := 6) (index := 25) C pCl10 iX12_learns_X12 hk5 rfl (by decide +kernel) (Or.inl rfl) (o := o6) ho6 dX12_learns_157 ?_
  refine pw_aload_n (pc := 160) C 0 dX12_learns_160 rfl rfl ?_
  refine pw_getI (pc := 161) (ref := "SupportSolverModel") (k := 9) (index := 79) C pCl10 iX12_learns_X12 hk5 rfl (by decide +kernel) (Or.inl rfl) dX12_learns_161 ?_
  refine pw_iload_n (pc := 164) C 2 dX12_learns_164 rfl rfl ?_
  obtain ⟨hk7, h⟩ := h
  obtain ⟨hi8, h⟩ := h
  refine pw_iast (pc := 165) C hk7 hi8 dX12_learns_165 ?_
  refine pw_aload_n (pc := 166) (S := (sI S o6 ((pI S x0 9)).toNatClampNeg x2)) C 0 dX12_learns_166 rfl rfl ?_
  refine pw_dup (pc := 167) (S := (sI S o6 ((pI S x0 9)).toNatClampNeg x2)) C dX12_learns_167 rfl ?_
  refine pw_getI (pc := 168) (S := (sI S o6 ((pI S x0 9)).toNatClampNeg x2)) (ref := "SupportSolverModel") (k := 9) (index := 79) C pCl10 iX12_learns_X12 hk5 rfl (by decide +kernel) (Or.inl rfl) dX12_learns_168 ?_
  refine pw_iconst (pc := 171) (S := (sI S o6 ((pI S x0 9)).toNatClampNeg x2)) (v := 1 ) C dX12_learns_171 (by decide) ?_
  refine pw_iadd (pc := 172) (S := (sI S o6 ((pI S x0 9)).toNatClampNeg x2)) C dX12_learns_172 ?_
  refine pw_putI (pc := 173) (S := (sI S o6 ((pI S x0 9)).toNatClampNeg x2)) (ref := "SupportSolverModel") (k := 9) (index := 79) C pCl10 iX12_learns_X12 hk5 rfl (by decide +kernel) (Or.inl rfl) (Or.inl rfl) rfl rfl dX12_learns_173 ?_
  refine pw_aload_n (pc := 176) (S := (sI (sI S o6 ((pI S x0 9)).toNatClampNeg x2) x0 9 ((pI (sI S o6 ((pI S x0 9)).toNatClampNeg x2) x0 9) + (1 : Int32)))) C 0 dX12_learns_176 rfl rfl ?_
  refine pw_calli (pc := 177) (S := (sI (sI S o6 ((pI S x0 9)).toNatClampNeg x2) x0 9 ((pI (sI S o6 ((pI S x0 9)).toNatClampNeg x2) x0 9) + (1 : Int32)))) (kc2 := 0) (kn2 := 0) (pRunV (pc := 177) (S := (sI (sI S o6 ((pI S x0 9)).toNatClampNeg x2) x0 9 ((pI (sI S o6 ((pI S x0 9)).toNatClampNeg x2) x0 9) + (1 : Int32)))) C (ctX12_takesBack l G  _ x0 _ h) (cwV 0 C.2.2.2.2.1 gX12_learns_X12_takesBack rfl rfl rfl (by decide +kernel) ⟨Nat.le_of_ble_eq_true rfl, Nat.le_of_ble_eq_true rfl⟩) pCl10 hk5 rfl rfl (Nat.le_of_ble_eq_true rfl) dX12_learns_177 ⟨Nat.le_of_ble_eq_true rfl, Nat.le_of_ble_eq_true rfl⟩) rfl rfl (fun r9 S10 h => ?_)
  refine pw_istore_n (pc := 180) C [(3, .int r9), (0, .ref (G.2.2 + x0)), (1, .int x1), (2, .int x2)] dX12_learns_180 rfl (by decide) rfl ?_
  refine pw_aload_n (pc := 181) C 1 dX12_learns_181 rfl rfl ?_
  refine pw_aload_n (pc := 182) C 1 dX12_learns_182 rfl rfl ?_
  refine pw_aload_n (pc := 183) C 1 dX12_learns_183 rfl rfl ?_
  obtain ⟨hk11, h⟩ := h
  obtain ⟨o12, ho12, h⟩ := h
  refine pw_getR (pc := 184) (ref := "SupportSolverModel") (k := 3) (index := 16) C pCl10 iX12_learns_X12 hk11 rfl (by decide +kernel) (Or.inl rfl) (o := o12) ho12 dX12_learns_184 ?_
  refine pw_iconst (pc := 187) (v := 1 ) C dX12_learns_187 (by decide) ?_
  refine pw_calli (pc := 188) (kc2 := 0) (kn2 := 0) (pRunV (pc := 188) C (ctX12_sweeps l G  _ x0 o12 (1 : Int32) _ h) (cwV 2 C.2.2.2.2.1 gX12_learns_X12_sweeps rfl rfl rfl (by decide +kernel) ⟨Nat.le_of_ble_eq_true rfl, Nat.le_of_ble_eq_true rfl⟩) pCl10 hk11 rfl rfl (Nat.le_of_ble_eq_true rfl) dX12_learns_188 ⟨Nat.le_of_ble_eq_true rfl, Nat.le_of_ble_eq_true rfl⟩) rfl rfl (fun r13 S14 h => ?_)
  refine pw_if_ne (pc := 191) (tgt := 198) C dX12_learns_191 rfl ⟨fun hc => ?_, fun hc => ?_⟩
  · replace h := h.1 hc
    refine pw_iconst (pc := 198) (v := 0 ) C dX12_learns_198 (by decide) ?_
    refine pw_sub [1, 2, 3, 0] (LV2 := [(0, .ref (G.2.2 + x0)), (1, .int x1), (2, .int x2), (3, .int r9)]) rfl ?_
    exact cbX12_learns_b199 C hr hin  _ _ _ _ _ _ _ h
  · replace h := h.2 hc
    refine pw_iconst (pc := 194) (v := 1 ) C dX12_learns_194 (by decide) ?_
    refine pw_goto (pc := 195) (tgt := 199) C dX12_learns_195 rfl ?_
    refine pw_sub [1, 2, 3, 0] (LV2 := [(0, .ref (G.2.2 + x0)), (1, .int x1), (2, .int x2), (3, .int r9)]) rfl ?_
    exact cbX12_learns_b199 C hr hin  _ _ _ _ _ _ _ h
set_option maxRecDepth 100000 in
set_option maxHeartbeats 4000000 in
theorem cbX12_learns_b128 {p : Program} {l : Launch} {e : Env} {s : State} {m : MethodId} {args : Array Value} {below : List Frame} {meth : Method} {c : Code} {G : PG} {Q : Int32 → PS → Prop} (C : pCx p s m args meth c G cX12_learns 4 yX12_learns.cls wsX12_learns) (hr : meth.sig.returnType = (some .int)) (hin : meth.name = yX12_learns.name)  (n : Nat) : ∀ (S : PS) (x0 : Nat) (x1 : Int32) (x2 : Int32) (x3 : Int32), wpX12_learns_b128  Q n S x0 x1 x2 x3 → PW p l e rmX12_learns s m args below meth c (MQ below (va_Qi Q (pB G) (pFr G)) args s rmX12_learns.cells rmX12_learns.slots (pFr G)) G 4 S 0 0 [(0, .ref (G.2.2 + x0)), (1, .int x1), (2, .int x2), (3, .int x3)] 128 ([]) := by
  induction n with
  | zero => intro S x0 x1 x2 x3 h; exact h.elim
  | succ n ih =>
    intro S x0 x1 x2 x3 h
    unfold wpX12_learns_b128 at h
    refine pw_iload_n (pc := 128) C 3 dX12_learns_128 rfl rfl ?_
    refine pw_aload_n (pc := 129) C 0 dX12_learns_129 rfl rfl ?_
    obtain ⟨hk15, h⟩ := h
    refine pw_getI (pc := 130) (ref := "SupportSolverModel") (k := 9) (index := 79) C pCl10 iX12_learns_X12 hk15 rfl (by decide +kernel) (Or.inl rfl) dX12_learns_130 ?_
    refine pw_icmp_ge (pc := 133) (tgt := 156) C dX12_learns_133 rfl ⟨fun hc => ?_, fun hc => ?_⟩
    · replace h := h.1 hc
      exact cbX12_learns_b156 C hr hin  _ _ _ _ _ h
    · replace h := h.2 hc
      refine pw_aload_n (pc := 136) C 0 dX12_learns_136 rfl rfl ?_
      obtain ⟨o16, ho16, h⟩ := h
      refine pw_getR (pc := 137) (ref := "SupportSolverModel") (k := 6) (index := 25) C pCl10 iX12_learns_X12 hk15 rfl (by decide +kernel) (Or.inl rfl) (o := o16) ho16 dX12_learns_137 ?_
      refine pw_iload_n (pc := 140) C 3 dX12_learns_140 rfl rfl ?_
      refine pw_aload_n (pc := 141) C 0 dX12_learns_141 rfl rfl ?_
      refine pw_getR (pc := 142) (ref := "SupportSolverModel") (k := 6) (index := 25) C pCl10 iX12_learns_X12 hk15 rfl (by decide +kernel) (Or.inl rfl) (o := o16) ho16 dX12_learns_142 ?_
      refine pw_iload_n (pc := 145) C 3 dX12_learns_145 rfl rfl ?_
      refine pw_iconst (pc := 146) (v := 1 ) C dX12_learns_146 (by decide) ?_
      refine pw_iadd (pc := 147) C dX12_learns_147 ?_
      obtain ⟨hk17, h⟩ := h
      obtain ⟨hi18, h⟩ := h
      refine pw_iald (pc := 148) C hk17 hi18 dX12_learns_148 ?_
      obtain ⟨hi19, h⟩ := h
      refine pw_iast (pc := 149) C hk17 hi19 dX12_learns_149 ?_
      refine pw_iincK (pc := 150) (S := (sI S o16 (x3).toNatClampNeg (pI S o16 ((x3 + (1 : Int32))).toNatClampNeg))) (w := 1) C [(3, .int (x3 + 1)), (0, .ref (G.2.2 + x0)), (1, .int x1), (2, .int x2)] 3 dX12_learns_150 (by decide) rfl (by decide) rfl ?_
      refine pw_goto (pc := 153) (S := (sI S o16 (x3).toNatClampNeg (pI S o16 ((x3 + (1 : Int32))).toNatClampNeg))) (tgt := 128) C dX12_learns_153 rfl ?_
      refine pw_sub [1, 2, 3, 0] (LV2 := [(0, .ref (G.2.2 + x0)), (1, .int x1), (2, .int x2), (3, .int (x3 + 1))]) rfl ?_
      exact ih _ _ _ _ _ h
set_option maxRecDepth 100000 in
set_option maxHeartbeats 4000000 in
theorem cbX12_learns_b55 {p : Program} {l : Launch} {e : Env} {s : State} {m : MethodId} {args : Array Value} {below : List Frame} {meth : Method} {c : Code} {G : PG} {Q : Int32 → PS → Prop} (C : pCx p s m args meth c G cX12_learns 4 yX12_learns.cls wsX12_learns) (hr : meth.sig.returnType = (some .int)) (hin : meth.name = yX12_learns.name)  (n : Nat) : ∀ (S : PS) (x0 : Nat) (x1 : Int32) (x2 : Int32) (x3 : Int32), wpX12_learns_b55  Q n S x0 x1 x2 x3 → PW p l e rmX12_learns s m args below meth c (MQ below (va_Qi Q (pB G) (pFr G)) args s rmX12_learns.cells rmX12_learns.slots (pFr G)) G 4 S 0 0 [(0, .ref (G.2.2 + x0)), (1, .int x1), (2, .int x2), (3, .int x3)] 55 ([]) := by
  induction n with
  | zero => intro S x0 x1 x2 x3 h; exact h.elim
  | succ n ih =>
    intro S x0 x1 x2 x3 h
    unfold wpX12_learns_b55 at h
    refine pw_iload_n (pc := 55) C 3 dX12_learns_55 rfl rfl ?_
    refine pw_aload_n (pc := 56) C 0 dX12_learns_56 rfl rfl ?_
    obtain ⟨hk20, h⟩ := h
    refine pw_getI (pc := 57) (ref := "SupportSolverModel") (k := 8) (index := 76) C pCl10 iX12_learns_X12 hk20 rfl (by decide +kernel) (Or.inl rfl) dX12_learns_57 ?_
    refine pw_icmp_ge (pc := 60) (tgt := 107) C dX12_learns_60 rfl ⟨fun hc => ?_, fun hc => ?_⟩
    · replace h := h.1 hc
      refine pw_aload_n (pc := 107) C 0 dX12_learns_107 rfl rfl ?_
      refine pw_getI (pc := 108) (ref := "SupportSolverModel") (k := 9) (index := 79) C pCl10 iX12_learns_X12 hk20 rfl (by decide +kernel) (Or.inl rfl) dX12_learns_108 ?_
      refine pw_bipush (pc := 111) (v := 12 ) C dX12_learns_111 (by decide) ?_
      refine pw_icmp_ne (pc := 113) (tgt := 156) C dX12_learns_113 rfl ⟨fun hc => ?_, fun hc => ?_⟩
      · replace h := h.1 hc
        exact cbX12_learns_b156 C hr hin  _ _ _ _ _ h
      · replace h := h.2 hc
        refine pw_aload_n (pc := 116) C 0 dX12_learns_116 rfl rfl ?_
        refine pw_dup (pc := 117) C dX12_learns_117 rfl ?_
        refine pw_getI (pc := 118) (ref := "SupportSolverModel") (k := 9) (index := 79) C pCl10 iX12_learns_X12 hk20 rfl (by decide +kernel) (Or.inl rfl) dX12_learns_118 ?_
        refine pw_iconst (pc := 121) (v := 1 ) C dX12_learns_121 (by decide) ?_
        refine pw_isub (pc := 122) C dX12_learns_122 ?_
        refine pw_putI (pc := 123) (ref := "SupportSolverModel") (k := 9) (index := 79) C pCl10 iX12_learns_X12 hk20 rfl (by decide +kernel) (Or.inl rfl) (Or.inl rfl) rfl rfl dX12_learns_123 ?_
        refine pw_iconst (pc := 126) (S := (sI S x0 9 ((pI S x0 9) - (1 : Int32)))) (v := 0 ) C dX12_learns_126 (by decide) ?_
        refine pw_istore_n (pc := 127) (S := (sI S x0 9 ((pI S x0 9) - (1 : Int32)))) C [(3, .int (0 : Int32)), (0, .ref (G.2.2 + x0)), (1, .int x1), (2, .int x2)] dX12_learns_127 rfl (by decide) rfl ?_
        refine pw_sub [1, 2, 3, 0] (LV2 := [(0, .ref (G.2.2 + x0)), (1, .int x1), (2, .int x2), (3, .int (0 : Int32))]) rfl ?_
        obtain ⟨n9, h⟩ := h
        exact cbX12_learns_b128 C hr hin  n9 _ _ _ _ _ h
    · replace h := h.2 hc
      refine pw_iload_n (pc := 63) C 2 dX12_learns_63 rfl rfl ?_
      refine pw_iload_n (pc := 64) C 1 dX12_learns_64 rfl rfl ?_
      refine pw_iload_n (pc := 65) C 3 dX12_learns_65 rfl rfl ?_
      refine pw_calli (pc := 66) (kc2 := 0) (kn2 := 0) (pRunS (pc := 66) C (ctX12_has l G  _ x1 x3 _ h) (va_cwS 2 C.2.2.2.2.1 gX12_learns_X12_has rfl rfl rfl (by decide +kernel) ⟨Nat.le_of_ble_eq_true rfl, Nat.le_of_ble_eq_true rfl⟩) rfl rfl (Nat.le_of_ble_eq_true rfl) dX12_learns_66 ⟨Nat.le_of_ble_eq_true rfl, Nat.le_of_ble_eq_true rfl⟩) rfl rfl (fun r21 S22 h => ?_)
      refine pw_if_eq (pc := 69) (tgt := 98) C dX12_learns_69 rfl ⟨fun hc => ?_, fun hc => ?_⟩
      · replace h := h.1 hc
        refine pw_iconst (pc := 98) (v := 0 ) C dX12_learns_98 (by decide) ?_
        refine pw_ior (pc := 99) C dX12_learns_99 ?_
        refine pw_istore_n (pc := 100) C [(2, .int (x2 ||| (0 : Int32))), (0, .ref (G.2.2 + x0)), (1, .int x1), (3, .int x3)] dX12_learns_100 rfl (by decide) rfl ?_
        refine pw_iincK (pc := 101) (w := 1) C [(3, .int (x3 + 1)), (2, .int (x2 ||| (0 : Int32))), (0, .ref (G.2.2 + x0)), (1, .int x1)] 3 dX12_learns_101 (by decide) rfl (by decide) rfl ?_
        refine pw_goto (pc := 104) (tgt := 55) C dX12_learns_104 rfl ?_
        refine pw_sub [2, 3, 1, 0] (LV2 := [(0, .ref (G.2.2 + x0)), (1, .int x1), (2, .int (x2 ||| (0 : Int32))), (3, .int (x3 + 1))]) rfl ?_
        exact ih _ _ _ _ _ h
      · replace h := h.2 hc
        refine pw_aload_n (pc := 72) C 0 dX12_learns_72 rfl rfl ?_
        obtain ⟨hk23, h⟩ := h
        obtain ⟨o24, ho24, h⟩ := h
        refine pw_getR (pc := 73) (ref := "SupportSolverModel") (k := 5) (index := 22) C pCl10 iX12_learns_X12 hk23 rfl (by decide +kernel) (Or.inl rfl) (o := o24) ho24 dX12_learns_73 ?_
        refine pw_iconst (pc := 76) (v := 2 ) C dX12_learns_76 (by decide) ?_
        refine pw_iload_n (pc := 77) C 3 dX12_learns_77 rfl rfl ?_
        refine pw_imul (pc := 78) C dX12_learns_78 ?_
        refine pw_iconst (pc := 79) (v := 1 ) C dX12_learns_79 (by decide) ?_
        refine pw_iadd (pc := 80) C dX12_learns_80 ?_
        obtain ⟨hk25, h⟩ := h
        obtain ⟨hi26, h⟩ := h
        refine pw_iald (pc := 81) C hk25 hi26 dX12_learns_81 ?_
        refine pw_iconst (pc := 82) (v := 1 ) C dX12_learns_82 (by decide) ?_
        refine pw_iadd (pc := 83) C dX12_learns_83 ?_
        refine pw_iconst (pc := 84) (v := 3 ) C dX12_learns_84 (by decide) ?_
        refine pw_aload_n (pc := 85) C 0 dX12_learns_85 rfl rfl ?_
        refine pw_getR (pc := 86) (ref := "SupportSolverModel") (k := 5) (index := 22) C pCl10 iX12_learns_X12 hk23 rfl (by decide +kernel) (Or.inl rfl) (o := o24) ho24 dX12_learns_86 ?_
        refine pw_iconst (pc := 89) (v := 2 ) C dX12_learns_89 (by decide) ?_
        refine pw_iload_n (pc := 90) C 3 dX12_learns_90 rfl rfl ?_
        refine pw_imul (pc := 91) C dX12_learns_91 ?_
        obtain ⟨hi27, h⟩ := h
        refine pw_iald (pc := 92) C hk25 hi27 dX12_learns_92 ?_
        refine pw_imul (pc := 93) C dX12_learns_93 ?_
        refine pw_ishl (pc := 94) C dX12_learns_94 ?_
        refine pw_goto (pc := 95) (tgt := 99) C dX12_learns_95 rfl ?_
        refine pw_ior (pc := 99) C dX12_learns_99 ?_
        refine pw_istore_n (pc := 100) C [(2, .int (x2 ||| (((pI S22 o24 ((((2 : Int32) * x3) + (1 : Int32))).toNatClampNeg) + (1 : Int32)) <<< (((3 : Int32) * (pI S22 o24 (((2 : Int32) * x3)).toNatClampNeg)) &&& 31)))), (0, .ref (G.2.2 + x0)), (1, .int x1), (3, .int x3)] dX12_learns_100 rfl (by decide) rfl ?_
        refine pw_iincK (pc := 101) (w := 1) C [(3, .int (x3 + 1)), (2, .int (x2 ||| (((pI S22 o24 ((((2 : Int32) * x3) + (1 : Int32))).toNatClampNeg) + (1 : Int32)) <<< (((3 : Int32) * (pI S22 o24 (((2 : Int32) * x3)).toNatClampNeg)) &&& 31)))), (0, .ref (G.2.2 + x0)), (1, .int x1)] 3 dX12_learns_101 (by decide) rfl (by decide) rfl ?_
        refine pw_goto (pc := 104) (tgt := 55) C dX12_learns_104 rfl ?_
        refine pw_sub [2, 3, 1, 0] (LV2 := [(0, .ref (G.2.2 + x0)), (1, .int x1), (2, .int (x2 ||| (((pI S22 o24 ((((2 : Int32) * x3) + (1 : Int32))).toNatClampNeg) + (1 : Int32)) <<< (((3 : Int32) * (pI S22 o24 (((2 : Int32) * x3)).toNatClampNeg)) &&& 31)))), (3, .int (x3 + 1))]) rfl ?_
        exact ih _ _ _ _ _ h
set_option maxRecDepth 100000 in
set_option maxHeartbeats 4000000 in
theorem cbX12_learns_b11 {p : Program} {l : Launch} {e : Env} {s : State} {m : MethodId} {args : Array Value} {below : List Frame} {meth : Method} {c : Code} {G : PG} {Q : Int32 → PS → Prop} (C : pCx p s m args meth c G cX12_learns 4 yX12_learns.cls wsX12_learns) (hr : meth.sig.returnType = (some .int)) (hin : meth.name = yX12_learns.name)  (n : Nat) : ∀ (S : PS) (x0 : Nat) (x1 : Int32) (x2 : Int32), wpX12_learns_b11  Q n S x0 x1 x2 → PW p l e rmX12_learns s m args below meth c (MQ below (va_Qi Q (pB G) (pFr G)) args s rmX12_learns.cells rmX12_learns.slots (pFr G)) G 4 S 0 0 [(0, .ref (G.2.2 + x0)), (1, .int x1), (2, .int x2)] 11 ([]) := by
  induction n with
  | zero => intro S x0 x1 x2 h; exact h.elim
  | succ n ih =>
    intro S x0 x1 x2 h
    unfold wpX12_learns_b11 at h
    refine pw_iload_n (pc := 11) C 2 dX12_learns_11 rfl rfl ?_
    refine pw_aload_n (pc := 12) C 0 dX12_learns_12 rfl rfl ?_
    obtain ⟨hk28, h⟩ := h
    refine pw_getI (pc := 13) (ref := "SupportSolverModel") (k := 8) (index := 76) C pCl10 iX12_learns_X12 hk28 rfl (by decide +kernel) (Or.inl rfl) dX12_learns_13 ?_
    refine pw_icmp_ge (pc := 16) (tgt := 51) C dX12_learns_16 rfl ⟨fun hc => ?_, fun hc => ?_⟩
    · replace h := h.1 hc
      refine pw_iconst (pc := 51) (v := 0 ) C dX12_learns_51 (by decide) ?_
      refine pw_istore_n (pc := 52) C [(2, .int (0 : Int32)), (0, .ref (G.2.2 + x0)), (1, .int x1)] dX12_learns_52 rfl (by decide) rfl ?_
      refine pw_iconst (pc := 53) (v := 0 ) C dX12_learns_53 (by decide) ?_
      refine pw_istore_n (pc := 54) C [(3, .int (0 : Int32)), (2, .int (0 : Int32)), (0, .ref (G.2.2 + x0)), (1, .int x1)] dX12_learns_54 rfl (by decide) rfl ?_
      refine pw_sub [2, 3, 1, 0] (LV2 := [(0, .ref (G.2.2 + x0)), (1, .int x1), (2, .int (0 : Int32)), (3, .int (0 : Int32))]) rfl ?_
      obtain ⟨n9, h⟩ := h
      exact cbX12_learns_b55 C hr hin  n9 _ _ _ _ _ h
    · replace h := h.2 hc
      refine pw_iload_n (pc := 19) C 1 dX12_learns_19 rfl rfl ?_
      refine pw_aload_n (pc := 20) C 0 dX12_learns_20 rfl rfl ?_
      refine pw_iload_n (pc := 21) C 1 dX12_learns_21 rfl rfl ?_
      refine pw_iconst (pc := 22) (v := 1 ) C dX12_learns_22 (by decide) ?_
      refine pw_iload_n (pc := 23) C 2 dX12_learns_23 rfl rfl ?_
      refine pw_ishl (pc := 24) C dX12_learns_24 ?_
      refine pw_iconst (pc := 25) (v := (-1)) C dX12_learns_25 (by decide) ?_
      refine pw_ixor (pc := 26) C dX12_learns_26 ?_
      refine pw_iand (pc := 27) C dX12_learns_27 ?_
      refine pw_calli (pc := 28) (kc2 := 0) (kn2 := 0) (pRunV (pc := 28) C (ctX12_makeFail l G  _ x0 (x1 &&& (((1 : Int32) <<< (x2 &&& 31)) ^^^ (-1 : Int32))) _ h) (cwV 1 C.2.2.2.2.1 gX12_learns_X12_makeFail rfl rfl rfl (by decide +kernel) ⟨Nat.le_of_ble_eq_true rfl, Nat.le_of_ble_eq_true rfl⟩) pCl10 hk28 rfl rfl (Nat.le_of_ble_eq_true rfl) dX12_learns_28 ⟨Nat.le_of_ble_eq_true rfl, Nat.le_of_ble_eq_true rfl⟩) rfl rfl (fun r29 S30 h => ?_)
      refine pw_if_eq (pc := 31) (tgt := 42) C dX12_learns_31 rfl ⟨fun hc => ?_, fun hc => ?_⟩
      · replace h := h.1 hc
        refine pw_iconst (pc := 42) (v := (-1)) C dX12_learns_42 (by decide) ?_
        refine pw_iand (pc := 43) C dX12_learns_43 ?_
        refine pw_istore_n (pc := 44) C [(1, .int (x1 &&& (-1 : Int32))), (0, .ref (G.2.2 + x0)), (2, .int x2)] dX12_learns_44 rfl (by decide) rfl ?_
        refine pw_iincK (pc := 45) (w := 1) C [(2, .int (x2 + 1)), (1, .int (x1 &&& (-1 : Int32))), (0, .ref (G.2.2 + x0))] 2 dX12_learns_45 (by decide) rfl (by decide) rfl ?_
        refine pw_goto (pc := 48) (tgt := 11) C dX12_learns_48 rfl ?_
        refine pw_sub [2, 1, 0] (LV2 := [(0, .ref (G.2.2 + x0)), (1, .int (x1 &&& (-1 : Int32))), (2, .int (x2 + 1))]) rfl ?_
        exact ih _ _ _ _ h
      · replace h := h.2 hc
        refine pw_iconst (pc := 34) (v := 1 ) C dX12_learns_34 (by decide) ?_
        refine pw_iload_n (pc := 35) C 2 dX12_learns_35 rfl rfl ?_
        refine pw_ishl (pc := 36) C dX12_learns_36 ?_
        refine pw_iconst (pc := 37) (v := (-1)) C dX12_learns_37 (by decide) ?_
        refine pw_ixor (pc := 38) C dX12_learns_38 ?_
        refine pw_goto (pc := 39) (tgt := 43) C dX12_learns_39 rfl ?_
        refine pw_iand (pc := 43) C dX12_learns_43 ?_
        refine pw_istore_n (pc := 44) C [(1, .int (x1 &&& (((1 : Int32) <<< (x2 &&& 31)) ^^^ (-1 : Int32)))), (0, .ref (G.2.2 + x0)), (2, .int x2)] dX12_learns_44 rfl (by decide) rfl ?_
        refine pw_iincK (pc := 45) (w := 1) C [(2, .int (x2 + 1)), (1, .int (x1 &&& (((1 : Int32) <<< (x2 &&& 31)) ^^^ (-1 : Int32)))), (0, .ref (G.2.2 + x0))] 2 dX12_learns_45 (by decide) rfl (by decide) rfl ?_
        refine pw_goto (pc := 48) (tgt := 11) C dX12_learns_48 rfl ?_
        refine pw_sub [2, 1, 0] (LV2 := [(0, .ref (G.2.2 + x0)), (1, .int (x1 &&& (((1 : Int32) <<< (x2 &&& 31)) ^^^ (-1 : Int32)))), (2, .int (x2 + 1))]) rfl ?_
        exact ih _ _ _ _ h
set_option maxRecDepth 100000 in
set_option maxHeartbeats 4000000 in
theorem ctX12_learns (l : Launch) (G : PG) (S : PS) (x0 : Nat) (Q : Int32 → PS → Prop) (h : wpX12_learns S x0 Q) : mI l yX12_learns wsX12_learns rmX12_learns G S [.ref (G.2.2 + x0)] Q := by
  unfold mI
  refine met_of (cc := cX12_learns) (maxL := 4) (ret := (some .int)) (by decide) rfl (Nat.le_of_ble_eq_true rfl) ?_
  intro p e s m args below meth c C hr hin
  unfold wpX12_learns at h
  show PW p l e _ s m args below meth c _ G 4 S 0 0 [(0, .ref (G.2.2 + x0))] 0 []
  refine pw_iconst (pc := 0) (v := 1 ) C dX12_learns_0 (by decide) ?_
  refine pw_aload_n (pc := 1) C 0 dX12_learns_1 rfl rfl ?_
  obtain ⟨hk31, h⟩ := h
  refine pw_getI (pc := 2) (ref := "SupportSolverModel") (k := 8) (index := 76) C pCl10 iX12_learns_X12 hk31 rfl (by decide +kernel) (Or.inl rfl) dX12_learns_2 ?_
  refine pw_ishl (pc := 5) C dX12_learns_5 ?_
  refine pw_iconst (pc := 6) (v := 1 ) C dX12_learns_6 (by decide) ?_
  refine pw_isub (pc := 7) C dX12_learns_7 ?_
  refine pw_istore_n (pc := 8) C [(1, .int (((1 : Int32) <<< ((pI S x0 8) &&& 31)) - (1 : Int32))), (0, .ref (G.2.2 + x0))] dX12_learns_8 rfl (by decide) rfl ?_
  refine pw_iconst (pc := 9) (v := 0 ) C dX12_learns_9 (by decide) ?_
  refine pw_istore_n (pc := 10) C [(2, .int (0 : Int32)), (1, .int (((1 : Int32) <<< ((pI S x0 8) &&& 31)) - (1 : Int32))), (0, .ref (G.2.2 + x0))] dX12_learns_10 rfl (by decide) rfl ?_
  refine pw_sub [2, 1, 0] (LV2 := [(0, .ref (G.2.2 + x0)), (1, .int (((1 : Int32) <<< ((pI S x0 8) &&& 31)) - (1 : Int32))), (2, .int (0 : Int32))]) rfl ?_
  obtain ⟨n9, h⟩ := h
  exact cbX12_learns_b11 C hr hin  n9 _ _ _ _ h

abbrev rmX12_learn : Room := { frames := 8, cells := 0, slots := 0, locals := 201 }
theorem iX12_learn_X12 : ∀ w ∈ u_ws RX12 TX12 32, w ∈ wsX12_learn := fun _ h => List.mem_cons_of_mem _ (List.mem_append_right _ h)
def wpX12_learn_b25  (Q : Int32 → PS → Prop) (S : PS) (x0 : Nat) (t0 : Nat) (t1 : Int32) : Prop := (pK S t0 = 11 ∧ (wpX12_may S t0 t1 (1 : Int32) (fun r2 S3 => ((r2 = 0 → (Q (0 : Int32) S3)) ∧ (¬ r2 = 0 → (pK S3 x0 = 11 ∧ (wpX12_learns S3 x0 (fun r5 S6 => (Q r5 S6)))))))))
def wpX12_learn_b24  (Q : Int32 → PS → Prop) (S : PS) (x0 : Nat) (t0 : Nat) : Prop := (wpX12_learn_b25 Q S x0 t0 (0 : Int32))
def wpX12_learn (S : PS) (x0 : Nat) (Q : Int32 → PS → Prop) : Prop := (pK S x0 = 11 ∧ (((pI (sI S x0 0 (0 : Int32)) x0 11) = 0 → (wpX12_learn_b24 Q (sI S x0 0 (0 : Int32)) x0 x0)) ∧ (¬ (pI (sI S x0 0 (0 : Int32)) x0 11) = 0 → (((pI (sI S x0 0 (0 : Int32)) x0 8) ≤ 0 → (wpX12_learn_b24 Q (sI S x0 0 (0 : Int32)) x0 x0)) ∧ (¬ (pI (sI S x0 0 (0 : Int32)) x0 8) ≤ 0 → (wpX12_learn_b25 Q (sI S x0 0 (0 : Int32)) x0 x0 (1 : Int32)))))))
set_option maxRecDepth 100000 in
set_option maxHeartbeats 4000000 in
theorem cbX12_learn_b25 {p : Program} {l : Launch} {e : Env} {s : State} {m : MethodId} {args : Array Value} {below : List Frame} {meth : Method} {c : Code} {G : PG} {Q : Int32 → PS → Prop} (C : pCx p s m args meth c G cX12_learn 1 yX12_learn.cls wsX12_learn) (hr : meth.sig.returnType = (some .int)) (hin : meth.name = yX12_learn.name)  : ∀ (S : PS) (x0 : Nat) (t0 : Nat) (t1 : Int32), wpX12_learn_b25  Q S x0 t0 t1 → PW p l e rmX12_learn s m args below meth c (MQ below (va_Qi Q (pB G) (pFr G)) args s rmX12_learn.cells rmX12_learn.slots (pFr G)) G 1 S 0 0 [(0, .ref (G.2.2 + x0))] 25 (.int t1 :: .ref (G.2.2 + t0) :: []) := by
  intro S x0 t0 t1 h
  unfold wpX12_learn_b25 at h
  refine pw_iconst (pc := 25) (v := 1 ) C dX12_learn_25 (by decide) ?_
  obtain ⟨hk1, h⟩ := h
  refine pw_calli (pc := 26) (kc2 := 0) (kn2 := 0) (pRunV (pc := 26) C (ctX12_may l G  _ t0 t1 (1 : Int32) _ h) (cwV 2 C.2.2.2.2.1 gX12_learn_X12_may rfl rfl rfl (by decide +kernel) ⟨Nat.le_of_ble_eq_true rfl, Nat.le_of_ble_eq_true rfl⟩) pCl10 hk1 rfl rfl (Nat.le_of_ble_eq_true rfl) dX12_learn_26 ⟨Nat.le_of_ble_eq_true rfl, Nat.le_of_ble_eq_true rfl⟩) rfl rfl (fun r2 S3 h => ?_)
  refine pw_if_eq (pc := 29) (tgt := 39) C dX12_learn_29 rfl ⟨fun hc => ?_, fun hc => ?_⟩
  · replace h := h.1 hc
    refine pw_iconst (pc := 39) (v := 0 ) C dX12_learn_39 (by decide) ?_
    exact pw_iret (pc := 40) C hr h dX12_learn_40
  · replace h := h.2 hc
    refine pw_aload_n (pc := 32) C 0 dX12_learn_32 rfl rfl ?_
    obtain ⟨hk4, h⟩ := h
    refine pw_calli (pc := 33) (kc2 := 0) (kn2 := 0) (pRunV (pc := 33) C (ctX12_learns l G  _ x0 _ h) (cwV 0 C.2.2.2.2.1 gX12_learn_X12_learns rfl rfl rfl (by decide +kernel) ⟨Nat.le_of_ble_eq_true rfl, Nat.le_of_ble_eq_true rfl⟩) pCl10 hk4 rfl rfl (Nat.le_of_ble_eq_true rfl) dX12_learn_33 ⟨Nat.le_of_ble_eq_true rfl, Nat.le_of_ble_eq_true rfl⟩) rfl rfl (fun r5 S6 h => ?_)
    refine pw_goto (pc := 36) (tgt := 40) C dX12_learn_36 rfl ?_
    exact pw_iret (pc := 40) C hr h dX12_learn_40
set_option maxRecDepth 100000 in
set_option maxHeartbeats 4000000 in
theorem cbX12_learn_b24 {p : Program} {l : Launch} {e : Env} {s : State} {m : MethodId} {args : Array Value} {below : List Frame} {meth : Method} {c : Code} {G : PG} {Q : Int32 → PS → Prop} (C : pCx p s m args meth c G cX12_learn 1 yX12_learn.cls wsX12_learn) (hr : meth.sig.returnType = (some .int)) (hin : meth.name = yX12_learn.name)  : ∀ (S : PS) (x0 : Nat) (t0 : Nat), wpX12_learn_b24  Q S x0 t0 → PW p l e rmX12_learn s m args below meth c (MQ below (va_Qi Q (pB G) (pFr G)) args s rmX12_learn.cells rmX12_learn.slots (pFr G)) G 1 S 0 0 [(0, .ref (G.2.2 + x0))] 24 (.ref (G.2.2 + t0) :: []) := by
  intro S x0 t0 h
  unfold wpX12_learn_b24 at h
  refine pw_iconst (pc := 24) (v := 0 ) C dX12_learn_24 (by decide) ?_
  exact cbX12_learn_b25 C hr hin  _ _ _ _ h
set_option maxRecDepth 100000 in
set_option maxHeartbeats 4000000 in
theorem ctX12_learn (l : Launch) (G : PG) (S : PS) (x0 : Nat) (Q : Int32 → PS → Prop) (h : wpX12_learn S x0 Q) : mI l yX12_learn wsX12_learn rmX12_learn G S [.ref (G.2.2 + x0)] Q := by
  unfold mI
  refine met_of (cc := cX12_learn) (maxL := 1) (ret := (some .int)) (by decide) rfl (Nat.le_of_ble_eq_true rfl) ?_
  intro p e s m args below meth c C hr hin
  unfold wpX12_learn at h
  show PW p l e _ s m args below meth c _ G 1 S 0 0 [(0, .ref (G.2.2 + x0))] 0 []
  refine pw_aload_n (pc := 0) C 0 dX12_learn_0 rfl rfl ?_
  refine pw_iconst (pc := 1) (v := 0 ) C dX12_learn_1 (by decide) ?_
  obtain ⟨hk7, h⟩ := h
  refine pw_putI (pc := 2) (ref := "SupportSolverModel") (k := 0) (index := 70) C pCl10 iX12_learn_X12 hk7 rfl (by decide +kernel) (Or.inl rfl) (Or.inl rfl) rfl rfl dX12_learn_2 ?_
  refine pw_aload_n (pc := 5) (S := (sI S x0 0 (0 : Int32))) C 0 dX12_learn_5 rfl rfl ?_
  refine pw_aload_n (pc := 6) (S := (sI S x0 0 (0 : Int32))) C 0 dX12_learn_6 rfl rfl ?_
  refine pw_getI (pc := 7) (S := (sI S x0 0 (0 : Int32))) (ref := "SupportSolverModel") (k := 11) (index := 85) C pCl10 iX12_learn_X12 hk7 rfl (by decide +kernel) (Or.inl rfl) dX12_learn_7 ?_
  refine pw_if_eq (pc := 10) (S := (sI S x0 0 (0 : Int32))) (tgt := 24) C dX12_learn_10 rfl ⟨fun hc => ?_, fun hc => ?_⟩
  · replace h := h.1 hc
    exact cbX12_learn_b24 C hr hin  _ _ _ h
  · replace h := h.2 hc
    refine pw_aload_n (pc := 13) (S := (sI S x0 0 (0 : Int32))) C 0 dX12_learn_13 rfl rfl ?_
    refine pw_getI (pc := 14) (S := (sI S x0 0 (0 : Int32))) (ref := "SupportSolverModel") (k := 8) (index := 76) C pCl10 iX12_learn_X12 hk7 rfl (by decide +kernel) (Or.inl rfl) dX12_learn_14 ?_
    refine pw_if_le (pc := 17) (S := (sI S x0 0 (0 : Int32))) (tgt := 24) C dX12_learn_17 rfl ⟨fun hc => ?_, fun hc => ?_⟩
    · replace h := h.1 hc
      exact cbX12_learn_b24 C hr hin  _ _ _ h
    · replace h := h.2 hc
      refine pw_iconst (pc := 20) (S := (sI S x0 0 (0 : Int32))) (v := 1 ) C dX12_learn_20 (by decide) ?_
      refine pw_goto (pc := 21) (S := (sI S x0 0 (0 : Int32))) (tgt := 25) C dX12_learn_21 rfl ?_
      exact cbX12_learn_b25 C hr hin  _ _ _ _ h

abbrev rmX12_learnt : Room := { frames := 2, cells := 0, slots := 0, locals := 46 }
theorem iX12_learnt_X12 : ∀ w ∈ u_ws RX12 TX12 32, w ∈ wsX12_learnt := fun _ h => List.mem_cons_of_mem _ (List.mem_append_right _ h)
def wpX12_learnt_b60  (Q : Int32 → PS → Prop) (S : PS) (x0 : Nat) (x1 : Int32) (x2 : Int32) (t0 : Nat) (t1 : Int32) : Prop := (pK S t0 = 11 ∧ (wpX12_may S t0 t1 (1 : Int32) (fun r2 S3 => ((¬ r2 = 0 → (pK S3 x0 = 11 ∧ (∃ o5, pR S3 x0 6 = some o5 ∧ (pK S3 o5 = 13 ∧ (vp_in x1 (pL S3 o5) ∧ (wpX12_memberOf S3 x0 (-(pI S3 o5 (x1).toNatClampNeg)) x2 (fun r8 S9 => (pK S9 x0 = 11 ∧ (∃ o11, pR S9 x0 6 = some o11 ∧ (pK S9 o11 = 13 ∧ (vp_in x1 (pL S9 o11) ∧ (wpX12_valueIn S9 (pI S9 o11 (x1).toNatClampNeg) r8 (fun r14 S15 => (Q (((10 : Int32) * r8) + r14) S15)))))))))))))) ∧ (r2 = 0 → (Q (0 : Int32) S3))))))
def wpX12_learnt_b59  (Q : Int32 → PS → Prop) (S : PS) (x0 : Nat) (x1 : Int32) (x2 : Int32) (t0 : Nat) : Prop := (wpX12_learnt_b60 Q S x0 x1 x2 t0 (0 : Int32))
def wpX12_learnt (S : PS) (x0 : Nat) (x1 : Int32) (x2 : Int32) (Q : Int32 → PS → Prop) : Prop := (pK S x0 = 11 ∧ (wpX12_isIn (sI S x0 0 (0 : Int32)) x1 (0 : Int32) ((pI (sI S x0 0 (0 : Int32)) x0 9) - (1 : Int32)) (fun r17 S18 => (pK S18 x0 = 11 ∧ (wpX12_may S18 x0 r17 (1 : Int32) (fun r20 S21 => ((r20 = 0 → (Q (0 : Int32) S21)) ∧ (¬ r20 = 0 → (pK S21 x0 = 11 ∧ (∃ o23, pR S21 x0 6 = some o23 ∧ (pK S21 o23 = 13 ∧ (vp_in x1 (pL S21 o23) ∧ (((pI S21 o23 (x1).toNatClampNeg) ≤ 0 → (wpX12_learnt_b59 Q S21 x0 x1 x2 x0)) ∧ (¬ (pI S21 o23 (x1).toNatClampNeg) ≤ 0 → (vp_in x1 (pL S21 o23) ∧ (wpX12_manyIn S21 x0 (-(pI S21 o23 (x1).toNatClampNeg)) (fun r27 S28 => (wpX12_isIn S28 x2 (0 : Int32) (r27 - (1 : Int32)) (fun r29 S30 => ((r29 = 0 → (wpX12_learnt_b59 Q S30 x0 x1 x2 x0)) ∧ (¬ r29 = 0 → (wpX12_learnt_b60 Q S30 x0 x1 x2 x0 (1 : Int32)))))))))))))))))))))))
set_option maxRecDepth 100000 in
set_option maxHeartbeats 4000000 in
theorem cbX12_learnt_b60 {p : Program} {l : Launch} {e : Env} {s : State} {m : MethodId} {args : Array Value} {below : List Frame} {meth : Method} {c : Code} {G : PG} {Q : Int32 → PS → Prop} (C : pCx p s m args meth c G cX12_learnt 4 yX12_learnt.cls wsX12_learnt) (hr : meth.sig.returnType = (some .int)) (hin : meth.name = yX12_learnt.name)  : ∀ (S : PS) (x0 : Nat) (x1 : Int32) (x2 : Int32) (t0 : Nat) (t1 : Int32), wpX12_learnt_b60  Q S x0 x1 x2 t0 t1 → PW p l e rmX12_learnt s m args below meth c (MQ below (va_Qi Q (pB G) (pFr G)) args s rmX12_learnt.cells rmX12_learnt.slots (pFr G)) G 4 S 0 0 [(0, .ref (G.2.2 + x0)), (1, .int x1), (2, .int x2)] 60 (.int t1 :: .ref (G.2.2 + t0) :: []) := by
  intro S x0 x1 x2 t0 t1 h
  unfold wpX12_learnt_b60 at h
  refine pw_iconst (pc := 60) (v := 1 ) C dX12_learnt_60 (by decide) ?_
  obtain ⟨hk1, h⟩ := h
  refine pw_calli (pc := 61) (kc2 := 0) (kn2 := 0) (pRunV (pc := 61) C (ctX12_may l G  _ t0 t1 (1 : Int32) _ h) (cwV 2 C.2.2.2.2.1 gX12_learnt_X12_may rfl rfl rfl (by decide +kernel) ⟨Nat.le_of_ble_eq_true rfl, Nat.le_of_ble_eq_true rfl⟩) pCl10 hk1 rfl rfl (Nat.le_of_ble_eq_true rfl) dX12_learnt_61 ⟨Nat.le_of_ble_eq_true rfl, Nat.le_of_ble_eq_true rfl⟩) rfl rfl (fun r2 S3 h => ?_)
  refine pw_if_ne (pc := 64) (tgt := 69) C dX12_learnt_64 rfl ⟨fun hc => ?_, fun hc => ?_⟩
  · replace h := h.1 hc
    refine pw_aload_n (pc := 69) C 0 dX12_learnt_69 rfl rfl ?_
    refine pw_aload_n (pc := 70) C 0 dX12_learnt_70 rfl rfl ?_
    obtain ⟨hk4, h⟩ := h
    obtain ⟨o5, ho5, h⟩ := h
    refine pw_getR (pc := 71) (ref := "SupportSolverModel") (k := 6) (index := 25) C pCl10 iX12_learnt_X12 hk4 rfl (by decide +kernel) (Or.inl rfl) (o := o5) ho5 dX12_learnt_71 ?_
    refine pw_iload_n (pc := 74) C 1 dX12_learnt_74 rfl rfl ?_
    obtain ⟨hk6, h⟩ := h
    obtain ⟨hi7, h⟩ := h
    refine pw_iald (pc := 75) C hk6 hi7 dX12_learnt_75 ?_
    refine pw_ineg (pc := 76) C dX12_learnt_76 ?_
    refine pw_iload_n (pc := 77) C 2 dX12_learnt_77 rfl rfl ?_
    refine pw_calli (pc := 78) (kc2 := 0) (kn2 := 0) (pRunV (pc := 78) C (ctX12_memberOf l G  _ x0 (-(pI S3 o5 (x1).toNatClampNeg)) x2 _ h) (cwV 2 C.2.2.2.2.1 gX12_learnt_X12_memberOf rfl rfl rfl (by decide +kernel) ⟨Nat.le_of_ble_eq_true rfl, Nat.le_of_ble_eq_true rfl⟩) pCl10 hk4 rfl rfl (Nat.le_of_ble_eq_true rfl) dX12_learnt_78 ⟨Nat.le_of_ble_eq_true rfl, Nat.le_of_ble_eq_true rfl⟩) rfl rfl (fun r8 S9 h => ?_)
    refine pw_istore_n (pc := 81) C [(3, .int r8), (0, .ref (G.2.2 + x0)), (1, .int x1), (2, .int x2)] dX12_learnt_81 rfl (by decide) rfl ?_
    refine pw_bipush (pc := 82) (v := 10 ) C dX12_learnt_82 (by decide) ?_
    refine pw_iload_n (pc := 84) C 0 dX12_learnt_84 rfl rfl ?_
    refine pw_imul (pc := 85) C dX12_learnt_85 ?_
    refine pw_aload_n (pc := 86) C 1 dX12_learnt_86 rfl rfl ?_
    obtain ⟨hk10, h⟩ := h
    obtain ⟨o11, ho11, h⟩ := h
    refine pw_getR (pc := 87) (ref := "SupportSolverModel") (k := 6) (index := 25) C pCl10 iX12_learnt_X12 hk10 rfl (by decide +kernel) (Or.inl rfl) (o := o11) ho11 dX12_learnt_87 ?_
    refine pw_iload_n (pc := 90) C 2 dX12_learnt_90 rfl rfl ?_
    obtain ⟨hk12, h⟩ := h
    obtain ⟨hi13, h⟩ := h
    refine pw_iald (pc := 91) C hk12 hi13 dX12_learnt_91 ?_
    refine pw_iload_n (pc := 92) C 0 dX12_learnt_92 rfl rfl ?_
    refine pw_calli (pc := 93) (kc2 := 0) (kn2 := 0) (pRunS (pc := 93) C (ctX12_valueIn l G  _ (pI S9 o11 (x1).toNatClampNeg) r8 _ h) (va_cwS 2 C.2.2.2.2.1 gX12_learnt_X12_valueIn rfl rfl rfl (by decide +kernel) ⟨Nat.le_of_ble_eq_true rfl, Nat.le_of_ble_eq_true rfl⟩) rfl rfl (Nat.le_of_ble_eq_true rfl) dX12_learnt_93 ⟨Nat.le_of_ble_eq_true rfl, Nat.le_of_ble_eq_true rfl⟩) rfl rfl (fun r14 S15 h => ?_)
    refine pw_iadd (pc := 96) C dX12_learnt_96 ?_
    exact pw_iret (pc := 97) C hr h dX12_learnt_97
  · replace h := h.2 hc
    refine pw_iconst (pc := 67) (v := 0 ) C dX12_learnt_67 (by decide) ?_
    exact pw_iret (pc := 68) C hr h dX12_learnt_68
set_option maxRecDepth 100000 in
set_option maxHeartbeats 4000000 in
theorem cbX12_learnt_b59 {p : Program} {l : Launch} {e : Env} {s : State} {m : MethodId} {args : Array Value} {below : List Frame} {meth : Method} {c : Code} {G : PG} {Q : Int32 → PS → Prop} (C : pCx p s m args meth c G cX12_learnt 4 yX12_learnt.cls wsX12_learnt) (hr : meth.sig.returnType = (some .int)) (hin : meth.name = yX12_learnt.name)  : ∀ (S : PS) (x0 : Nat) (x1 : Int32) (x2 : Int32) (t0 : Nat), wpX12_learnt_b59  Q S x0 x1 x2 t0 → PW p l e rmX12_learnt s m args below meth c (MQ below (va_Qi Q (pB G) (pFr G)) args s rmX12_learnt.cells rmX12_learnt.slots (pFr G)) G 4 S 0 0 [(0, .ref (G.2.2 + x0)), (1, .int x1), (2, .int x2)] 59 (.ref (G.2.2 + t0) :: []) := by
  intro S x0 x1 x2 t0 h
  unfold wpX12_learnt_b59 at h
  refine pw_iconst (pc := 59) (v := 0 ) C dX12_learnt_59 (by decide) ?_
  exact cbX12_learnt_b60 C hr hin  _ _ _ _ _ _ h
set_option maxRecDepth 100000 in
set_option maxHeartbeats 4000000 in
theorem ctX12_learnt (l : Launch) (G : PG) (S : PS) (x0 : Nat) (x1 : Int32) (x2 : Int32) (Q : Int32 → PS → Prop) (h : wpX12_learnt S x0 x1 x2 Q) : mI l yX12_learnt wsX12_learnt rmX12_learnt G S [.ref (G.2.2 + x0), .int x1, .int x2] Q := by
  unfold mI
  refine met_of (cc := cX12_learnt) (maxL := 4) (ret := (some .int)) (by decide) rfl (Nat.le_of_ble_eq_true rfl) ?_
  intro p e s m args below meth c C hr hin
  unfold wpX12_learnt at h
  show PW p l e _ s m args below meth c _ G 4 S 0 0 [(0, .ref (G.2.2 + x0)), (1, .int x1), (2, .int x2)] 0 []
  refine pw_aload_n (pc := 0) C 0 dX12_learnt_0 rfl rfl ?_
  refine pw_iconst (pc := 1) (v := 0 ) C dX12_learnt_1 (by decide) ?_
  obtain ⟨hk16, h⟩ := h
  refine pw_putI (pc := 2) (ref := "SupportSolverModel") (k := 0) (index := 70) C pCl10 iX12_learnt_X12 hk16 rfl (by decide +kernel) (Or.inl rfl) (Or.inl rfl) rfl rfl dX12_learnt_2 ?_
  refine pw_aload_n (pc := 5) (S := (sI S x0 0 (0 : Int32))) C 0 dX12_learnt_5 rfl rfl ?_
  refine pw_iload_n (pc := 6) (S := (sI S x0 0 (0 : Int32))) C 1 dX12_learnt_6 rfl rfl ?_
  refine pw_iconst (pc := 7) (S := (sI S x0 0 (0 : Int32))) (v := 0 ) C dX12_learnt_7 (by decide) ?_
  refine pw_aload_n (pc := 8) (S := (sI S x0 0 (0 : Int32))) C 0 dX12_learnt_8 rfl rfl ?_
  refine pw_getI (pc := 9) (S := (sI S x0 0 (0 : Int32))) (ref := "SupportSolverModel") (k := 9) (index := 79) C pCl10 iX12_learnt_X12 hk16 rfl (by decide +kernel) (Or.inl rfl) dX12_learnt_9 ?_
  refine pw_iconst (pc := 12) (S := (sI S x0 0 (0 : Int32))) (v := 1 ) C dX12_learnt_12 (by decide) ?_
  refine pw_isub (pc := 13) (S := (sI S x0 0 (0 : Int32))) C dX12_learnt_13 ?_
  refine pw_calli (pc := 14) (S := (sI S x0 0 (0 : Int32))) (kc2 := 0) (kn2 := 0) (pRunS (pc := 14) (S := (sI S x0 0 (0 : Int32))) C (ctX12_isIn l G  _ x1 (0 : Int32) ((pI (sI S x0 0 (0 : Int32)) x0 9) - (1 : Int32)) _ h) (va_cwS 3 C.2.2.2.2.1 gX12_learnt_X12_isIn rfl rfl rfl (by decide +kernel) ⟨Nat.le_of_ble_eq_true rfl, Nat.le_of_ble_eq_true rfl⟩) rfl rfl (Nat.le_of_ble_eq_true rfl) dX12_learnt_14 ⟨Nat.le_of_ble_eq_true rfl, Nat.le_of_ble_eq_true rfl⟩) rfl rfl (fun r17 S18 h => ?_)
  refine pw_iconst (pc := 17) (v := 1 ) C dX12_learnt_17 (by decide) ?_
  obtain ⟨hk19, h⟩ := h
  refine pw_calli (pc := 18) (kc2 := 0) (kn2 := 0) (pRunV (pc := 18) C (ctX12_may l G  _ x0 r17 (1 : Int32) _ h) (cwV 2 C.2.2.2.2.1 gX12_learnt_X12_may rfl rfl rfl (by decide +kernel) ⟨Nat.le_of_ble_eq_true rfl, Nat.le_of_ble_eq_true rfl⟩) pCl10 hk19 rfl rfl (Nat.le_of_ble_eq_true rfl) dX12_learnt_18 ⟨Nat.le_of_ble_eq_true rfl, Nat.le_of_ble_eq_true rfl⟩) rfl rfl (fun r20 S21 h => ?_)
  refine pw_if_eq (pc := 21) (tgt := 67) C dX12_learnt_21 rfl ⟨fun hc => ?_, fun hc => ?_⟩
  · replace h := h.1 hc
    refine pw_iconst (pc := 67) (v := 0 ) C dX12_learnt_67 (by decide) ?_
    exact pw_iret (pc := 68) C hr h dX12_learnt_68
  · replace h := h.2 hc
    refine pw_aload_n (pc := 24) C 0 dX12_learnt_24 rfl rfl ?_
    refine pw_aload_n (pc := 25) C 0 dX12_learnt_25 rfl rfl ?_
    obtain ⟨hk22, h⟩ := h
    obtain ⟨o23, ho23, h⟩ := h
    refine pw_getR (pc := 26) (ref := "SupportSolverModel") (k := 6) (index := 25) C pCl10 iX12_learnt_X12 hk22 rfl (by decide +kernel) (Or.inl rfl) (o := o23) ho23 dX12_learnt_26 ?_
    refine pw_iload_n (pc := 29) C 1 dX12_learnt_29 rfl rfl ?_
    obtain ⟨hk24, h⟩ := h
    obtain ⟨hi25, h⟩ := h
    refine pw_iald (pc := 30) C hk24 hi25 dX12_learnt_30 ?_
    refine pw_if_le (pc := 31) (tgt := 59) C dX12_learnt_31 rfl ⟨fun hc => ?_, fun hc => ?_⟩
    · replace h := h.1 hc
      exact cbX12_learnt_b59 C hr hin  _ _ _ _ _ h
    · replace h := h.2 hc
      refine pw_iload_n (pc := 34) C 2 dX12_learnt_34 rfl rfl ?_
      refine pw_iconst (pc := 35) (v := 0 ) C dX12_learnt_35 (by decide) ?_
      refine pw_aload_n (pc := 36) C 0 dX12_learnt_36 rfl rfl ?_
      refine pw_aload_n (pc := 37) C 0 dX12_learnt_37 rfl rfl ?_
      refine pw_getR (pc := 38) (ref := "SupportSolverModel") (k := 6) (index := 25) C pCl10 iX12_learnt_X12 hk22 rfl (by decide +kernel) (Or.inl rfl) (o := o23) ho23 dX12_learnt_38 ?_
      refine pw_iload_n (pc := 41) C 1 dX12_learnt_41 rfl rfl ?_
      obtain ⟨hi26, h⟩ := h
      refine pw_iald (pc := 42) C hk24 hi26 dX12_learnt_42 ?_
      refine pw_ineg (pc := 43) C dX12_learnt_43 ?_
      refine pw_calli (pc := 44) (kc2 := 0) (kn2 := 0) (pRunV (pc := 44) C (ctX12_manyIn l G  _ x0 (-(pI S21 o23 (x1).toNatClampNeg)) _ h) (cwV 1 C.2.2.2.2.1 gX12_learnt_X12_manyIn rfl rfl rfl (by decide +kernel) ⟨Nat.le_of_ble_eq_true rfl, Nat.le_of_ble_eq_true rfl⟩) pCl10 hk22 rfl rfl (Nat.le_of_ble_eq_true rfl) dX12_learnt_44 ⟨Nat.le_of_ble_eq_true rfl, Nat.le_of_ble_eq_true rfl⟩) rfl rfl (fun r27 S28 h => ?_)
      refine pw_iconst (pc := 47) (v := 1 ) C dX12_learnt_47 (by decide) ?_
      refine pw_isub (pc := 48) C dX12_learnt_48 ?_
      refine pw_calli (pc := 49) (kc2 := 0) (kn2 := 0) (pRunS (pc := 49) C (ctX12_isIn l G  _ x2 (0 : Int32) (r27 - (1 : Int32)) _ h) (va_cwS 3 C.2.2.2.2.1 gX12_learnt_X12_isIn rfl rfl rfl (by decide +kernel) ⟨Nat.le_of_ble_eq_true rfl, Nat.le_of_ble_eq_true rfl⟩) rfl rfl (Nat.le_of_ble_eq_true rfl) dX12_learnt_49 ⟨Nat.le_of_ble_eq_true rfl, Nat.le_of_ble_eq_true rfl⟩) rfl rfl (fun r29 S30 h => ?_)
      refine pw_if_eq (pc := 52) (tgt := 59) C dX12_learnt_52 rfl ⟨fun hc => ?_, fun hc => ?_⟩
      · replace h := h.1 hc
        exact cbX12_learnt_b59 C hr hin  _ _ _ _ _ h
      · replace h := h.2 hc
        refine pw_iconst (pc := 55) (v := 1 ) C dX12_learnt_55 (by decide) ?_
        refine pw_goto (pc := 56) (tgt := 60) C dX12_learnt_56 rfl ?_
        exact cbX12_learnt_b60 C hr hin  _ _ _ _ _ _ h

abbrev rmX12_chosen : Room := { frames := 1, cells := 0, slots := 0, locals := 22 }
theorem iX12_chosen_X12 : ∀ w ∈ u_ws RX12 TX12 32, w ∈ wsX12_chosen := fun _ h => List.mem_cons_of_mem _ (List.mem_append_right _ h)
def wpX12_chosen_b4  (Q : Int32 → PS → Prop) : Nat → PS → Nat → Int32 → Int32 → Prop
  | 0 => fun _ _ _ _ => False
  | n + 1 => fun S x0 x1 x2 => (pK S x0 = 11 ∧ (∃ o2, pR S x0 1 = some o2 ∧ (pK S o2 = 13 ∧ (vp_in (0 : Int32) (pL S o2) ∧ (((pI S o2 ((0 : Int32)).toNatClampNeg) ≤ x2 → (Q x1 S)) ∧ (¬ (pI S o2 ((0 : Int32)).toNatClampNeg) ≤ x2 → (∃ o5, pR S x0 3 = some o5 ∧ (pK S o5 = 13 ∧ (vp_in x2 (pL S o5) ∧ (wpX12_sizeOf S (pI S o5 (x2).toNatClampNeg) (fun r8 S9 => ((r8 ≤ (1 : Int32) → (wpX12_chosen_b4 Q n S9 x0 x1 (x2 + 1))) ∧ (¬ r8 ≤ (1 : Int32) → ((x1 = (-1 : Int32) → (wpX12_chosen_b4 Q n S9 x0 x2 (x2 + 1))) ∧ (¬ x1 = (-1 : Int32) → (pK S9 x0 = 11 ∧ (∃ o11, pR S9 x0 3 = some o11 ∧ (pK S9 o11 = 13 ∧ (vp_in x1 (pL S9 o11) ∧ (wpX12_sizeOf S9 (pI S9 o11 (x1).toNatClampNeg) (fun r14 S15 => ((r14 ≤ r8 → (wpX12_chosen_b4 Q n S15 x0 x1 (x2 + 1))) ∧ (¬ r14 ≤ r8 → (wpX12_chosen_b4 Q n S15 x0 x2 (x2 + 1)))))))))))))))))))))))))
def wpX12_chosen (S : PS) (x0 : Nat) (Q : Int32 → PS → Prop) : Prop := (∃ n9 : Nat, wpX12_chosen_b4 Q n9 S x0 (-1 : Int32) (0 : Int32))
set_option maxRecDepth 100000 in
set_option maxHeartbeats 4000000 in
theorem cbX12_chosen_b4 {p : Program} {l : Launch} {e : Env} {s : State} {m : MethodId} {args : Array Value} {below : List Frame} {meth : Method} {c : Code} {G : PG} {Q : Int32 → PS → Prop} (C : pCx p s m args meth c G cX12_chosen 4 yX12_chosen.cls wsX12_chosen) (hr : meth.sig.returnType = (some .int)) (hin : meth.name = yX12_chosen.name)  (n : Nat) : ∀ (S : PS) (x0 : Nat) (x1 : Int32) (x2 : Int32), wpX12_chosen_b4  Q n S x0 x1 x2 → PW p l e rmX12_chosen s m args below meth c (MQ below (va_Qi Q (pB G) (pFr G)) args s rmX12_chosen.cells rmX12_chosen.slots (pFr G)) G 4 S 0 0 [(0, .ref (G.2.2 + x0)), (1, .int x1), (2, .int x2)] 4 ([]) := by
  induction n with
  | zero => intro S x0 x1 x2 h; exact h.elim
  | succ n ih =>
    intro S x0 x1 x2 h
    unfold wpX12_chosen_b4 at h
    refine pw_iload_n (pc := 4) C 2 dX12_chosen_4 rfl rfl ?_
    refine pw_aload_n (pc := 5) C 0 dX12_chosen_5 rfl rfl ?_
    obtain ⟨hk1, h⟩ := h
    obtain ⟨o2, ho2, h⟩ := h
    refine pw_getR (pc := 6) (ref := "SupportSolverModel") (k := 1) (index := 7) C pCl10 iX12_chosen_X12 hk1 rfl (by decide +kernel) (Or.inl rfl) (o := o2) ho2 dX12_chosen_6 ?_
    refine pw_iconst (pc := 9) (v := 0 ) C dX12_chosen_9 (by decide) ?_
    obtain ⟨hk3, h⟩ := h
    obtain ⟨hi4, h⟩ := h
    refine pw_iald (pc := 10) C hk3 hi4 dX12_chosen_10 ?_
    refine pw_icmp_ge (pc := 11) (tgt := 55) C dX12_chosen_11 rfl ⟨fun hc => ?_, fun hc => ?_⟩
    · replace h := h.1 hc
      refine pw_iload_n (pc := 55) C 1 dX12_chosen_55 rfl rfl ?_
      exact pw_iret (pc := 56) C hr h dX12_chosen_56
    · replace h := h.2 hc
      refine pw_aload_n (pc := 14) C 0 dX12_chosen_14 rfl rfl ?_
      obtain ⟨o5, ho5, h⟩ := h
      refine pw_getR (pc := 15) (ref := "SupportSolverModel") (k := 3) (index := 16) C pCl10 iX12_chosen_X12 hk1 rfl (by decide +kernel) (Or.inl rfl) (o := o5) ho5 dX12_chosen_15 ?_
      refine pw_iload_n (pc := 18) C 2 dX12_chosen_18 rfl rfl ?_
      obtain ⟨hk6, h⟩ := h
      obtain ⟨hi7, h⟩ := h
      refine pw_iald (pc := 19) C hk6 hi7 dX12_chosen_19 ?_
      refine pw_calli (pc := 20) (kc2 := 0) (kn2 := 0) (pRunS (pc := 20) C (ctX12_sizeOf l G  _ (pI S o5 (x2).toNatClampNeg) _ h) (va_cwS 1 C.2.2.2.2.1 gX12_chosen_X12_sizeOf rfl rfl rfl (by decide +kernel) ⟨Nat.le_of_ble_eq_true rfl, Nat.le_of_ble_eq_true rfl⟩) rfl rfl (Nat.le_of_ble_eq_true rfl) dX12_chosen_20 ⟨Nat.le_of_ble_eq_true rfl, Nat.le_of_ble_eq_true rfl⟩) rfl rfl (fun r8 S9 h => ?_)
      refine pw_istore_n (pc := 23) C [(3, .int r8), (0, .ref (G.2.2 + x0)), (1, .int x1), (2, .int x2)] dX12_chosen_23 rfl (by decide) rfl ?_
      refine pw_iload_n (pc := 24) C 0 dX12_chosen_24 rfl rfl ?_
      refine pw_iconst (pc := 25) (v := 1 ) C dX12_chosen_25 (by decide) ?_
      refine pw_icmp_le (pc := 26) (tgt := 49) C dX12_chosen_26 rfl ⟨fun hc => ?_, fun hc => ?_⟩
      · replace h := h.1 hc
        refine pw_iincK (pc := 49) (w := 1) C [(2, .int (x2 + 1)), (3, .int r8), (0, .ref (G.2.2 + x0)), (1, .int x1)] 3 dX12_chosen_49 (by decide) rfl (by decide) rfl ?_
        refine pw_goto (pc := 52) (tgt := 4) C dX12_chosen_52 rfl ?_
        refine pw_sub [2, 3, 0] (LV2 := [(0, .ref (G.2.2 + x0)), (1, .int x1), (2, .int (x2 + 1))]) rfl ?_
        exact ih _ _ _ _ h
      · replace h := h.2 hc
        refine pw_iload_n (pc := 29) C 2 dX12_chosen_29 rfl rfl ?_
        refine pw_iconst (pc := 30) (v := (-1)) C dX12_chosen_30 (by decide) ?_
        refine pw_icmp_eq (pc := 31) (tgt := 47) C dX12_chosen_31 rfl ⟨fun hc => ?_, fun hc => ?_⟩
        · replace h := h.1 hc
          refine pw_iload_n (pc := 47) C 3 dX12_chosen_47 rfl rfl ?_
          refine pw_istore_n (pc := 48) C [(1, .int x2), (3, .int r8), (0, .ref (G.2.2 + x0)), (2, .int x2)] dX12_chosen_48 rfl (by decide) rfl ?_
          refine pw_iincK (pc := 49) (w := 1) C [(2, .int (x2 + 1)), (1, .int x2), (3, .int r8), (0, .ref (G.2.2 + x0))] 3 dX12_chosen_49 (by decide) rfl (by decide) rfl ?_
          refine pw_goto (pc := 52) (tgt := 4) C dX12_chosen_52 rfl ?_
          refine pw_sub [3, 1, 0] (LV2 := [(0, .ref (G.2.2 + x0)), (1, .int x2), (2, .int (x2 + 1))]) rfl ?_
          exact ih _ _ _ _ h
        · replace h := h.2 hc
          refine pw_iload_n (pc := 34) C 0 dX12_chosen_34 rfl rfl ?_
          refine pw_aload_n (pc := 35) C 1 dX12_chosen_35 rfl rfl ?_
          obtain ⟨hk10, h⟩ := h
          obtain ⟨o11, ho11, h⟩ := h
          refine pw_getR (pc := 36) (ref := "SupportSolverModel") (k := 3) (index := 16) C pCl10 iX12_chosen_X12 hk10 rfl (by decide +kernel) (Or.inl rfl) (o := o11) ho11 dX12_chosen_36 ?_
          refine pw_iload_n (pc := 39) C 2 dX12_chosen_39 rfl rfl ?_
          obtain ⟨hk12, h⟩ := h
          obtain ⟨hi13, h⟩ := h
          refine pw_iald (pc := 40) C hk12 hi13 dX12_chosen_40 ?_
          refine pw_calli (pc := 41) (kc2 := 0) (kn2 := 0) (pRunS (pc := 41) C (ctX12_sizeOf l G  _ (pI S9 o11 (x1).toNatClampNeg) _ h) (va_cwS 1 C.2.2.2.2.1 gX12_chosen_X12_sizeOf rfl rfl rfl (by decide +kernel) ⟨Nat.le_of_ble_eq_true rfl, Nat.le_of_ble_eq_true rfl⟩) rfl rfl (Nat.le_of_ble_eq_true rfl) dX12_chosen_41 ⟨Nat.le_of_ble_eq_true rfl, Nat.le_of_ble_eq_true rfl⟩) rfl rfl (fun r14 S15 h => ?_)
          refine pw_icmp_ge (pc := 44) (tgt := 49) C dX12_chosen_44 rfl ⟨fun hc => ?_, fun hc => ?_⟩
          · replace h := h.1 hc
            refine pw_iincK (pc := 49) (w := 1) C [(2, .int (x2 + 1)), (3, .int r8), (0, .ref (G.2.2 + x0)), (1, .int x1)] 3 dX12_chosen_49 (by decide) rfl (by decide) rfl ?_
            refine pw_goto (pc := 52) (tgt := 4) C dX12_chosen_52 rfl ?_
            refine pw_sub [2, 3, 0] (LV2 := [(0, .ref (G.2.2 + x0)), (1, .int x1), (2, .int (x2 + 1))]) rfl ?_
            exact ih _ _ _ _ h
          · replace h := h.2 hc
            refine pw_iload_n (pc := 47) C 3 dX12_chosen_47 rfl rfl ?_
            refine pw_istore_n (pc := 48) C [(1, .int x2), (3, .int r8), (0, .ref (G.2.2 + x0)), (2, .int x2)] dX12_chosen_48 rfl (by decide) rfl ?_
            refine pw_iincK (pc := 49) (w := 1) C [(2, .int (x2 + 1)), (1, .int x2), (3, .int r8), (0, .ref (G.2.2 + x0))] 3 dX12_chosen_49 (by decide) rfl (by decide) rfl ?_
            refine pw_goto (pc := 52) (tgt := 4) C dX12_chosen_52 rfl ?_
            refine pw_sub [3, 1, 0] (LV2 := [(0, .ref (G.2.2 + x0)), (1, .int x2), (2, .int (x2 + 1))]) rfl ?_
            exact ih _ _ _ _ h
set_option maxRecDepth 100000 in
set_option maxHeartbeats 4000000 in
theorem ctX12_chosen (l : Launch) (G : PG) (S : PS) (x0 : Nat) (Q : Int32 → PS → Prop) (h : wpX12_chosen S x0 Q) : mI l yX12_chosen wsX12_chosen rmX12_chosen G S [.ref (G.2.2 + x0)] Q := by
  unfold mI
  refine met_of (cc := cX12_chosen) (maxL := 4) (ret := (some .int)) (by decide) rfl (Nat.le_of_ble_eq_true rfl) ?_
  intro p e s m args below meth c C hr hin
  unfold wpX12_chosen at h
  show PW p l e _ s m args below meth c _ G 4 S 0 0 [(0, .ref (G.2.2 + x0))] 0 []
  refine pw_iconst (pc := 0) (v := (-1)) C dX12_chosen_0 (by decide) ?_
  refine pw_istore_n (pc := 1) C [(1, .int (-1 : Int32)), (0, .ref (G.2.2 + x0))] dX12_chosen_1 rfl (by decide) rfl ?_
  refine pw_iconst (pc := 2) (v := 0 ) C dX12_chosen_2 (by decide) ?_
  refine pw_istore_n (pc := 3) C [(2, .int (0 : Int32)), (1, .int (-1 : Int32)), (0, .ref (G.2.2 + x0))] dX12_chosen_3 rfl (by decide) rfl ?_
  refine pw_sub [2, 1, 0] (LV2 := [(0, .ref (G.2.2 + x0)), (1, .int (-1 : Int32)), (2, .int (0 : Int32))]) rfl ?_
  obtain ⟨n9, h⟩ := h
  exact cbX12_chosen_b4 C hr hin  n9 _ _ _ _ h

abbrev rmX12_search : Room := { frames := 8, cells := 0, slots := 0, locals := 201 }
theorem iX12_search_X12 : ∀ w ∈ u_ws RX12 TX12 32, w ∈ wsX12_search := fun _ h => List.mem_cons_of_mem _ (List.mem_append_right _ h)
def wpX12_search_b24  (Q : Int32 → PS → Prop) : Nat → PS → Nat → Int32 → Int32 → Prop
  | 0 => fun _ _ _ _ => False
  | n + 1 => fun S x0 x1 x2 => (pK S x0 = 11 ∧ (((pI S x0 11) = 0 → (wpX12_chosen S x0 (fun r2 S3 => ((¬ r2 = (-1 : Int32) → ((¬ x2 = x1 → (pK S3 x0 = 11 ∧ (∃ o5, pR S3 x0 3 = some o5 ∧ (pK S3 o5 = 13 ∧ (vp_in r2 (pL S3 o5) ∧ (wpX12_onlyOf (sI S3 x0 10 ((pI S3 x0 10) + (1 : Int32))) (pI (sI S3 x0 10 ((pI S3 x0 10) + (1 : Int32))) o5 (r2).toNatClampNeg) (fun r8 S9 => (pK S9 x0 = 11 ∧ (wpX12_decides S9 x0 r2 r8 (fun r11 S12 => (wpX12_search_b24 Q n S12 x0 x1 (x2 + 1)))))))))))) ∧ (x2 = x1 → (Q (0 : Int32) S3)))) ∧ (r2 = (-1 : Int32) → (Q (1 : Int32) S3)))))) ∧ (¬ (pI S x0 11) = 0 → ((¬ (pI S x0 8) = 0 → (wpX12_learns S x0 (fun r13 S14 => (wpX12_search_b24 Q n S14 x0 x1 x2)))) ∧ ((pI S x0 8) = 0 → (Q (-1 : Int32) S))))))
def wpX12_search (S : PS) (x0 : Nat) (x1 : Int32) (Q : Int32 → PS → Prop) : Prop := (pK S x0 = 11 ∧ (wpX12_isIn (sI S x0 0 (0 : Int32)) x1 (1 : Int32) (100 : Int32) (fun r16 S17 => (pK S17 x0 = 11 ∧ (wpX12_may S17 x0 r16 (1 : Int32) (fun r19 S20 => ((¬ r19 = 0 → (∃ n9 : Nat, wpX12_search_b24 Q n9 S20 x0 x1 (0 : Int32))) ∧ (r19 = 0 → (Q (0 : Int32) S20)))))))))
set_option maxRecDepth 100000 in
set_option maxHeartbeats 4000000 in
theorem cbX12_search_b24 {p : Program} {l : Launch} {e : Env} {s : State} {m : MethodId} {args : Array Value} {below : List Frame} {meth : Method} {c : Code} {G : PG} {Q : Int32 → PS → Prop} (C : pCx p s m args meth c G cX12_search 5 yX12_search.cls wsX12_search) (hr : meth.sig.returnType = (some .int)) (hin : meth.name = yX12_search.name)  (n : Nat) : ∀ (S : PS) (x0 : Nat) (x1 : Int32) (x2 : Int32), wpX12_search_b24  Q n S x0 x1 x2 → PW p l e rmX12_search s m args below meth c (MQ below (va_Qi Q (pB G) (pFr G)) args s rmX12_search.cells rmX12_search.slots (pFr G)) G 5 S 0 0 [(0, .ref (G.2.2 + x0)), (1, .int x1), (2, .int x2)] 24 ([]) := by
  induction n with
  | zero => intro S x0 x1 x2 h; exact h.elim
  | succ n ih =>
    intro S x0 x1 x2 h
    unfold wpX12_search_b24 at h
    refine pw_aload_n (pc := 24) C 0 dX12_search_24 rfl rfl ?_
    obtain ⟨hk1, h⟩ := h
    refine pw_getI (pc := 25) (ref := "SupportSolverModel") (k := 11) (index := 85) C pCl10 iX12_search_X12 hk1 rfl (by decide +kernel) (Or.inl rfl) dX12_search_25 ?_
    refine pw_if_eq (pc := 28) (tgt := 48) C dX12_search_28 rfl ⟨fun hc => ?_, fun hc => ?_⟩
    · replace h := h.1 hc
      refine pw_aload_n (pc := 48) C 0 dX12_search_48 rfl rfl ?_
      refine pw_calli (pc := 49) (kc2 := 0) (kn2 := 0) (pRunV (pc := 49) C (ctX12_chosen l G  _ x0 _ h) (cwV 0 C.2.2.2.2.1 gX12_search_X12_chosen rfl rfl rfl (by decide +kernel) ⟨Nat.le_of_ble_eq_true rfl, Nat.le_of_ble_eq_true rfl⟩) pCl10 hk1 rfl rfl (Nat.le_of_ble_eq_true rfl) dX12_search_49 ⟨Nat.le_of_ble_eq_true rfl, Nat.le_of_ble_eq_true rfl⟩) rfl rfl (fun r2 S3 h => ?_)
      refine pw_istore_n (pc := 52) C [(3, .int r2), (0, .ref (G.2.2 + x0)), (1, .int x1), (2, .int x2)] dX12_search_52 rfl (by decide) rfl ?_
      refine pw_iload_n (pc := 53) C 0 dX12_search_53 rfl rfl ?_
      refine pw_iconst (pc := 54) (v := (-1)) C dX12_search_54 (by decide) ?_
      refine pw_icmp_ne (pc := 55) (tgt := 60) C dX12_search_55 rfl ⟨fun hc => ?_, fun hc => ?_⟩
      · replace h := h.1 hc
        refine pw_iload_n (pc := 60) C 3 dX12_search_60 rfl rfl ?_
        refine pw_iload_n (pc := 61) C 2 dX12_search_61 rfl rfl ?_
        refine pw_icmp_ne (pc := 62) (tgt := 67) C dX12_search_62 rfl ⟨fun hc => ?_, fun hc => ?_⟩
        · replace h := h.1 hc
          refine pw_iincK (pc := 67) (w := 1) C [(2, .int (x2 + 1)), (3, .int r2), (0, .ref (G.2.2 + x0)), (1, .int x1)] 3 dX12_search_67 (by decide) rfl (by decide) rfl ?_
          refine pw_aload_n (pc := 70) C 2 dX12_search_70 rfl rfl ?_
          refine pw_dup (pc := 71) C dX12_search_71 rfl ?_
          obtain ⟨hk4, h⟩ := h
          refine pw_getI (pc := 72) (ref := "SupportSolverModel") (k := 10) (index := 82) C pCl10 iX12_search_X12 hk4 rfl (by decide +kernel) (Or.inl rfl) dX12_search_72 ?_
          refine pw_iconst (pc := 75) (v := 1 ) C dX12_search_75 (by decide) ?_
          refine pw_iadd (pc := 76) C dX12_search_76 ?_
          refine pw_putI (pc := 77) (ref := "SupportSolverModel") (k := 10) (index := 82) C pCl10 iX12_search_X12 hk4 rfl (by decide +kernel) (Or.inl rfl) (Or.inl rfl) rfl rfl dX12_search_77 ?_
          refine pw_aload_n (pc := 80) (S := (sI S3 x0 10 ((pI S3 x0 10) + (1 : Int32)))) C 2 dX12_search_80 rfl rfl ?_
          refine pw_iload_n (pc := 81) (S := (sI S3 x0 10 ((pI S3 x0 10) + (1 : Int32)))) C 1 dX12_search_81 rfl rfl ?_
          refine pw_aload_n (pc := 82) (S := (sI S3 x0 10 ((pI S3 x0 10) + (1 : Int32)))) C 2 dX12_search_82 rfl rfl ?_
          obtain ⟨o5, ho5, h⟩ := h
          refine pw_getR (pc := 83) (S := (sI S3 x0 10 ((pI S3 x0 10) + (1 : Int32)))) (ref := "SupportSolverModel") (k := 3) (index := 16) C pCl10 iX12_search_X12 hk4 rfl (by decide +kernel) (Or.inl rfl) (o := o5) ho5 dX12_search_83 ?_
          refine pw_iload_n (pc := 86) (S := (sI S3 x0 10 ((pI S3 x0 10) + (1 : Int32)))) C 1 dX12_search_86 rfl rfl ?_
          obtain ⟨hk6, h⟩ := h
          obtain ⟨hi7, h⟩ := h
          refine pw_iald (pc := 87) (S := (sI S3 x0 10 ((pI S3 x0 10) + (1 : Int32)))) C hk6 hi7 dX12_search_87 ?_
          refine pw_calli (pc := 88) (S := (sI S3 x0 10 ((pI S3 x0 10) + (1 : Int32)))) (kc2 := 0) (kn2 := 0) (pRunS (pc := 88) (S := (sI S3 x0 10 ((pI S3 x0 10) + (1 : Int32)))) C (ctX12_onlyOf l G  _ (pI (sI S3 x0 10 ((pI S3 x0 10) + (1 : Int32))) o5 (r2).toNatClampNeg) _ h) (va_cwS 1 C.2.2.2.2.1 gX12_search_X12_onlyOf rfl rfl rfl (by decide +kernel) ⟨Nat.le_of_ble_eq_true rfl, Nat.le_of_ble_eq_true rfl⟩) rfl rfl (Nat.le_of_ble_eq_true rfl) dX12_search_88 ⟨Nat.le_of_ble_eq_true rfl, Nat.le_of_ble_eq_true rfl⟩) rfl rfl (fun r8 S9 h => ?_)
          obtain ⟨hk10, h⟩ := h
          refine pw_calli (pc := 91) (kc2 := 0) (kn2 := 0) (pRunV (pc := 91) C (ctX12_decides l G  _ x0 r2 r8 _ h) (cwV 2 C.2.2.2.2.1 gX12_search_X12_decides rfl rfl rfl (by decide +kernel) ⟨Nat.le_of_ble_eq_true rfl, Nat.le_of_ble_eq_true rfl⟩) pCl10 hk10 rfl rfl (Nat.le_of_ble_eq_true rfl) dX12_search_91 ⟨Nat.le_of_ble_eq_true rfl, Nat.le_of_ble_eq_true rfl⟩) rfl rfl (fun r11 S12 h => ?_)
          refine pw_istore (pc := 94) C [(4, .int r11), (2, .int (x2 + 1)), (3, .int r2), (0, .ref (G.2.2 + x0)), (1, .int x1)] dX12_search_94 (by decide) rfl ?_
          refine pw_goto (pc := 96) (tgt := 24) C dX12_search_96 rfl ?_
          refine pw_sub [3, 4, 1] (LV2 := [(0, .ref (G.2.2 + x0)), (1, .int x1), (2, .int (x2 + 1))]) rfl ?_
          exact ih _ _ _ _ h
        · replace h := h.2 hc
          refine pw_iconst (pc := 65) (v := 0 ) C dX12_search_65 (by decide) ?_
          exact pw_iret (pc := 66) C hr h dX12_search_66
      · replace h := h.2 hc
        refine pw_iconst (pc := 58) (v := 1 ) C dX12_search_58 (by decide) ?_
        exact pw_iret (pc := 59) C hr h dX12_search_59
    · replace h := h.2 hc
      refine pw_aload_n (pc := 31) C 0 dX12_search_31 rfl rfl ?_
      refine pw_getI (pc := 32) (ref := "SupportSolverModel") (k := 8) (index := 76) C pCl10 iX12_search_X12 hk1 rfl (by decide +kernel) (Or.inl rfl) dX12_search_32 ?_
      refine pw_if_ne (pc := 35) (tgt := 40) C dX12_search_35 rfl ⟨fun hc => ?_, fun hc => ?_⟩
      · replace h := h.1 hc
        refine pw_aload_n (pc := 40) C 0 dX12_search_40 rfl rfl ?_
        refine pw_calli (pc := 41) (kc2 := 0) (kn2 := 0) (pRunV (pc := 41) C (ctX12_learns l G  _ x0 _ h) (cwV 0 C.2.2.2.2.1 gX12_search_X12_learns rfl rfl rfl (by decide +kernel) ⟨Nat.le_of_ble_eq_true rfl, Nat.le_of_ble_eq_true rfl⟩) pCl10 hk1 rfl rfl (Nat.le_of_ble_eq_true rfl) dX12_search_41 ⟨Nat.le_of_ble_eq_true rfl, Nat.le_of_ble_eq_true rfl⟩) rfl rfl (fun r13 S14 h => ?_)
        refine pw_istore_n (pc := 44) C [(3, .int r13), (0, .ref (G.2.2 + x0)), (1, .int x1), (2, .int x2)] dX12_search_44 rfl (by decide) rfl ?_
        refine pw_goto (pc := 45) (tgt := 24) C dX12_search_45 rfl ?_
        refine pw_sub [1, 2, 3] (LV2 := [(0, .ref (G.2.2 + x0)), (1, .int x1), (2, .int x2)]) rfl ?_
        exact ih _ _ _ _ h
      · replace h := h.2 hc
        refine pw_iconst (pc := 38) (v := (-1)) C dX12_search_38 (by decide) ?_
        exact pw_iret (pc := 39) C hr h dX12_search_39
set_option maxRecDepth 100000 in
set_option maxHeartbeats 4000000 in
theorem ctX12_search (l : Launch) (G : PG) (S : PS) (x0 : Nat) (x1 : Int32) (Q : Int32 → PS → Prop) (h : wpX12_search S x0 x1 Q) : mI l yX12_search wsX12_search rmX12_search G S [.ref (G.2.2 + x0), .int x1] Q := by
  unfold mI
  refine met_of (cc := cX12_search) (maxL := 5) (ret := (some .int)) (by decide) rfl (Nat.le_of_ble_eq_true rfl) ?_
  intro p e s m args below meth c C hr hin
  unfold wpX12_search at h
  show PW p l e _ s m args below meth c _ G 5 S 0 0 [(0, .ref (G.2.2 + x0)), (1, .int x1)] 0 []
  refine pw_aload_n (pc := 0) C 0 dX12_search_0 rfl rfl ?_
  refine pw_iconst (pc := 1) (v := 0 ) C dX12_search_1 (by decide) ?_
  obtain ⟨hk15, h⟩ := h
  refine pw_putI (pc := 2) (ref := "SupportSolverModel") (k := 0) (index := 70) C pCl10 iX12_search_X12 hk15 rfl (by decide +kernel) (Or.inl rfl) (Or.inl rfl) rfl rfl dX12_search_2 ?_
  refine pw_aload_n (pc := 5) (S := (sI S x0 0 (0 : Int32))) C 0 dX12_search_5 rfl rfl ?_
  refine pw_iload_n (pc := 6) (S := (sI S x0 0 (0 : Int32))) C 1 dX12_search_6 rfl rfl ?_
  refine pw_iconst (pc := 7) (S := (sI S x0 0 (0 : Int32))) (v := 1 ) C dX12_search_7 (by decide) ?_
  refine pw_bipush (pc := 8) (S := (sI S x0 0 (0 : Int32))) (v := 100 ) C dX12_search_8 (by decide) ?_
  refine pw_calli (pc := 10) (S := (sI S x0 0 (0 : Int32))) (kc2 := 0) (kn2 := 0) (pRunS (pc := 10) (S := (sI S x0 0 (0 : Int32))) C (ctX12_isIn l G  _ x1 (1 : Int32) (100 : Int32) _ h) (va_cwS 3 C.2.2.2.2.1 gX12_search_X12_isIn rfl rfl rfl (by decide +kernel) ⟨Nat.le_of_ble_eq_true rfl, Nat.le_of_ble_eq_true rfl⟩) rfl rfl (Nat.le_of_ble_eq_true rfl) dX12_search_10 ⟨Nat.le_of_ble_eq_true rfl, Nat.le_of_ble_eq_true rfl⟩) rfl rfl (fun r16 S17 h => ?_)
  refine pw_iconst (pc := 13) (v := 1 ) C dX12_search_13 (by decide) ?_
  obtain ⟨hk18, h⟩ := h
  refine pw_calli (pc := 14) (kc2 := 0) (kn2 := 0) (pRunV (pc := 14) C (ctX12_may l G  _ x0 r16 (1 : Int32) _ h) (cwV 2 C.2.2.2.2.1 gX12_search_X12_may rfl rfl rfl (by decide +kernel) ⟨Nat.le_of_ble_eq_true rfl, Nat.le_of_ble_eq_true rfl⟩) pCl10 hk18 rfl rfl (Nat.le_of_ble_eq_true rfl) dX12_search_14 ⟨Nat.le_of_ble_eq_true rfl, Nat.le_of_ble_eq_true rfl⟩) rfl rfl (fun r19 S20 h => ?_)
  refine pw_if_ne (pc := 17) (tgt := 22) C dX12_search_17 rfl ⟨fun hc => ?_, fun hc => ?_⟩
  · replace h := h.1 hc
    refine pw_iconst (pc := 22) (v := 0 ) C dX12_search_22 (by decide) ?_
    refine pw_istore_n (pc := 23) C [(2, .int (0 : Int32)), (0, .ref (G.2.2 + x0)), (1, .int x1)] dX12_search_23 rfl (by decide) rfl ?_
    refine pw_sub [1, 2, 0] (LV2 := [(0, .ref (G.2.2 + x0)), (1, .int x1), (2, .int (0 : Int32))]) rfl ?_
    obtain ⟨n9, h⟩ := h
    exact cbX12_search_b24 C hr hin  n9 _ _ _ _ h
  · replace h := h.2 hc
    refine pw_iconst (pc := 20) (v := 0 ) C dX12_search_20 (by decide) ?_
    exact pw_iret (pc := 21) C hr h dX12_search_21

abbrev rmX12_restart : Room := { frames := 1, cells := 0, slots := 0, locals := 21 }
theorem iX12_restart_X12 : ∀ w ∈ u_ws RX12 TX12 32, w ∈ wsX12_restart := fun _ h => List.mem_cons_of_mem _ (List.mem_append_right _ h)
def wpX12_restart_b10  (Q : Int32 → PS → Prop) : Nat → PS → Nat → Int32 → Prop
  | 0 => fun _ _ _ => False
  | n + 1 => fun S x0 x1 => (pK S x0 = 11 ∧ (((pI S x0 8) ≤ 0 → (Q x1 (sI S x0 9 (0 : Int32)))) ∧ (¬ (pI S x0 8) ≤ 0 → (wpX12_takesBack S x0 (fun r2 S3 => (wpX12_restart_b10 Q n S3 x0 x1))))))
def wpX12_restart (S : PS) (x0 : Nat) (Q : Int32 → PS → Prop) : Prop := (pK S x0 = 11 ∧ (∃ n9 : Nat, wpX12_restart_b10 Q n9 (sI S x0 0 (0 : Int32)) x0 (pI (sI S x0 0 (0 : Int32)) x0 8)))
set_option maxRecDepth 100000 in
set_option maxHeartbeats 4000000 in
theorem cbX12_restart_b10 {p : Program} {l : Launch} {e : Env} {s : State} {m : MethodId} {args : Array Value} {below : List Frame} {meth : Method} {c : Code} {G : PG} {Q : Int32 → PS → Prop} (C : pCx p s m args meth c G cX12_restart 3 yX12_restart.cls wsX12_restart) (hr : meth.sig.returnType = (some .int)) (hin : meth.name = yX12_restart.name)  (n : Nat) : ∀ (S : PS) (x0 : Nat) (x1 : Int32), wpX12_restart_b10  Q n S x0 x1 → PW p l e rmX12_restart s m args below meth c (MQ below (va_Qi Q (pB G) (pFr G)) args s rmX12_restart.cells rmX12_restart.slots (pFr G)) G 3 S 0 0 [(0, .ref (G.2.2 + x0)), (1, .int x1)] 10 ([]) := by
  induction n with
  | zero => intro S x0 x1 h; exact h.elim
  | succ n ih =>
    intro S x0 x1 h
    unfold wpX12_restart_b10 at h
    refine pw_aload_n (pc := 10) C 0 dX12_restart_10 rfl rfl ?_
    obtain ⟨hk1, h⟩ := h
    refine pw_getI (pc := 11) (ref := "SupportSolverModel") (k := 8) (index := 76) C pCl10 iX12_restart_X12 hk1 rfl (by decide +kernel) (Or.inl rfl) dX12_restart_11 ?_
    refine pw_if_le (pc := 14) (tgt := 25) C dX12_restart_14 rfl ⟨fun hc => ?_, fun hc => ?_⟩
    · replace h := h.1 hc
      refine pw_aload_n (pc := 25) C 0 dX12_restart_25 rfl rfl ?_
      refine pw_iconst (pc := 26) (v := 0 ) C dX12_restart_26 (by decide) ?_
      refine pw_putI (pc := 27) (ref := "SupportSolverModel") (k := 9) (index := 79) C pCl10 iX12_restart_X12 hk1 rfl (by decide +kernel) (Or.inl rfl) (Or.inl rfl) rfl rfl dX12_restart_27 ?_
      refine pw_iload_n (pc := 30) (S := (sI S x0 9 (0 : Int32))) C 1 dX12_restart_30 rfl rfl ?_
      exact pw_iret (pc := 31) (S := (sI S x0 9 (0 : Int32))) C hr h dX12_restart_31
    · replace h := h.2 hc
      refine pw_aload_n (pc := 17) C 0 dX12_restart_17 rfl rfl ?_
      refine pw_calli (pc := 18) (kc2 := 0) (kn2 := 0) (pRunV (pc := 18) C (ctX12_takesBack l G  _ x0 _ h) (cwV 0 C.2.2.2.2.1 gX12_restart_X12_takesBack rfl rfl rfl (by decide +kernel) ⟨Nat.le_of_ble_eq_true rfl, Nat.le_of_ble_eq_true rfl⟩) pCl10 hk1 rfl rfl (Nat.le_of_ble_eq_true rfl) dX12_restart_18 ⟨Nat.le_of_ble_eq_true rfl, Nat.le_of_ble_eq_true rfl⟩) rfl rfl (fun r2 S3 h => ?_)
      refine pw_istore_n (pc := 21) C [(2, .int r2), (0, .ref (G.2.2 + x0)), (1, .int x1)] dX12_restart_21 rfl (by decide) rfl ?_
      refine pw_goto (pc := 22) (tgt := 10) C dX12_restart_22 rfl ?_
      refine pw_sub [1, 2] (LV2 := [(0, .ref (G.2.2 + x0)), (1, .int x1)]) rfl ?_
      exact ih _ _ _ h
set_option maxRecDepth 100000 in
set_option maxHeartbeats 4000000 in
theorem ctX12_restart (l : Launch) (G : PG) (S : PS) (x0 : Nat) (Q : Int32 → PS → Prop) (h : wpX12_restart S x0 Q) : mI l yX12_restart wsX12_restart rmX12_restart G S [.ref (G.2.2 + x0)] Q := by
  unfold mI
  refine met_of (cc := cX12_restart) (maxL := 3) (ret := (some .int)) (by decide) rfl (Nat.le_of_ble_eq_true rfl) ?_
  intro p e s m args below meth c C hr hin
  unfold wpX12_restart at h
  show PW p l e _ s m args below meth c _ G 3 S 0 0 [(0, .ref (G.2.2 + x0))] 0 []
  refine pw_aload_n (pc := 0) C 0 dX12_restart_0 rfl rfl ?_
  refine pw_iconst (pc := 1) (v := 0 ) C dX12_restart_1 (by decide) ?_
  obtain ⟨hk4, h⟩ := h
  refine pw_putI (pc := 2) (ref := "SupportSolverModel") (k := 0) (index := 70) C pCl10 iX12_restart_X12 hk4 rfl (by decide +kernel) (Or.inl rfl) (Or.inl rfl) rfl rfl dX12_restart_2 ?_
  refine pw_aload_n (pc := 5) (S := (sI S x0 0 (0 : Int32))) C 0 dX12_restart_5 rfl rfl ?_
  refine pw_getI (pc := 6) (S := (sI S x0 0 (0 : Int32))) (ref := "SupportSolverModel") (k := 8) (index := 76) C pCl10 iX12_restart_X12 hk4 rfl (by decide +kernel) (Or.inl rfl) dX12_restart_6 ?_
  refine pw_istore_n (pc := 9) (S := (sI S x0 0 (0 : Int32))) C [(1, .int (pI (sI S x0 0 (0 : Int32)) x0 8)), (0, .ref (G.2.2 + x0))] dX12_restart_9 rfl (by decide) rfl ?_
  refine pw_sub [1, 0] (LV2 := [(0, .ref (G.2.2 + x0)), (1, .int (pI (sI S x0 0 (0 : Int32)) x0 8))]) rfl ?_
  obtain ⟨n9, h⟩ := h
  exact cbX12_restart_b10 C hr hin  n9 _ _ _ h

/-! String constants, and what their methods answer -/
def ZStr (G : PG) (q : Nat) (bs : List Int32) : Prop := ∃ v : Nat, ∀ (U : State) (H : Heap), G.1.2 U H → vk_S 1 [bs.length] [bs] (fun _ => q) (fun _ => v) (pFr G) U H
/-- a String constant of a class, says Z -/
def ZLd (G : PG) (own : String) (is : Nat) (tx : String) (bs : List Int32) : Prop := ∃ q : Nat, (∀ (U : State) (H : Heap), G.1.2 U H → vk_R own is tx q U) ∧ ZStr G q bs
def ZG1 (G : PG) : Prop := ∀ (U : State) (H : Heap), G.1.2 U H → va_Z "java/lang/String" "COMPACT_STRINGS" "Z" (.int 1) (pFr G) U H
def ZG2 (G : PG) : Prop := ∀ (U : State) (H : Heap), G.1.2 U H → va_Zq "jdk/internal/util/Preconditions" "SIOOBE_FORMATTER" "Ljava/util/function/BiFunction;" (pFr G) U H
def ZG (G : PG) : Prop := ZG1 G ∧ ZG2 G
section PWSt
variable {p : Program} {l : Launch} {e : Env} {R : Room} {s : State} {m : MethodId} {args : Array Value} {below : List Frame} {meth : Method} {c : Code} {Q : State → Prop} {G : PG} {nL : Nat} {S : PS} {kc kn : Nat} {LV : List (Nat × Value)} {pc : Nat} {st : List Value} {cc : ByteArray} {own : String} {Ts : List Cond}
theorem pw_ldcS (C : pCx p s m args meth c G cc nL own Ts) {tx : String} {index q : Nat} (hz : ∀ (U : State) (H : Heap), G.1.2 U H → vk_R own index tx q U) (hd : decode cc pc = .ok (.ldc index, 2)) (k : PW p l e R s m args below meth c Q G nL S kc kn LV (pc + 2) (.ref q :: st)) : PW p l e R s m args below meth c Q G nL S kc kn LV pc st := fun H locs ls h hS hl => va_ldcS C.1 C.2.1 C.2.2.2.1 (hz s s.heap C.2.2.2.2.2.2.2.2.1) hd (k H locs ls h hS hl)
theorem pw_gets (C : pCx p s m args meth c G cc nL own Ts) {CN n d ref : String} {v : Value} {index : Nat} (hz : va_Z CN n d v (pFr G) s s.heap) (hlink : Cond.fieldLink own index ref n d ∈ Ts) (hsame : ∀ x, s.fieldFound? CN n d = some x → s.fieldFound? ref n d = some x) (hd : decode cc pc = .ok (.getstatic index, 3)) (k : PW p l e R s m args below meth c Q G nL S kc kn LV (pc + 3) (v :: st)) : PW p l e R s m args below meth c Q G nL S kc kn LV pc st := fun H locs ls h hS hl => va_gets C.1 C.2.1 hz hS C.2.2.2.1 (C.2.2.2.2.1 _ hlink) hsame hd (k H locs ls h hS hl)
theorem pw_i2c (C : pCx p s m args meth c G cc nL own Ts) {x : Int32} (hd : decode cc pc = .ok (.i2c, 1)) (k : PW p l e R s m args below meth c Q G nL S kc kn LV (pc + 1) (.int ((x.toUInt32 % 65536).toInt32) :: st)) : PW p l e R s m args below meth c Q G nL S kc kn LV pc (.int x :: st) := fun H locs ls h hS hl => lv_i2c C.1 C.2.1 hd rfl (k H locs ls h hS hl)
variable {q v : Nat} {bs : List Int32}
theorem pw_scod (C : pCx p s m args meth c G cc nL own Ts) {index : Nat} (hv : vk_S 1 [bs.length] [bs] (fun _ => q) (fun _ => v) (pFr G) s s.heap) (hlink : Cond.fieldLink own index "java/lang/String" "coder" "B" ∈ Ts) (hd : decode cc pc = .ok (.getfield index, 3)) (k : PW p l e R s m args below meth c Q G nL S kc kn LV (pc + 3) (.int 0 :: st)) : PW p l e R s m args below meth c Q G nL S kc kn LV pc (.ref q :: st) := fun H locs ls h hS hl => vk_getf C.1 C.2.1 (hv.1 0 (by decide)).2.1 hS C.2.2.2.1 (C.2.2.2.2.1 _ hlink) (fun _ h => h) hd (k H locs ls h hS hl)
theorem pw_sval (C : pCx p s m args meth c G cc nL own Ts) {index : Nat} (hv : vk_S 1 [bs.length] [bs] (fun _ => q) (fun _ => v) (pFr G) s s.heap) (hlink : Cond.fieldLink own index "java/lang/String" "value" "[B" ∈ Ts) (hd : decode cc pc = .ok (.getfield index, 3)) (k : PW p l e R s m args below meth c Q G nL S kc kn LV (pc + 3) (.ref v :: st)) : PW p l e R s m args below meth c Q G nL S kc kn LV pc (.ref q :: st) := fun H locs ls h hS hl => vk_getf C.1 C.2.1 (hv.1 0 (by decide)).2.2.1 hS C.2.2.2.1 (C.2.2.2.2.1 _ hlink) (fun _ h => h) hd (k H locs ls h hS hl)
theorem pw_slen (C : pCx p s m args meth c G cc nL own Ts) (hv : vk_S 1 [bs.length] [bs] (fun _ => q) (fun _ => v) (pFr G) s s.heap) (hd : decode cc pc = .ok (.arraylength, 1)) (k : PW p l e R s m args below meth c Q G nL S kc kn LV (pc + 1) (.int (Int32.ofNat bs.length) :: st)) : PW p l e R s m args below meth c Q G nL S kc kn LV pc (.ref v :: st) := fun H locs ls h hS hl => va_tlen C.1 C.2.1 (hv.1 0 (by decide)).2.2.2 hS rfl hd (k H locs ls h hS hl)
theorem pw_sbyte (C : pCx p s m args meth c G cc nL own Ts) {i : Int32} (hv : vk_S 1 [bs.length] [bs] (fun _ => q) (fun _ => v) (pFr G) s s.heap) (hi : vp_in i bs.length) (hd : decode cc pc = .ok (.baload, 1)) (k : PW p l e R s m args below meth c Q G nL S kc kn LV (pc + 1) (.int (bs.getD i.toNatClampNeg 0) :: st)) : PW p l e R s m args below meth c Q G nL S kc kn LV pc (.int i :: .ref v :: st) := fun H locs ls h hS hl => va_tb C.1 C.2.1 (hv.1 0 (by decide)).2.2.2 hS hi rfl hd (k H locs ls h hS hl)
theorem pw_nret (C : pCx p s m args meth c G cc nL own Ts) {ty : FieldType} {post : Int32 → PS → Prop} (hr : meth.sig.returnType = some ty) {v : Int32} (hn : narrow ty (.int v) = .int v) (hq : post v S) (hd : decode cc pc = .ok (.ireturn, 1)) : PW p l e R s m args below meth c (MQ below (va_Qi post (pB G) (pFr G)) args s kc kn (pFr G)) G nL S kc kn LV pc [.int v] :=
  fun H locs ls h hS hl => W.zret C.1 C.2.1 hr hn (fun t ht _ => ⟨⟨v, S, rfl, hq, by show pHold G S t.heap; rw [ht]; exact h⟩, hS.F ht⟩) hS.2.2 hd C.2.2.2.2.2.2.1
variable {y : MethodName} {bytes : ByteArray} {maxL n index : Nat} {ret : Option FieldType} {ws : List Cond} {rm : Room} {As stk : List Value} {Qc : Array Value → State → Outcome → State → Prop}
theorem pRunVS (C : pCx p s m args meth c G cc nL own Ts) (hv : vk_S 1 [bs.length] [bs] (fun _ => q) (fun _ => v) (pFr G) s s.heap) (hM : Met l y ws rm (pPre G S (.ref q :: As)) Qc rm.cells rm.slots (pFr G)) (cw : CallW R s args own "java/lang/String" index y bytes maxL ret ws rm rm.cells rm.slots n) (hn : As.length = n) (hst : stk = As.reverse ++ .ref q :: st) (hw : (st.map fun v => v.category).sum ≤ 8) (hd : decode cc pc = .ok (.invokevirtual index, 3)) (hf : kc + rm.cells ≤ R.cells ∧ kn + rm.slots ≤ R.slots) :
    PRun p l e R s m args below meth c G nL S kc kn rm.cells rm.slots LV pc stk st (Qc (.ref q :: As).toArray) := by
  intro H locs ls h hS hl
  exact va_runV ⟨C.1, C.2.1, C.2.2.1, C.2.2.2.1, C.2.2.2.2.1⟩ hM cw ⟨pPre_blind G S _, vk_recv (i := 0) hv (by decide) hS, fun U hU hW => ⟨rfl, by rw [hU]; exact h, va_K.moved hW.alike C.2.2.2.2.2.1, pZ_go C hU hW h hS⟩⟩ rfl hn hl.1 hst (lv_room hw) hd hf
end PWSt
abbrev rmJ0_coder : Room := { frames := 0, cells := 0, slots := 0, locals := 0 }
abbrev rmJ0_length : Room := { frames := 1, cells := 0, slots := 0, locals := 20 }
abbrev rmJ3_checkIndex : Room := { frames := 0, cells := 0, slots := 0, locals := 0 }
abbrev rmJ0_checkIndex : Room := { frames := 1, cells := 0, slots := 0, locals := 22 }
abbrev rmJ1_charAt : Room := { frames := 2, cells := 0, slots := 0, locals := 43 }
abbrev rmJ0_charAt : Room := { frames := 3, cells := 0, slots := 0, locals := 64 }
/-- the character that a byte tells -/
def sCh (b : Int32) : Int32 := ((b &&& 255).toUInt32 % 65536).toInt32
theorem ctJ0_coder (l : Launch) (G : PG) (hz : ZG G) (S : PS) (q : Nat) (bs : List Int32) (hq : ZStr G q bs) (Q : Int32 → PS → Prop) (h : Q 0 S) : mI l yJ0_coder_7d493 wsJ0_coder_7d493 rmJ0_coder G S [.ref q] Q := by
  unfold mI
  refine met_of (cc := cJ0_coder_7d493) (maxL := 1) (ret := (some .byte)) (by decide) rfl (Nat.le_of_ble_eq_true rfl) ?_
  intro p e s m args below meth c C hr hin
  obtain ⟨v, hv⟩ := hq
  replace hv := hv s s.heap C.2.2.2.2.2.2.2.2.1
  show PW p l e _ s m args below meth c _ G 1 S 0 0 [(0, .ref q)] 0 []
  refine pw_gets (pc := 0) C (hz.1 s s.heap C.2.2.2.2.2.2.2.2.1) (by decide +kernel) (fun _ h => h) dJ0_coder_7d493_0 ?_
  refine pw_if_eq (pc := 3) (tgt := 13) C dJ0_coder_7d493_3 rfl ⟨fun hc => absurd hc (by decide), fun hc => ?_⟩
  refine pw_aload_n (pc := 6) C 0 dJ0_coder_7d493_6 rfl rfl ?_
  refine pw_scod (pc := 7) C hv (by decide +kernel) dJ0_coder_7d493_7 ?_
  refine pw_goto (pc := 10) (tgt := 14) C dJ0_coder_7d493_10 rfl ?_
  exact pw_nret (pc := 14) C hr rfl h dJ0_coder_7d493_14
theorem ctJ0_isLatin1 (l : Launch) (G : PG) (hz : ZG G) (S : PS) (q : Nat) (bs : List Int32) (hq : ZStr G q bs) (Q : Int32 → PS → Prop) (h : Q 1 S) : mI l yJ0_isLatin1_aae02 wsJ0_isLatin1_aae02 rmJ0_coder G S [.ref q] Q := by
  unfold mI
  refine met_of (cc := cJ0_isLatin1_aae02) (maxL := 1) (ret := (some .boolean)) (by decide) rfl (Nat.le_of_ble_eq_true rfl) ?_
  intro p e s m args below meth c C hr hin
  obtain ⟨v, hv⟩ := hq
  replace hv := hv s s.heap C.2.2.2.2.2.2.2.2.1
  show PW p l e _ s m args below meth c _ G 1 S 0 0 [(0, .ref q)] 0 []
  refine pw_gets (pc := 0) C (hz.1 s s.heap C.2.2.2.2.2.2.2.2.1) (by decide +kernel) (fun _ h => h) dJ0_isLatin1_aae02_0 ?_
  refine pw_if_eq (pc := 3) (tgt := 17) C dJ0_isLatin1_aae02_3 rfl ⟨fun hc => absurd hc (by decide), fun hc => ?_⟩
  refine pw_aload_n (pc := 6) C 0 dJ0_isLatin1_aae02_6 rfl rfl ?_
  refine pw_scod (pc := 7) C hv (by decide +kernel) dJ0_isLatin1_aae02_7 ?_
  refine pw_if_ne (pc := 10) (tgt := 17) C dJ0_isLatin1_aae02_10 rfl ⟨fun hc => absurd rfl hc, fun hc => ?_⟩
  refine pw_iconst (pc := 13) (v := 1) C dJ0_isLatin1_aae02_13 (by decide) ?_
  refine pw_goto (pc := 14) (tgt := 18) C dJ0_isLatin1_aae02_14 rfl ?_
  exact pw_nret (pc := 18) C hr rfl h dJ0_isLatin1_aae02_18
theorem ctJ0_length (l : Launch) (G : PG) (hz : ZG G) (S : PS) (q : Nat) (bs : List Int32) (hq : ZStr G q bs) (Q : Int32 → PS → Prop) (h : Q (Int32.ofNat bs.length >>> ((0 : Int32) &&& 31)) S) : mI l yJ0_length_8abf5 wsJ0_length_8abf5 rmJ0_length G S [.ref q] Q := by
  unfold mI
  refine met_of (cc := cJ0_length_8abf5) (maxL := 1) (ret := (some .int)) (by decide) rfl (Nat.le_of_ble_eq_true rfl) ?_
  intro p e s m args below meth c C hr hin
  have hq' := hq
  obtain ⟨v, hv⟩ := hq'
  replace hv := hv s s.heap C.2.2.2.2.2.2.2.2.1
  show PW p l e _ s m args below meth c _ G 1 S 0 0 [(0, .ref q)] 0 []
  refine pw_aload_n (pc := 0) C 0 dJ0_length_8abf5_0 rfl rfl ?_
  refine pw_sval (pc := 1) C hv (by decide +kernel) dJ0_length_8abf5_1 ?_
  refine pw_slen (pc := 4) C hv dJ0_length_8abf5_4 ?_
  refine pw_aload_n (pc := 5) C 0 dJ0_length_8abf5_5 rfl rfl ?_
  refine pw_calli (pc := 6) (kc2 := 0) (kn2 := 0) (pRunVS (pc := 6) C hv (ctJ0_coder l G hz S q bs hq (fun r S' => r = 0 ∧ S' = S) ⟨rfl, rfl⟩) (cwV 0 C.2.2.2.2.1 gJ0_length_8abf5_J0_coder_7d493 rfl rfl rfl (by decide +kernel) ⟨Nat.le_of_ble_eq_true rfl, Nat.le_of_ble_eq_true rfl⟩) rfl rfl (Nat.le_of_ble_eq_true rfl) dJ0_length_8abf5_6 ⟨Nat.le_of_ble_eq_true rfl, Nat.le_of_ble_eq_true rfl⟩) rfl rfl (fun r S' h9 => ?_)
  obtain ⟨e9, e9s⟩ := h9
  rw [e9, e9s]
  refine pw_ishr (pc := 9) C dJ0_length_8abf5_9 ?_
  exact pw_iret (pc := 10) C hr h dJ0_length_8abf5_10
theorem ctJ3_checkIndex (l : Launch) (G : PG) (S : PS) (i n : Int32) (f : Option Nat) (Q : Int32 → PS → Prop) (h0 : ¬ i < 0) (h1 : i < n) (h : Q i S) : mI l yJ3_checkIndex_8e157 wsJ3_checkIndex_8e157 rmJ3_checkIndex G S [.int i, .int n, va_rf f] Q := by
  unfold mI
  refine met_of (cc := cJ3_checkIndex_8e157) (maxL := 3) (ret := (some .int)) (by decide) rfl (by cases f <;> exact Nat.le_of_ble_eq_true rfl) ?_
  intro p e s m args below meth c C hr hin
  have hE : PW p l e rmJ3_checkIndex s m args below meth c (MQ below (va_Qi Q (pB G) (pFr G)) args s rmJ3_checkIndex.cells rmJ3_checkIndex.slots (pFr G)) G 3 S 0 0 [(0, .int i), (1, .int n)] 0 [] := by
    refine pw_iload_n (pc := 0) C 0 dJ3_checkIndex_8e157_0 rfl rfl ?_
    refine pw_if_lt (pc := 1) (tgt := 9) C dJ3_checkIndex_8e157_1 rfl ⟨fun hc => absurd hc h0, fun hc => ?_⟩
    refine pw_iload_n (pc := 4) C 0 dJ3_checkIndex_8e157_4 rfl rfl ?_
    refine pw_iload_n (pc := 5) C 1 dJ3_checkIndex_8e157_5 rfl rfl ?_
    refine pw_icmp_lt (pc := 6) (tgt := 16) C dJ3_checkIndex_8e157_6 rfl ⟨fun hc => ?_, fun hc => absurd h1 hc⟩
    refine pw_iload_n (pc := 16) C 0 dJ3_checkIndex_8e157_16 rfl rfl ?_
    exact pw_iret (pc := 17) C hr h dJ3_checkIndex_8e157_17
  cases f with
  | none =>
    show PW p l e _ s m args below meth c _ G 3 S 0 0 [(0, .int i), (1, .int n), (2, .null)] 0 []
    exact pw_sub [0, 1] (LV2 := [(0, .int i), (1, .int n)]) rfl hE
  | some t =>
    show PW p l e _ s m args below meth c _ G 3 S 0 0 [(0, .int i), (1, .int n), (2, .ref t)] 0 []
    exact pw_sub [0, 1] (LV2 := [(0, .int i), (1, .int n)]) rfl hE
theorem ctJ0_checkIndex (l : Launch) (G : PG) (hz : ZG G) (S : PS) (i n : Int32) (Q : PS → Prop) (h0 : ¬ i < 0) (h1 : i < n) (h : Q S) : mV l yJ0_checkIndex_df160 wsJ0_checkIndex_df160 rmJ0_checkIndex G S [.int i, .int n] Q := by
  unfold mV
  refine met_of (cc := cJ0_checkIndex_df160) (maxL := 2) (ret := none) (by decide) rfl (Nat.le_of_ble_eq_true rfl) ?_
  intro p e s m args below meth c C hr hin
  show PW p l e _ s m args below meth c _ G 2 S 0 0 [(0, .int i), (1, .int n)] 0 []
  refine pw_iload_n (pc := 0) C 0 dJ0_checkIndex_df160_0 rfl rfl ?_
  refine pw_iload_n (pc := 1) C 1 dJ0_checkIndex_df160_1 rfl rfl ?_
  have hE : ∀ f : Option Nat, PW p l e rmJ0_checkIndex s m args below meth c (MQ below (va_Qv Q (pB G) (pFr G)) args s rmJ0_checkIndex.cells rmJ0_checkIndex.slots (pFr G)) G 2 S 0 0 [(0, .int i), (1, .int n)] 5 [va_rf f, .int n, .int i] := by
    intro f
    refine pw_calli (pc := 5) (kc2 := 0) (kn2 := 0) (pRunS (pc := 5) C (ctJ3_checkIndex l G S i n f (fun r S' => r = i ∧ S' = S) h0 h1 ⟨rfl, rfl⟩) (va_cwS 3 C.2.2.2.2.1 gJ0_checkIndex_df160_J3_checkIndex_8e157 rfl rfl rfl (by decide +kernel) ⟨Nat.le_of_ble_eq_true rfl, Nat.le_of_ble_eq_true rfl⟩) rfl rfl (Nat.le_of_ble_eq_true rfl) dJ0_checkIndex_df160_5 ⟨Nat.le_of_ble_eq_true rfl, Nat.le_of_ble_eq_true rfl⟩) rfl rfl (fun r S' h9 => ?_)
    obtain ⟨e9, e9s⟩ := h9
    rw [e9, e9s]
    refine pw_pop (pc := 8) C dJ0_checkIndex_df160_8 rfl ?_
    exact pw_vret (pc := 9) C hr h dJ0_checkIndex_df160_9
  rcases hz.2 s s.heap C.2.2.2.2.2.2.2.2.1 with hf | ⟨t, hf⟩
  · exact pw_gets (pc := 2) C hf (by decide +kernel) (fun _ h => h) dJ0_checkIndex_df160_2 (hE none)
  · exact pw_gets (pc := 2) C hf (by decide +kernel) (fun _ h => h) dJ0_checkIndex_df160_2 (hE (some t))
theorem narC (x : Int32) : narrow .char (.int ((x.toUInt32 % 65536).toInt32)) = .int ((x.toUInt32 % 65536).toInt32) := by
  have h : ((x.toUInt32 % 65536).toInt32).toUInt32 = x.toUInt32 % 65536 := rfl
  simp only [narrow, h]
  congr 2
  apply UInt32.toNat_inj.mp
  simp
theorem vp_lt {i : Int32} {n : Nat} (hn : n < 2 ^ 31) (h : vp_in i n) : i < Int32.ofNat n := by
  have h0 : ¬ i < 0 := fun q => h (Or.inl q)
  have h1 : i.toNatClampNeg < n := Nat.not_le.mp fun q => h (Or.inr q)
  rw [Int32.lt_iff_toInt_lt, Int32.toInt_ofNat_of_lt hn]
  have h2 : (0 : Int) ≤ i.toInt := by
    have := Int32.not_lt.mp h0
    simpa using Int32.le_iff_toInt_le.mp this
  have h3 : i.toNatClampNeg = i.toInt.toNat := rfl
  omega
theorem ctJ1_charAt (l : Launch) (G : PG) (hz : ZG G) (S : PS) (q v : Nat) (bs : List Int32) (hv : ∀ (U : State) (H : Heap), G.1.2 U H → vk_S 1 [bs.length] [bs] (fun _ => q) (fun _ => v) (pFr G) U H) (hlen : bs.length < 2 ^ 31) (i : Int32) (hi : vp_in i bs.length) (Q : Int32 → PS → Prop) (h : Q (sCh (bs.getD i.toNatClampNeg 0)) S) : mI l yJ1_charAt_3b067 wsJ1_charAt_3b067 rmJ1_charAt G S [.ref v, .int i] Q := by
  unfold mI
  refine met_of (cc := cJ1_charAt_3b067) (maxL := 2) (ret := (some .char)) (by decide) rfl (Nat.le_of_ble_eq_true rfl) ?_
  intro p e s m args below meth c C hr hin
  replace hv := hv s s.heap C.2.2.2.2.2.2.2.2.1
  show PW p l e _ s m args below meth c _ G 2 S 0 0 [(0, .ref v), (1, .int i)] 0 []
  refine pw_iload_n (pc := 0) C 1 dJ1_charAt_3b067_0 rfl rfl ?_
  refine pw_aload_n (pc := 1) C 0 dJ1_charAt_3b067_1 rfl rfl ?_
  refine pw_slen (pc := 2) C hv dJ1_charAt_3b067_2 ?_
  refine pw_callv (pc := 3) (kc2 := 0) (kn2 := 0) (pRunS (pc := 3) C (ctJ0_checkIndex l G hz S i (Int32.ofNat bs.length) (fun S' => S' = S) (fun q => hi (Or.inl q)) (vp_lt hlen hi) rfl) (va_cwS 2 C.2.2.2.2.1 gJ1_charAt_3b067_J0_checkIndex_df160 rfl rfl rfl (by decide +kernel) ⟨Nat.le_of_ble_eq_true rfl, Nat.le_of_ble_eq_true rfl⟩) rfl rfl (Nat.le_of_ble_eq_true rfl) dJ1_charAt_3b067_3 ⟨Nat.le_of_ble_eq_true rfl, Nat.le_of_ble_eq_true rfl⟩) rfl rfl (fun S' h9 => ?_)
  rw [h9]
  refine pw_aload_n (pc := 6) C 0 dJ1_charAt_3b067_6 rfl rfl ?_
  refine pw_iload_n (pc := 7) C 1 dJ1_charAt_3b067_7 rfl rfl ?_
  refine pw_sbyte (pc := 8) C hv hi dJ1_charAt_3b067_8 ?_
  refine pw_sipush (pc := 9) (v := 255) C dJ1_charAt_3b067_9 (by decide) ?_
  refine pw_iand (pc := 12) C dJ1_charAt_3b067_12 ?_
  refine pw_i2c (pc := 13) C dJ1_charAt_3b067_13 ?_
  exact pw_nret (pc := 14) C hr (narC _) h dJ1_charAt_3b067_14
theorem ctJ0_charAt (l : Launch) (G : PG) (hz : ZG G) (S : PS) (q : Nat) (bs : List Int32) (hq : ZStr G q bs) (hlen : bs.length < 2 ^ 31) (i : Int32) (hi : vp_in i bs.length) (Q : Int32 → PS → Prop) (h : Q (sCh (bs.getD i.toNatClampNeg 0)) S) : mI l yJ0_charAt_5068e wsJ0_charAt_5068e rmJ0_charAt G S [.ref q, .int i] Q := by
  unfold mI
  refine met_of (cc := cJ0_charAt_5068e) (maxL := 2) (ret := (some .char)) (by decide) rfl (Nat.le_of_ble_eq_true rfl) ?_
  intro p e s m args below meth c C hr hin
  have hq' := hq
  obtain ⟨v, hv⟩ := hq'
  have hv' := hv
  replace hv := hv s s.heap C.2.2.2.2.2.2.2.2.1
  show PW p l e _ s m args below meth c _ G 2 S 0 0 [(0, .ref q), (1, .int i)] 0 []
  refine pw_aload_n (pc := 0) C 0 dJ0_charAt_5068e_0 rfl rfl ?_
  refine pw_calli (pc := 1) (kc2 := 0) (kn2 := 0) (pRunVS (pc := 1) C hv (ctJ0_isLatin1 l G hz S q bs hq (fun r S' => r = 1 ∧ S' = S) ⟨rfl, rfl⟩) (cwV 0 C.2.2.2.2.1 gJ0_charAt_5068e_J0_isLatin1_aae02 rfl rfl rfl (by decide +kernel) ⟨Nat.le_of_ble_eq_true rfl, Nat.le_of_ble_eq_true rfl⟩) rfl rfl (Nat.le_of_ble_eq_true rfl) dJ0_charAt_5068e_1 ⟨Nat.le_of_ble_eq_true rfl, Nat.le_of_ble_eq_true rfl⟩) rfl rfl (fun r S' h9 => ?_)
  obtain ⟨e9, e9s⟩ := h9
  rw [e9, e9s]
  refine pw_if_eq (pc := 4) (tgt := 16) C dJ0_charAt_5068e_4 rfl ⟨fun hc => absurd hc (by decide), fun hc => ?_⟩
  refine pw_aload_n (pc := 7) C 0 dJ0_charAt_5068e_7 rfl rfl ?_
  refine pw_sval (pc := 8) C hv (by decide +kernel) dJ0_charAt_5068e_8 ?_
  refine pw_iload_n (pc := 11) C 1 dJ0_charAt_5068e_11 rfl rfl ?_
  refine pw_calli (pc := 12) (kc2 := 0) (kn2 := 0) (pRunS (pc := 12) C (ctJ1_charAt l G hz S q v bs hv' hlen i hi (fun r S' => r = sCh (bs.getD i.toNatClampNeg 0) ∧ S' = S) ⟨rfl, rfl⟩) (va_cwS 2 C.2.2.2.2.1 gJ0_charAt_5068e_J1_charAt_3b067 rfl rfl rfl (by decide +kernel) ⟨Nat.le_of_ble_eq_true rfl, Nat.le_of_ble_eq_true rfl⟩) rfl rfl (Nat.le_of_ble_eq_true rfl) dJ0_charAt_5068e_12 ⟨Nat.le_of_ble_eq_true rfl, Nat.le_of_ble_eq_true rfl⟩) rfl rfl (fun r S' h9 => ?_)
  obtain ⟨e9, e9s⟩ := h9
  rw [e9, e9s]
  exact pw_nret (pc := 15) C hr (narC _) h dJ0_charAt_5068e_15

def pZa (G : PG) : Prop := ZN G RX2 21 yX11_isValue ∧ ZN G RX5 13 yX11_isValue ∧ ZN G RX8 31 yX6_init ∧ ZN G RX9 35 yX3_init ∧ ZN G RX11 11 yX8_init ∧ ZN G RX11 35 yX7_init ∧ ZN G RX11 46 yX6_init ∧ ZN G RX11 270 yX1_leastFrom ∧ ZN G RX11 296 yX1_countFrom ∧ ZD G ⟨"SupportSolver$Constraint", "verdict", "(J)I"⟩ ∧ ZD G ⟨"SupportSolver$Constraint", "alike", "(I)I"⟩ ∧ ZU G RX2 RX1 47 "verdictOn" "(IIII)I" wsX1_verdictOn ∧ ZU G RX10 RX1 45 "verdictOn" "(IIII)I" wsX1_verdictOn ∧ ZO G "SupportSolver$Constraint" ∧ ZO G "SupportSolver$Fact" ∧ (ZC G RX0 "SupportSolver$Constraint" ∧ ZC G RX2 "SupportSolver$Constraint" ∧ ZC G RX4 "SupportSolver$Constraint" ∧ ZC G RX10 "SupportSolver$Constraint") ∧ ZC G RX3 "SupportSolver$Fact" ∧ ZE G ∧ ZG G ∧ ZLd G RX8 51 "var" [118, 97, 114] ∧ ZLd G RX8 121 "value" [118, 97, 108, 117, 101] ∧ ZLd G RX8 86 "counts" [99, 111, 117, 110, 116, 115] ∧ ZLd G RX8 88 "window" [119, 105, 110, 100, 111, 119] ∧ ZLd G RX8 90 "less" [108, 101, 115, 115] ∧ ZLd G RX8 92 "differ" [100, 105, 102, 102, 101, 114] ∧ ZLd G RX12 200 "var" [118, 97, 114] ∧ ZLd G RX12 162 "value" [118, 97, 108, 117, 101] ∧ ZLd G RX12 188 "counts" [99, 111, 117, 110, 116, 115] ∧ ZLd G RX12 190 "window" [119, 105, 110, 100, 111, 119] ∧ ZLd G RX12 192 "less" [108, 101, 115, 115] ∧ ZLd G RX12 194 "differ" [100, 105, 102, 102, 101, 114] ∧ ZT G RX11 61 63 65 "java/lang/IllegalStateException" "the text buffer is full" ["java/lang/RuntimeException", "java/lang/Exception"] ∧ ZT G RX11 72 74 76 "java/lang/IndexOutOfBoundsException" "no such length" ["java/lang/RuntimeException", "java/lang/Exception"] ∧ ZT G RX11 87 89 91 "java/lang/IllegalArgumentException" "the text has an error" ["java/lang/RuntimeException", "java/lang/Exception"] ∧ ZT G RX11 87 133 91 "java/lang/IllegalArgumentException" "no such report" ["java/lang/RuntimeException", "java/lang/Exception"] ∧ ZT G RX11 72 157 76 "java/lang/IndexOutOfBoundsException" "no such variable" ["java/lang/RuntimeException", "java/lang/Exception"] ∧ ZT G RX11 72 163 76 "java/lang/IndexOutOfBoundsException" "no such constraint" ["java/lang/RuntimeException", "java/lang/Exception"] ∧ ZT G RX11 72 190 76 "java/lang/IndexOutOfBoundsException" "no such fact" ["java/lang/RuntimeException", "java/lang/Exception"] ∧ ZT G RX11 87 202 91 "java/lang/IllegalArgumentException" "no such value" ["java/lang/RuntimeException", "java/lang/Exception"] ∧ ZX G RX11 212 214 216 "the value has not been removed" ∧ ZT G RX11 72 226 76 "java/lang/IndexOutOfBoundsException" "the explanation has not so many facts" ["java/lang/RuntimeException", "java/lang/Exception"] ∧ ZT G RX11 72 274 76 "java/lang/IndexOutOfBoundsException" "no such constraint, or none of its variables" ["java/lang/RuntimeException", "java/lang/Exception"] ∧ ZX G RX11 212 280 216 "there is no support" ∧ ZT G RX11 61 304 65 "java/lang/IllegalStateException" "a domain is empty" ["java/lang/RuntimeException", "java/lang/Exception"] ∧ ZX G RX11 212 313 216 "there is no solution" ∧ ZT G RX11 87 321 91 "java/lang/IllegalArgumentException" "the value is not in the domain" ["java/lang/RuntimeException", "java/lang/Exception"] ∧ ZT G RX11 61 323 65 "java/lang/IllegalStateException" "there are decisions, or the solver has failed" ["java/lang/RuntimeException", "java/lang/Exception"] ∧ ZT G RX11 61 329 65 "java/lang/IllegalStateException" "the variable is fixed, or the solver has failed" ["java/lang/RuntimeException", "java/lang/Exception"] ∧ ZT G RX11 61 338 65 "java/lang/IllegalStateException" "there is no decision" ["java/lang/RuntimeException", "java/lang/Exception"] ∧ ZT G RX11 72 343 76 "java/lang/IndexOutOfBoundsException" "no such decision" ["java/lang/RuntimeException", "java/lang/Exception"] ∧ ZT G RX11 61 358 65 "java/lang/IllegalStateException" "the solver has not failed, or there are no decisions" ["java/lang/RuntimeException", "java/lang/Exception"] ∧ ZT G RX11 72 380 76 "java/lang/IndexOutOfBoundsException" "no such set or assignment" ["java/lang/RuntimeException", "java/lang/Exception"] ∧ ZT G RX11 87 382 91 "java/lang/IllegalArgumentException" "no such number of decisions" ["java/lang/RuntimeException", "java/lang/Exception"] ∧ True
abbrev rmX1_init : Room := { frames := 1, cells := 0, slots := 0, locals := 20 }
theorem iX1_init_X0 : ∀ w ∈ u_ws RX0 TX0 4, w ∈ wsX1_init := by decide +kernel
theorem iX1_init_X10 : ∀ w ∈ u_ws RX10 TX10 8, w ∈ wsX1_init := fun _ h => List.mem_cons_of_mem _ (List.mem_append_right _ h)
theorem iX1_init_X2 : ∀ w ∈ u_ws RX2 TX2 7, w ∈ wsX1_init := by decide +kernel
theorem iX1_init_X4 : ∀ w ∈ u_ws RX4 TX4 5, w ∈ wsX1_init := by decide +kernel
def wpX1_init (S : PS) (x0 : Nat) (x1 : Int32) (Q : PS → Prop) : Prop := (pC4 S x0 ∧ (Q (sI (sI (sJ (sI S x0 1 (0 : Int32)) x0 2 (0 : Int64)) x0 3 (0 : Int32)) x0 0 x1)))
set_option maxRecDepth 100000 in
set_option maxHeartbeats 4000000 in
theorem ctX1_init (l : Launch) (G : PG) (hZ : pZa G) (S : PS) (x0 : Nat) (x1 : Int32) (Q : PS → Prop) (h : wpX1_init S x0 x1 Q) : mV l yX1_init wsX1_init rmX1_init G S [.ref (G.2.2 + x0), .int x1] Q := by
  unfold mV
  refine met_of (cc := cX1_init) (maxL := 2) (ret := none) (by decide) rfl (Nat.le_of_ble_eq_true rfl) ?_
  intro p e s m args below meth c C hr hin
  unfold wpX1_init at h
  show PW p l e _ s m args below meth c _ G 2 S 0 0 [(0, .ref (G.2.2 + x0)), (1, .int x1)] 0 []
  refine pw_aload_n (pc := 0) C 0 dX1_init_0 rfl rfl ?_
  refine pw_objInit (pc := 1) C (by decide +kernel) (by decide +kernel) (by decide +kernel) (Nat.le_of_ble_eq_true rfl) (Nat.le_of_ble_eq_true rfl) (Nat.le_of_ble_eq_true rfl) dX1_init_1 ?_
  refine pw_aload_n (pc := 4) C 0 dX1_init_4 rfl rfl ?_
  refine pw_iconst (pc := 5) (v := 0 ) C dX1_init_5 (by decide) ?_
  obtain ⟨hk1, h⟩ := h
  refine pw_putCI (pc := 6) (k := 1) (index := 9) C hk1 iX1_init_X0 iX1_init_X2 iX1_init_X4 iX1_init_X10 (Or.inr (by decide)) (by decide +kernel) dX1_init_6 ?_
  refine pw_aload_n (pc := 9) (S := (sI S x0 1 (0 : Int32))) C 0 dX1_init_9 rfl rfl ?_
  refine pw_lconst (pc := 10) (S := (sI S x0 1 (0 : Int32))) (v := 0) C dX1_init_10 (by decide) ?_
  refine pw_putCJ (pc := 11) (S := (sI S x0 1 (0 : Int32))) (k := 2) (index := 15) C hk1 iX1_init_X0 iX1_init_X2 iX1_init_X4 iX1_init_X10 rfl (by decide +kernel) dX1_init_11 ?_
  refine pw_aload_n (pc := 14) (S := (sJ (sI S x0 1 (0 : Int32)) x0 2 (0 : Int64))) C 0 dX1_init_14 rfl rfl ?_
  refine pw_iconst (pc := 15) (S := (sJ (sI S x0 1 (0 : Int32)) x0 2 (0 : Int64))) (v := 0 ) C dX1_init_15 (by decide) ?_
  refine pw_putCI (pc := 16) (S := (sJ (sI S x0 1 (0 : Int32)) x0 2 (0 : Int64))) (k := 3) (index := 19) C hk1 iX1_init_X0 iX1_init_X2 iX1_init_X4 iX1_init_X10 (Or.inr (by decide)) (by decide +kernel) dX1_init_16 ?_
  refine pw_aload_n (pc := 19) (S := (sI (sJ (sI S x0 1 (0 : Int32)) x0 2 (0 : Int64)) x0 3 (0 : Int32))) C 0 dX1_init_19 rfl rfl ?_
  refine pw_iload_n (pc := 20) (S := (sI (sJ (sI S x0 1 (0 : Int32)) x0 2 (0 : Int64)) x0 3 (0 : Int32))) C 1 dX1_init_20 rfl rfl ?_
  refine pw_putCI (pc := 21) (S := (sI (sJ (sI S x0 1 (0 : Int32)) x0 2 (0 : Int64)) x0 3 (0 : Int32))) (k := 0) (index := 22) C hk1 iX1_init_X0 iX1_init_X2 iX1_init_X4 iX1_init_X10 (Or.inl ⟨rfl, hin, rfl⟩) (by decide +kernel) dX1_init_21 ?_
  exact pw_vret (pc := 24) (S := (sI (sI (sJ (sI S x0 1 (0 : Int32)) x0 2 (0 : Int64)) x0 3 (0 : Int32)) x0 0 x1)) C hr h dX1_init_24

abbrev rmX0_init : Room := { frames := 2, cells := 0, slots := 0, locals := 41 }
def wpX0_init_b10  (Q : PS → Prop) (S : PS) (x0 : Nat) (x1 : Int32) (t0 : Nat) (t1 : Int32) : Prop := (wpX1_init S t0 t1 (fun S2 => (Q S2)))
def wpX0_init (S : PS) (x0 : Nat) (x1 : Int32) (Q : PS → Prop) : Prop := ((x1 = 0 → (wpX0_init_b10 Q S x0 x1 x0 (3 : Int32))) ∧ (¬ x1 = 0 → (wpX0_init_b10 Q S x0 x1 x0 (2 : Int32))))
set_option maxRecDepth 100000 in
set_option maxHeartbeats 4000000 in
theorem cbX0_init_b10 {p : Program} {l : Launch} {e : Env} {s : State} {m : MethodId} {args : Array Value} {below : List Frame} {meth : Method} {c : Code} {G : PG} {Q : PS → Prop} (C : pCx p s m args meth c G cX0_init 2 yX0_init.cls wsX0_init) (hr : meth.sig.returnType = none) (hin : meth.name = yX0_init.name) (hZ : pZa G)  : ∀ (S : PS) (x0 : Nat) (x1 : Int32) (t0 : Nat) (t1 : Int32), wpX0_init_b10  Q S x0 x1 t0 t1 → PW p l e rmX0_init s m args below meth c (MQ below (va_Qv Q (pB G) (pFr G)) args s rmX0_init.cells rmX0_init.slots (pFr G)) G 2 S 0 0 [(0, .ref (G.2.2 + x0)), (1, .int x1)] 10 (.int t1 :: .ref (G.2.2 + t0) :: []) := by
  intro S x0 x1 t0 t1 h
  unfold wpX0_init_b10 at h
  refine pw_callv (pc := 10) (kc2 := 0) (kn2 := 0) (pRunI (pc := 10) C (ctX1_init l G hZ  _ t0 t1 _ h) (cwI 1 C.2.2.2.2.1 gX0_init_X1_init rfl rfl rfl (C.2.2.2.2.1 (.initialized RX1) (by decide +kernel)) (C.2.2.2.2.1 (.methodLink RX0 5 yX1_init) (by decide +kernel)) (C.2.2.2.2.1 (.instanceMethod yX1_init) (by decide +kernel)) rfl (by decide +kernel) ⟨Nat.le_of_ble_eq_true rfl, Nat.le_of_ble_eq_true rfl⟩) rfl rfl (Nat.le_of_ble_eq_true rfl) dX0_init_10 ⟨Nat.le_of_ble_eq_true rfl, Nat.le_of_ble_eq_true rfl⟩) rfl rfl (fun S2 h => ?_)
  exact pw_vret (pc := 13) C hr h dX0_init_13
set_option maxRecDepth 100000 in
set_option maxHeartbeats 4000000 in
theorem ctX0_init (l : Launch) (G : PG) (hZ : pZa G) (S : PS) (x0 : Nat) (x1 : Int32) (Q : PS → Prop) (h : wpX0_init S x0 x1 Q) : mV l yX0_init wsX0_init rmX0_init G S [.ref (G.2.2 + x0), .int x1] Q := by
  unfold mV
  refine met_of (cc := cX0_init) (maxL := 2) (ret := none) (by decide) rfl (Nat.le_of_ble_eq_true rfl) ?_
  intro p e s m args below meth c C hr hin
  unfold wpX0_init at h
  show PW p l e _ s m args below meth c _ G 2 S 0 0 [(0, .ref (G.2.2 + x0)), (1, .int x1)] 0 []
  refine pw_aload_n (pc := 0) C 0 dX0_init_0 rfl rfl ?_
  refine pw_iload_n (pc := 1) C 1 dX0_init_1 rfl rfl ?_
  refine pw_if_eq (pc := 2) (tgt := 9) C dX0_init_2 rfl ⟨fun hc => ?_, fun hc => ?_⟩
  · replace h := h.1 hc
    refine pw_iconst (pc := 9) (v := 3 ) C dX0_init_9 (by decide) ?_
    exact cbX0_init_b10 C hr hin hZ  _ _ _ _ _ h
  · replace h := h.2 hc
    refine pw_iconst (pc := 5) (v := 2 ) C dX0_init_5 (by decide) ?_
    refine pw_goto (pc := 6) (tgt := 10) C dX0_init_6 rfl ?_
    exact cbX0_init_b10 C hr hin hZ  _ _ _ _ _ h

abbrev rmX1_variableAt : Room := { frames := 0, cells := 0, slots := 0, locals := 0 }
theorem iX1_variableAt_X0 : ∀ w ∈ u_ws RX0 TX0 4, w ∈ wsX1_variableAt := by decide +kernel
theorem iX1_variableAt_X10 : ∀ w ∈ u_ws RX10 TX10 8, w ∈ wsX1_variableAt := fun _ h => List.mem_cons_of_mem _ (List.mem_append_right _ h)
theorem iX1_variableAt_X2 : ∀ w ∈ u_ws RX2 TX2 7, w ∈ wsX1_variableAt := by decide +kernel
theorem iX1_variableAt_X4 : ∀ w ∈ u_ws RX4 TX4 5, w ∈ wsX1_variableAt := by decide +kernel
def wpX1_variableAt (S : PS) (x0 : Nat) (x1 : Int32) (Q : Int32 → PS → Prop) : Prop := (pC4 S x0 ∧ (Q (((((pI S x0 3)).toUInt32 >>> ((((3 : Int32) * x1)).toUInt32 &&& Int32.toUInt32 31)).toInt32) &&& (7 : Int32)) S))
set_option maxRecDepth 100000 in
set_option maxHeartbeats 4000000 in
theorem ctX1_variableAt (l : Launch) (G : PG) (hZ : pZa G) (S : PS) (x0 : Nat) (x1 : Int32) (Q : Int32 → PS → Prop) (h : wpX1_variableAt S x0 x1 Q) : mI l yX1_variableAt wsX1_variableAt rmX1_variableAt G S [.ref (G.2.2 + x0), .int x1] Q := by
  unfold mI
  refine met_of (cc := cX1_variableAt) (maxL := 2) (ret := (some .int)) (by decide) rfl (Nat.le_of_ble_eq_true rfl) ?_
  intro p e s m args below meth c C hr hin
  unfold wpX1_variableAt at h
  show PW p l e _ s m args below meth c _ G 2 S 0 0 [(0, .ref (G.2.2 + x0)), (1, .int x1)] 0 []
  refine pw_aload_n (pc := 0) C 0 dX1_variableAt_0 rfl rfl ?_
  obtain ⟨hk1, h⟩ := h
  refine pw_getCI (pc := 1) (k := 3) (index := 19) C hk1 iX1_variableAt_X0 iX1_variableAt_X2 iX1_variableAt_X4 iX1_variableAt_X10 (by decide) (by decide +kernel) dX1_variableAt_1 ?_
  refine pw_iconst (pc := 4) (v := 3 ) C dX1_variableAt_4 (by decide) ?_
  refine pw_iload_n (pc := 5) C 1 dX1_variableAt_5 rfl rfl ?_
  refine pw_imul (pc := 6) C dX1_variableAt_6 ?_
  refine pw_iushr (pc := 7) C dX1_variableAt_7 ?_
  refine pw_bipush (pc := 8) (v := 7 ) C dX1_variableAt_8 (by decide) ?_
  refine pw_iand (pc := 10) C dX1_variableAt_10 ?_
  exact pw_iret (pc := 11) C hr h dX1_variableAt_11

abbrev rmX5_valuesOf : Room := { frames := 0, cells := 0, slots := 0, locals := 0 }
def wpX5_valuesOf (S : PS) (x0 : Int64) (x2 : Int32) (Q : Int32 → PS → Prop) : Prop := (Q (((((x0).toUInt64 >>> ((((5 : Int32) * x2)).toInt64.toUInt64 &&& Int64.toUInt64 63)).toInt64).toInt32) &&& (31 : Int32)) S)
set_option maxRecDepth 100000 in
set_option maxHeartbeats 4000000 in
theorem ctX5_valuesOf (l : Launch) (G : PG) (hZ : pZa G) (S : PS) (x0 : Int64) (x2 : Int32) (Q : Int32 → PS → Prop) (h : wpX5_valuesOf S x0 x2 Q) : mI l yX5_valuesOf wsX5_valuesOf rmX5_valuesOf G S [.long x0, .int x2] Q := by
  unfold mI
  refine met_of (cc := cX5_valuesOf) (maxL := 3) (ret := (some .int)) (by decide) rfl (Nat.le_of_ble_eq_true rfl) ?_
  intro p e s m args below meth c C hr hin
  unfold wpX5_valuesOf at h
  show PW p l e _ s m args below meth c _ G 3 S 0 0 [(0, .long x0), (2, .int x2)] 0 []
  refine pw_lload_n (pc := 0) C 0 dX5_valuesOf_0 rfl rfl ?_
  refine pw_iconst (pc := 1) (v := 5 ) C dX5_valuesOf_1 (by decide) ?_
  refine pw_iload_n (pc := 2) C 1 dX5_valuesOf_2 rfl rfl ?_
  refine pw_imul (pc := 3) C dX5_valuesOf_3 ?_
  refine pw_lushr (pc := 4) C dX5_valuesOf_4 ?_
  refine pw_l2i (pc := 5) C dX5_valuesOf_5 ?_
  refine pw_bipush (pc := 6) (v := 31 ) C dX5_valuesOf_6 (by decide) ?_
  refine pw_iand (pc := 8) C dX5_valuesOf_8 ?_
  exact pw_iret (pc := 9) C hr h dX5_valuesOf_9

abbrev rmX0_verdictOnLess : Room := { frames := 0, cells := 0, slots := 0, locals := 0 }
def wpX0_verdictOnLess (S : PS) (x0 : Int32) (x1 : Int32) (Q : Int32 → PS → Prop) : Prop := ((((2 : Int32) * (x0 &&& (-x0))) ≤ x1 → (((x1 &&& (-x1)) ≤ x0 → (Q (1 : Int32) S)) ∧ (¬ (x1 &&& (-x1)) ≤ x0 → (Q (2 : Int32) S)))) ∧ (¬ ((2 : Int32) * (x0 &&& (-x0))) ≤ x1 → (Q (0 : Int32) S)))
set_option maxRecDepth 100000 in
set_option maxHeartbeats 4000000 in
theorem ctX0_verdictOnLess (l : Launch) (G : PG) (hZ : pZa G) (S : PS) (x0 : Int32) (x1 : Int32) (Q : Int32 → PS → Prop) (h : wpX0_verdictOnLess S x0 x1 Q) : mI l yX0_verdictOnLess wsX0_verdictOnLess rmX0_verdictOnLess G S [.int x0, .int x1] Q := by
  unfold mI
  refine met_of (cc := cX0_verdictOnLess) (maxL := 4) (ret := (some .int)) (by decide) rfl (Nat.le_of_ble_eq_true rfl) ?_
  intro p e s m args below meth c C hr hin
  unfold wpX0_verdictOnLess at h
  show PW p l e _ s m args below meth c _ G 4 S 0 0 [(0, .int x0), (1, .int x1)] 0 []
  refine pw_iload_n (pc := 0) C 0 dX0_verdictOnLess_0 rfl rfl ?_
  refine pw_iload_n (pc := 1) C 0 dX0_verdictOnLess_1 rfl rfl ?_
  refine pw_ineg (pc := 2) C dX0_verdictOnLess_2 ?_
  refine pw_iand (pc := 3) C dX0_verdictOnLess_3 ?_
  refine pw_istore_n (pc := 4) C [(2, .int (x0 &&& (-x0))), (0, .int x0), (1, .int x1)] dX0_verdictOnLess_4 rfl (by decide) rfl ?_
  refine pw_iload_n (pc := 5) C 2 dX0_verdictOnLess_5 rfl rfl ?_
  refine pw_iload_n (pc := 6) C 2 dX0_verdictOnLess_6 rfl rfl ?_
  refine pw_ineg (pc := 7) C dX0_verdictOnLess_7 ?_
  refine pw_iand (pc := 8) C dX0_verdictOnLess_8 ?_
  refine pw_istore_n (pc := 9) C [(3, .int (x1 &&& (-x1))), (2, .int (x0 &&& (-x0))), (0, .int x0), (1, .int x1)] dX0_verdictOnLess_9 rfl (by decide) rfl ?_
  refine pw_iload_n (pc := 10) C 3 dX0_verdictOnLess_10 rfl rfl ?_
  refine pw_iconst (pc := 11) (v := 2 ) C dX0_verdictOnLess_11 (by decide) ?_
  refine pw_iload_n (pc := 12) C 1 dX0_verdictOnLess_12 rfl rfl ?_
  refine pw_imul (pc := 13) C dX0_verdictOnLess_13 ?_
  refine pw_icmp_ge (pc := 14) (tgt := 19) C dX0_verdictOnLess_14 rfl ⟨fun hc => ?_, fun hc => ?_⟩
  · replace h := h.1 hc
    refine pw_iload_n (pc := 19) C 2 dX0_verdictOnLess_19 rfl rfl ?_
    refine pw_iload_n (pc := 20) C 0 dX0_verdictOnLess_20 rfl rfl ?_
    refine pw_icmp_ge (pc := 21) (tgt := 28) C dX0_verdictOnLess_21 rfl ⟨fun hc => ?_, fun hc => ?_⟩
    · replace h := h.1 hc
      refine pw_iconst (pc := 28) (v := 1 ) C dX0_verdictOnLess_28 (by decide) ?_
      exact pw_iret (pc := 29) C hr h dX0_verdictOnLess_29
    · replace h := h.2 hc
      refine pw_iconst (pc := 24) (v := 2 ) C dX0_verdictOnLess_24 (by decide) ?_
      refine pw_goto (pc := 25) (tgt := 29) C dX0_verdictOnLess_25 rfl ?_
      exact pw_iret (pc := 29) C hr h dX0_verdictOnLess_29
  · replace h := h.2 hc
    refine pw_iconst (pc := 17) (v := 0 ) C dX0_verdictOnLess_17 (by decide) ?_
    exact pw_iret (pc := 18) C hr h dX0_verdictOnLess_18

abbrev rmJ6_bitCount_0f7a4 : Room := { frames := 0, cells := 0, slots := 0, locals := 0 }
def wpJ6_bitCount_0f7a4 (S : PS) (x0 : Int32) (Q : Int32 → PS → Prop) : Prop := (Q ((((((((x0 - ((((x0).toUInt32 >>> (((1 : Int32)).toUInt32 &&& Int32.toUInt32 31)).toInt32) &&& (1431655765 : Int32))) &&& (858993459 : Int32)) + (((((x0 - ((((x0).toUInt32 >>> (((1 : Int32)).toUInt32 &&& Int32.toUInt32 31)).toInt32) &&& (1431655765 : Int32)))).toUInt32 >>> (((2 : Int32)).toUInt32 &&& Int32.toUInt32 31)).toInt32) &&& (858993459 : Int32))) + ((((((x0 - ((((x0).toUInt32 >>> (((1 : Int32)).toUInt32 &&& Int32.toUInt32 31)).toInt32) &&& (1431655765 : Int32))) &&& (858993459 : Int32)) + (((((x0 - ((((x0).toUInt32 >>> (((1 : Int32)).toUInt32 &&& Int32.toUInt32 31)).toInt32) &&& (1431655765 : Int32)))).toUInt32 >>> (((2 : Int32)).toUInt32 &&& Int32.toUInt32 31)).toInt32) &&& (858993459 : Int32)))).toUInt32 >>> (((4 : Int32)).toUInt32 &&& Int32.toUInt32 31)).toInt32)) &&& (252645135 : Int32)) + ((((((((x0 - ((((x0).toUInt32 >>> (((1 : Int32)).toUInt32 &&& Int32.toUInt32 31)).toInt32) &&& (1431655765 : Int32))) &&& (858993459 : Int32)) + (((((x0 - ((((x0).toUInt32 >>> (((1 : Int32)).toUInt32 &&& Int32.toUInt32 31)).toInt32) &&& (1431655765 : Int32)))).toUInt32 >>> (((2 : Int32)).toUInt32 &&& Int32.toUInt32 31)).toInt32) &&& (858993459 : Int32))) + ((((((x0 - ((((x0).toUInt32 >>> (((1 : Int32)).toUInt32 &&& Int32.toUInt32 31)).toInt32) &&& (1431655765 : Int32))) &&& (858993459 : Int32)) + (((((x0 - ((((x0).toUInt32 >>> (((1 : Int32)).toUInt32 &&& Int32.toUInt32 31)).toInt32) &&& (1431655765 : Int32)))).toUInt32 >>> (((2 : Int32)).toUInt32 &&& Int32.toUInt32 31)).toInt32) &&& (858993459 : Int32)))).toUInt32 >>> (((4 : Int32)).toUInt32 &&& Int32.toUInt32 31)).toInt32)) &&& (252645135 : Int32))).toUInt32 >>> (((8 : Int32)).toUInt32 &&& Int32.toUInt32 31)).toInt32)) + (((((((((x0 - ((((x0).toUInt32 >>> (((1 : Int32)).toUInt32 &&& Int32.toUInt32 31)).toInt32) &&& (1431655765 : Int32))) &&& (858993459 : Int32)) + (((((x0 - ((((x0).toUInt32 >>> (((1 : Int32)).toUInt32 &&& Int32.toUInt32 31)).toInt32) &&& (1431655765 : Int32)))).toUInt32 >>> (((2 : Int32)).toUInt32 &&& Int32.toUInt32 31)).toInt32) &&& (858993459 : Int32))) + ((((((x0 - ((((x0).toUInt32 >>> (((1 : Int32)).toUInt32 &&& Int32.toUInt32 31)).toInt32) &&& (1431655765 : Int32))) &&& (858993459 : Int32)) + (((((x0 - ((((x0).toUInt32 >>> (((1 : Int32)).toUInt32 &&& Int32.toUInt32 31)).toInt32) &&& (1431655765 : Int32)))).toUInt32 >>> (((2 : Int32)).toUInt32 &&& Int32.toUInt32 31)).toInt32) &&& (858993459 : Int32)))).toUInt32 >>> (((4 : Int32)).toUInt32 &&& Int32.toUInt32 31)).toInt32)) &&& (252645135 : Int32)) + ((((((((x0 - ((((x0).toUInt32 >>> (((1 : Int32)).toUInt32 &&& Int32.toUInt32 31)).toInt32) &&& (1431655765 : Int32))) &&& (858993459 : Int32)) + (((((x0 - ((((x0).toUInt32 >>> (((1 : Int32)).toUInt32 &&& Int32.toUInt32 31)).toInt32) &&& (1431655765 : Int32)))).toUInt32 >>> (((2 : Int32)).toUInt32 &&& Int32.toUInt32 31)).toInt32) &&& (858993459 : Int32))) + ((((((x0 - ((((x0).toUInt32 >>> (((1 : Int32)).toUInt32 &&& Int32.toUInt32 31)).toInt32) &&& (1431655765 : Int32))) &&& (858993459 : Int32)) + (((((x0 - ((((x0).toUInt32 >>> (((1 : Int32)).toUInt32 &&& Int32.toUInt32 31)).toInt32) &&& (1431655765 : Int32)))).toUInt32 >>> (((2 : Int32)).toUInt32 &&& Int32.toUInt32 31)).toInt32) &&& (858993459 : Int32)))).toUInt32 >>> (((4 : Int32)).toUInt32 &&& Int32.toUInt32 31)).toInt32)) &&& (252645135 : Int32))).toUInt32 >>> (((8 : Int32)).toUInt32 &&& Int32.toUInt32 31)).toInt32))).toUInt32 >>> (((16 : Int32)).toUInt32 &&& Int32.toUInt32 31)).toInt32)) &&& (63 : Int32)) S)
set_option maxRecDepth 100000 in
set_option maxHeartbeats 4000000 in
theorem ctJ6_bitCount_0f7a4 (l : Launch) (G : PG) (S : PS) (x0 : Int32) (Q : Int32 → PS → Prop) (h : wpJ6_bitCount_0f7a4 S x0 Q) : mI l yJ6_bitCount_0f7a4 wsJ6_bitCount_0f7a4 rmJ6_bitCount_0f7a4 G S [.int x0] Q := by
  unfold mI
  refine met_of (cc := cJ6_bitCount_0f7a4) (maxL := 1) (ret := (some .int)) (by decide) rfl (Nat.le_of_ble_eq_true rfl) ?_
  intro p e s m args below meth c C hr hin
  unfold wpJ6_bitCount_0f7a4 at h
  show PW p l e _ s m args below meth c _ G 1 S 0 0 [(0, .int x0)] 0 []
  refine pw_iload_n (pc := 0) C 0 dJ6_bitCount_0f7a4_0 rfl rfl ?_
  refine pw_iload_n (pc := 1) C 0 dJ6_bitCount_0f7a4_1 rfl rfl ?_
  refine pw_iconst (pc := 2) (v := 1 ) C dJ6_bitCount_0f7a4_2 (by decide) ?_
  refine pw_iushr (pc := 3) C dJ6_bitCount_0f7a4_3 ?_
  refine pw_ldc_w (pc := 4) (v := 1431655765) C (by decide +kernel) dJ6_bitCount_0f7a4_4 ?_
  refine pw_iand (pc := 7) C dJ6_bitCount_0f7a4_7 ?_
  refine pw_isub (pc := 8) C dJ6_bitCount_0f7a4_8 ?_
  refine pw_istore_n (pc := 9) C [(0, .int (x0 - ((((x0).toUInt32 >>> (((1 : Int32)).toUInt32 &&& Int32.toUInt32 31)).toInt32) &&& (1431655765 : Int32))))] dJ6_bitCount_0f7a4_9 rfl (by decide) rfl ?_
  refine pw_iload_n (pc := 10) C 0 dJ6_bitCount_0f7a4_10 rfl rfl ?_
  refine pw_ldc_w (pc := 11) (v := 858993459) C (by decide +kernel) dJ6_bitCount_0f7a4_11 ?_
  refine pw_iand (pc := 14) C dJ6_bitCount_0f7a4_14 ?_
  refine pw_iload_n (pc := 15) C 0 dJ6_bitCount_0f7a4_15 rfl rfl ?_
  refine pw_iconst (pc := 16) (v := 2 ) C dJ6_bitCount_0f7a4_16 (by decide) ?_
  refine pw_iushr (pc := 17) C dJ6_bitCount_0f7a4_17 ?_
  refine pw_ldc_w (pc := 18) (v := 858993459) C (by decide +kernel) dJ6_bitCount_0f7a4_18 ?_
  refine pw_iand (pc := 21) C dJ6_bitCount_0f7a4_21 ?_
  refine pw_iadd (pc := 22) C dJ6_bitCount_0f7a4_22 ?_
  refine pw_istore_n (pc := 23) C [(0, .int (((x0 - ((((x0).toUInt32 >>> (((1 : Int32)).toUInt32 &&& Int32.toUInt32 31)).toInt32) &&& (1431655765 : Int32))) &&& (858993459 : Int32)) + (((((x0 - ((((x0).toUInt32 >>> (((1 : Int32)).toUInt32 &&& Int32.toUInt32 31)).toInt32) &&& (1431655765 : Int32)))).toUInt32 >>> (((2 : Int32)).toUInt32 &&& Int32.toUInt32 31)).toInt32) &&& (858993459 : Int32))))] dJ6_bitCount_0f7a4_23 rfl (by decide) rfl ?_
  refine pw_iload_n (pc := 24) C 0 dJ6_bitCount_0f7a4_24 rfl rfl ?_
  refine pw_iload_n (pc := 25) C 0 dJ6_bitCount_0f7a4_25 rfl rfl ?_
  refine pw_iconst (pc := 26) (v := 4 ) C dJ6_bitCount_0f7a4_26 (by decide) ?_
  refine pw_iushr (pc := 27) C dJ6_bitCount_0f7a4_27 ?_
  refine pw_iadd (pc := 28) C dJ6_bitCount_0f7a4_28 ?_
  refine pw_ldc_w (pc := 29) (v := 252645135) C (by decide +kernel) dJ6_bitCount_0f7a4_29 ?_
  refine pw_iand (pc := 32) C dJ6_bitCount_0f7a4_32 ?_
  refine pw_istore_n (pc := 33) C [(0, .int (((((x0 - ((((x0).toUInt32 >>> (((1 : Int32)).toUInt32 &&& Int32.toUInt32 31)).toInt32) &&& (1431655765 : Int32))) &&& (858993459 : Int32)) + (((((x0 - ((((x0).toUInt32 >>> (((1 : Int32)).toUInt32 &&& Int32.toUInt32 31)).toInt32) &&& (1431655765 : Int32)))).toUInt32 >>> (((2 : Int32)).toUInt32 &&& Int32.toUInt32 31)).toInt32) &&& (858993459 : Int32))) + ((((((x0 - ((((x0).toUInt32 >>> (((1 : Int32)).toUInt32 &&& Int32.toUInt32 31)).toInt32) &&& (1431655765 : Int32))) &&& (858993459 : Int32)) + (((((x0 - ((((x0).toUInt32 >>> (((1 : Int32)).toUInt32 &&& Int32.toUInt32 31)).toInt32) &&& (1431655765 : Int32)))).toUInt32 >>> (((2 : Int32)).toUInt32 &&& Int32.toUInt32 31)).toInt32) &&& (858993459 : Int32)))).toUInt32 >>> (((4 : Int32)).toUInt32 &&& Int32.toUInt32 31)).toInt32)) &&& (252645135 : Int32)))] dJ6_bitCount_0f7a4_33 rfl (by decide) rfl ?_
  refine pw_iload_n (pc := 34) C 0 dJ6_bitCount_0f7a4_34 rfl rfl ?_
  refine pw_iload_n (pc := 35) C 0 dJ6_bitCount_0f7a4_35 rfl rfl ?_
  refine pw_bipush (pc := 36) (v := 8 ) C dJ6_bitCount_0f7a4_36 (by decide) ?_
  refine pw_iushr (pc := 38) C dJ6_bitCount_0f7a4_38 ?_
  refine pw_iadd (pc := 39) C dJ6_bitCount_0f7a4_39 ?_
  refine pw_istore_n (pc := 40) C [(0, .int ((((((x0 - ((((x0).toUInt32 >>> (((1 : Int32)).toUInt32 &&& Int32.toUInt32 31)).toInt32) &&& (1431655765 : Int32))) &&& (858993459 : Int32)) + (((((x0 - ((((x0).toUInt32 >>> (((1 : Int32)).toUInt32 &&& Int32.toUInt32 31)).toInt32) &&& (1431655765 : Int32)))).toUInt32 >>> (((2 : Int32)).toUInt32 &&& Int32.toUInt32 31)).toInt32) &&& (858993459 : Int32))) + ((((((x0 - ((((x0).toUInt32 >>> (((1 : Int32)).toUInt32 &&& Int32.toUInt32 31)).toInt32) &&& (1431655765 : Int32))) &&& (858993459 : Int32)) + (((((x0 - ((((x0).toUInt32 >>> (((1 : Int32)).toUInt32 &&& Int32.toUInt32 31)).toInt32) &&& (1431655765 : Int32)))).toUInt32 >>> (((2 : Int32)).toUInt32 &&& Int32.toUInt32 31)).toInt32) &&& (858993459 : Int32)))).toUInt32 >>> (((4 : Int32)).toUInt32 &&& Int32.toUInt32 31)).toInt32)) &&& (252645135 : Int32)) + ((((((((x0 - ((((x0).toUInt32 >>> (((1 : Int32)).toUInt32 &&& Int32.toUInt32 31)).toInt32) &&& (1431655765 : Int32))) &&& (858993459 : Int32)) + (((((x0 - ((((x0).toUInt32 >>> (((1 : Int32)).toUInt32 &&& Int32.toUInt32 31)).toInt32) &&& (1431655765 : Int32)))).toUInt32 >>> (((2 : Int32)).toUInt32 &&& Int32.toUInt32 31)).toInt32) &&& (858993459 : Int32))) + ((((((x0 - ((((x0).toUInt32 >>> (((1 : Int32)).toUInt32 &&& Int32.toUInt32 31)).toInt32) &&& (1431655765 : Int32))) &&& (858993459 : Int32)) + (((((x0 - ((((x0).toUInt32 >>> (((1 : Int32)).toUInt32 &&& Int32.toUInt32 31)).toInt32) &&& (1431655765 : Int32)))).toUInt32 >>> (((2 : Int32)).toUInt32 &&& Int32.toUInt32 31)).toInt32) &&& (858993459 : Int32)))).toUInt32 >>> (((4 : Int32)).toUInt32 &&& Int32.toUInt32 31)).toInt32)) &&& (252645135 : Int32))).toUInt32 >>> (((8 : Int32)).toUInt32 &&& Int32.toUInt32 31)).toInt32)))] dJ6_bitCount_0f7a4_40 rfl (by decide) rfl ?_
  refine pw_iload_n (pc := 41) C 0 dJ6_bitCount_0f7a4_41 rfl rfl ?_
  refine pw_iload_n (pc := 42) C 0 dJ6_bitCount_0f7a4_42 rfl rfl ?_
  refine pw_bipush (pc := 43) (v := 16 ) C dJ6_bitCount_0f7a4_43 (by decide) ?_
  refine pw_iushr (pc := 45) C dJ6_bitCount_0f7a4_45 ?_
  refine pw_iadd (pc := 46) C dJ6_bitCount_0f7a4_46 ?_
  refine pw_istore_n (pc := 47) C [(0, .int (((((((x0 - ((((x0).toUInt32 >>> (((1 : Int32)).toUInt32 &&& Int32.toUInt32 31)).toInt32) &&& (1431655765 : Int32))) &&& (858993459 : Int32)) + (((((x0 - ((((x0).toUInt32 >>> (((1 : Int32)).toUInt32 &&& Int32.toUInt32 31)).toInt32) &&& (1431655765 : Int32)))).toUInt32 >>> (((2 : Int32)).toUInt32 &&& Int32.toUInt32 31)).toInt32) &&& (858993459 : Int32))) + ((((((x0 - ((((x0).toUInt32 >>> (((1 : Int32)).toUInt32 &&& Int32.toUInt32 31)).toInt32) &&& (1431655765 : Int32))) &&& (858993459 : Int32)) + (((((x0 - ((((x0).toUInt32 >>> (((1 : Int32)).toUInt32 &&& Int32.toUInt32 31)).toInt32) &&& (1431655765 : Int32)))).toUInt32 >>> (((2 : Int32)).toUInt32 &&& Int32.toUInt32 31)).toInt32) &&& (858993459 : Int32)))).toUInt32 >>> (((4 : Int32)).toUInt32 &&& Int32.toUInt32 31)).toInt32)) &&& (252645135 : Int32)) + ((((((((x0 - ((((x0).toUInt32 >>> (((1 : Int32)).toUInt32 &&& Int32.toUInt32 31)).toInt32) &&& (1431655765 : Int32))) &&& (858993459 : Int32)) + (((((x0 - ((((x0).toUInt32 >>> (((1 : Int32)).toUInt32 &&& Int32.toUInt32 31)).toInt32) &&& (1431655765 : Int32)))).toUInt32 >>> (((2 : Int32)).toUInt32 &&& Int32.toUInt32 31)).toInt32) &&& (858993459 : Int32))) + ((((((x0 - ((((x0).toUInt32 >>> (((1 : Int32)).toUInt32 &&& Int32.toUInt32 31)).toInt32) &&& (1431655765 : Int32))) &&& (858993459 : Int32)) + (((((x0 - ((((x0).toUInt32 >>> (((1 : Int32)).toUInt32 &&& Int32.toUInt32 31)).toInt32) &&& (1431655765 : Int32)))).toUInt32 >>> (((2 : Int32)).toUInt32 &&& Int32.toUInt32 31)).toInt32) &&& (858993459 : Int32)))).toUInt32 >>> (((4 : Int32)).toUInt32 &&& Int32.toUInt32 31)).toInt32)) &&& (252645135 : Int32))).toUInt32 >>> (((8 : Int32)).toUInt32 &&& Int32.toUInt32 31)).toInt32)) + (((((((((x0 - ((((x0).toUInt32 >>> (((1 : Int32)).toUInt32 &&& Int32.toUInt32 31)).toInt32) &&& (1431655765 : Int32))) &&& (858993459 : Int32)) + (((((x0 - ((((x0).toUInt32 >>> (((1 : Int32)).toUInt32 &&& Int32.toUInt32 31)).toInt32) &&& (1431655765 : Int32)))).toUInt32 >>> (((2 : Int32)).toUInt32 &&& Int32.toUInt32 31)).toInt32) &&& (858993459 : Int32))) + ((((((x0 - ((((x0).toUInt32 >>> (((1 : Int32)).toUInt32 &&& Int32.toUInt32 31)).toInt32) &&& (1431655765 : Int32))) &&& (858993459 : Int32)) + (((((x0 - ((((x0).toUInt32 >>> (((1 : Int32)).toUInt32 &&& Int32.toUInt32 31)).toInt32) &&& (1431655765 : Int32)))).toUInt32 >>> (((2 : Int32)).toUInt32 &&& Int32.toUInt32 31)).toInt32) &&& (858993459 : Int32)))).toUInt32 >>> (((4 : Int32)).toUInt32 &&& Int32.toUInt32 31)).toInt32)) &&& (252645135 : Int32)) + ((((((((x0 - ((((x0).toUInt32 >>> (((1 : Int32)).toUInt32 &&& Int32.toUInt32 31)).toInt32) &&& (1431655765 : Int32))) &&& (858993459 : Int32)) + (((((x0 - ((((x0).toUInt32 >>> (((1 : Int32)).toUInt32 &&& Int32.toUInt32 31)).toInt32) &&& (1431655765 : Int32)))).toUInt32 >>> (((2 : Int32)).toUInt32 &&& Int32.toUInt32 31)).toInt32) &&& (858993459 : Int32))) + ((((((x0 - ((((x0).toUInt32 >>> (((1 : Int32)).toUInt32 &&& Int32.toUInt32 31)).toInt32) &&& (1431655765 : Int32))) &&& (858993459 : Int32)) + (((((x0 - ((((x0).toUInt32 >>> (((1 : Int32)).toUInt32 &&& Int32.toUInt32 31)).toInt32) &&& (1431655765 : Int32)))).toUInt32 >>> (((2 : Int32)).toUInt32 &&& Int32.toUInt32 31)).toInt32) &&& (858993459 : Int32)))).toUInt32 >>> (((4 : Int32)).toUInt32 &&& Int32.toUInt32 31)).toInt32)) &&& (252645135 : Int32))).toUInt32 >>> (((8 : Int32)).toUInt32 &&& Int32.toUInt32 31)).toInt32))).toUInt32 >>> (((16 : Int32)).toUInt32 &&& Int32.toUInt32 31)).toInt32)))] dJ6_bitCount_0f7a4_47 rfl (by decide) rfl ?_
  refine pw_iload_n (pc := 48) C 0 dJ6_bitCount_0f7a4_48 rfl rfl ?_
  refine pw_bipush (pc := 49) (v := 63 ) C dJ6_bitCount_0f7a4_49 (by decide) ?_
  refine pw_iand (pc := 51) C dJ6_bitCount_0f7a4_51 ?_
  exact pw_iret (pc := 52) C hr h dJ6_bitCount_0f7a4_52

abbrev rmX0_verdict : Room := { frames := 1, cells := 0, slots := 0, locals := 23 }
theorem iX0_verdict_X0 : ∀ w ∈ u_ws RX0 TX0 4, w ∈ wsX0_verdict := by decide +kernel
def wpX0_verdict (S : PS) (x0 : Nat) (x1 : Int64) (Q : Int32 → PS → Prop) : Prop := (pK S x0 = 1 ∧ (wpX1_variableAt S x0 (0 : Int32) (fun r2 S3 => (wpX5_valuesOf S3 x1 r2 (fun r4 S5 => (pK S5 x0 = 1 ∧ (wpX1_variableAt S5 x0 (1 : Int32) (fun r7 S8 => (wpX5_valuesOf S8 x1 r7 (fun r9 S10 => (pK S10 x0 = 1 ∧ ((¬ (pI S10 x0 0) = (2 : Int32) → ((¬ (r4 &&& r9) = 0 → ((¬ r4 = r9 → (Q (1 : Int32) S10)) ∧ (r4 = r9 → (wpJ6_bitCount_0f7a4 S10 r4 (fun r12 S13 => ((¬ r12 = (1 : Int32) → (Q (1 : Int32) S13)) ∧ (r12 = (1 : Int32) → (Q (0 : Int32) S13)))))))) ∧ ((r4 &&& r9) = 0 → (Q (2 : Int32) S10)))) ∧ ((pI S10 x0 0) = (2 : Int32) → (wpX0_verdictOnLess S10 r4 r9 (fun r14 S15 => (Q r14 S15))))))))))))))))
set_option maxRecDepth 100000 in
set_option maxHeartbeats 4000000 in
theorem ctX0_verdict (l : Launch) (G : PG) (hZ : pZa G) (S : PS) (x0 : Nat) (x1 : Int64) (Q : Int32 → PS → Prop) (h : wpX0_verdict S x0 x1 Q) : mI l yX0_verdict wsX0_verdict rmX0_verdict G S [.ref (G.2.2 + x0), .long x1] Q := by
  unfold mI
  refine met_of (cc := cX0_verdict) (maxL := 5) (ret := (some .int)) (by decide) rfl (Nat.le_of_ble_eq_true rfl) ?_
  intro p e s m args below meth c C hr hin
  unfold wpX0_verdict at h
  show PW p l e _ s m args below meth c _ G 5 S 0 0 [(0, .ref (G.2.2 + x0)), (1, .long x1)] 0 []
  refine pw_lload_n (pc := 0) C 1 dX0_verdict_0 rfl rfl ?_
  refine pw_aload_n (pc := 1) C 0 dX0_verdict_1 rfl rfl ?_
  refine pw_iconst (pc := 2) (v := 0 ) C dX0_verdict_2 (by decide) ?_
  obtain ⟨hk1, h⟩ := h
  refine pw_calli (pc := 3) (kc2 := 0) (kn2 := 0) (pRunU (pc := 3) C (ctX1_variableAt l G hZ  _ x0 (0 : Int32) _ h) (va_cwU 1 C.2.2.2.2.1 gX0_verdict_X1_variableAt_u9X0 rfl rfl rfl rfl (by decide +kernel) ⟨Nat.le_of_ble_eq_true rfl, Nat.le_of_ble_eq_true rfl⟩) pCl0 hk1 rfl rfl (Nat.le_of_ble_eq_true rfl) dX0_verdict_3 ⟨Nat.le_of_ble_eq_true rfl, Nat.le_of_ble_eq_true rfl⟩) rfl rfl (fun r2 S3 h => ?_)
  refine pw_calli (pc := 6) (kc2 := 0) (kn2 := 0) (pRunS (pc := 6) C (ctX5_valuesOf l G hZ  _ x1 r2 _ h) (va_cwS 2 C.2.2.2.2.1 gX0_verdict_X5_valuesOf rfl rfl rfl (by decide +kernel) ⟨Nat.le_of_ble_eq_true rfl, Nat.le_of_ble_eq_true rfl⟩) rfl rfl (Nat.le_of_ble_eq_true rfl) dX0_verdict_6 ⟨Nat.le_of_ble_eq_true rfl, Nat.le_of_ble_eq_true rfl⟩) rfl rfl (fun r4 S5 h => ?_)
  refine pw_istore_n (pc := 9) C [(3, .int r4), (0, .ref (G.2.2 + x0)), (1, .long x1)] dX0_verdict_9 rfl (by decide) rfl ?_
  refine pw_lload_n (pc := 10) C 2 dX0_verdict_10 rfl rfl ?_
  refine pw_aload_n (pc := 11) C 1 dX0_verdict_11 rfl rfl ?_
  refine pw_iconst (pc := 12) (v := 1 ) C dX0_verdict_12 (by decide) ?_
  obtain ⟨hk6, h⟩ := h
  refine pw_calli (pc := 13) (kc2 := 0) (kn2 := 0) (pRunU (pc := 13) C (ctX1_variableAt l G hZ  _ x0 (1 : Int32) _ h) (va_cwU 1 C.2.2.2.2.1 gX0_verdict_X1_variableAt_u9X0 rfl rfl rfl rfl (by decide +kernel) ⟨Nat.le_of_ble_eq_true rfl, Nat.le_of_ble_eq_true rfl⟩) pCl0 hk6 rfl rfl (Nat.le_of_ble_eq_true rfl) dX0_verdict_13 ⟨Nat.le_of_ble_eq_true rfl, Nat.le_of_ble_eq_true rfl⟩) rfl rfl (fun r7 S8 h => ?_)
  refine pw_calli (pc := 16) (kc2 := 0) (kn2 := 0) (pRunS (pc := 16) C (ctX5_valuesOf l G hZ  _ x1 r7 _ h) (va_cwS 2 C.2.2.2.2.1 gX0_verdict_X5_valuesOf rfl rfl rfl (by decide +kernel) ⟨Nat.le_of_ble_eq_true rfl, Nat.le_of_ble_eq_true rfl⟩) rfl rfl (Nat.le_of_ble_eq_true rfl) dX0_verdict_16 ⟨Nat.le_of_ble_eq_true rfl, Nat.le_of_ble_eq_true rfl⟩) rfl rfl (fun r9 S10 h => ?_)
  refine pw_istore (pc := 19) C [(4, .int r9), (3, .int r4), (0, .ref (G.2.2 + x0)), (1, .long x1)] dX0_verdict_19 (by decide) rfl ?_
  refine pw_aload_n (pc := 21) C 2 dX0_verdict_21 rfl rfl ?_
  obtain ⟨hk11, h⟩ := h
  refine pw_getI (pc := 22) (ref := "SupportSolver$Comparison") (k := 0) (index := 21) C pCl0 iX0_verdict_X0 hk11 rfl (by decide +kernel) (Or.inr (by decide +kernel)) dX0_verdict_22 ?_
  refine pw_iconst (pc := 25) (v := 2 ) C dX0_verdict_25 (by decide) ?_
  refine pw_icmp_ne (pc := 26) (tgt := 36) C dX0_verdict_26 rfl ⟨fun hc => ?_, fun hc => ?_⟩
  · replace h := h.1 hc
    refine pw_iload_n (pc := 36) C 1 dX0_verdict_36 rfl rfl ?_
    refine pw_iload (pc := 37) C 0 dX0_verdict_37 rfl ?_
    refine pw_iand (pc := 39) C dX0_verdict_39 ?_
    refine pw_if_ne (pc := 40) (tgt := 45) C dX0_verdict_40 rfl ⟨fun hc => ?_, fun hc => ?_⟩
    · replace h := h.1 hc
      refine pw_iload_n (pc := 45) C 1 dX0_verdict_45 rfl rfl ?_
      refine pw_iload (pc := 46) C 0 dX0_verdict_46 rfl ?_
      refine pw_icmp_ne (pc := 48) (tgt := 63) C dX0_verdict_48 rfl ⟨fun hc => ?_, fun hc => ?_⟩
      · replace h := h.1 hc
        refine pw_iconst (pc := 63) (v := 1 ) C dX0_verdict_63 (by decide) ?_
        exact pw_iret (pc := 64) C hr h dX0_verdict_64
      · replace h := h.2 hc
        refine pw_iload_n (pc := 51) C 1 dX0_verdict_51 rfl rfl ?_
        refine pw_calli (pc := 52) (kc2 := 0) (kn2 := 0) (pRunS (pc := 52) C (ctJ6_bitCount_0f7a4 l G  _ r4 _ h) (va_cwS 1 C.2.2.2.2.1 gX0_verdict_J6_bitCount_0f7a4 rfl rfl rfl (by decide +kernel) ⟨Nat.le_of_ble_eq_true rfl, Nat.le_of_ble_eq_true rfl⟩) rfl rfl (Nat.le_of_ble_eq_true rfl) dX0_verdict_52 ⟨Nat.le_of_ble_eq_true rfl, Nat.le_of_ble_eq_true rfl⟩) rfl rfl (fun r12 S13 h => ?_)
        refine pw_iconst (pc := 55) (v := 1 ) C dX0_verdict_55 (by decide) ?_
        refine pw_icmp_ne (pc := 56) (tgt := 63) C dX0_verdict_56 rfl ⟨fun hc => ?_, fun hc => ?_⟩
        · replace h := h.1 hc
          refine pw_iconst (pc := 63) (v := 1 ) C dX0_verdict_63 (by decide) ?_
          exact pw_iret (pc := 64) C hr h dX0_verdict_64
        · replace h := h.2 hc
          refine pw_iconst (pc := 59) (v := 0 ) C dX0_verdict_59 (by decide) ?_
          refine pw_goto (pc := 60) (tgt := 64) C dX0_verdict_60 rfl ?_
          exact pw_iret (pc := 64) C hr h dX0_verdict_64
    · replace h := h.2 hc
      refine pw_iconst (pc := 43) (v := 2 ) C dX0_verdict_43 (by decide) ?_
      exact pw_iret (pc := 44) C hr h dX0_verdict_44
  · replace h := h.2 hc
    refine pw_iload_n (pc := 29) C 1 dX0_verdict_29 rfl rfl ?_
    refine pw_iload (pc := 30) C 0 dX0_verdict_30 rfl ?_
    refine pw_calli (pc := 32) (kc2 := 0) (kn2 := 0) (pRunS (pc := 32) C (ctX0_verdictOnLess l G hZ  _ r4 r9 _ h) (va_cwS 2 C.2.2.2.2.1 gX0_verdict_X0_verdictOnLess rfl rfl rfl (by decide +kernel) ⟨Nat.le_of_ble_eq_true rfl, Nat.le_of_ble_eq_true rfl⟩) rfl rfl (Nat.le_of_ble_eq_true rfl) dX0_verdict_32 ⟨Nat.le_of_ble_eq_true rfl, Nat.le_of_ble_eq_true rfl⟩) rfl rfl (fun r14 S15 h => ?_)
    exact pw_iret (pc := 35) C hr h dX0_verdict_35

abbrev rmX0_alike : Room := { frames := 0, cells := 0, slots := 0, locals := 0 }
def wpX0_alike (S : PS) (x0 : Nat) (x1 : Int32) (Q : Int32 → PS → Prop) : Prop := (Q ((1 : Int32) <<< (x1 &&& 31)) S)
set_option maxRecDepth 100000 in
set_option maxHeartbeats 4000000 in
theorem ctX0_alike (l : Launch) (G : PG) (hZ : pZa G) (S : PS) (x0 : Nat) (x1 : Int32) (Q : Int32 → PS → Prop) (h : wpX0_alike S x0 x1 Q) : mI l yX0_alike wsX0_alike rmX0_alike G S [.ref (G.2.2 + x0), .int x1] Q := by
  unfold mI
  refine met_of (cc := cX0_alike) (maxL := 2) (ret := (some .int)) (by decide) rfl (Nat.le_of_ble_eq_true rfl) ?_
  intro p e s m args below meth c C hr hin
  unfold wpX0_alike at h
  show PW p l e _ s m args below meth c _ G 2 S 0 0 [(0, .ref (G.2.2 + x0)), (1, .int x1)] 0 []
  refine pw_iconst (pc := 0) (v := 1 ) C dX0_alike_0 (by decide) ?_
  refine pw_iload_n (pc := 1) C 1 dX0_alike_1 rfl rfl ?_
  refine pw_ishl (pc := 2) C dX0_alike_2 ?_
  exact pw_iret (pc := 3) C hr h dX0_alike_3

abbrev rmX5_allOf : Room := { frames := 0, cells := 0, slots := 0, locals := 0 }
def wpX5_allOf (S : PS) (x0 : Int32) (Q : Int64 → PS → Prop) : Prop := (Q ((31 : Int64) <<< ((((5 : Int32) * x0)).toInt64 &&& 63)) S)
set_option maxRecDepth 100000 in
set_option maxHeartbeats 4000000 in
theorem ctX5_allOf (l : Launch) (G : PG) (hZ : pZa G) (S : PS) (x0 : Int32) (Q : Int64 → PS → Prop) (h : wpX5_allOf S x0 Q) : mJ l yX5_allOf wsX5_allOf rmX5_allOf G S [.int x0] Q := by
  unfold mJ
  refine met_of (cc := cX5_allOf) (maxL := 1) (ret := (some .long)) (by decide) rfl (Nat.le_of_ble_eq_true rfl) ?_
  intro p e s m args below meth c C hr hin
  unfold wpX5_allOf at h
  show PW p l e _ s m args below meth c _ G 1 S 0 0 [(0, .int x0)] 0 []
  refine pw_ldc2 (pc := 0) (v := 31) C (by decide +kernel) dX5_allOf_0 ?_
  refine pw_iconst (pc := 3) (v := 5 ) C dX5_allOf_3 (by decide) ?_
  refine pw_iload_n (pc := 4) C 0 dX5_allOf_4 rfl rfl ?_
  refine pw_imul (pc := 5) C dX5_allOf_5 ?_
  refine pw_lshl (pc := 6) C dX5_allOf_6 ?_
  exact pw_lret (pc := 7) C hr h dX5_allOf_7

abbrev rmX1_addVariable : Room := { frames := 1, cells := 0, slots := 0, locals := 20 }
theorem iX1_addVariable_X0 : ∀ w ∈ u_ws RX0 TX0 4, w ∈ wsX1_addVariable := by decide +kernel
theorem iX1_addVariable_X10 : ∀ w ∈ u_ws RX10 TX10 8, w ∈ wsX1_addVariable := fun _ h => List.mem_cons_of_mem _ (List.mem_append_right _ h)
theorem iX1_addVariable_X2 : ∀ w ∈ u_ws RX2 TX2 7, w ∈ wsX1_addVariable := by decide +kernel
theorem iX1_addVariable_X4 : ∀ w ∈ u_ws RX4 TX4 5, w ∈ wsX1_addVariable := by decide +kernel
def wpX1_addVariable (S : PS) (x0 : Nat) (x1 : Int32) (Q : PS → Prop) : Prop := (pC4 S x0 ∧ (((7 : Int32) ≤ (pI S x0 1) → (Q S)) ∧ (¬ (7 : Int32) ≤ (pI S x0 1) → (wpX5_allOf (sI S x0 3 ((pI S x0 3) ||| (x1 <<< (((3 : Int32) * (pI S x0 1)) &&& 31)))) x1 (fun r2 S3 => (pC4 S3 x0 ∧ (Q (sI (sJ S3 x0 2 ((pJ (sI S x0 3 ((pI S x0 3) ||| (x1 <<< (((3 : Int32) * (pI S x0 1)) &&& 31)))) x0 2) ||| r2)) x0 1 ((pI (sJ S3 x0 2 ((pJ (sI S x0 3 ((pI S x0 3) ||| (x1 <<< (((3 : Int32) * (pI S x0 1)) &&& 31)))) x0 2) ||| r2)) x0 1) + (1 : Int32))))))))))
set_option maxRecDepth 100000 in
set_option maxHeartbeats 4000000 in
theorem ctX1_addVariable (l : Launch) (G : PG) (hZ : pZa G) (S : PS) (x0 : Nat) (x1 : Int32) (Q : PS → Prop) (h : wpX1_addVariable S x0 x1 Q) : mV l yX1_addVariable wsX1_addVariable rmX1_addVariable G S [.ref (G.2.2 + x0), .int x1] Q := by
  unfold mV
  refine met_of (cc := cX1_addVariable) (maxL := 2) (ret := none) (by decide) rfl (Nat.le_of_ble_eq_true rfl) ?_
  intro p e s m args below meth c C hr hin
  unfold wpX1_addVariable at h
  show PW p l e _ s m args below meth c _ G 2 S 0 0 [(0, .ref (G.2.2 + x0)), (1, .int x1)] 0 []
  refine pw_aload_n (pc := 0) C 0 dX1_addVariable_0 rfl rfl ?_
  obtain ⟨hk1, h⟩ := h
  refine pw_getCI (pc := 1) (k := 1) (index := 9) C hk1 iX1_addVariable_X0 iX1_addVariable_X2 iX1_addVariable_X4 iX1_addVariable_X10 (by decide) (by decide +kernel) dX1_addVariable_1 ?_
  refine pw_bipush (pc := 4) (v := 7 ) C dX1_addVariable_4 (by decide) ?_
  refine pw_icmp_ge (pc := 6) (tgt := 49) C dX1_addVariable_6 rfl ⟨fun hc => ?_, fun hc => ?_⟩
  · replace h := h.1 hc
    exact pw_vret (pc := 49) C hr h dX1_addVariable_49
  · replace h := h.2 hc
    refine pw_aload_n (pc := 9) C 0 dX1_addVariable_9 rfl rfl ?_
    refine pw_dup (pc := 10) C dX1_addVariable_10 rfl ?_
    refine pw_getCI (pc := 11) (k := 3) (index := 19) C hk1 iX1_addVariable_X0 iX1_addVariable_X2 iX1_addVariable_X4 iX1_addVariable_X10 (by decide) (by decide +kernel) dX1_addVariable_11 ?_
    refine pw_iload_n (pc := 14) C 1 dX1_addVariable_14 rfl rfl ?_
    refine pw_iconst (pc := 15) (v := 3 ) C dX1_addVariable_15 (by decide) ?_
    refine pw_aload_n (pc := 16) C 0 dX1_addVariable_16 rfl rfl ?_
    refine pw_getCI (pc := 17) (k := 1) (index := 9) C hk1 iX1_addVariable_X0 iX1_addVariable_X2 iX1_addVariable_X4 iX1_addVariable_X10 (by decide) (by decide +kernel) dX1_addVariable_17 ?_
    refine pw_imul (pc := 20) C dX1_addVariable_20 ?_
    refine pw_ishl (pc := 21) C dX1_addVariable_21 ?_
    refine pw_ior (pc := 22) C dX1_addVariable_22 ?_
    refine pw_putCI (pc := 23) (k := 3) (index := 19) C hk1 iX1_addVariable_X0 iX1_addVariable_X2 iX1_addVariable_X4 iX1_addVariable_X10 (Or.inr (by decide)) (by decide +kernel) dX1_addVariable_23 ?_
    refine pw_aload_n (pc := 26) (S := (sI S x0 3 ((pI S x0 3) ||| (x1 <<< (((3 : Int32) * (pI S x0 1)) &&& 31))))) C 0 dX1_addVariable_26 rfl rfl ?_
    refine pw_dup (pc := 27) (S := (sI S x0 3 ((pI S x0 3) ||| (x1 <<< (((3 : Int32) * (pI S x0 1)) &&& 31))))) C dX1_addVariable_27 rfl ?_
    refine pw_getCJ (pc := 28) (S := (sI S x0 3 ((pI S x0 3) ||| (x1 <<< (((3 : Int32) * (pI S x0 1)) &&& 31))))) (k := 2) (index := 15) C hk1 iX1_addVariable_X0 iX1_addVariable_X2 iX1_addVariable_X4 iX1_addVariable_X10 rfl (by decide +kernel) dX1_addVariable_28 ?_
    refine pw_iload_n (pc := 31) (S := (sI S x0 3 ((pI S x0 3) ||| (x1 <<< (((3 : Int32) * (pI S x0 1)) &&& 31))))) C 1 dX1_addVariable_31 rfl rfl ?_
    refine pw_calll (pc := 32) (S := (sI S x0 3 ((pI S x0 3) ||| (x1 <<< (((3 : Int32) * (pI S x0 1)) &&& 31))))) (kc2 := 0) (kn2 := 0) (pRunS (pc := 32) (S := (sI S x0 3 ((pI S x0 3) ||| (x1 <<< (((3 : Int32) * (pI S x0 1)) &&& 31))))) C (ctX5_allOf l G hZ  _ x1 _ h) (va_cwS 1 C.2.2.2.2.1 gX1_addVariable_X5_allOf rfl rfl rfl (by decide +kernel) ⟨Nat.le_of_ble_eq_true rfl, Nat.le_of_ble_eq_true rfl⟩) rfl rfl (Nat.le_of_ble_eq_true rfl) dX1_addVariable_32 ⟨Nat.le_of_ble_eq_true rfl, Nat.le_of_ble_eq_true rfl⟩) rfl rfl (fun r2 S3 h => ?_)
    refine pw_lor (pc := 35) C dX1_addVariable_35 ?_
    obtain ⟨hk4, h⟩ := h
    refine pw_putCJ (pc := 36) (k := 2) (index := 15) C hk4 iX1_addVariable_X0 iX1_addVariable_X2 iX1_addVariable_X4 iX1_addVariable_X10 rfl (by decide +kernel) dX1_addVariable_36 ?_
    refine pw_aload_n (pc := 39) (S := (sJ S3 x0 2 ((pJ (sI S x0 3 ((pI S x0 3) ||| (x1 <<< (((3 : Int32) * (pI S x0 1)) &&& 31)))) x0 2) ||| r2))) C 0 dX1_addVariable_39 rfl rfl ?_
    refine pw_dup (pc := 40) (S := (sJ S3 x0 2 ((pJ (sI S x0 3 ((pI S x0 3) ||| (x1 <<< (((3 : Int32) * (pI S x0 1)) &&& 31)))) x0 2) ||| r2))) C dX1_addVariable_40 rfl ?_
    refine pw_getCI (pc := 41) (S := (sJ S3 x0 2 ((pJ (sI S x0 3 ((pI S x0 3) ||| (x1 <<< (((3 : Int32) * (pI S x0 1)) &&& 31)))) x0 2) ||| r2))) (k := 1) (index := 9) C hk4 iX1_addVariable_X0 iX1_addVariable_X2 iX1_addVariable_X4 iX1_addVariable_X10 (by decide) (by decide +kernel) dX1_addVariable_41 ?_
    refine pw_iconst (pc := 44) (S := (sJ S3 x0 2 ((pJ (sI S x0 3 ((pI S x0 3) ||| (x1 <<< (((3 : Int32) * (pI S x0 1)) &&& 31)))) x0 2) ||| r2))) (v := 1 ) C dX1_addVariable_44 (by decide) ?_
    refine pw_iadd (pc := 45) (S := (sJ S3 x0 2 ((pJ (sI S x0 3 ((pI S x0 3) ||| (x1 <<< (((3 : Int32) * (pI S x0 1)) &&& 31)))) x0 2) ||| r2))) C dX1_addVariable_45 ?_
    refine pw_putCI (pc := 46) (S := (sJ S3 x0 2 ((pJ (sI S x0 3 ((pI S x0 3) ||| (x1 <<< (((3 : Int32) * (pI S x0 1)) &&& 31)))) x0 2) ||| r2))) (k := 1) (index := 9) C hk4 iX1_addVariable_X0 iX1_addVariable_X2 iX1_addVariable_X4 iX1_addVariable_X10 (Or.inr (by decide)) (by decide +kernel) dX1_addVariable_46 ?_
    exact pw_vret (pc := 49) (S := (sI (sJ S3 x0 2 ((pJ (sI S x0 3 ((pI S x0 3) ||| (x1 <<< (((3 : Int32) * (pI S x0 1)) &&& 31)))) x0 2) ||| r2)) x0 1 ((pI (sJ S3 x0 2 ((pJ (sI S x0 3 ((pI S x0 3) ||| (x1 <<< (((3 : Int32) * (pI S x0 1)) &&& 31)))) x0 2) ||| r2)) x0 1) + (1 : Int32)))) C hr h dX1_addVariable_49

abbrev rmX1_clearVariables : Room := { frames := 0, cells := 0, slots := 0, locals := 0 }
theorem iX1_clearVariables_X0 : ∀ w ∈ u_ws RX0 TX0 4, w ∈ wsX1_clearVariables := by decide +kernel
theorem iX1_clearVariables_X10 : ∀ w ∈ u_ws RX10 TX10 8, w ∈ wsX1_clearVariables := fun _ h => List.mem_cons_of_mem _ (List.mem_append_right _ h)
theorem iX1_clearVariables_X2 : ∀ w ∈ u_ws RX2 TX2 7, w ∈ wsX1_clearVariables := by decide +kernel
theorem iX1_clearVariables_X4 : ∀ w ∈ u_ws RX4 TX4 5, w ∈ wsX1_clearVariables := by decide +kernel
def wpX1_clearVariables (S : PS) (x0 : Nat) (Q : PS → Prop) : Prop := (pC4 S x0 ∧ (Q (sI (sJ (sI S x0 3 (0 : Int32)) x0 2 (0 : Int64)) x0 1 (0 : Int32))))
set_option maxRecDepth 100000 in
set_option maxHeartbeats 4000000 in
theorem ctX1_clearVariables (l : Launch) (G : PG) (hZ : pZa G) (S : PS) (x0 : Nat) (Q : PS → Prop) (h : wpX1_clearVariables S x0 Q) : mV l yX1_clearVariables wsX1_clearVariables rmX1_clearVariables G S [.ref (G.2.2 + x0)] Q := by
  unfold mV
  refine met_of (cc := cX1_clearVariables) (maxL := 1) (ret := none) (by decide) rfl (Nat.le_of_ble_eq_true rfl) ?_
  intro p e s m args below meth c C hr hin
  unfold wpX1_clearVariables at h
  show PW p l e _ s m args below meth c _ G 1 S 0 0 [(0, .ref (G.2.2 + x0))] 0 []
  refine pw_aload_n (pc := 0) C 0 dX1_clearVariables_0 rfl rfl ?_
  refine pw_iconst (pc := 1) (v := 0 ) C dX1_clearVariables_1 (by decide) ?_
  obtain ⟨hk1, h⟩ := h
  refine pw_putCI (pc := 2) (k := 3) (index := 19) C hk1 iX1_clearVariables_X0 iX1_clearVariables_X2 iX1_clearVariables_X4 iX1_clearVariables_X10 (Or.inr (by decide)) (by decide +kernel) dX1_clearVariables_2 ?_
  refine pw_aload_n (pc := 5) (S := (sI S x0 3 (0 : Int32))) C 0 dX1_clearVariables_5 rfl rfl ?_
  refine pw_lconst (pc := 6) (S := (sI S x0 3 (0 : Int32))) (v := 0) C dX1_clearVariables_6 (by decide) ?_
  refine pw_putCJ (pc := 7) (S := (sI S x0 3 (0 : Int32))) (k := 2) (index := 15) C hk1 iX1_clearVariables_X0 iX1_clearVariables_X2 iX1_clearVariables_X4 iX1_clearVariables_X10 rfl (by decide +kernel) dX1_clearVariables_7 ?_
  refine pw_aload_n (pc := 10) (S := (sJ (sI S x0 3 (0 : Int32)) x0 2 (0 : Int64))) C 0 dX1_clearVariables_10 rfl rfl ?_
  refine pw_iconst (pc := 11) (S := (sJ (sI S x0 3 (0 : Int32)) x0 2 (0 : Int64))) (v := 0 ) C dX1_clearVariables_11 (by decide) ?_
  refine pw_putCI (pc := 12) (S := (sJ (sI S x0 3 (0 : Int32)) x0 2 (0 : Int64))) (k := 1) (index := 9) C hk1 iX1_clearVariables_X0 iX1_clearVariables_X2 iX1_clearVariables_X4 iX1_clearVariables_X10 (Or.inr (by decide)) (by decide +kernel) dX1_clearVariables_12 ?_
  exact pw_vret (pc := 15) (S := (sI (sJ (sI S x0 3 (0 : Int32)) x0 2 (0 : Int64)) x0 1 (0 : Int32))) C hr h dX1_clearVariables_15

abbrev rmX1_hasVariable : Room := { frames := 1, cells := 0, slots := 0, locals := 20 }
theorem iX1_hasVariable_X0 : ∀ w ∈ u_ws RX0 TX0 4, w ∈ wsX1_hasVariable := by decide +kernel
theorem iX1_hasVariable_X10 : ∀ w ∈ u_ws RX10 TX10 8, w ∈ wsX1_hasVariable := fun _ h => List.mem_cons_of_mem _ (List.mem_append_right _ h)
theorem iX1_hasVariable_X2 : ∀ w ∈ u_ws RX2 TX2 7, w ∈ wsX1_hasVariable := by decide +kernel
theorem iX1_hasVariable_X4 : ∀ w ∈ u_ws RX4 TX4 5, w ∈ wsX1_hasVariable := by decide +kernel
def wpX1_hasVariable (S : PS) (x0 : Nat) (x1 : Int32) (Q : Int32 → PS → Prop) : Prop := ((x1 < 0 → (Q (0 : Int32) S)) ∧ (¬ x1 < 0 → (((7 : Int32) ≤ x1 → (Q (0 : Int32) S)) ∧ (¬ (7 : Int32) ≤ x1 → (pC4 S x0 ∧ (wpX5_allOf S x1 (fun r2 S3 => (((lg_cmp ((pJ S x0 2) &&& r2) (0 : Int64)) = 0 → (Q (0 : Int32) S3)) ∧ (¬ (lg_cmp ((pJ S x0 2) &&& r2) (0 : Int64)) = 0 → (Q (1 : Int32) S3))))))))))
set_option maxRecDepth 100000 in
set_option maxHeartbeats 4000000 in
theorem ctX1_hasVariable (l : Launch) (G : PG) (hZ : pZa G) (S : PS) (x0 : Nat) (x1 : Int32) (Q : Int32 → PS → Prop) (h : wpX1_hasVariable S x0 x1 Q) : mI l yX1_hasVariable wsX1_hasVariable rmX1_hasVariable G S [.ref (G.2.2 + x0), .int x1] Q := by
  unfold mI
  refine met_of (cc := cX1_hasVariable) (maxL := 2) (ret := (some .boolean)) (by decide) rfl (Nat.le_of_ble_eq_true rfl) ?_
  intro p e s m args below meth c C hr hin
  unfold wpX1_hasVariable at h
  show PW p l e _ s m args below meth c _ G 2 S 0 0 [(0, .ref (G.2.2 + x0)), (1, .int x1)] 0 []
  refine pw_iload_n (pc := 0) C 1 dX1_hasVariable_0 rfl rfl ?_
  refine pw_if_lt (pc := 1) (tgt := 28) C dX1_hasVariable_1 rfl ⟨fun hc => ?_, fun hc => ?_⟩
  · replace h := h.1 hc
    refine pw_iconst (pc := 28) (v := 0 ) C dX1_hasVariable_28 (by decide) ?_
    exact pw_zret (pc := 29) C hr rfl h dX1_hasVariable_29
  · replace h := h.2 hc
    refine pw_iload_n (pc := 4) C 1 dX1_hasVariable_4 rfl rfl ?_
    refine pw_bipush (pc := 5) (v := 7 ) C dX1_hasVariable_5 (by decide) ?_
    refine pw_icmp_ge (pc := 7) (tgt := 28) C dX1_hasVariable_7 rfl ⟨fun hc => ?_, fun hc => ?_⟩
    · replace h := h.1 hc
      refine pw_iconst (pc := 28) (v := 0 ) C dX1_hasVariable_28 (by decide) ?_
      exact pw_zret (pc := 29) C hr rfl h dX1_hasVariable_29
    · replace h := h.2 hc
      refine pw_aload_n (pc := 10) C 0 dX1_hasVariable_10 rfl rfl ?_
      obtain ⟨hk1, h⟩ := h
      refine pw_getCJ (pc := 11) (k := 2) (index := 15) C hk1 iX1_hasVariable_X0 iX1_hasVariable_X2 iX1_hasVariable_X4 iX1_hasVariable_X10 rfl (by decide +kernel) dX1_hasVariable_11 ?_
      refine pw_iload_n (pc := 14) C 1 dX1_hasVariable_14 rfl rfl ?_
      refine pw_calll (pc := 15) (kc2 := 0) (kn2 := 0) (pRunS (pc := 15) C (ctX5_allOf l G hZ  _ x1 _ h) (va_cwS 1 C.2.2.2.2.1 gX1_hasVariable_X5_allOf rfl rfl rfl (by decide +kernel) ⟨Nat.le_of_ble_eq_true rfl, Nat.le_of_ble_eq_true rfl⟩) rfl rfl (Nat.le_of_ble_eq_true rfl) dX1_hasVariable_15 ⟨Nat.le_of_ble_eq_true rfl, Nat.le_of_ble_eq_true rfl⟩) rfl rfl (fun r2 S3 h => ?_)
      refine pw_land (pc := 18) C dX1_hasVariable_18 ?_
      refine pw_lconst (pc := 19) (v := 0) C dX1_hasVariable_19 (by decide) ?_
      refine pw_lcmp (pc := 20) C dX1_hasVariable_20 ?_
      refine pw_if_eq (pc := 21) (tgt := 28) C dX1_hasVariable_21 rfl ⟨fun hc => ?_, fun hc => ?_⟩
      · replace h := h.1 hc
        refine pw_iconst (pc := 28) (v := 0 ) C dX1_hasVariable_28 (by decide) ?_
        exact pw_zret (pc := 29) C hr rfl h dX1_hasVariable_29
      · replace h := h.2 hc
        refine pw_iconst (pc := 24) (v := 1 ) C dX1_hasVariable_24 (by decide) ?_
        refine pw_goto (pc := 25) (tgt := 29) C dX1_hasVariable_25 rfl ?_
        exact pw_zret (pc := 29) C hr rfl h dX1_hasVariable_29

abbrev rmX1_verdictOn : Room := { frames := 0, cells := 0, slots := 0, locals := 0 }
def wpX1_verdictOn (S : PS) (x0 : Int32) (x1 : Int32) (x2 : Int32) (x3 : Int32) (Q : Int32 → PS → Prop) : Prop := ((x1 < x2 → (Q (0 : Int32) S)) ∧ (¬ x1 < x2 → ((x0 ≤ x3 → ((x0 < x2 → (Q (1 : Int32) S)) ∧ (¬ x0 < x2 → ((x3 < x1 → (Q (1 : Int32) S)) ∧ (¬ x3 < x1 → (Q (2 : Int32) S)))))) ∧ (¬ x0 ≤ x3 → (Q (0 : Int32) S)))))
set_option maxRecDepth 100000 in
set_option maxHeartbeats 4000000 in
theorem ctX1_verdictOn (l : Launch) (G : PG) (hZ : pZa G) (S : PS) (x0 : Int32) (x1 : Int32) (x2 : Int32) (x3 : Int32) (Q : Int32 → PS → Prop) (h : wpX1_verdictOn S x0 x1 x2 x3 Q) : mI l yX1_verdictOn wsX1_verdictOn rmX1_verdictOn G S [.int x0, .int x1, .int x2, .int x3] Q := by
  unfold mI
  refine met_of (cc := cX1_verdictOn) (maxL := 4) (ret := (some .int)) (by decide) rfl (Nat.le_of_ble_eq_true rfl) ?_
  intro p e s m args below meth c C hr hin
  unfold wpX1_verdictOn at h
  show PW p l e _ s m args below meth c _ G 4 S 0 0 [(0, .int x0), (1, .int x1), (2, .int x2), (3, .int x3)] 0 []
  refine pw_iload_n (pc := 0) C 1 dX1_verdictOn_0 rfl rfl ?_
  refine pw_iload_n (pc := 1) C 2 dX1_verdictOn_1 rfl rfl ?_
  refine pw_icmp_lt (pc := 2) (tgt := 10) C dX1_verdictOn_2 rfl ⟨fun hc => ?_, fun hc => ?_⟩
  · replace h := h.1 hc
    refine pw_iconst (pc := 10) (v := 0 ) C dX1_verdictOn_10 (by decide) ?_
    exact pw_iret (pc := 11) C hr h dX1_verdictOn_11
  · replace h := h.2 hc
    refine pw_iload_n (pc := 5) C 0 dX1_verdictOn_5 rfl rfl ?_
    refine pw_iload_n (pc := 6) C 3 dX1_verdictOn_6 rfl rfl ?_
    refine pw_icmp_le (pc := 7) (tgt := 12) C dX1_verdictOn_7 rfl ⟨fun hc => ?_, fun hc => ?_⟩
    · replace h := h.1 hc
      refine pw_iload_n (pc := 12) C 0 dX1_verdictOn_12 rfl rfl ?_
      refine pw_iload_n (pc := 13) C 2 dX1_verdictOn_13 rfl rfl ?_
      refine pw_icmp_lt (pc := 14) (tgt := 26) C dX1_verdictOn_14 rfl ⟨fun hc => ?_, fun hc => ?_⟩
      · replace h := h.1 hc
        refine pw_iconst (pc := 26) (v := 1 ) C dX1_verdictOn_26 (by decide) ?_
        exact pw_iret (pc := 27) C hr h dX1_verdictOn_27
      · replace h := h.2 hc
        refine pw_iload_n (pc := 17) C 1 dX1_verdictOn_17 rfl rfl ?_
        refine pw_iload_n (pc := 18) C 3 dX1_verdictOn_18 rfl rfl ?_
        refine pw_icmp_gt (pc := 19) (tgt := 26) C dX1_verdictOn_19 rfl ⟨fun hc => ?_, fun hc => ?_⟩
        · replace h := h.1 hc
          refine pw_iconst (pc := 26) (v := 1 ) C dX1_verdictOn_26 (by decide) ?_
          exact pw_iret (pc := 27) C hr h dX1_verdictOn_27
        · replace h := h.2 hc
          refine pw_iconst (pc := 22) (v := 2 ) C dX1_verdictOn_22 (by decide) ?_
          refine pw_goto (pc := 23) (tgt := 27) C dX1_verdictOn_23 rfl ?_
          exact pw_iret (pc := 27) C hr h dX1_verdictOn_27
    · replace h := h.2 hc
      refine pw_iconst (pc := 10) (v := 0 ) C dX1_verdictOn_10 (by decide) ?_
      exact pw_iret (pc := 11) C hr h dX1_verdictOn_11

abbrev rmJ13_bitCount_95d88 : Room := { frames := 0, cells := 0, slots := 0, locals := 0 }
def wpJ13_bitCount_95d88 (S : PS) (x0 : Int64) (Q : Int32 → PS → Prop) : Prop := (Q ((((((((((x0 - ((((x0).toUInt64 >>> (((1 : Int32)).toInt64.toUInt64 &&& Int64.toUInt64 63)).toInt64) &&& (6148914691236517205 : Int64))) &&& (3689348814741910323 : Int64)) + (((((x0 - ((((x0).toUInt64 >>> (((1 : Int32)).toInt64.toUInt64 &&& Int64.toUInt64 63)).toInt64) &&& (6148914691236517205 : Int64)))).toUInt64 >>> (((2 : Int32)).toInt64.toUInt64 &&& Int64.toUInt64 63)).toInt64) &&& (3689348814741910323 : Int64))) + ((((((x0 - ((((x0).toUInt64 >>> (((1 : Int32)).toInt64.toUInt64 &&& Int64.toUInt64 63)).toInt64) &&& (6148914691236517205 : Int64))) &&& (3689348814741910323 : Int64)) + (((((x0 - ((((x0).toUInt64 >>> (((1 : Int32)).toInt64.toUInt64 &&& Int64.toUInt64 63)).toInt64) &&& (6148914691236517205 : Int64)))).toUInt64 >>> (((2 : Int32)).toInt64.toUInt64 &&& Int64.toUInt64 63)).toInt64) &&& (3689348814741910323 : Int64)))).toUInt64 >>> (((4 : Int32)).toInt64.toUInt64 &&& Int64.toUInt64 63)).toInt64)) &&& (1085102592571150095 : Int64)) + ((((((((x0 - ((((x0).toUInt64 >>> (((1 : Int32)).toInt64.toUInt64 &&& Int64.toUInt64 63)).toInt64) &&& (6148914691236517205 : Int64))) &&& (3689348814741910323 : Int64)) + (((((x0 - ((((x0).toUInt64 >>> (((1 : Int32)).toInt64.toUInt64 &&& Int64.toUInt64 63)).toInt64) &&& (6148914691236517205 : Int64)))).toUInt64 >>> (((2 : Int32)).toInt64.toUInt64 &&& Int64.toUInt64 63)).toInt64) &&& (3689348814741910323 : Int64))) + ((((((x0 - ((((x0).toUInt64 >>> (((1 : Int32)).toInt64.toUInt64 &&& Int64.toUInt64 63)).toInt64) &&& (6148914691236517205 : Int64))) &&& (3689348814741910323 : Int64)) + (((((x0 - ((((x0).toUInt64 >>> (((1 : Int32)).toInt64.toUInt64 &&& Int64.toUInt64 63)).toInt64) &&& (6148914691236517205 : Int64)))).toUInt64 >>> (((2 : Int32)).toInt64.toUInt64 &&& Int64.toUInt64 63)).toInt64) &&& (3689348814741910323 : Int64)))).toUInt64 >>> (((4 : Int32)).toInt64.toUInt64 &&& Int64.toUInt64 63)).toInt64)) &&& (1085102592571150095 : Int64))).toUInt64 >>> (((8 : Int32)).toInt64.toUInt64 &&& Int64.toUInt64 63)).toInt64)) + (((((((((x0 - ((((x0).toUInt64 >>> (((1 : Int32)).toInt64.toUInt64 &&& Int64.toUInt64 63)).toInt64) &&& (6148914691236517205 : Int64))) &&& (3689348814741910323 : Int64)) + (((((x0 - ((((x0).toUInt64 >>> (((1 : Int32)).toInt64.toUInt64 &&& Int64.toUInt64 63)).toInt64) &&& (6148914691236517205 : Int64)))).toUInt64 >>> (((2 : Int32)).toInt64.toUInt64 &&& Int64.toUInt64 63)).toInt64) &&& (3689348814741910323 : Int64))) + ((((((x0 - ((((x0).toUInt64 >>> (((1 : Int32)).toInt64.toUInt64 &&& Int64.toUInt64 63)).toInt64) &&& (6148914691236517205 : Int64))) &&& (3689348814741910323 : Int64)) + (((((x0 - ((((x0).toUInt64 >>> (((1 : Int32)).toInt64.toUInt64 &&& Int64.toUInt64 63)).toInt64) &&& (6148914691236517205 : Int64)))).toUInt64 >>> (((2 : Int32)).toInt64.toUInt64 &&& Int64.toUInt64 63)).toInt64) &&& (3689348814741910323 : Int64)))).toUInt64 >>> (((4 : Int32)).toInt64.toUInt64 &&& Int64.toUInt64 63)).toInt64)) &&& (1085102592571150095 : Int64)) + ((((((((x0 - ((((x0).toUInt64 >>> (((1 : Int32)).toInt64.toUInt64 &&& Int64.toUInt64 63)).toInt64) &&& (6148914691236517205 : Int64))) &&& (3689348814741910323 : Int64)) + (((((x0 - ((((x0).toUInt64 >>> (((1 : Int32)).toInt64.toUInt64 &&& Int64.toUInt64 63)).toInt64) &&& (6148914691236517205 : Int64)))).toUInt64 >>> (((2 : Int32)).toInt64.toUInt64 &&& Int64.toUInt64 63)).toInt64) &&& (3689348814741910323 : Int64))) + ((((((x0 - ((((x0).toUInt64 >>> (((1 : Int32)).toInt64.toUInt64 &&& Int64.toUInt64 63)).toInt64) &&& (6148914691236517205 : Int64))) &&& (3689348814741910323 : Int64)) + (((((x0 - ((((x0).toUInt64 >>> (((1 : Int32)).toInt64.toUInt64 &&& Int64.toUInt64 63)).toInt64) &&& (6148914691236517205 : Int64)))).toUInt64 >>> (((2 : Int32)).toInt64.toUInt64 &&& Int64.toUInt64 63)).toInt64) &&& (3689348814741910323 : Int64)))).toUInt64 >>> (((4 : Int32)).toInt64.toUInt64 &&& Int64.toUInt64 63)).toInt64)) &&& (1085102592571150095 : Int64))).toUInt64 >>> (((8 : Int32)).toInt64.toUInt64 &&& Int64.toUInt64 63)).toInt64))).toUInt64 >>> (((16 : Int32)).toInt64.toUInt64 &&& Int64.toUInt64 63)).toInt64)) + ((((((((((x0 - ((((x0).toUInt64 >>> (((1 : Int32)).toInt64.toUInt64 &&& Int64.toUInt64 63)).toInt64) &&& (6148914691236517205 : Int64))) &&& (3689348814741910323 : Int64)) + (((((x0 - ((((x0).toUInt64 >>> (((1 : Int32)).toInt64.toUInt64 &&& Int64.toUInt64 63)).toInt64) &&& (6148914691236517205 : Int64)))).toUInt64 >>> (((2 : Int32)).toInt64.toUInt64 &&& Int64.toUInt64 63)).toInt64) &&& (3689348814741910323 : Int64))) + ((((((x0 - ((((x0).toUInt64 >>> (((1 : Int32)).toInt64.toUInt64 &&& Int64.toUInt64 63)).toInt64) &&& (6148914691236517205 : Int64))) &&& (3689348814741910323 : Int64)) + (((((x0 - ((((x0).toUInt64 >>> (((1 : Int32)).toInt64.toUInt64 &&& Int64.toUInt64 63)).toInt64) &&& (6148914691236517205 : Int64)))).toUInt64 >>> (((2 : Int32)).toInt64.toUInt64 &&& Int64.toUInt64 63)).toInt64) &&& (3689348814741910323 : Int64)))).toUInt64 >>> (((4 : Int32)).toInt64.toUInt64 &&& Int64.toUInt64 63)).toInt64)) &&& (1085102592571150095 : Int64)) + ((((((((x0 - ((((x0).toUInt64 >>> (((1 : Int32)).toInt64.toUInt64 &&& Int64.toUInt64 63)).toInt64) &&& (6148914691236517205 : Int64))) &&& (3689348814741910323 : Int64)) + (((((x0 - ((((x0).toUInt64 >>> (((1 : Int32)).toInt64.toUInt64 &&& Int64.toUInt64 63)).toInt64) &&& (6148914691236517205 : Int64)))).toUInt64 >>> (((2 : Int32)).toInt64.toUInt64 &&& Int64.toUInt64 63)).toInt64) &&& (3689348814741910323 : Int64))) + ((((((x0 - ((((x0).toUInt64 >>> (((1 : Int32)).toInt64.toUInt64 &&& Int64.toUInt64 63)).toInt64) &&& (6148914691236517205 : Int64))) &&& (3689348814741910323 : Int64)) + (((((x0 - ((((x0).toUInt64 >>> (((1 : Int32)).toInt64.toUInt64 &&& Int64.toUInt64 63)).toInt64) &&& (6148914691236517205 : Int64)))).toUInt64 >>> (((2 : Int32)).toInt64.toUInt64 &&& Int64.toUInt64 63)).toInt64) &&& (3689348814741910323 : Int64)))).toUInt64 >>> (((4 : Int32)).toInt64.toUInt64 &&& Int64.toUInt64 63)).toInt64)) &&& (1085102592571150095 : Int64))).toUInt64 >>> (((8 : Int32)).toInt64.toUInt64 &&& Int64.toUInt64 63)).toInt64)) + (((((((((x0 - ((((x0).toUInt64 >>> (((1 : Int32)).toInt64.toUInt64 &&& Int64.toUInt64 63)).toInt64) &&& (6148914691236517205 : Int64))) &&& (3689348814741910323 : Int64)) + (((((x0 - ((((x0).toUInt64 >>> (((1 : Int32)).toInt64.toUInt64 &&& Int64.toUInt64 63)).toInt64) &&& (6148914691236517205 : Int64)))).toUInt64 >>> (((2 : Int32)).toInt64.toUInt64 &&& Int64.toUInt64 63)).toInt64) &&& (3689348814741910323 : Int64))) + ((((((x0 - ((((x0).toUInt64 >>> (((1 : Int32)).toInt64.toUInt64 &&& Int64.toUInt64 63)).toInt64) &&& (6148914691236517205 : Int64))) &&& (3689348814741910323 : Int64)) + (((((x0 - ((((x0).toUInt64 >>> (((1 : Int32)).toInt64.toUInt64 &&& Int64.toUInt64 63)).toInt64) &&& (6148914691236517205 : Int64)))).toUInt64 >>> (((2 : Int32)).toInt64.toUInt64 &&& Int64.toUInt64 63)).toInt64) &&& (3689348814741910323 : Int64)))).toUInt64 >>> (((4 : Int32)).toInt64.toUInt64 &&& Int64.toUInt64 63)).toInt64)) &&& (1085102592571150095 : Int64)) + ((((((((x0 - ((((x0).toUInt64 >>> (((1 : Int32)).toInt64.toUInt64 &&& Int64.toUInt64 63)).toInt64) &&& (6148914691236517205 : Int64))) &&& (3689348814741910323 : Int64)) + (((((x0 - ((((x0).toUInt64 >>> (((1 : Int32)).toInt64.toUInt64 &&& Int64.toUInt64 63)).toInt64) &&& (6148914691236517205 : Int64)))).toUInt64 >>> (((2 : Int32)).toInt64.toUInt64 &&& Int64.toUInt64 63)).toInt64) &&& (3689348814741910323 : Int64))) + ((((((x0 - ((((x0).toUInt64 >>> (((1 : Int32)).toInt64.toUInt64 &&& Int64.toUInt64 63)).toInt64) &&& (6148914691236517205 : Int64))) &&& (3689348814741910323 : Int64)) + (((((x0 - ((((x0).toUInt64 >>> (((1 : Int32)).toInt64.toUInt64 &&& Int64.toUInt64 63)).toInt64) &&& (6148914691236517205 : Int64)))).toUInt64 >>> (((2 : Int32)).toInt64.toUInt64 &&& Int64.toUInt64 63)).toInt64) &&& (3689348814741910323 : Int64)))).toUInt64 >>> (((4 : Int32)).toInt64.toUInt64 &&& Int64.toUInt64 63)).toInt64)) &&& (1085102592571150095 : Int64))).toUInt64 >>> (((8 : Int32)).toInt64.toUInt64 &&& Int64.toUInt64 63)).toInt64))).toUInt64 >>> (((16 : Int32)).toInt64.toUInt64 &&& Int64.toUInt64 63)).toInt64))).toUInt64 >>> (((32 : Int32)).toInt64.toUInt64 &&& Int64.toUInt64 63)).toInt64)).toInt32) &&& (127 : Int32)) S)
set_option maxRecDepth 100000 in
set_option maxHeartbeats 4000000 in
theorem ctJ13_bitCount_95d88 (l : Launch) (G : PG) (S : PS) (x0 : Int64) (Q : Int32 → PS → Prop) (h : wpJ13_bitCount_95d88 S x0 Q) : mI l yJ13_bitCount_95d88 wsJ13_bitCount_95d88 rmJ13_bitCount_95d88 G S [.long x0] Q := by
  unfold mI
  refine met_of (cc := cJ13_bitCount_95d88) (maxL := 2) (ret := (some .int)) (by decide) rfl (Nat.le_of_ble_eq_true rfl) ?_
  intro p e s m args below meth c C hr hin
  unfold wpJ13_bitCount_95d88 at h
  show PW p l e _ s m args below meth c _ G 2 S 0 0 [(0, .long x0)] 0 []
  refine pw_lload_n (pc := 0) C 0 dJ13_bitCount_95d88_0 rfl rfl ?_
  refine pw_lload_n (pc := 1) C 0 dJ13_bitCount_95d88_1 rfl rfl ?_
  refine pw_iconst (pc := 2) (v := 1 ) C dJ13_bitCount_95d88_2 (by decide) ?_
  refine pw_lushr (pc := 3) C dJ13_bitCount_95d88_3 ?_
  refine pw_ldc2 (pc := 4) (v := 6148914691236517205) C (by decide +kernel) dJ13_bitCount_95d88_4 ?_
  refine pw_land (pc := 7) C dJ13_bitCount_95d88_7 ?_
  refine pw_lsub (pc := 8) C dJ13_bitCount_95d88_8 ?_
  refine pw_lstore_n (pc := 9) C [(0, .long (x0 - ((((x0).toUInt64 >>> (((1 : Int32)).toInt64.toUInt64 &&& Int64.toUInt64 63)).toInt64) &&& (6148914691236517205 : Int64))))] dJ13_bitCount_95d88_9 rfl (by decide) rfl ?_
  refine pw_lload_n (pc := 10) C 0 dJ13_bitCount_95d88_10 rfl rfl ?_
  refine pw_ldc2 (pc := 11) (v := 3689348814741910323) C (by decide +kernel) dJ13_bitCount_95d88_11 ?_
  refine pw_land (pc := 14) C dJ13_bitCount_95d88_14 ?_
  refine pw_lload_n (pc := 15) C 0 dJ13_bitCount_95d88_15 rfl rfl ?_
  refine pw_iconst (pc := 16) (v := 2 ) C dJ13_bitCount_95d88_16 (by decide) ?_
  refine pw_lushr (pc := 17) C dJ13_bitCount_95d88_17 ?_
  refine pw_ldc2 (pc := 18) (v := 3689348814741910323) C (by decide +kernel) dJ13_bitCount_95d88_18 ?_
  refine pw_land (pc := 21) C dJ13_bitCount_95d88_21 ?_
  refine pw_ladd (pc := 22) C dJ13_bitCount_95d88_22 ?_
  refine pw_lstore_n (pc := 23) C [(0, .long (((x0 - ((((x0).toUInt64 >>> (((1 : Int32)).toInt64.toUInt64 &&& Int64.toUInt64 63)).toInt64) &&& (6148914691236517205 : Int64))) &&& (3689348814741910323 : Int64)) + (((((x0 - ((((x0).toUInt64 >>> (((1 : Int32)).toInt64.toUInt64 &&& Int64.toUInt64 63)).toInt64) &&& (6148914691236517205 : Int64)))).toUInt64 >>> (((2 : Int32)).toInt64.toUInt64 &&& Int64.toUInt64 63)).toInt64) &&& (3689348814741910323 : Int64))))] dJ13_bitCount_95d88_23 rfl (by decide) rfl ?_
  refine pw_lload_n (pc := 24) C 0 dJ13_bitCount_95d88_24 rfl rfl ?_
  refine pw_lload_n (pc := 25) C 0 dJ13_bitCount_95d88_25 rfl rfl ?_
  refine pw_iconst (pc := 26) (v := 4 ) C dJ13_bitCount_95d88_26 (by decide) ?_
  refine pw_lushr (pc := 27) C dJ13_bitCount_95d88_27 ?_
  refine pw_ladd (pc := 28) C dJ13_bitCount_95d88_28 ?_
  refine pw_ldc2 (pc := 29) (v := 1085102592571150095) C (by decide +kernel) dJ13_bitCount_95d88_29 ?_
  refine pw_land (pc := 32) C dJ13_bitCount_95d88_32 ?_
  refine pw_lstore_n (pc := 33) C [(0, .long (((((x0 - ((((x0).toUInt64 >>> (((1 : Int32)).toInt64.toUInt64 &&& Int64.toUInt64 63)).toInt64) &&& (6148914691236517205 : Int64))) &&& (3689348814741910323 : Int64)) + (((((x0 - ((((x0).toUInt64 >>> (((1 : Int32)).toInt64.toUInt64 &&& Int64.toUInt64 63)).toInt64) &&& (6148914691236517205 : Int64)))).toUInt64 >>> (((2 : Int32)).toInt64.toUInt64 &&& Int64.toUInt64 63)).toInt64) &&& (3689348814741910323 : Int64))) + ((((((x0 - ((((x0).toUInt64 >>> (((1 : Int32)).toInt64.toUInt64 &&& Int64.toUInt64 63)).toInt64) &&& (6148914691236517205 : Int64))) &&& (3689348814741910323 : Int64)) + (((((x0 - ((((x0).toUInt64 >>> (((1 : Int32)).toInt64.toUInt64 &&& Int64.toUInt64 63)).toInt64) &&& (6148914691236517205 : Int64)))).toUInt64 >>> (((2 : Int32)).toInt64.toUInt64 &&& Int64.toUInt64 63)).toInt64) &&& (3689348814741910323 : Int64)))).toUInt64 >>> (((4 : Int32)).toInt64.toUInt64 &&& Int64.toUInt64 63)).toInt64)) &&& (1085102592571150095 : Int64)))] dJ13_bitCount_95d88_33 rfl (by decide) rfl ?_
  refine pw_lload_n (pc := 34) C 0 dJ13_bitCount_95d88_34 rfl rfl ?_
  refine pw_lload_n (pc := 35) C 0 dJ13_bitCount_95d88_35 rfl rfl ?_
  refine pw_bipush (pc := 36) (v := 8 ) C dJ13_bitCount_95d88_36 (by decide) ?_
  refine pw_lushr (pc := 38) C dJ13_bitCount_95d88_38 ?_
  refine pw_ladd (pc := 39) C dJ13_bitCount_95d88_39 ?_
  refine pw_lstore_n (pc := 40) C [(0, .long ((((((x0 - ((((x0).toUInt64 >>> (((1 : Int32)).toInt64.toUInt64 &&& Int64.toUInt64 63)).toInt64) &&& (6148914691236517205 : Int64))) &&& (3689348814741910323 : Int64)) + (((((x0 - ((((x0).toUInt64 >>> (((1 : Int32)).toInt64.toUInt64 &&& Int64.toUInt64 63)).toInt64) &&& (6148914691236517205 : Int64)))).toUInt64 >>> (((2 : Int32)).toInt64.toUInt64 &&& Int64.toUInt64 63)).toInt64) &&& (3689348814741910323 : Int64))) + ((((((x0 - ((((x0).toUInt64 >>> (((1 : Int32)).toInt64.toUInt64 &&& Int64.toUInt64 63)).toInt64) &&& (6148914691236517205 : Int64))) &&& (3689348814741910323 : Int64)) + (((((x0 - ((((x0).toUInt64 >>> (((1 : Int32)).toInt64.toUInt64 &&& Int64.toUInt64 63)).toInt64) &&& (6148914691236517205 : Int64)))).toUInt64 >>> (((2 : Int32)).toInt64.toUInt64 &&& Int64.toUInt64 63)).toInt64) &&& (3689348814741910323 : Int64)))).toUInt64 >>> (((4 : Int32)).toInt64.toUInt64 &&& Int64.toUInt64 63)).toInt64)) &&& (1085102592571150095 : Int64)) + ((((((((x0 - ((((x0).toUInt64 >>> (((1 : Int32)).toInt64.toUInt64 &&& Int64.toUInt64 63)).toInt64) &&& (6148914691236517205 : Int64))) &&& (3689348814741910323 : Int64)) + (((((x0 - ((((x0).toUInt64 >>> (((1 : Int32)).toInt64.toUInt64 &&& Int64.toUInt64 63)).toInt64) &&& (6148914691236517205 : Int64)))).toUInt64 >>> (((2 : Int32)).toInt64.toUInt64 &&& Int64.toUInt64 63)).toInt64) &&& (3689348814741910323 : Int64))) + ((((((x0 - ((((x0).toUInt64 >>> (((1 : Int32)).toInt64.toUInt64 &&& Int64.toUInt64 63)).toInt64) &&& (6148914691236517205 : Int64))) &&& (3689348814741910323 : Int64)) + (((((x0 - ((((x0).toUInt64 >>> (((1 : Int32)).toInt64.toUInt64 &&& Int64.toUInt64 63)).toInt64) &&& (6148914691236517205 : Int64)))).toUInt64 >>> (((2 : Int32)).toInt64.toUInt64 &&& Int64.toUInt64 63)).toInt64) &&& (3689348814741910323 : Int64)))).toUInt64 >>> (((4 : Int32)).toInt64.toUInt64 &&& Int64.toUInt64 63)).toInt64)) &&& (1085102592571150095 : Int64))).toUInt64 >>> (((8 : Int32)).toInt64.toUInt64 &&& Int64.toUInt64 63)).toInt64)))] dJ13_bitCount_95d88_40 rfl (by decide) rfl ?_
  refine pw_lload_n (pc := 41) C 0 dJ13_bitCount_95d88_41 rfl rfl ?_
  refine pw_lload_n (pc := 42) C 0 dJ13_bitCount_95d88_42 rfl rfl ?_
  refine pw_bipush (pc := 43) (v := 16 ) C dJ13_bitCount_95d88_43 (by decide) ?_
  refine pw_lushr (pc := 45) C dJ13_bitCount_95d88_45 ?_
  refine pw_ladd (pc := 46) C dJ13_bitCount_95d88_46 ?_
  refine pw_lstore_n (pc := 47) C [(0, .long (((((((x0 - ((((x0).toUInt64 >>> (((1 : Int32)).toInt64.toUInt64 &&& Int64.toUInt64 63)).toInt64) &&& (6148914691236517205 : Int64))) &&& (3689348814741910323 : Int64)) + (((((x0 - ((((x0).toUInt64 >>> (((1 : Int32)).toInt64.toUInt64 &&& Int64.toUInt64 63)).toInt64) &&& (6148914691236517205 : Int64)))).toUInt64 >>> (((2 : Int32)).toInt64.toUInt64 &&& Int64.toUInt64 63)).toInt64) &&& (3689348814741910323 : Int64))) + ((((((x0 - ((((x0).toUInt64 >>> (((1 : Int32)).toInt64.toUInt64 &&& Int64.toUInt64 63)).toInt64) &&& (6148914691236517205 : Int64))) &&& (3689348814741910323 : Int64)) + (((((x0 - ((((x0).toUInt64 >>> (((1 : Int32)).toInt64.toUInt64 &&& Int64.toUInt64 63)).toInt64) &&& (6148914691236517205 : Int64)))).toUInt64 >>> (((2 : Int32)).toInt64.toUInt64 &&& Int64.toUInt64 63)).toInt64) &&& (3689348814741910323 : Int64)))).toUInt64 >>> (((4 : Int32)).toInt64.toUInt64 &&& Int64.toUInt64 63)).toInt64)) &&& (1085102592571150095 : Int64)) + ((((((((x0 - ((((x0).toUInt64 >>> (((1 : Int32)).toInt64.toUInt64 &&& Int64.toUInt64 63)).toInt64) &&& (6148914691236517205 : Int64))) &&& (3689348814741910323 : Int64)) + (((((x0 - ((((x0).toUInt64 >>> (((1 : Int32)).toInt64.toUInt64 &&& Int64.toUInt64 63)).toInt64) &&& (6148914691236517205 : Int64)))).toUInt64 >>> (((2 : Int32)).toInt64.toUInt64 &&& Int64.toUInt64 63)).toInt64) &&& (3689348814741910323 : Int64))) + ((((((x0 - ((((x0).toUInt64 >>> (((1 : Int32)).toInt64.toUInt64 &&& Int64.toUInt64 63)).toInt64) &&& (6148914691236517205 : Int64))) &&& (3689348814741910323 : Int64)) + (((((x0 - ((((x0).toUInt64 >>> (((1 : Int32)).toInt64.toUInt64 &&& Int64.toUInt64 63)).toInt64) &&& (6148914691236517205 : Int64)))).toUInt64 >>> (((2 : Int32)).toInt64.toUInt64 &&& Int64.toUInt64 63)).toInt64) &&& (3689348814741910323 : Int64)))).toUInt64 >>> (((4 : Int32)).toInt64.toUInt64 &&& Int64.toUInt64 63)).toInt64)) &&& (1085102592571150095 : Int64))).toUInt64 >>> (((8 : Int32)).toInt64.toUInt64 &&& Int64.toUInt64 63)).toInt64)) + (((((((((x0 - ((((x0).toUInt64 >>> (((1 : Int32)).toInt64.toUInt64 &&& Int64.toUInt64 63)).toInt64) &&& (6148914691236517205 : Int64))) &&& (3689348814741910323 : Int64)) + (((((x0 - ((((x0).toUInt64 >>> (((1 : Int32)).toInt64.toUInt64 &&& Int64.toUInt64 63)).toInt64) &&& (6148914691236517205 : Int64)))).toUInt64 >>> (((2 : Int32)).toInt64.toUInt64 &&& Int64.toUInt64 63)).toInt64) &&& (3689348814741910323 : Int64))) + ((((((x0 - ((((x0).toUInt64 >>> (((1 : Int32)).toInt64.toUInt64 &&& Int64.toUInt64 63)).toInt64) &&& (6148914691236517205 : Int64))) &&& (3689348814741910323 : Int64)) + (((((x0 - ((((x0).toUInt64 >>> (((1 : Int32)).toInt64.toUInt64 &&& Int64.toUInt64 63)).toInt64) &&& (6148914691236517205 : Int64)))).toUInt64 >>> (((2 : Int32)).toInt64.toUInt64 &&& Int64.toUInt64 63)).toInt64) &&& (3689348814741910323 : Int64)))).toUInt64 >>> (((4 : Int32)).toInt64.toUInt64 &&& Int64.toUInt64 63)).toInt64)) &&& (1085102592571150095 : Int64)) + ((((((((x0 - ((((x0).toUInt64 >>> (((1 : Int32)).toInt64.toUInt64 &&& Int64.toUInt64 63)).toInt64) &&& (6148914691236517205 : Int64))) &&& (3689348814741910323 : Int64)) + (((((x0 - ((((x0).toUInt64 >>> (((1 : Int32)).toInt64.toUInt64 &&& Int64.toUInt64 63)).toInt64) &&& (6148914691236517205 : Int64)))).toUInt64 >>> (((2 : Int32)).toInt64.toUInt64 &&& Int64.toUInt64 63)).toInt64) &&& (3689348814741910323 : Int64))) + ((((((x0 - ((((x0).toUInt64 >>> (((1 : Int32)).toInt64.toUInt64 &&& Int64.toUInt64 63)).toInt64) &&& (6148914691236517205 : Int64))) &&& (3689348814741910323 : Int64)) + (((((x0 - ((((x0).toUInt64 >>> (((1 : Int32)).toInt64.toUInt64 &&& Int64.toUInt64 63)).toInt64) &&& (6148914691236517205 : Int64)))).toUInt64 >>> (((2 : Int32)).toInt64.toUInt64 &&& Int64.toUInt64 63)).toInt64) &&& (3689348814741910323 : Int64)))).toUInt64 >>> (((4 : Int32)).toInt64.toUInt64 &&& Int64.toUInt64 63)).toInt64)) &&& (1085102592571150095 : Int64))).toUInt64 >>> (((8 : Int32)).toInt64.toUInt64 &&& Int64.toUInt64 63)).toInt64))).toUInt64 >>> (((16 : Int32)).toInt64.toUInt64 &&& Int64.toUInt64 63)).toInt64)))] dJ13_bitCount_95d88_47 rfl (by decide) rfl ?_
  refine pw_lload_n (pc := 48) C 0 dJ13_bitCount_95d88_48 rfl rfl ?_
  refine pw_lload_n (pc := 49) C 0 dJ13_bitCount_95d88_49 rfl rfl ?_
  refine pw_bipush (pc := 50) (v := 32 ) C dJ13_bitCount_95d88_50 (by decide) ?_
  refine pw_lushr (pc := 52) C dJ13_bitCount_95d88_52 ?_
  refine pw_ladd (pc := 53) C dJ13_bitCount_95d88_53 ?_
  refine pw_lstore_n (pc := 54) C [(0, .long ((((((((x0 - ((((x0).toUInt64 >>> (((1 : Int32)).toInt64.toUInt64 &&& Int64.toUInt64 63)).toInt64) &&& (6148914691236517205 : Int64))) &&& (3689348814741910323 : Int64)) + (((((x0 - ((((x0).toUInt64 >>> (((1 : Int32)).toInt64.toUInt64 &&& Int64.toUInt64 63)).toInt64) &&& (6148914691236517205 : Int64)))).toUInt64 >>> (((2 : Int32)).toInt64.toUInt64 &&& Int64.toUInt64 63)).toInt64) &&& (3689348814741910323 : Int64))) + ((((((x0 - ((((x0).toUInt64 >>> (((1 : Int32)).toInt64.toUInt64 &&& Int64.toUInt64 63)).toInt64) &&& (6148914691236517205 : Int64))) &&& (3689348814741910323 : Int64)) + (((((x0 - ((((x0).toUInt64 >>> (((1 : Int32)).toInt64.toUInt64 &&& Int64.toUInt64 63)).toInt64) &&& (6148914691236517205 : Int64)))).toUInt64 >>> (((2 : Int32)).toInt64.toUInt64 &&& Int64.toUInt64 63)).toInt64) &&& (3689348814741910323 : Int64)))).toUInt64 >>> (((4 : Int32)).toInt64.toUInt64 &&& Int64.toUInt64 63)).toInt64)) &&& (1085102592571150095 : Int64)) + ((((((((x0 - ((((x0).toUInt64 >>> (((1 : Int32)).toInt64.toUInt64 &&& Int64.toUInt64 63)).toInt64) &&& (6148914691236517205 : Int64))) &&& (3689348814741910323 : Int64)) + (((((x0 - ((((x0).toUInt64 >>> (((1 : Int32)).toInt64.toUInt64 &&& Int64.toUInt64 63)).toInt64) &&& (6148914691236517205 : Int64)))).toUInt64 >>> (((2 : Int32)).toInt64.toUInt64 &&& Int64.toUInt64 63)).toInt64) &&& (3689348814741910323 : Int64))) + ((((((x0 - ((((x0).toUInt64 >>> (((1 : Int32)).toInt64.toUInt64 &&& Int64.toUInt64 63)).toInt64) &&& (6148914691236517205 : Int64))) &&& (3689348814741910323 : Int64)) + (((((x0 - ((((x0).toUInt64 >>> (((1 : Int32)).toInt64.toUInt64 &&& Int64.toUInt64 63)).toInt64) &&& (6148914691236517205 : Int64)))).toUInt64 >>> (((2 : Int32)).toInt64.toUInt64 &&& Int64.toUInt64 63)).toInt64) &&& (3689348814741910323 : Int64)))).toUInt64 >>> (((4 : Int32)).toInt64.toUInt64 &&& Int64.toUInt64 63)).toInt64)) &&& (1085102592571150095 : Int64))).toUInt64 >>> (((8 : Int32)).toInt64.toUInt64 &&& Int64.toUInt64 63)).toInt64)) + (((((((((x0 - ((((x0).toUInt64 >>> (((1 : Int32)).toInt64.toUInt64 &&& Int64.toUInt64 63)).toInt64) &&& (6148914691236517205 : Int64))) &&& (3689348814741910323 : Int64)) + (((((x0 - ((((x0).toUInt64 >>> (((1 : Int32)).toInt64.toUInt64 &&& Int64.toUInt64 63)).toInt64) &&& (6148914691236517205 : Int64)))).toUInt64 >>> (((2 : Int32)).toInt64.toUInt64 &&& Int64.toUInt64 63)).toInt64) &&& (3689348814741910323 : Int64))) + ((((((x0 - ((((x0).toUInt64 >>> (((1 : Int32)).toInt64.toUInt64 &&& Int64.toUInt64 63)).toInt64) &&& (6148914691236517205 : Int64))) &&& (3689348814741910323 : Int64)) + (((((x0 - ((((x0).toUInt64 >>> (((1 : Int32)).toInt64.toUInt64 &&& Int64.toUInt64 63)).toInt64) &&& (6148914691236517205 : Int64)))).toUInt64 >>> (((2 : Int32)).toInt64.toUInt64 &&& Int64.toUInt64 63)).toInt64) &&& (3689348814741910323 : Int64)))).toUInt64 >>> (((4 : Int32)).toInt64.toUInt64 &&& Int64.toUInt64 63)).toInt64)) &&& (1085102592571150095 : Int64)) + ((((((((x0 - ((((x0).toUInt64 >>> (((1 : Int32)).toInt64.toUInt64 &&& Int64.toUInt64 63)).toInt64) &&& (6148914691236517205 : Int64))) &&& (3689348814741910323 : Int64)) + (((((x0 - ((((x0).toUInt64 >>> (((1 : Int32)).toInt64.toUInt64 &&& Int64.toUInt64 63)).toInt64) &&& (6148914691236517205 : Int64)))).toUInt64 >>> (((2 : Int32)).toInt64.toUInt64 &&& Int64.toUInt64 63)).toInt64) &&& (3689348814741910323 : Int64))) + ((((((x0 - ((((x0).toUInt64 >>> (((1 : Int32)).toInt64.toUInt64 &&& Int64.toUInt64 63)).toInt64) &&& (6148914691236517205 : Int64))) &&& (3689348814741910323 : Int64)) + (((((x0 - ((((x0).toUInt64 >>> (((1 : Int32)).toInt64.toUInt64 &&& Int64.toUInt64 63)).toInt64) &&& (6148914691236517205 : Int64)))).toUInt64 >>> (((2 : Int32)).toInt64.toUInt64 &&& Int64.toUInt64 63)).toInt64) &&& (3689348814741910323 : Int64)))).toUInt64 >>> (((4 : Int32)).toInt64.toUInt64 &&& Int64.toUInt64 63)).toInt64)) &&& (1085102592571150095 : Int64))).toUInt64 >>> (((8 : Int32)).toInt64.toUInt64 &&& Int64.toUInt64 63)).toInt64))).toUInt64 >>> (((16 : Int32)).toInt64.toUInt64 &&& Int64.toUInt64 63)).toInt64)) + ((((((((((x0 - ((((x0).toUInt64 >>> (((1 : Int32)).toInt64.toUInt64 &&& Int64.toUInt64 63)).toInt64) &&& (6148914691236517205 : Int64))) &&& (3689348814741910323 : Int64)) + (((((x0 - ((((x0).toUInt64 >>> (((1 : Int32)).toInt64.toUInt64 &&& Int64.toUInt64 63)).toInt64) &&& (6148914691236517205 : Int64)))).toUInt64 >>> (((2 : Int32)).toInt64.toUInt64 &&& Int64.toUInt64 63)).toInt64) &&& (3689348814741910323 : Int64))) + ((((((x0 - ((((x0).toUInt64 >>> (((1 : Int32)).toInt64.toUInt64 &&& Int64.toUInt64 63)).toInt64) &&& (6148914691236517205 : Int64))) &&& (3689348814741910323 : Int64)) + (((((x0 - ((((x0).toUInt64 >>> (((1 : Int32)).toInt64.toUInt64 &&& Int64.toUInt64 63)).toInt64) &&& (6148914691236517205 : Int64)))).toUInt64 >>> (((2 : Int32)).toInt64.toUInt64 &&& Int64.toUInt64 63)).toInt64) &&& (3689348814741910323 : Int64)))).toUInt64 >>> (((4 : Int32)).toInt64.toUInt64 &&& Int64.toUInt64 63)).toInt64)) &&& (1085102592571150095 : Int64)) + ((((((((x0 - ((((x0).toUInt64 >>> (((1 : Int32)).toInt64.toUInt64 &&& Int64.toUInt64 63)).toInt64) &&& (6148914691236517205 : Int64))) &&& (3689348814741910323 : Int64)) + (((((x0 - ((((x0).toUInt64 >>> (((1 : Int32)).toInt64.toUInt64 &&& Int64.toUInt64 63)).toInt64) &&& (6148914691236517205 : Int64)))).toUInt64 >>> (((2 : Int32)).toInt64.toUInt64 &&& Int64.toUInt64 63)).toInt64) &&& (3689348814741910323 : Int64))) + ((((((x0 - ((((x0).toUInt64 >>> (((1 : Int32)).toInt64.toUInt64 &&& Int64.toUInt64 63)).toInt64) &&& (6148914691236517205 : Int64))) &&& (3689348814741910323 : Int64)) + (((((x0 - ((((x0).toUInt64 >>> (((1 : Int32)).toInt64.toUInt64 &&& Int64.toUInt64 63)).toInt64) &&& (6148914691236517205 : Int64)))).toUInt64 >>> (((2 : Int32)).toInt64.toUInt64 &&& Int64.toUInt64 63)).toInt64) &&& (3689348814741910323 : Int64)))).toUInt64 >>> (((4 : Int32)).toInt64.toUInt64 &&& Int64.toUInt64 63)).toInt64)) &&& (1085102592571150095 : Int64))).toUInt64 >>> (((8 : Int32)).toInt64.toUInt64 &&& Int64.toUInt64 63)).toInt64)) + (((((((((x0 - ((((x0).toUInt64 >>> (((1 : Int32)).toInt64.toUInt64 &&& Int64.toUInt64 63)).toInt64) &&& (6148914691236517205 : Int64))) &&& (3689348814741910323 : Int64)) + (((((x0 - ((((x0).toUInt64 >>> (((1 : Int32)).toInt64.toUInt64 &&& Int64.toUInt64 63)).toInt64) &&& (6148914691236517205 : Int64)))).toUInt64 >>> (((2 : Int32)).toInt64.toUInt64 &&& Int64.toUInt64 63)).toInt64) &&& (3689348814741910323 : Int64))) + ((((((x0 - ((((x0).toUInt64 >>> (((1 : Int32)).toInt64.toUInt64 &&& Int64.toUInt64 63)).toInt64) &&& (6148914691236517205 : Int64))) &&& (3689348814741910323 : Int64)) + (((((x0 - ((((x0).toUInt64 >>> (((1 : Int32)).toInt64.toUInt64 &&& Int64.toUInt64 63)).toInt64) &&& (6148914691236517205 : Int64)))).toUInt64 >>> (((2 : Int32)).toInt64.toUInt64 &&& Int64.toUInt64 63)).toInt64) &&& (3689348814741910323 : Int64)))).toUInt64 >>> (((4 : Int32)).toInt64.toUInt64 &&& Int64.toUInt64 63)).toInt64)) &&& (1085102592571150095 : Int64)) + ((((((((x0 - ((((x0).toUInt64 >>> (((1 : Int32)).toInt64.toUInt64 &&& Int64.toUInt64 63)).toInt64) &&& (6148914691236517205 : Int64))) &&& (3689348814741910323 : Int64)) + (((((x0 - ((((x0).toUInt64 >>> (((1 : Int32)).toInt64.toUInt64 &&& Int64.toUInt64 63)).toInt64) &&& (6148914691236517205 : Int64)))).toUInt64 >>> (((2 : Int32)).toInt64.toUInt64 &&& Int64.toUInt64 63)).toInt64) &&& (3689348814741910323 : Int64))) + ((((((x0 - ((((x0).toUInt64 >>> (((1 : Int32)).toInt64.toUInt64 &&& Int64.toUInt64 63)).toInt64) &&& (6148914691236517205 : Int64))) &&& (3689348814741910323 : Int64)) + (((((x0 - ((((x0).toUInt64 >>> (((1 : Int32)).toInt64.toUInt64 &&& Int64.toUInt64 63)).toInt64) &&& (6148914691236517205 : Int64)))).toUInt64 >>> (((2 : Int32)).toInt64.toUInt64 &&& Int64.toUInt64 63)).toInt64) &&& (3689348814741910323 : Int64)))).toUInt64 >>> (((4 : Int32)).toInt64.toUInt64 &&& Int64.toUInt64 63)).toInt64)) &&& (1085102592571150095 : Int64))).toUInt64 >>> (((8 : Int32)).toInt64.toUInt64 &&& Int64.toUInt64 63)).toInt64))).toUInt64 >>> (((16 : Int32)).toInt64.toUInt64 &&& Int64.toUInt64 63)).toInt64))).toUInt64 >>> (((32 : Int32)).toInt64.toUInt64 &&& Int64.toUInt64 63)).toInt64)))] dJ13_bitCount_95d88_54 rfl (by decide) rfl ?_
  refine pw_lload_n (pc := 55) C 0 dJ13_bitCount_95d88_55 rfl rfl ?_
  refine pw_l2i (pc := 56) C dJ13_bitCount_95d88_56 ?_
  refine pw_bipush (pc := 57) (v := 127 ) C dJ13_bitCount_95d88_57 (by decide) ?_
  refine pw_iand (pc := 59) C dJ13_bitCount_95d88_59 ?_
  exact pw_iret (pc := 60) C hr h dJ13_bitCount_95d88_60

abbrev rmX5_marks : Room := { frames := 0, cells := 0, slots := 0, locals := 0 }
def wpX5_marks (S : PS) (x0 : Int64) (Q : Int64 → PS → Prop) : Prop := (Q (((((x0 ||| (((x0).toUInt64 >>> (((1 : Int32)).toInt64.toUInt64 &&& Int64.toUInt64 63)).toInt64)) ||| (((x0).toUInt64 >>> (((2 : Int32)).toInt64.toUInt64 &&& Int64.toUInt64 63)).toInt64)) ||| (((x0).toUInt64 >>> (((3 : Int32)).toInt64.toUInt64 &&& Int64.toUInt64 63)).toInt64)) ||| (((x0).toUInt64 >>> (((4 : Int32)).toInt64.toUInt64 &&& Int64.toUInt64 63)).toInt64)) &&& (1108378657 : Int64)) S)
set_option maxRecDepth 100000 in
set_option maxHeartbeats 4000000 in
theorem ctX5_marks (l : Launch) (G : PG) (hZ : pZa G) (S : PS) (x0 : Int64) (Q : Int64 → PS → Prop) (h : wpX5_marks S x0 Q) : mJ l yX5_marks wsX5_marks rmX5_marks G S [.long x0] Q := by
  unfold mJ
  refine met_of (cc := cX5_marks) (maxL := 2) (ret := (some .long)) (by decide) rfl (Nat.le_of_ble_eq_true rfl) ?_
  intro p e s m args below meth c C hr hin
  unfold wpX5_marks at h
  show PW p l e _ s m args below meth c _ G 2 S 0 0 [(0, .long x0)] 0 []
  refine pw_lload_n (pc := 0) C 0 dX5_marks_0 rfl rfl ?_
  refine pw_lload_n (pc := 1) C 0 dX5_marks_1 rfl rfl ?_
  refine pw_iconst (pc := 2) (v := 1 ) C dX5_marks_2 (by decide) ?_
  refine pw_lushr (pc := 3) C dX5_marks_3 ?_
  refine pw_lor (pc := 4) C dX5_marks_4 ?_
  refine pw_lload_n (pc := 5) C 0 dX5_marks_5 rfl rfl ?_
  refine pw_iconst (pc := 6) (v := 2 ) C dX5_marks_6 (by decide) ?_
  refine pw_lushr (pc := 7) C dX5_marks_7 ?_
  refine pw_lor (pc := 8) C dX5_marks_8 ?_
  refine pw_lload_n (pc := 9) C 0 dX5_marks_9 rfl rfl ?_
  refine pw_iconst (pc := 10) (v := 3 ) C dX5_marks_10 (by decide) ?_
  refine pw_lushr (pc := 11) C dX5_marks_11 ?_
  refine pw_lor (pc := 12) C dX5_marks_12 ?_
  refine pw_lload_n (pc := 13) C 0 dX5_marks_13 rfl rfl ?_
  refine pw_iconst (pc := 14) (v := 4 ) C dX5_marks_14 (by decide) ?_
  refine pw_lushr (pc := 15) C dX5_marks_15 ?_
  refine pw_lor (pc := 16) C dX5_marks_16 ?_
  refine pw_ldc2 (pc := 17) (v := 1108378657) C (by decide +kernel) dX5_marks_17 ?_
  refine pw_land (pc := 20) C dX5_marks_20 ?_
  exact pw_lret (pc := 21) C hr h dX5_marks_21

abbrev rmX5_variablesIn : Room := { frames := 1, cells := 0, slots := 0, locals := 21 }
def wpX5_variablesIn (S : PS) (x0 : Int64) (Q : Int32 → PS → Prop) : Prop := (wpX5_marks S x0 (fun r1 S2 => (wpJ13_bitCount_95d88 S2 r1 (fun r3 S4 => (Q r3 S4)))))
set_option maxRecDepth 100000 in
set_option maxHeartbeats 4000000 in
theorem ctX5_variablesIn (l : Launch) (G : PG) (hZ : pZa G) (S : PS) (x0 : Int64) (Q : Int32 → PS → Prop) (h : wpX5_variablesIn S x0 Q) : mI l yX5_variablesIn wsX5_variablesIn rmX5_variablesIn G S [.long x0] Q := by
  unfold mI
  refine met_of (cc := cX5_variablesIn) (maxL := 2) (ret := (some .int)) (by decide) rfl (Nat.le_of_ble_eq_true rfl) ?_
  intro p e s m args below meth c C hr hin
  unfold wpX5_variablesIn at h
  show PW p l e _ s m args below meth c _ G 2 S 0 0 [(0, .long x0)] 0 []
  refine pw_lload_n (pc := 0) C 0 dX5_variablesIn_0 rfl rfl ?_
  refine pw_calll (pc := 1) (kc2 := 0) (kn2 := 0) (pRunS (pc := 1) C (ctX5_marks l G hZ  _ x0 _ h) (va_cwS 1 C.2.2.2.2.1 gX5_variablesIn_X5_marks rfl rfl rfl (by decide +kernel) ⟨Nat.le_of_ble_eq_true rfl, Nat.le_of_ble_eq_true rfl⟩) rfl rfl (Nat.le_of_ble_eq_true rfl) dX5_variablesIn_1 ⟨Nat.le_of_ble_eq_true rfl, Nat.le_of_ble_eq_true rfl⟩) rfl rfl (fun r1 S2 h => ?_)
  refine pw_calli (pc := 4) (kc2 := 0) (kn2 := 0) (pRunS (pc := 4) C (ctJ13_bitCount_95d88 l G  _ r1 _ h) (va_cwS 1 C.2.2.2.2.1 gX5_variablesIn_J13_bitCount_95d88 rfl rfl rfl (by decide +kernel) ⟨Nat.le_of_ble_eq_true rfl, Nat.le_of_ble_eq_true rfl⟩) rfl rfl (Nat.le_of_ble_eq_true rfl) dX5_variablesIn_4 ⟨Nat.le_of_ble_eq_true rfl, Nat.le_of_ble_eq_true rfl⟩) rfl rfl (fun r3 S4 h => ?_)
  exact pw_iret (pc := 7) C hr h dX5_variablesIn_7

abbrev rmX2_verdict : Room := { frames := 2, cells := 0, slots := 0, locals := 42 }
theorem iX2_verdict_X2 : ∀ w ∈ u_ws RX2 TX2 7, w ∈ wsX2_verdict := by decide +kernel
def wpX2_verdict_b140  (Q : Int32 → PS → Prop) (S : PS) (x0 : Nat) (x1 : Int64) (x3 : Int32) (x4 : Int32) (x5 : Int32) (x6 : Int32) : Prop := (pK S x0 = 2 ∧ (((pI S x0 1) < x4 → (Q (0 : Int32) S)) ∧ (¬ (pI S x0 1) < x4 → (((pI S x0 1) ≤ x5 → (Q x3 S)) ∧ (¬ (pI S x0 1) ≤ x5 → (Q (0 : Int32) S))))))
def wpX2_verdict_b11  (Q : Int32 → PS → Prop) : Nat → PS → Nat → Int64 → Int32 → Int32 → Int32 → Int32 → Prop
  | 0 => fun _ _ _ _ _ _ _ => False
  | n + 1 => fun S x0 x1 x3 x4 x5 x6 => (((5 : Int32) ≤ x6 → (wpX2_verdict_b140 Q S x0 x1 x3 x4 x5 x6)) ∧ (¬ (5 : Int32) ≤ x6 → ((x3 = 0 → (wpX2_verdict_b140 Q S x0 x1 x3 x4 x5 x6)) ∧ (¬ x3 = 0 → (pK S x0 = 2 ∧ (wpJ13_bitCount_95d88 S (x1 &&& (((1108378657 : Int64) <<< ((x6).toInt64 &&& 63)) &&& (pJ S x0 2))) (fun r3 S4 => (pK S4 x0 = 2 ∧ (wpX5_variablesIn S4 ((x1 &&& (pJ S4 x0 2)) &&& ((((1108378657 : Int64) <<< ((x6).toInt64 &&& 63)) &&& (pJ S x0 2)) ^^^ (-1 : Int64))) (fun r6 S7 => (pK S7 x0 = 2 ∧ (wpX1_verdictOn S7 ((pI S4 x0 1) - r6) r3 (((((pI S7 x0 4)).toUInt32 >>> ((((3 : Int32) * x6)).toUInt32 &&& Int32.toUInt32 31)).toInt32) &&& (7 : Int32)) (((((pI S7 x0 5)).toUInt32 >>> ((((3 : Int32) * x6)).toUInt32 &&& Int32.toUInt32 31)).toInt32) &&& (7 : Int32)) (fun r9 S10 => (wpX2_verdict_b11 Q n S10 x0 x1 (if r9 < x3 then r9 else x3) (x4 + (if ((pI S4 x0 1) - r6) < (((((pI S7 x0 4)).toUInt32 >>> ((((3 : Int32) * x6)).toUInt32 &&& Int32.toUInt32 31)).toInt32) &&& (7 : Int32)) then (((((pI S7 x0 4)).toUInt32 >>> ((((3 : Int32) * x6)).toUInt32 &&& Int32.toUInt32 31)).toInt32) &&& (7 : Int32)) else ((pI S4 x0 1) - r6))) (x5 + (if (((((pI S7 x0 5)).toUInt32 >>> ((((3 : Int32) * x6)).toUInt32 &&& Int32.toUInt32 31)).toInt32) &&& (7 : Int32)) < r3 then (((((pI S7 x0 5)).toUInt32 >>> ((((3 : Int32) * x6)).toUInt32 &&& Int32.toUInt32 31)).toInt32) &&& (7 : Int32)) else r3)) (x6 + 1)))))))))))))))
def wpX2_verdict (S : PS) (x0 : Nat) (x1 : Int64) (Q : Int32 → PS → Prop) : Prop := (∃ n9 : Nat, wpX2_verdict_b11 Q n9 S x0 x1 (2 : Int32) (0 : Int32) (0 : Int32) (0 : Int32))
set_option maxRecDepth 100000 in
set_option maxHeartbeats 4000000 in
theorem cbX2_verdict_b140 {p : Program} {l : Launch} {e : Env} {s : State} {m : MethodId} {args : Array Value} {below : List Frame} {meth : Method} {c : Code} {G : PG} {Q : Int32 → PS → Prop} (C : pCx p s m args meth c G cX2_verdict 13 yX2_verdict.cls wsX2_verdict) (hr : meth.sig.returnType = (some .int)) (hin : meth.name = yX2_verdict.name) (hZ : pZa G)  : ∀ (S : PS) (x0 : Nat) (x1 : Int64) (x3 : Int32) (x4 : Int32) (x5 : Int32) (x6 : Int32), wpX2_verdict_b140  Q S x0 x1 x3 x4 x5 x6 → PW p l e rmX2_verdict s m args below meth c (MQ below (va_Qi Q (pB G) (pFr G)) args s rmX2_verdict.cells rmX2_verdict.slots (pFr G)) G 13 S 0 0 [(0, .ref (G.2.2 + x0)), (1, .long x1), (3, .int x3), (4, .int x4), (5, .int x5), (6, .int x6)] 140 ([]) := by
  intro S x0 x1 x3 x4 x5 x6 h
  unfold wpX2_verdict_b140 at h
  refine pw_iload (pc := 140) C 3 dX2_verdict_140 rfl ?_
  refine pw_aload_n (pc := 142) C 0 dX2_verdict_142 rfl rfl ?_
  obtain ⟨hk1, h⟩ := h
  refine pw_getI (pc := 143) (ref := "SupportSolver$Counts") (k := 1) (index := 39) C pCl1 iX2_verdict_X2 hk1 rfl (by decide +kernel) (Or.inr (by decide +kernel)) dX2_verdict_143 ?_
  refine pw_icmp_gt (pc := 146) (tgt := 158) C dX2_verdict_146 rfl ⟨fun hc => ?_, fun hc => ?_⟩
  · replace h := h.1 hc
    refine pw_iconst (pc := 158) (v := 0 ) C dX2_verdict_158 (by decide) ?_
    refine pw_goto (pc := 159) (tgt := 163) C dX2_verdict_159 rfl ?_
    exact pw_iret (pc := 163) C hr h dX2_verdict_163
  · replace h := h.2 hc
    refine pw_iload (pc := 149) C 4 dX2_verdict_149 rfl ?_
    refine pw_aload_n (pc := 151) C 0 dX2_verdict_151 rfl rfl ?_
    refine pw_getI (pc := 152) (ref := "SupportSolver$Counts") (k := 1) (index := 39) C pCl1 iX2_verdict_X2 hk1 rfl (by decide +kernel) (Or.inr (by decide +kernel)) dX2_verdict_152 ?_
    refine pw_icmp_ge (pc := 155) (tgt := 162) C dX2_verdict_155 rfl ⟨fun hc => ?_, fun hc => ?_⟩
    · replace h := h.1 hc
      refine pw_iload_n (pc := 162) C 2 dX2_verdict_162 rfl rfl ?_
      exact pw_iret (pc := 163) C hr h dX2_verdict_163
    · replace h := h.2 hc
      refine pw_iconst (pc := 158) (v := 0 ) C dX2_verdict_158 (by decide) ?_
      refine pw_goto (pc := 159) (tgt := 163) C dX2_verdict_159 rfl ?_
      exact pw_iret (pc := 163) C hr h dX2_verdict_163
set_option maxRecDepth 100000 in
set_option maxHeartbeats 4000000 in
theorem cbX2_verdict_b11 {p : Program} {l : Launch} {e : Env} {s : State} {m : MethodId} {args : Array Value} {below : List Frame} {meth : Method} {c : Code} {G : PG} {Q : Int32 → PS → Prop} (C : pCx p s m args meth c G cX2_verdict 13 yX2_verdict.cls wsX2_verdict) (hr : meth.sig.returnType = (some .int)) (hin : meth.name = yX2_verdict.name) (hZ : pZa G)  (n : Nat) : ∀ (S : PS) (x0 : Nat) (x1 : Int64) (x3 : Int32) (x4 : Int32) (x5 : Int32) (x6 : Int32), wpX2_verdict_b11  Q n S x0 x1 x3 x4 x5 x6 → PW p l e rmX2_verdict s m args below meth c (MQ below (va_Qi Q (pB G) (pFr G)) args s rmX2_verdict.cells rmX2_verdict.slots (pFr G)) G 13 S 0 0 [(0, .ref (G.2.2 + x0)), (1, .long x1), (3, .int x3), (4, .int x4), (5, .int x5), (6, .int x6)] 11 ([]) := by
  induction n with
  | zero => intro S x0 x1 x3 x4 x5 x6 h; exact h.elim
  | succ n ih =>
    intro S x0 x1 x3 x4 x5 x6 h
    unfold wpX2_verdict_b11 at h
    refine pw_iload (pc := 11) C 5 dX2_verdict_11 rfl ?_
    refine pw_iconst (pc := 13) (v := 5 ) C dX2_verdict_13 (by decide) ?_
    refine pw_icmp_ge (pc := 14) (tgt := 140) C dX2_verdict_14 rfl ⟨fun hc => ?_, fun hc => ?_⟩
    · replace h := h.1 hc
      exact cbX2_verdict_b140 C hr hin hZ  _ _ _ _ _ _ _ h
    · replace h := h.2 hc
      refine pw_iload_n (pc := 17) C 2 dX2_verdict_17 rfl rfl ?_
      refine pw_if_eq (pc := 18) (tgt := 140) C dX2_verdict_18 rfl ⟨fun hc => ?_, fun hc => ?_⟩
      · replace h := h.1 hc
        exact cbX2_verdict_b140 C hr hin hZ  _ _ _ _ _ _ _ h
      · replace h := h.2 hc
        refine pw_ldc2 (pc := 21) (v := 1108378657) C (by decide +kernel) dX2_verdict_21 ?_
        refine pw_iload (pc := 24) C 5 dX2_verdict_24 rfl ?_
        refine pw_lshl (pc := 26) C dX2_verdict_26 ?_
        refine pw_aload_n (pc := 27) C 0 dX2_verdict_27 rfl rfl ?_
        obtain ⟨hk2, h⟩ := h
        refine pw_getJ (pc := 28) (ref := "SupportSolver$Counts") (k := 2) (index := 29) C pCl1 iX2_verdict_X2 hk2 rfl (by decide +kernel) (Or.inr (by decide +kernel)) dX2_verdict_28 ?_
        refine pw_land (pc := 31) C dX2_verdict_31 ?_
        refine pw_lstore (pc := 32) C [(7, .long (((1108378657 : Int64) <<< ((x6).toInt64 &&& 63)) &&& (pJ S x0 2))), (0, .ref (G.2.2 + x0)), (1, .long x1), (3, .int x3), (4, .int x4), (5, .int x5), (6, .int x6)] dX2_verdict_32 (by decide) rfl ?_
        refine pw_lload_n (pc := 34) C 2 dX2_verdict_34 rfl rfl ?_
        refine pw_lload (pc := 35) C 0 dX2_verdict_35 rfl ?_
        refine pw_land (pc := 37) C dX2_verdict_37 ?_
        refine pw_calli (pc := 38) (kc2 := 0) (kn2 := 0) (pRunS (pc := 38) C (ctJ13_bitCount_95d88 l G  _ (x1 &&& (((1108378657 : Int64) <<< ((x6).toInt64 &&& 63)) &&& (pJ S x0 2))) _ h) (va_cwS 1 C.2.2.2.2.1 gX2_verdict_J13_bitCount_95d88 rfl rfl rfl (by decide +kernel) ⟨Nat.le_of_ble_eq_true rfl, Nat.le_of_ble_eq_true rfl⟩) rfl rfl (Nat.le_of_ble_eq_true rfl) dX2_verdict_38 ⟨Nat.le_of_ble_eq_true rfl, Nat.le_of_ble_eq_true rfl⟩) rfl rfl (fun r3 S4 h => ?_)
        refine pw_istore (pc := 41) C [(9, .int r3), (7, .long (((1108378657 : Int64) <<< ((x6).toInt64 &&& 63)) &&& (pJ S x0 2))), (0, .ref (G.2.2 + x0)), (1, .long x1), (3, .int x3), (4, .int x4), (5, .int x5), (6, .int x6)] dX2_verdict_41 (by decide) rfl ?_
        refine pw_aload_n (pc := 43) C 2 dX2_verdict_43 rfl rfl ?_
        obtain ⟨hk5, h⟩ := h
        refine pw_getI (pc := 44) (ref := "SupportSolver$Counts") (k := 1) (index := 39) C pCl1 iX2_verdict_X2 hk5 rfl (by decide +kernel) (Or.inr (by decide +kernel)) dX2_verdict_44 ?_
        refine pw_lload_n (pc := 47) C 3 dX2_verdict_47 rfl rfl ?_
        refine pw_aload_n (pc := 48) C 2 dX2_verdict_48 rfl rfl ?_
        refine pw_getJ (pc := 49) (ref := "SupportSolver$Counts") (k := 2) (index := 29) C pCl1 iX2_verdict_X2 hk5 rfl (by decide +kernel) (Or.inr (by decide +kernel)) dX2_verdict_49 ?_
        refine pw_land (pc := 52) C dX2_verdict_52 ?_
        refine pw_lload (pc := 53) C 1 dX2_verdict_53 rfl ?_
        refine pw_ldc2 (pc := 55) (v := (-1)) C (by decide +kernel) dX2_verdict_55 ?_
        refine pw_lxor (pc := 58) C dX2_verdict_58 ?_
        refine pw_land (pc := 59) C dX2_verdict_59 ?_
        refine pw_calli (pc := 60) (kc2 := 0) (kn2 := 0) (pRunS (pc := 60) C (ctX5_variablesIn l G hZ  _ ((x1 &&& (pJ S4 x0 2)) &&& ((((1108378657 : Int64) <<< ((x6).toInt64 &&& 63)) &&& (pJ S x0 2)) ^^^ (-1 : Int64))) _ h) (va_cwS 1 C.2.2.2.2.1 gX2_verdict_X5_variablesIn rfl rfl rfl (by decide +kernel) ⟨Nat.le_of_ble_eq_true rfl, Nat.le_of_ble_eq_true rfl⟩) rfl rfl (Nat.le_of_ble_eq_true rfl) dX2_verdict_60 ⟨Nat.le_of_ble_eq_true rfl, Nat.le_of_ble_eq_true rfl⟩) rfl rfl (fun r6 S7 h => ?_)
        refine pw_isub (pc := 63) C dX2_verdict_63 ?_
        refine pw_istore (pc := 64) C [(10, .int ((pI S4 x0 1) - r6)), (9, .int r3), (7, .long (((1108378657 : Int64) <<< ((x6).toInt64 &&& 63)) &&& (pJ S x0 2))), (0, .ref (G.2.2 + x0)), (1, .long x1), (3, .int x3), (4, .int x4), (5, .int x5), (6, .int x6)] dX2_verdict_64 (by decide) rfl ?_
        refine pw_aload_n (pc := 66) C 3 dX2_verdict_66 rfl rfl ?_
        obtain ⟨hk8, h⟩ := h
        refine pw_getI (pc := 67) (ref := "SupportSolver$Counts") (k := 4) (index := 9) C pCl1 iX2_verdict_X2 hk8 rfl (by decide +kernel) (Or.inl rfl) dX2_verdict_67 ?_
        refine pw_iconst (pc := 70) (v := 3 ) C dX2_verdict_70 (by decide) ?_
        refine pw_iload (pc := 71) C 8 dX2_verdict_71 rfl ?_
        refine pw_imul (pc := 73) C dX2_verdict_73 ?_
        refine pw_iushr (pc := 74) C dX2_verdict_74 ?_
        refine pw_bipush (pc := 75) (v := 7 ) C dX2_verdict_75 (by decide) ?_
        refine pw_iand (pc := 77) C dX2_verdict_77 ?_
        refine pw_istore (pc := 78) C [(11, .int (((((pI S7 x0 4)).toUInt32 >>> ((((3 : Int32) * x6)).toUInt32 &&& Int32.toUInt32 31)).toInt32) &&& (7 : Int32))), (10, .int ((pI S4 x0 1) - r6)), (9, .int r3), (7, .long (((1108378657 : Int64) <<< ((x6).toInt64 &&& 63)) &&& (pJ S x0 2))), (0, .ref (G.2.2 + x0)), (1, .long x1), (3, .int x3), (4, .int x4), (5, .int x5), (6, .int x6)] dX2_verdict_78 (by decide) rfl ?_
        refine pw_aload_n (pc := 80) C 4 dX2_verdict_80 rfl rfl ?_
        refine pw_getI (pc := 81) (ref := "SupportSolver$Counts") (k := 5) (index := 15) C pCl1 iX2_verdict_X2 hk8 rfl (by decide +kernel) (Or.inl rfl) dX2_verdict_81 ?_
        refine pw_iconst (pc := 84) (v := 3 ) C dX2_verdict_84 (by decide) ?_
        refine pw_iload (pc := 85) C 9 dX2_verdict_85 rfl ?_
        refine pw_imul (pc := 87) C dX2_verdict_87 ?_
        refine pw_iushr (pc := 88) C dX2_verdict_88 ?_
        refine pw_bipush (pc := 89) (v := 7 ) C dX2_verdict_89 (by decide) ?_
        refine pw_iand (pc := 91) C dX2_verdict_91 ?_
        refine pw_istore (pc := 92) C [(12, .int (((((pI S7 x0 5)).toUInt32 >>> ((((3 : Int32) * x6)).toUInt32 &&& Int32.toUInt32 31)).toInt32) &&& (7 : Int32))), (11, .int (((((pI S7 x0 4)).toUInt32 >>> ((((3 : Int32) * x6)).toUInt32 &&& Int32.toUInt32 31)).toInt32) &&& (7 : Int32))), (10, .int ((pI S4 x0 1) - r6)), (9, .int r3), (7, .long (((1108378657 : Int64) <<< ((x6).toInt64 &&& 63)) &&& (pJ S x0 2))), (0, .ref (G.2.2 + x0)), (1, .long x1), (3, .int x3), (4, .int x4), (5, .int x5), (6, .int x6)] dX2_verdict_92 (by decide) rfl ?_
        refine pw_iload_n (pc := 94) C 7 dX2_verdict_94 rfl rfl ?_
        refine pw_iload (pc := 95) C 2 dX2_verdict_95 rfl ?_
        refine pw_iload (pc := 97) C 3 dX2_verdict_97 rfl ?_
        refine pw_iload (pc := 99) C 1 dX2_verdict_99 rfl ?_
        refine pw_iload (pc := 101) C 0 dX2_verdict_101 rfl ?_
        refine pw_calli (pc := 103) (kc2 := 0) (kn2 := 0) (pRunSU (pc := 103) (owner := RX1) (nm := "verdictOn") (ds := "(IIII)I") (n := 4) C (ctX1_verdictOn l G hZ  _ ((pI S4 x0 1) - r6) r3 (((((pI S7 x0 4)).toUInt32 >>> ((((3 : Int32) * x6)).toUInt32 &&& Int32.toUInt32 31)).toInt32) &&& (7 : Int32)) (((((pI S7 x0 5)).toUInt32 >>> ((((3 : Int32) * x6)).toUInt32 &&& Int32.toUInt32 31)).toInt32) &&& (7 : Int32)) _ h) (hZ.2.2.2.2.2.2.2.2.2.2.2.1) List.mem_cons_self ⟨by decide, by decide⟩ (by decide +kernel) ⟨Nat.le_of_ble_eq_true rfl, Nat.le_of_ble_eq_true rfl⟩ rfl rfl (Nat.le_of_ble_eq_true rfl) dX2_verdict_103 ⟨Nat.le_of_ble_eq_true rfl, Nat.le_of_ble_eq_true rfl⟩) rfl rfl (fun r9 S10 h => ?_)
        refine pw_mmin (pc := 106) (index := 51) C (by decide +kernel) (by decide +kernel) (by decide +kernel) (by decide +kernel) (Nat.le_of_ble_eq_true rfl) (Nat.le_of_ble_eq_true rfl) ⟨Nat.le_of_ble_eq_true rfl, Nat.le_of_ble_eq_true rfl⟩ dX2_verdict_106 ?_
        refine pw_istore_n (pc := 109) C [(3, .int (if r9 < x3 then r9 else x3)), (12, .int (((((pI S7 x0 5)).toUInt32 >>> ((((3 : Int32) * x6)).toUInt32 &&& Int32.toUInt32 31)).toInt32) &&& (7 : Int32))), (11, .int (((((pI S7 x0 4)).toUInt32 >>> ((((3 : Int32) * x6)).toUInt32 &&& Int32.toUInt32 31)).toInt32) &&& (7 : Int32))), (10, .int ((pI S4 x0 1) - r6)), (9, .int r3), (7, .long (((1108378657 : Int64) <<< ((x6).toInt64 &&& 63)) &&& (pJ S x0 2))), (0, .ref (G.2.2 + x0)), (1, .long x1), (4, .int x4), (5, .int x5), (6, .int x6)] dX2_verdict_109 rfl (by decide) rfl ?_
        refine pw_iload (pc := 110) C 8 dX2_verdict_110 rfl ?_
        refine pw_iload (pc := 112) C 3 dX2_verdict_112 rfl ?_
        refine pw_iload (pc := 114) C 2 dX2_verdict_114 rfl ?_
        refine pw_mmax (pc := 116) (index := 57) C (by decide +kernel) (by decide +kernel) (by decide +kernel) (by decide +kernel) (Nat.le_of_ble_eq_true rfl) (Nat.le_of_ble_eq_true rfl) ⟨Nat.le_of_ble_eq_true rfl, Nat.le_of_ble_eq_true rfl⟩ dX2_verdict_116 ?_
        refine pw_iadd (pc := 119) C dX2_verdict_119 ?_
        refine pw_istore (pc := 120) C [(4, .int (x4 + (if ((pI S4 x0 1) - r6) < (((((pI S7 x0 4)).toUInt32 >>> ((((3 : Int32) * x6)).toUInt32 &&& Int32.toUInt32 31)).toInt32) &&& (7 : Int32)) then (((((pI S7 x0 4)).toUInt32 >>> ((((3 : Int32) * x6)).toUInt32 &&& Int32.toUInt32 31)).toInt32) &&& (7 : Int32)) else ((pI S4 x0 1) - r6)))), (3, .int (if r9 < x3 then r9 else x3)), (12, .int (((((pI S7 x0 5)).toUInt32 >>> ((((3 : Int32) * x6)).toUInt32 &&& Int32.toUInt32 31)).toInt32) &&& (7 : Int32))), (11, .int (((((pI S7 x0 4)).toUInt32 >>> ((((3 : Int32) * x6)).toUInt32 &&& Int32.toUInt32 31)).toInt32) &&& (7 : Int32))), (10, .int ((pI S4 x0 1) - r6)), (9, .int r3), (7, .long (((1108378657 : Int64) <<< ((x6).toInt64 &&& 63)) &&& (pJ S x0 2))), (0, .ref (G.2.2 + x0)), (1, .long x1), (5, .int x5), (6, .int x6)] dX2_verdict_120 (by decide) rfl ?_
        refine pw_iload (pc := 122) C 9 dX2_verdict_122 rfl ?_
        refine pw_iload (pc := 124) C 5 dX2_verdict_124 rfl ?_
        refine pw_iload (pc := 126) C 2 dX2_verdict_126 rfl ?_
        refine pw_mmin (pc := 128) (index := 51) C (by decide +kernel) (by decide +kernel) (by decide +kernel) (by decide +kernel) (Nat.le_of_ble_eq_true rfl) (Nat.le_of_ble_eq_true rfl) ⟨Nat.le_of_ble_eq_true rfl, Nat.le_of_ble_eq_true rfl⟩ dX2_verdict_128 ?_
        refine pw_iadd (pc := 131) C dX2_verdict_131 ?_
        refine pw_istore (pc := 132) C [(5, .int (x5 + (if (((((pI S7 x0 5)).toUInt32 >>> ((((3 : Int32) * x6)).toUInt32 &&& Int32.toUInt32 31)).toInt32) &&& (7 : Int32)) < r3 then (((((pI S7 x0 5)).toUInt32 >>> ((((3 : Int32) * x6)).toUInt32 &&& Int32.toUInt32 31)).toInt32) &&& (7 : Int32)) else r3))), (4, .int (x4 + (if ((pI S4 x0 1) - r6) < (((((pI S7 x0 4)).toUInt32 >>> ((((3 : Int32) * x6)).toUInt32 &&& Int32.toUInt32 31)).toInt32) &&& (7 : Int32)) then (((((pI S7 x0 4)).toUInt32 >>> ((((3 : Int32) * x6)).toUInt32 &&& Int32.toUInt32 31)).toInt32) &&& (7 : Int32)) else ((pI S4 x0 1) - r6)))), (3, .int (if r9 < x3 then r9 else x3)), (12, .int (((((pI S7 x0 5)).toUInt32 >>> ((((3 : Int32) * x6)).toUInt32 &&& Int32.toUInt32 31)).toInt32) &&& (7 : Int32))), (11, .int (((((pI S7 x0 4)).toUInt32 >>> ((((3 : Int32) * x6)).toUInt32 &&& Int32.toUInt32 31)).toInt32) &&& (7 : Int32))), (10, .int ((pI S4 x0 1) - r6)), (9, .int r3), (7, .long (((1108378657 : Int64) <<< ((x6).toInt64 &&& 63)) &&& (pJ S x0 2))), (0, .ref (G.2.2 + x0)), (1, .long x1), (6, .int x6)] dX2_verdict_132 (by decide) rfl ?_
        refine pw_iincK (pc := 134) (w := 1) C [(6, .int (x6 + 1)), (5, .int (x5 + (if (((((pI S7 x0 5)).toUInt32 >>> ((((3 : Int32) * x6)).toUInt32 &&& Int32.toUInt32 31)).toInt32) &&& (7 : Int32)) < r3 then (((((pI S7 x0 5)).toUInt32 >>> ((((3 : Int32) * x6)).toUInt32 &&& Int32.toUInt32 31)).toInt32) &&& (7 : Int32)) else r3))), (4, .int (x4 + (if ((pI S4 x0 1) - r6) < (((((pI S7 x0 4)).toUInt32 >>> ((((3 : Int32) * x6)).toUInt32 &&& Int32.toUInt32 31)).toInt32) &&& (7 : Int32)) then (((((pI S7 x0 4)).toUInt32 >>> ((((3 : Int32) * x6)).toUInt32 &&& Int32.toUInt32 31)).toInt32) &&& (7 : Int32)) else ((pI S4 x0 1) - r6)))), (3, .int (if r9 < x3 then r9 else x3)), (12, .int (((((pI S7 x0 5)).toUInt32 >>> ((((3 : Int32) * x6)).toUInt32 &&& Int32.toUInt32 31)).toInt32) &&& (7 : Int32))), (11, .int (((((pI S7 x0 4)).toUInt32 >>> ((((3 : Int32) * x6)).toUInt32 &&& Int32.toUInt32 31)).toInt32) &&& (7 : Int32))), (10, .int ((pI S4 x0 1) - r6)), (9, .int r3), (7, .long (((1108378657 : Int64) <<< ((x6).toInt64 &&& 63)) &&& (pJ S x0 2))), (0, .ref (G.2.2 + x0)), (1, .long x1)] 10 dX2_verdict_134 (by decide) rfl (by decide) rfl ?_
        refine pw_goto (pc := 137) (tgt := 11) C dX2_verdict_137 rfl ?_
        refine pw_sub [9, 10, 3, 2, 1, 0] (LV2 := [(0, .ref (G.2.2 + x0)), (1, .long x1), (3, .int (if r9 < x3 then r9 else x3)), (4, .int (x4 + (if ((pI S4 x0 1) - r6) < (((((pI S7 x0 4)).toUInt32 >>> ((((3 : Int32) * x6)).toUInt32 &&& Int32.toUInt32 31)).toInt32) &&& (7 : Int32)) then (((((pI S7 x0 4)).toUInt32 >>> ((((3 : Int32) * x6)).toUInt32 &&& Int32.toUInt32 31)).toInt32) &&& (7 : Int32)) else ((pI S4 x0 1) - r6)))), (5, .int (x5 + (if (((((pI S7 x0 5)).toUInt32 >>> ((((3 : Int32) * x6)).toUInt32 &&& Int32.toUInt32 31)).toInt32) &&& (7 : Int32)) < r3 then (((((pI S7 x0 5)).toUInt32 >>> ((((3 : Int32) * x6)).toUInt32 &&& Int32.toUInt32 31)).toInt32) &&& (7 : Int32)) else r3))), (6, .int (x6 + 1))]) rfl ?_
        exact ih _ _ _ _ _ _ _ h
set_option maxRecDepth 100000 in
set_option maxHeartbeats 4000000 in
theorem ctX2_verdict (l : Launch) (G : PG) (hZ : pZa G) (S : PS) (x0 : Nat) (x1 : Int64) (Q : Int32 → PS → Prop) (h : wpX2_verdict S x0 x1 Q) : mI l yX2_verdict wsX2_verdict rmX2_verdict G S [.ref (G.2.2 + x0), .long x1] Q := by
  unfold mI
  refine met_of (cc := cX2_verdict) (maxL := 13) (ret := (some .int)) (by decide) rfl (Nat.le_of_ble_eq_true rfl) ?_
  intro p e s m args below meth c C hr hin
  unfold wpX2_verdict at h
  show PW p l e _ s m args below meth c _ G 13 S 0 0 [(0, .ref (G.2.2 + x0)), (1, .long x1)] 0 []
  refine pw_iconst (pc := 0) (v := 2 ) C dX2_verdict_0 (by decide) ?_
  refine pw_istore_n (pc := 1) C [(3, .int (2 : Int32)), (0, .ref (G.2.2 + x0)), (1, .long x1)] dX2_verdict_1 rfl (by decide) rfl ?_
  refine pw_iconst (pc := 2) (v := 0 ) C dX2_verdict_2 (by decide) ?_
  refine pw_istore (pc := 3) C [(4, .int (0 : Int32)), (3, .int (2 : Int32)), (0, .ref (G.2.2 + x0)), (1, .long x1)] dX2_verdict_3 (by decide) rfl ?_
  refine pw_iconst (pc := 5) (v := 0 ) C dX2_verdict_5 (by decide) ?_
  refine pw_istore (pc := 6) C [(5, .int (0 : Int32)), (4, .int (0 : Int32)), (3, .int (2 : Int32)), (0, .ref (G.2.2 + x0)), (1, .long x1)] dX2_verdict_6 (by decide) rfl ?_
  refine pw_iconst (pc := 8) (v := 0 ) C dX2_verdict_8 (by decide) ?_
  refine pw_istore (pc := 9) C [(6, .int (0 : Int32)), (5, .int (0 : Int32)), (4, .int (0 : Int32)), (3, .int (2 : Int32)), (0, .ref (G.2.2 + x0)), (1, .long x1)] dX2_verdict_9 (by decide) rfl ?_
  refine pw_sub [4, 5, 3, 2, 1, 0] (LV2 := [(0, .ref (G.2.2 + x0)), (1, .long x1), (3, .int (2 : Int32)), (4, .int (0 : Int32)), (5, .int (0 : Int32)), (6, .int (0 : Int32))]) rfl ?_
  obtain ⟨n9, h⟩ := h
  exact cbX2_verdict_b11 C hr hin hZ  n9 _ _ _ _ _ _ _ h

abbrev rmX4_verdict : Room := { frames := 0, cells := 0, slots := 0, locals := 0 }
theorem iX4_verdict_X4 : ∀ w ∈ u_ws RX4 TX4 5, w ∈ wsX4_verdict := by decide +kernel
def wpX4_verdict (S : PS) (x0 : Nat) (x1 : Int64) (Q : Int32 → PS → Prop) : Prop := (pK S x0 = 4 ∧ (((lg_cmp (x1 &&& (pJ S x0 4)) (pJ S x0 4)) = 0 → ((¬ (lg_cmp (x1 &&& (pJ S x0 2)) (pJ S x0 4)) = 0 → (Q (1 : Int32) S)) ∧ ((lg_cmp (x1 &&& (pJ S x0 2)) (pJ S x0 4)) = 0 → (Q (0 : Int32) S)))) ∧ (¬ (lg_cmp (x1 &&& (pJ S x0 4)) (pJ S x0 4)) = 0 → (Q (2 : Int32) S))))
set_option maxRecDepth 100000 in
set_option maxHeartbeats 4000000 in
theorem ctX4_verdict (l : Launch) (G : PG) (hZ : pZa G) (S : PS) (x0 : Nat) (x1 : Int64) (Q : Int32 → PS → Prop) (h : wpX4_verdict S x0 x1 Q) : mI l yX4_verdict wsX4_verdict rmX4_verdict G S [.ref (G.2.2 + x0), .long x1] Q := by
  unfold mI
  refine met_of (cc := cX4_verdict) (maxL := 3) (ret := (some .int)) (by decide) rfl (Nat.le_of_ble_eq_true rfl) ?_
  intro p e s m args below meth c C hr hin
  unfold wpX4_verdict at h
  show PW p l e _ s m args below meth c _ G 3 S 0 0 [(0, .ref (G.2.2 + x0)), (1, .long x1)] 0 []
  refine pw_lload_n (pc := 0) C 1 dX4_verdict_0 rfl rfl ?_
  refine pw_aload_n (pc := 1) C 0 dX4_verdict_1 rfl rfl ?_
  obtain ⟨hk1, h⟩ := h
  refine pw_getJ (pc := 2) (ref := "SupportSolver$LearntSet") (k := 4) (index := 9) C pCl3 iX4_verdict_X4 hk1 rfl (by decide +kernel) (Or.inl rfl) dX4_verdict_2 ?_
  refine pw_land (pc := 5) C dX4_verdict_5 ?_
  refine pw_aload_n (pc := 6) C 0 dX4_verdict_6 rfl rfl ?_
  refine pw_getJ (pc := 7) (ref := "SupportSolver$LearntSet") (k := 4) (index := 9) C pCl3 iX4_verdict_X4 hk1 rfl (by decide +kernel) (Or.inl rfl) dX4_verdict_7 ?_
  refine pw_lcmp (pc := 10) C dX4_verdict_10 ?_
  refine pw_if_eq (pc := 11) (tgt := 16) C dX4_verdict_11 rfl ⟨fun hc => ?_, fun hc => ?_⟩
  · replace h := h.1 hc
    refine pw_lload_n (pc := 16) C 1 dX4_verdict_16 rfl rfl ?_
    refine pw_aload_n (pc := 17) C 0 dX4_verdict_17 rfl rfl ?_
    refine pw_getJ (pc := 18) (ref := "SupportSolver$LearntSet") (k := 2) (index := 28) C pCl3 iX4_verdict_X4 hk1 rfl (by decide +kernel) (Or.inr (by decide +kernel)) dX4_verdict_18 ?_
    refine pw_land (pc := 21) C dX4_verdict_21 ?_
    refine pw_aload_n (pc := 22) C 0 dX4_verdict_22 rfl rfl ?_
    refine pw_getJ (pc := 23) (ref := "SupportSolver$LearntSet") (k := 4) (index := 9) C pCl3 iX4_verdict_X4 hk1 rfl (by decide +kernel) (Or.inl rfl) dX4_verdict_23 ?_
    refine pw_lcmp (pc := 26) C dX4_verdict_26 ?_
    refine pw_if_ne (pc := 27) (tgt := 34) C dX4_verdict_27 rfl ⟨fun hc => ?_, fun hc => ?_⟩
    · replace h := h.1 hc
      refine pw_iconst (pc := 34) (v := 1 ) C dX4_verdict_34 (by decide) ?_
      exact pw_iret (pc := 35) C hr h dX4_verdict_35
    · replace h := h.2 hc
      refine pw_iconst (pc := 30) (v := 0 ) C dX4_verdict_30 (by decide) ?_
      refine pw_goto (pc := 31) (tgt := 35) C dX4_verdict_31 rfl ?_
      exact pw_iret (pc := 35) C hr h dX4_verdict_35
  · replace h := h.2 hc
    refine pw_iconst (pc := 14) (v := 2 ) C dX4_verdict_14 (by decide) ?_
    exact pw_iret (pc := 15) C hr h dX4_verdict_15

abbrev rmX10_verdict : Room := { frames := 2, cells := 0, slots := 0, locals := 42 }
theorem iX10_verdict_X10 : ∀ w ∈ u_ws RX10 TX10 8, w ∈ wsX10_verdict := by decide +kernel
def wpX10_verdict_b30 (K5 : PS → Nat → Int64 → Int32 → Int32 → Prop) (Q : Int32 → PS → Prop) : Nat → PS → Nat → Int64 → Int32 → Int32 → Int64 → Int32 → Prop
  | 0 => fun _ _ _ _ _ _ _ => False
  | n + 1 => fun S x0 x1 x3 x4 x5 x7 => (pK S x0 = 9 ∧ (((x4 + (pI S x0 4)) ≤ x7 → (wpX5_variablesIn S (x1 &&& (((1108378657 : Int64) * ((pI S x0 5).toInt64)) &&& x5)) (fun r2 S3 => (pK S3 x0 = 9 ∧ (wpX5_variablesIn S3 ((x1 &&& x5) &&& ((((1108378657 : Int64) * ((pI S x0 5).toInt64)) &&& x5) ^^^ (-1 : Int64))) (fun r5 S6 => (pK S6 x0 = 9 ∧ (wpX1_verdictOn S6 ((pI S3 x0 4) - r5) r2 (pI S6 x0 6) (pI S6 x0 7) (fun r8 S9 => (K5 S9 x0 x1 (if r8 < x3 then r8 else x3) (x4 + 1))))))))))) ∧ (¬ (x4 + (pI S x0 4)) ≤ x7 → (wpX1_variableAt S x0 x7 (fun r10 S11 => (wpX5_allOf S11 r10 (fun r12 S13 => (wpX10_verdict_b30 K5 Q n S13 x0 x1 x3 x4 (x5 ||| r12) (x7 + 1)))))))))
def wpX10_verdict_b5  (Q : Int32 → PS → Prop) : Nat → PS → Nat → Int64 → Int32 → Int32 → Prop
  | 0 => fun _ _ _ _ _ => False
  | n + 1 => fun S x0 x1 x3 x4 => (pK S x0 = 9 ∧ (((pI S x0 1) < (x4 + (pI S x0 4)) → (Q x3 S)) ∧ (¬ (pI S x0 1) < (x4 + (pI S x0 4)) → ((x3 = 0 → (Q x3 S)) ∧ (¬ x3 = 0 → (∃ n9 : Nat, wpX10_verdict_b30 (wpX10_verdict_b5 Q n) Q n9 S x0 x1 x3 x4 (0 : Int64) x4))))))
def wpX10_verdict (S : PS) (x0 : Nat) (x1 : Int64) (Q : Int32 → PS → Prop) : Prop := (∃ n9 : Nat, wpX10_verdict_b5 Q n9 S x0 x1 (2 : Int32) (0 : Int32))
set_option maxRecDepth 100000 in
set_option maxHeartbeats 4000000 in
theorem cbX10_verdict_b30 {p : Program} {l : Launch} {e : Env} {s : State} {m : MethodId} {args : Array Value} {below : List Frame} {meth : Method} {c : Code} {G : PG} {Q : Int32 → PS → Prop} (C : pCx p s m args meth c G cX10_verdict 11 yX10_verdict.cls wsX10_verdict) (hr : meth.sig.returnType = (some .int)) (hin : meth.name = yX10_verdict.name) (hZ : pZa G) {K5 : PS → Nat → Int64 → Int32 → Int32 → Prop} (hK5 : ∀ (S : PS) (x0 : Nat) (x1 : Int64) (x3 : Int32) (x4 : Int32), K5 S x0 x1 x3 x4 → PW p l e rmX10_verdict s m args below meth c (MQ below (va_Qi Q (pB G) (pFr G)) args s rmX10_verdict.cells rmX10_verdict.slots (pFr G)) G 11 S 0 0 [(0, .ref (G.2.2 + x0)), (1, .long x1), (3, .int x3), (4, .int x4)] 5 ([])) (n : Nat) : ∀ (S : PS) (x0 : Nat) (x1 : Int64) (x3 : Int32) (x4 : Int32) (x5 : Int64) (x7 : Int32), wpX10_verdict_b30 K5 Q n S x0 x1 x3 x4 x5 x7 → PW p l e rmX10_verdict s m args below meth c (MQ below (va_Qi Q (pB G) (pFr G)) args s rmX10_verdict.cells rmX10_verdict.slots (pFr G)) G 11 S 0 0 [(0, .ref (G.2.2 + x0)), (1, .long x1), (3, .int x3), (4, .int x4), (5, .long x5), (7, .int x7)] 30 ([]) := by
  induction n with
  | zero => intro S x0 x1 x3 x4 x5 x7 h; exact h.elim
  | succ n ih =>
    intro S x0 x1 x3 x4 x5 x7 h
    unfold wpX10_verdict_b30 at h
    refine pw_iload (pc := 30) C 5 dX10_verdict_30 rfl ?_
    refine pw_iload (pc := 32) C 3 dX10_verdict_32 rfl ?_
    refine pw_aload_n (pc := 34) C 0 dX10_verdict_34 rfl rfl ?_
    obtain ⟨hk1, h⟩ := h
    refine pw_getI (pc := 35) (ref := "SupportSolver$Window") (k := 4) (index := 9) C pCl8 iX10_verdict_X10 hk1 rfl (by decide +kernel) (Or.inl rfl) dX10_verdict_35 ?_
    refine pw_iadd (pc := 38) C dX10_verdict_38 ?_
    refine pw_icmp_ge (pc := 39) (tgt := 62) C dX10_verdict_39 rfl ⟨fun hc => ?_, fun hc => ?_⟩
    · replace h := h.1 hc
      refine pw_ldc2 (pc := 62) (v := 1108378657) C (by decide +kernel) dX10_verdict_62 ?_
      refine pw_aload_n (pc := 65) C 0 dX10_verdict_65 rfl rfl ?_
      refine pw_getI (pc := 66) (ref := "SupportSolver$Window") (k := 5) (index := 15) C pCl8 iX10_verdict_X10 hk1 rfl (by decide +kernel) (Or.inl rfl) dX10_verdict_66 ?_
      refine pw_i2l (pc := 69) C dX10_verdict_69 ?_
      refine pw_lmul (pc := 70) C dX10_verdict_70 ?_
      refine pw_lload (pc := 71) C 4 dX10_verdict_71 rfl ?_
      refine pw_land (pc := 73) C dX10_verdict_73 ?_
      refine pw_lstore (pc := 74) C [(7, .long (((1108378657 : Int64) * ((pI S x0 5).toInt64)) &&& x5)), (0, .ref (G.2.2 + x0)), (1, .long x1), (3, .int x3), (4, .int x4), (5, .long x5)] dX10_verdict_74 (by decide) rfl ?_
      refine pw_lload_n (pc := 76) C 2 dX10_verdict_76 rfl rfl ?_
      refine pw_lload (pc := 77) C 0 dX10_verdict_77 rfl ?_
      refine pw_land (pc := 79) C dX10_verdict_79 ?_
      refine pw_calli (pc := 80) (kc2 := 0) (kn2 := 0) (pRunS (pc := 80) C (ctX5_variablesIn l G hZ  _ (x1 &&& (((1108378657 : Int64) * ((pI S x0 5).toInt64)) &&& x5)) _ h) (va_cwS 1 C.2.2.2.2.1 gX10_verdict_X5_variablesIn rfl rfl rfl (by decide +kernel) ⟨Nat.le_of_ble_eq_true rfl, Nat.le_of_ble_eq_true rfl⟩) rfl rfl (Nat.le_of_ble_eq_true rfl) dX10_verdict_80 ⟨Nat.le_of_ble_eq_true rfl, Nat.le_of_ble_eq_true rfl⟩) rfl rfl (fun r2 S3 h => ?_)
      refine pw_istore (pc := 83) C [(9, .int r2), (7, .long (((1108378657 : Int64) * ((pI S x0 5).toInt64)) &&& x5)), (0, .ref (G.2.2 + x0)), (1, .long x1), (3, .int x3), (4, .int x4), (5, .long x5)] dX10_verdict_83 (by decide) rfl ?_
      refine pw_aload_n (pc := 85) C 2 dX10_verdict_85 rfl rfl ?_
      obtain ⟨hk4, h⟩ := h
      refine pw_getI (pc := 86) (ref := "SupportSolver$Window") (k := 4) (index := 9) C pCl8 iX10_verdict_X10 hk4 rfl (by decide +kernel) (Or.inl rfl) dX10_verdict_86 ?_
      refine pw_lload_n (pc := 89) C 3 dX10_verdict_89 rfl rfl ?_
      refine pw_lload (pc := 90) C 6 dX10_verdict_90 rfl ?_
      refine pw_land (pc := 92) C dX10_verdict_92 ?_
      refine pw_lload (pc := 93) C 1 dX10_verdict_93 rfl ?_
      refine pw_ldc2 (pc := 95) (v := (-1)) C (by decide +kernel) dX10_verdict_95 ?_
      refine pw_lxor (pc := 98) C dX10_verdict_98 ?_
      refine pw_land (pc := 99) C dX10_verdict_99 ?_
      refine pw_calli (pc := 100) (kc2 := 0) (kn2 := 0) (pRunS (pc := 100) C (ctX5_variablesIn l G hZ  _ ((x1 &&& x5) &&& ((((1108378657 : Int64) * ((pI S x0 5).toInt64)) &&& x5) ^^^ (-1 : Int64))) _ h) (va_cwS 1 C.2.2.2.2.1 gX10_verdict_X5_variablesIn rfl rfl rfl (by decide +kernel) ⟨Nat.le_of_ble_eq_true rfl, Nat.le_of_ble_eq_true rfl⟩) rfl rfl (Nat.le_of_ble_eq_true rfl) dX10_verdict_100 ⟨Nat.le_of_ble_eq_true rfl, Nat.le_of_ble_eq_true rfl⟩) rfl rfl (fun r5 S6 h => ?_)
      refine pw_isub (pc := 103) C dX10_verdict_103 ?_
      refine pw_istore (pc := 104) C [(10, .int ((pI S3 x0 4) - r5)), (9, .int r2), (7, .long (((1108378657 : Int64) * ((pI S x0 5).toInt64)) &&& x5)), (0, .ref (G.2.2 + x0)), (1, .long x1), (3, .int x3), (4, .int x4), (5, .long x5)] dX10_verdict_104 (by decide) rfl ?_
      refine pw_iload_n (pc := 106) C 5 dX10_verdict_106 rfl rfl ?_
      refine pw_iload (pc := 107) C 0 dX10_verdict_107 rfl ?_
      refine pw_iload (pc := 109) C 1 dX10_verdict_109 rfl ?_
      refine pw_aload_n (pc := 111) C 3 dX10_verdict_111 rfl rfl ?_
      obtain ⟨hk7, h⟩ := h
      refine pw_getI (pc := 112) (ref := "SupportSolver$Window") (k := 6) (index := 18) C pCl8 iX10_verdict_X10 hk7 rfl (by decide +kernel) (Or.inl rfl) dX10_verdict_112 ?_
      refine pw_aload_n (pc := 115) C 3 dX10_verdict_115 rfl rfl ?_
      refine pw_getI (pc := 116) (ref := "SupportSolver$Window") (k := 7) (index := 21) C pCl8 iX10_verdict_X10 hk7 rfl (by decide +kernel) (Or.inl rfl) dX10_verdict_116 ?_
      refine pw_calli (pc := 119) (kc2 := 0) (kn2 := 0) (pRunSU (pc := 119) (owner := RX1) (nm := "verdictOn") (ds := "(IIII)I") (n := 4) C (ctX1_verdictOn l G hZ  _ ((pI S3 x0 4) - r5) r2 (pI S6 x0 6) (pI S6 x0 7) _ h) (hZ.2.2.2.2.2.2.2.2.2.2.2.2.1) List.mem_cons_self ⟨by decide, by decide⟩ (by decide +kernel) ⟨Nat.le_of_ble_eq_true rfl, Nat.le_of_ble_eq_true rfl⟩ rfl rfl (Nat.le_of_ble_eq_true rfl) dX10_verdict_119 ⟨Nat.le_of_ble_eq_true rfl, Nat.le_of_ble_eq_true rfl⟩) rfl rfl (fun r8 S9 h => ?_)
      refine pw_mmin (pc := 122) (index := 49) C (by decide +kernel) (by decide +kernel) (by decide +kernel) (by decide +kernel) (Nat.le_of_ble_eq_true rfl) (Nat.le_of_ble_eq_true rfl) ⟨Nat.le_of_ble_eq_true rfl, Nat.le_of_ble_eq_true rfl⟩ dX10_verdict_122 ?_
      refine pw_istore_n (pc := 125) C [(3, .int (if r8 < x3 then r8 else x3)), (10, .int ((pI S3 x0 4) - r5)), (9, .int r2), (7, .long (((1108378657 : Int64) * ((pI S x0 5).toInt64)) &&& x5)), (0, .ref (G.2.2 + x0)), (1, .long x1), (4, .int x4), (5, .long x5)] dX10_verdict_125 rfl (by decide) rfl ?_
      refine pw_iincK (pc := 126) (w := 1) C [(4, .int (x4 + 1)), (3, .int (if r8 < x3 then r8 else x3)), (10, .int ((pI S3 x0 4) - r5)), (9, .int r2), (7, .long (((1108378657 : Int64) * ((pI S x0 5).toInt64)) &&& x5)), (0, .ref (G.2.2 + x0)), (1, .long x1), (5, .long x5)] 6 dX10_verdict_126 (by decide) rfl (by decide) rfl ?_
      refine pw_goto (pc := 129) (tgt := 5) C dX10_verdict_129 rfl ?_
      refine pw_sub [5, 6, 1, 0] (LV2 := [(0, .ref (G.2.2 + x0)), (1, .long x1), (3, .int (if r8 < x3 then r8 else x3)), (4, .int (x4 + 1))]) rfl ?_
      exact hK5 _ _ _ _ _ h
    · replace h := h.2 hc
      refine pw_lload (pc := 42) C 4 dX10_verdict_42 rfl ?_
      refine pw_aload_n (pc := 44) C 0 dX10_verdict_44 rfl rfl ?_
      refine pw_iload (pc := 45) C 5 dX10_verdict_45 rfl ?_
      refine pw_calli (pc := 47) (kc2 := 0) (kn2 := 0) (pRunU (pc := 47) C (ctX1_variableAt l G hZ  _ x0 x7 _ h) (va_cwU 1 C.2.2.2.2.1 gX10_verdict_X1_variableAt_u27X10 rfl rfl rfl rfl (by decide +kernel) ⟨Nat.le_of_ble_eq_true rfl, Nat.le_of_ble_eq_true rfl⟩) pCl8 hk1 rfl rfl (Nat.le_of_ble_eq_true rfl) dX10_verdict_47 ⟨Nat.le_of_ble_eq_true rfl, Nat.le_of_ble_eq_true rfl⟩) rfl rfl (fun r10 S11 h => ?_)
      refine pw_calll (pc := 50) (kc2 := 0) (kn2 := 0) (pRunS (pc := 50) C (ctX5_allOf l G hZ  _ r10 _ h) (va_cwS 1 C.2.2.2.2.1 gX10_verdict_X5_allOf rfl rfl rfl (by decide +kernel) ⟨Nat.le_of_ble_eq_true rfl, Nat.le_of_ble_eq_true rfl⟩) rfl rfl (Nat.le_of_ble_eq_true rfl) dX10_verdict_50 ⟨Nat.le_of_ble_eq_true rfl, Nat.le_of_ble_eq_true rfl⟩) rfl rfl (fun r12 S13 h => ?_)
      refine pw_lor (pc := 53) C dX10_verdict_53 ?_
      refine pw_lstore (pc := 54) C [(5, .long (x5 ||| r12)), (0, .ref (G.2.2 + x0)), (1, .long x1), (3, .int x3), (4, .int x4), (7, .int x7)] dX10_verdict_54 (by decide) rfl ?_
      refine pw_iincK (pc := 56) (w := 1) C [(7, .int (x7 + 1)), (5, .long (x5 ||| r12)), (0, .ref (G.2.2 + x0)), (1, .long x1), (3, .int x3), (4, .int x4)] 5 dX10_verdict_56 (by decide) rfl (by decide) rfl ?_
      refine pw_goto (pc := 59) (tgt := 30) C dX10_verdict_59 rfl ?_
      refine pw_sub [2, 3, 4, 5, 1, 0] (LV2 := [(0, .ref (G.2.2 + x0)), (1, .long x1), (3, .int x3), (4, .int x4), (5, .long (x5 ||| r12)), (7, .int (x7 + 1))]) rfl ?_
      exact ih _ _ _ _ _ _ _ h
set_option maxRecDepth 100000 in
set_option maxHeartbeats 4000000 in
theorem cbX10_verdict_b5 {p : Program} {l : Launch} {e : Env} {s : State} {m : MethodId} {args : Array Value} {below : List Frame} {meth : Method} {c : Code} {G : PG} {Q : Int32 → PS → Prop} (C : pCx p s m args meth c G cX10_verdict 11 yX10_verdict.cls wsX10_verdict) (hr : meth.sig.returnType = (some .int)) (hin : meth.name = yX10_verdict.name) (hZ : pZa G)  (n : Nat) : ∀ (S : PS) (x0 : Nat) (x1 : Int64) (x3 : Int32) (x4 : Int32), wpX10_verdict_b5  Q n S x0 x1 x3 x4 → PW p l e rmX10_verdict s m args below meth c (MQ below (va_Qi Q (pB G) (pFr G)) args s rmX10_verdict.cells rmX10_verdict.slots (pFr G)) G 11 S 0 0 [(0, .ref (G.2.2 + x0)), (1, .long x1), (3, .int x3), (4, .int x4)] 5 ([]) := by
  induction n with
  | zero => intro S x0 x1 x3 x4 h; exact h.elim
  | succ n ih =>
    intro S x0 x1 x3 x4 h
    unfold wpX10_verdict_b5 at h
    refine pw_iload (pc := 5) C 3 dX10_verdict_5 rfl ?_
    refine pw_aload_n (pc := 7) C 0 dX10_verdict_7 rfl rfl ?_
    obtain ⟨hk14, h⟩ := h
    refine pw_getI (pc := 8) (ref := "SupportSolver$Window") (k := 4) (index := 9) C pCl8 iX10_verdict_X10 hk14 rfl (by decide +kernel) (Or.inl rfl) dX10_verdict_8 ?_
    refine pw_iadd (pc := 11) C dX10_verdict_11 ?_
    refine pw_aload_n (pc := 12) C 0 dX10_verdict_12 rfl rfl ?_
    refine pw_getI (pc := 13) (ref := "SupportSolver$Window") (k := 1) (index := 24) C pCl8 iX10_verdict_X10 hk14 rfl (by decide +kernel) (Or.inr (by decide +kernel)) dX10_verdict_13 ?_
    refine pw_icmp_gt (pc := 16) (tgt := 132) C dX10_verdict_16 rfl ⟨fun hc => ?_, fun hc => ?_⟩
    · replace h := h.1 hc
      refine pw_iload_n (pc := 132) C 2 dX10_verdict_132 rfl rfl ?_
      exact pw_iret (pc := 133) C hr h dX10_verdict_133
    · replace h := h.2 hc
      refine pw_iload_n (pc := 19) C 2 dX10_verdict_19 rfl rfl ?_
      refine pw_if_eq (pc := 20) (tgt := 132) C dX10_verdict_20 rfl ⟨fun hc => ?_, fun hc => ?_⟩
      · replace h := h.1 hc
        refine pw_iload_n (pc := 132) C 2 dX10_verdict_132 rfl rfl ?_
        exact pw_iret (pc := 133) C hr h dX10_verdict_133
      · replace h := h.2 hc
        refine pw_lconst (pc := 23) (v := 0) C dX10_verdict_23 (by decide) ?_
        refine pw_lstore (pc := 24) C [(5, .long (0 : Int64)), (0, .ref (G.2.2 + x0)), (1, .long x1), (3, .int x3), (4, .int x4)] dX10_verdict_24 (by decide) rfl ?_
        refine pw_iload (pc := 26) C 4 dX10_verdict_26 rfl ?_
        refine pw_istore (pc := 28) C [(7, .int x4), (5, .long (0 : Int64)), (0, .ref (G.2.2 + x0)), (1, .long x1), (3, .int x3), (4, .int x4)] dX10_verdict_28 (by decide) rfl ?_
        refine pw_sub [2, 3, 4, 5, 1, 0] (LV2 := [(0, .ref (G.2.2 + x0)), (1, .long x1), (3, .int x3), (4, .int x4), (5, .long (0 : Int64)), (7, .int x4)]) rfl ?_
        obtain ⟨n9, h⟩ := h
        exact cbX10_verdict_b30 C hr hin hZ ih n9 _ _ _ _ _ _ _ h
set_option maxRecDepth 100000 in
set_option maxHeartbeats 4000000 in
theorem ctX10_verdict (l : Launch) (G : PG) (hZ : pZa G) (S : PS) (x0 : Nat) (x1 : Int64) (Q : Int32 → PS → Prop) (h : wpX10_verdict S x0 x1 Q) : mI l yX10_verdict wsX10_verdict rmX10_verdict G S [.ref (G.2.2 + x0), .long x1] Q := by
  unfold mI
  refine met_of (cc := cX10_verdict) (maxL := 11) (ret := (some .int)) (by decide) rfl (Nat.le_of_ble_eq_true rfl) ?_
  intro p e s m args below meth c C hr hin
  unfold wpX10_verdict at h
  show PW p l e _ s m args below meth c _ G 11 S 0 0 [(0, .ref (G.2.2 + x0)), (1, .long x1)] 0 []
  refine pw_iconst (pc := 0) (v := 2 ) C dX10_verdict_0 (by decide) ?_
  refine pw_istore_n (pc := 1) C [(3, .int (2 : Int32)), (0, .ref (G.2.2 + x0)), (1, .long x1)] dX10_verdict_1 rfl (by decide) rfl ?_
  refine pw_iconst (pc := 2) (v := 0 ) C dX10_verdict_2 (by decide) ?_
  refine pw_istore (pc := 3) C [(4, .int (0 : Int32)), (3, .int (2 : Int32)), (0, .ref (G.2.2 + x0)), (1, .long x1)] dX10_verdict_3 (by decide) rfl ?_
  refine pw_sub [2, 3, 1, 0] (LV2 := [(0, .ref (G.2.2 + x0)), (1, .long x1), (3, .int (2 : Int32)), (4, .int (0 : Int32))]) rfl ?_
  obtain ⟨n9, h⟩ := h
  exact cbX10_verdict_b5 C hr hin hZ  n9 _ _ _ _ _ h

abbrev rmX5_leastOfEach : Room := { frames := 1, cells := 0, slots := 0, locals := 20 }
def wpX5_leastOfEach_b5  (Q : Int64 → PS → Prop) : Nat → PS → Int64 → Int64 → Int32 → Prop
  | 0 => fun _ _ _ _ => False
  | n + 1 => fun S x0 x2 x4 => (((7 : Int32) ≤ x4 → (Q x2 S)) ∧ (¬ (7 : Int32) ≤ x4 → (wpX5_allOf S x4 (fun r1 S2 => (wpX5_leastOfEach_b5 Q n S2 x0 (x2 ||| ((x0 &&& r1) &&& (-(x0 &&& r1)))) (x4 + 1))))))
def wpX5_leastOfEach (S : PS) (x0 : Int64) (Q : Int64 → PS → Prop) : Prop := (∃ n9 : Nat, wpX5_leastOfEach_b5 Q n9 S x0 (0 : Int64) (0 : Int32))
set_option maxRecDepth 100000 in
set_option maxHeartbeats 4000000 in
theorem cbX5_leastOfEach_b5 {p : Program} {l : Launch} {e : Env} {s : State} {m : MethodId} {args : Array Value} {below : List Frame} {meth : Method} {c : Code} {G : PG} {Q : Int64 → PS → Prop} (C : pCx p s m args meth c G cX5_leastOfEach 7 yX5_leastOfEach.cls wsX5_leastOfEach) (hr : meth.sig.returnType = (some .long)) (hin : meth.name = yX5_leastOfEach.name) (hZ : pZa G)  (n : Nat) : ∀ (S : PS) (x0 : Int64) (x2 : Int64) (x4 : Int32), wpX5_leastOfEach_b5  Q n S x0 x2 x4 → PW p l e rmX5_leastOfEach s m args below meth c (MQ below (va_Ql Q (pB G) (pFr G)) args s rmX5_leastOfEach.cells rmX5_leastOfEach.slots (pFr G)) G 7 S 0 0 [(0, .long x0), (2, .long x2), (4, .int x4)] 5 ([]) := by
  induction n with
  | zero => intro S x0 x2 x4 h; exact h.elim
  | succ n ih =>
    intro S x0 x2 x4 h
    unfold wpX5_leastOfEach_b5 at h
    refine pw_iload (pc := 5) C 2 dX5_leastOfEach_5 rfl ?_
    refine pw_bipush (pc := 7) (v := 7 ) C dX5_leastOfEach_7 (by decide) ?_
    refine pw_icmp_ge (pc := 9) (tgt := 36) C dX5_leastOfEach_9 rfl ⟨fun hc => ?_, fun hc => ?_⟩
    · replace h := h.1 hc
      refine pw_lload_n (pc := 36) C 1 dX5_leastOfEach_36 rfl rfl ?_
      exact pw_lret (pc := 37) C hr h dX5_leastOfEach_37
    · replace h := h.2 hc
      refine pw_lload_n (pc := 12) C 0 dX5_leastOfEach_12 rfl rfl ?_
      refine pw_iload (pc := 13) C 2 dX5_leastOfEach_13 rfl ?_
      refine pw_calll (pc := 15) (kc2 := 0) (kn2 := 0) (pRunS (pc := 15) C (ctX5_allOf l G hZ  _ x4 _ h) (va_cwS 1 C.2.2.2.2.1 gX5_leastOfEach_X5_allOf rfl rfl rfl (by decide +kernel) ⟨Nat.le_of_ble_eq_true rfl, Nat.le_of_ble_eq_true rfl⟩) rfl rfl (Nat.le_of_ble_eq_true rfl) dX5_leastOfEach_15 ⟨Nat.le_of_ble_eq_true rfl, Nat.le_of_ble_eq_true rfl⟩) rfl rfl (fun r1 S2 h => ?_)
      refine pw_land (pc := 18) C dX5_leastOfEach_18 ?_
      refine pw_lstore (pc := 19) C [(5, .long (x0 &&& r1)), (0, .long x0), (2, .long x2), (4, .int x4)] dX5_leastOfEach_19 (by decide) rfl ?_
      refine pw_lload_n (pc := 21) C 2 dX5_leastOfEach_21 rfl rfl ?_
      refine pw_lload (pc := 22) C 0 dX5_leastOfEach_22 rfl ?_
      refine pw_lload (pc := 24) C 0 dX5_leastOfEach_24 rfl ?_
      refine pw_lneg (pc := 26) C dX5_leastOfEach_26 ?_
      refine pw_land (pc := 27) C dX5_leastOfEach_27 ?_
      refine pw_lor (pc := 28) C dX5_leastOfEach_28 ?_
      refine pw_lstore_n (pc := 29) C [(2, .long (x2 ||| ((x0 &&& r1) &&& (-(x0 &&& r1))))), (5, .long (x0 &&& r1)), (0, .long x0), (4, .int x4)] dX5_leastOfEach_29 rfl (by decide) rfl ?_
      refine pw_iincK (pc := 30) (w := 1) C [(4, .int (x4 + 1)), (2, .long (x2 ||| ((x0 &&& r1) &&& (-(x0 &&& r1))))), (5, .long (x0 &&& r1)), (0, .long x0)] 3 dX5_leastOfEach_30 (by decide) rfl (by decide) rfl ?_
      refine pw_goto (pc := 33) (tgt := 5) C dX5_leastOfEach_33 rfl ?_
      refine pw_sub [3, 1, 0] (LV2 := [(0, .long x0), (2, .long (x2 ||| ((x0 &&& r1) &&& (-(x0 &&& r1))))), (4, .int (x4 + 1))]) rfl ?_
      exact ih _ _ _ _ h
set_option maxRecDepth 100000 in
set_option maxHeartbeats 4000000 in
theorem ctX5_leastOfEach (l : Launch) (G : PG) (hZ : pZa G) (S : PS) (x0 : Int64) (Q : Int64 → PS → Prop) (h : wpX5_leastOfEach S x0 Q) : mJ l yX5_leastOfEach wsX5_leastOfEach rmX5_leastOfEach G S [.long x0] Q := by
  unfold mJ
  refine met_of (cc := cX5_leastOfEach) (maxL := 7) (ret := (some .long)) (by decide) rfl (Nat.le_of_ble_eq_true rfl) ?_
  intro p e s m args below meth c C hr hin
  unfold wpX5_leastOfEach at h
  show PW p l e _ s m args below meth c _ G 7 S 0 0 [(0, .long x0)] 0 []
  refine pw_lconst (pc := 0) (v := 0) C dX5_leastOfEach_0 (by decide) ?_
  refine pw_lstore_n (pc := 1) C [(2, .long (0 : Int64)), (0, .long x0)] dX5_leastOfEach_1 rfl (by decide) rfl ?_
  refine pw_iconst (pc := 2) (v := 0 ) C dX5_leastOfEach_2 (by decide) ?_
  refine pw_istore (pc := 3) C [(4, .int (0 : Int32)), (2, .long (0 : Int64)), (0, .long x0)] dX5_leastOfEach_3 (by decide) rfl ?_
  refine pw_sub [2, 1, 0] (LV2 := [(0, .long x0), (2, .long (0 : Int64)), (4, .int (0 : Int32))]) rfl ?_
  obtain ⟨n9, h⟩ := h
  exact cbX5_leastOfEach_b5 C hr hin hZ  n9 _ _ _ _ h

abbrev rmX5_pair : Room := { frames := 0, cells := 0, slots := 0, locals := 0 }
def wpX5_pair (S : PS) (x0 : Int32) (x1 : Int32) (Q : Int64 → PS → Prop) : Prop := (Q ((1 : Int64) <<< (((((5 : Int32) * x0) + x1)).toInt64 &&& 63)) S)
set_option maxRecDepth 100000 in
set_option maxHeartbeats 4000000 in
theorem ctX5_pair (l : Launch) (G : PG) (hZ : pZa G) (S : PS) (x0 : Int32) (x1 : Int32) (Q : Int64 → PS → Prop) (h : wpX5_pair S x0 x1 Q) : mJ l yX5_pair wsX5_pair rmX5_pair G S [.int x0, .int x1] Q := by
  unfold mJ
  refine met_of (cc := cX5_pair) (maxL := 2) (ret := (some .long)) (by decide) rfl (Nat.le_of_ble_eq_true rfl) ?_
  intro p e s m args below meth c C hr hin
  unfold wpX5_pair at h
  show PW p l e _ s m args below meth c _ G 2 S 0 0 [(0, .int x0), (1, .int x1)] 0 []
  refine pw_lconst (pc := 0) (v := 1) C dX5_pair_0 (by decide) ?_
  refine pw_iconst (pc := 1) (v := 5 ) C dX5_pair_1 (by decide) ?_
  refine pw_iload_n (pc := 2) C 0 dX5_pair_2 rfl rfl ?_
  refine pw_imul (pc := 3) C dX5_pair_3 ?_
  refine pw_iload_n (pc := 4) C 1 dX5_pair_4 rfl rfl ?_
  refine pw_iadd (pc := 5) C dX5_pair_5 ?_
  refine pw_lshl (pc := 6) C dX5_pair_6 ?_
  exact pw_lret (pc := 7) C hr h dX5_pair_7

abbrev rmX5_narrowed : Room := { frames := 1, cells := 0, slots := 0, locals := 21 }
def wpX5_narrowed (S : PS) (x0 : Int64) (x2 : Int32) (x3 : Int32) (Q : Int64 → PS → Prop) : Prop := (wpX5_allOf S x2 (fun r1 S2 => (wpX5_pair S2 x2 x3 (fun r3 S4 => (Q (x0 &&& ((r1 ^^^ (-1 : Int64)) ||| r3)) S4)))))
set_option maxRecDepth 100000 in
set_option maxHeartbeats 4000000 in
theorem ctX5_narrowed (l : Launch) (G : PG) (hZ : pZa G) (S : PS) (x0 : Int64) (x2 : Int32) (x3 : Int32) (Q : Int64 → PS → Prop) (h : wpX5_narrowed S x0 x2 x3 Q) : mJ l yX5_narrowed wsX5_narrowed rmX5_narrowed G S [.long x0, .int x2, .int x3] Q := by
  unfold mJ
  refine met_of (cc := cX5_narrowed) (maxL := 4) (ret := (some .long)) (by decide) rfl (Nat.le_of_ble_eq_true rfl) ?_
  intro p e s m args below meth c C hr hin
  unfold wpX5_narrowed at h
  show PW p l e _ s m args below meth c _ G 4 S 0 0 [(0, .long x0), (2, .int x2), (3, .int x3)] 0 []
  refine pw_lload_n (pc := 0) C 0 dX5_narrowed_0 rfl rfl ?_
  refine pw_iload_n (pc := 1) C 1 dX5_narrowed_1 rfl rfl ?_
  refine pw_calll (pc := 2) (kc2 := 0) (kn2 := 0) (pRunS (pc := 2) C (ctX5_allOf l G hZ  _ x2 _ h) (va_cwS 1 C.2.2.2.2.1 gX5_narrowed_X5_allOf rfl rfl rfl (by decide +kernel) ⟨Nat.le_of_ble_eq_true rfl, Nat.le_of_ble_eq_true rfl⟩) rfl rfl (Nat.le_of_ble_eq_true rfl) dX5_narrowed_2 ⟨Nat.le_of_ble_eq_true rfl, Nat.le_of_ble_eq_true rfl⟩) rfl rfl (fun r1 S2 h => ?_)
  refine pw_ldc2 (pc := 5) (v := (-1)) C (by decide +kernel) dX5_narrowed_5 ?_
  refine pw_lxor (pc := 8) C dX5_narrowed_8 ?_
  refine pw_iload_n (pc := 9) C 1 dX5_narrowed_9 rfl rfl ?_
  refine pw_iload_n (pc := 10) C 2 dX5_narrowed_10 rfl rfl ?_
  refine pw_calll (pc := 11) (kc2 := 0) (kn2 := 0) (pRunS (pc := 11) C (ctX5_pair l G hZ  _ x2 x3 _ h) (va_cwS 2 C.2.2.2.2.1 gX5_narrowed_X5_pair rfl rfl rfl (by decide +kernel) ⟨Nat.le_of_ble_eq_true rfl, Nat.le_of_ble_eq_true rfl⟩) rfl rfl (Nat.le_of_ble_eq_true rfl) dX5_narrowed_11 ⟨Nat.le_of_ble_eq_true rfl, Nat.le_of_ble_eq_true rfl⟩) rfl rfl (fun r3 S4 h => ?_)
  refine pw_lor (pc := 14) C dX5_narrowed_14 ?_
  refine pw_land (pc := 15) C dX5_narrowed_15 ?_
  exact pw_lret (pc := 16) C hr h dX5_narrowed_16

abbrev rmX11_isValue : Room := { frames := 0, cells := 0, slots := 0, locals := 0 }
def wpX11_isValue (S : PS) (x0 : Int32) (Q : Int32 → PS → Prop) : Prop := ((x0 < 0 → (Q (0 : Int32) S)) ∧ (¬ x0 < 0 → (((5 : Int32) ≤ x0 → (Q (0 : Int32) S)) ∧ (¬ (5 : Int32) ≤ x0 → (Q (1 : Int32) S)))))
set_option maxRecDepth 100000 in
set_option maxHeartbeats 4000000 in
theorem ctX11_isValue (l : Launch) (G : PG) (hZ : pZa G) (S : PS) (x0 : Int32) (Q : Int32 → PS → Prop) (h : wpX11_isValue S x0 Q) : mI l yX11_isValue wsX11_isValue rmX11_isValue G S [.int x0] Q := by
  unfold mI
  refine met_of (cc := cX11_isValue) (maxL := 1) (ret := (some .boolean)) (by decide) rfl (Nat.le_of_ble_eq_true rfl) ?_
  intro p e s m args below meth c C hr hin
  unfold wpX11_isValue at h
  show PW p l e _ s m args below meth c _ G 1 S 0 0 [(0, .int x0)] 0 []
  refine pw_iload_n (pc := 0) C 0 dX11_isValue_0 rfl rfl ?_
  refine pw_if_lt (pc := 1) (tgt := 13) C dX11_isValue_1 rfl ⟨fun hc => ?_, fun hc => ?_⟩
  · replace h := h.1 hc
    refine pw_iconst (pc := 13) (v := 0 ) C dX11_isValue_13 (by decide) ?_
    exact pw_zret (pc := 14) C hr rfl h dX11_isValue_14
  · replace h := h.2 hc
    refine pw_iload_n (pc := 4) C 0 dX11_isValue_4 rfl rfl ?_
    refine pw_iconst (pc := 5) (v := 5 ) C dX11_isValue_5 (by decide) ?_
    refine pw_icmp_ge (pc := 6) (tgt := 13) C dX11_isValue_6 rfl ⟨fun hc => ?_, fun hc => ?_⟩
    · replace h := h.1 hc
      refine pw_iconst (pc := 13) (v := 0 ) C dX11_isValue_13 (by decide) ?_
      exact pw_zret (pc := 14) C hr rfl h dX11_isValue_14
    · replace h := h.2 hc
      refine pw_iconst (pc := 9) (v := 1 ) C dX11_isValue_9 (by decide) ?_
      refine pw_goto (pc := 10) (tgt := 14) C dX11_isValue_10 rfl ?_
      exact pw_zret (pc := 14) C hr rfl h dX11_isValue_14

abbrev rmX2_hasCount : Room := { frames := 1, cells := 0, slots := 0, locals := 20 }
theorem iX2_hasCount_X2 : ∀ w ∈ u_ws RX2 TX2 7, w ∈ wsX2_hasCount := fun _ h => List.mem_cons_of_mem _ (List.mem_append_right _ h)
def wpX2_hasCount (S : PS) (x0 : Nat) (x1 : Int32) (Q : Int32 → PS → Prop) : Prop := (wpX11_isValue S x1 (fun r1 S2 => ((r1 = 0 → (Q (0 : Int32) S2)) ∧ (¬ r1 = 0 → (pK S2 x0 = 2 ∧ (((((((pI S2 x0 6)).toUInt32 >>> ((x1).toUInt32 &&& Int32.toUInt32 31)).toInt32) &&& (1 : Int32)) = 0 → (Q (0 : Int32) S2)) ∧ (¬ (((((pI S2 x0 6)).toUInt32 >>> ((x1).toUInt32 &&& Int32.toUInt32 31)).toInt32) &&& (1 : Int32)) = 0 → (Q (1 : Int32) S2))))))))
set_option maxRecDepth 100000 in
set_option maxHeartbeats 4000000 in
theorem ctX2_hasCount (l : Launch) (G : PG) (hZ : pZa G) (S : PS) (x0 : Nat) (x1 : Int32) (Q : Int32 → PS → Prop) (h : wpX2_hasCount S x0 x1 Q) : mI l yX2_hasCount wsX2_hasCount rmX2_hasCount G S [.ref (G.2.2 + x0), .int x1] Q := by
  unfold mI
  refine met_of (cc := cX2_hasCount) (maxL := 2) (ret := (some .boolean)) (by decide) rfl (Nat.le_of_ble_eq_true rfl) ?_
  intro p e s m args below meth c C hr hin
  unfold wpX2_hasCount at h
  show PW p l e _ s m args below meth c _ G 2 S 0 0 [(0, .ref (G.2.2 + x0)), (1, .int x1)] 0 []
  refine pw_iload_n (pc := 0) C 1 dX2_hasCount_0 rfl rfl ?_
  refine pw_calli (pc := 1) (kc2 := 0) (kn2 := 0) (pRunSN (pc := 1) C (ctX11_isValue l G hZ  _ x1 _ h) 1 gX2_hasCount_X11_isValue_n21 rfl (hZ.1) (by decide +kernel) (by decide +kernel) (by decide +kernel) ⟨Nat.le_of_ble_eq_true rfl, Nat.le_of_ble_eq_true rfl⟩ rfl rfl (Nat.le_of_ble_eq_true rfl) dX2_hasCount_1 ⟨Nat.le_of_ble_eq_true rfl, Nat.le_of_ble_eq_true rfl⟩) rfl rfl (fun r1 S2 h => ?_)
  refine pw_if_eq (pc := 4) (tgt := 22) C dX2_hasCount_4 rfl ⟨fun hc => ?_, fun hc => ?_⟩
  · replace h := h.1 hc
    refine pw_iconst (pc := 22) (v := 0 ) C dX2_hasCount_22 (by decide) ?_
    exact pw_zret (pc := 23) C hr rfl h dX2_hasCount_23
  · replace h := h.2 hc
    refine pw_aload_n (pc := 7) C 0 dX2_hasCount_7 rfl rfl ?_
    obtain ⟨hk3, h⟩ := h
    refine pw_getI (pc := 8) (ref := "SupportSolver$Counts") (k := 6) (index := 18) C pCl1 iX2_hasCount_X2 hk3 rfl (by decide +kernel) (Or.inl rfl) dX2_hasCount_8 ?_
    refine pw_iload_n (pc := 11) C 1 dX2_hasCount_11 rfl rfl ?_
    refine pw_iushr (pc := 12) C dX2_hasCount_12 ?_
    refine pw_iconst (pc := 13) (v := 1 ) C dX2_hasCount_13 (by decide) ?_
    refine pw_iand (pc := 14) C dX2_hasCount_14 ?_
    refine pw_if_eq (pc := 15) (tgt := 22) C dX2_hasCount_15 rfl ⟨fun hc => ?_, fun hc => ?_⟩
    · replace h := h.1 hc
      refine pw_iconst (pc := 22) (v := 0 ) C dX2_hasCount_22 (by decide) ?_
      exact pw_zret (pc := 23) C hr rfl h dX2_hasCount_23
    · replace h := h.2 hc
      refine pw_iconst (pc := 18) (v := 1 ) C dX2_hasCount_18 (by decide) ?_
      refine pw_goto (pc := 19) (tgt := 23) C dX2_hasCount_19 rfl ?_
      exact pw_zret (pc := 23) C hr rfl h dX2_hasCount_23

abbrev rmX2_alike : Room := { frames := 2, cells := 0, slots := 0, locals := 41 }
theorem iX2_alike_X2 : ∀ w ∈ u_ws RX2 TX2 7, w ∈ wsX2_alike := fun _ h => List.mem_cons_of_mem _ (List.mem_append_right _ h)
def wpX2_alike (S : PS) (x0 : Nat) (x1 : Int32) (Q : Int32 → PS → Prop) : Prop := (pK S x0 = 2 ∧ (wpX2_hasCount S x0 x1 (fun r2 S3 => ((r2 = 0 → (pK S3 x0 = 2 ∧ (Q ((31 : Int32) &&& ((pI S3 x0 6) ^^^ (-1 : Int32))) S3))) ∧ (¬ r2 = 0 → (Q ((1 : Int32) <<< (x1 &&& 31)) S3))))))
set_option maxRecDepth 100000 in
set_option maxHeartbeats 4000000 in
theorem ctX2_alike (l : Launch) (G : PG) (hZ : pZa G) (S : PS) (x0 : Nat) (x1 : Int32) (Q : Int32 → PS → Prop) (h : wpX2_alike S x0 x1 Q) : mI l yX2_alike wsX2_alike rmX2_alike G S [.ref (G.2.2 + x0), .int x1] Q := by
  unfold mI
  refine met_of (cc := cX2_alike) (maxL := 2) (ret := (some .int)) (by decide) rfl (Nat.le_of_ble_eq_true rfl) ?_
  intro p e s m args below meth c C hr hin
  unfold wpX2_alike at h
  show PW p l e _ s m args below meth c _ G 2 S 0 0 [(0, .ref (G.2.2 + x0)), (1, .int x1)] 0 []
  refine pw_aload_n (pc := 0) C 0 dX2_alike_0 rfl rfl ?_
  refine pw_iload_n (pc := 1) C 1 dX2_alike_1 rfl rfl ?_
  obtain ⟨hk1, h⟩ := h
  refine pw_calli (pc := 2) (kc2 := 0) (kn2 := 0) (pRunV (pc := 2) C (ctX2_hasCount l G hZ  _ x0 x1 _ h) (cwV 1 C.2.2.2.2.1 gX2_alike_X2_hasCount rfl rfl rfl (by decide +kernel) ⟨Nat.le_of_ble_eq_true rfl, Nat.le_of_ble_eq_true rfl⟩) pCl1 hk1 rfl rfl (Nat.le_of_ble_eq_true rfl) dX2_alike_2 ⟨Nat.le_of_ble_eq_true rfl, Nat.le_of_ble_eq_true rfl⟩) rfl rfl (fun r2 S3 h => ?_)
  refine pw_if_eq (pc := 5) (tgt := 14) C dX2_alike_5 rfl ⟨fun hc => ?_, fun hc => ?_⟩
  · replace h := h.1 hc
    refine pw_bipush (pc := 14) (v := 31 ) C dX2_alike_14 (by decide) ?_
    refine pw_aload_n (pc := 16) C 0 dX2_alike_16 rfl rfl ?_
    obtain ⟨hk4, h⟩ := h
    refine pw_getI (pc := 17) (ref := "SupportSolver$Counts") (k := 6) (index := 18) C pCl1 iX2_alike_X2 hk4 rfl (by decide +kernel) (Or.inl rfl) dX2_alike_17 ?_
    refine pw_iconst (pc := 20) (v := (-1)) C dX2_alike_20 (by decide) ?_
    refine pw_ixor (pc := 21) C dX2_alike_21 ?_
    refine pw_iand (pc := 22) C dX2_alike_22 ?_
    exact pw_iret (pc := 23) C hr h dX2_alike_23
  · replace h := h.2 hc
    refine pw_iconst (pc := 8) (v := 1 ) C dX2_alike_8 (by decide) ?_
    refine pw_iload_n (pc := 9) C 1 dX2_alike_9 rfl rfl ?_
    refine pw_ishl (pc := 10) C dX2_alike_10 ?_
    refine pw_goto (pc := 11) (tgt := 23) C dX2_alike_11 rfl ?_
    exact pw_iret (pc := 23) C hr h dX2_alike_23

abbrev rmX4_alike : Room := { frames := 0, cells := 0, slots := 0, locals := 0 }
def wpX4_alike (S : PS) (x0 : Nat) (x1 : Int32) (Q : Int32 → PS → Prop) : Prop := (Q ((1 : Int32) <<< (x1 &&& 31)) S)
set_option maxRecDepth 100000 in
set_option maxHeartbeats 4000000 in
theorem ctX4_alike (l : Launch) (G : PG) (hZ : pZa G) (S : PS) (x0 : Nat) (x1 : Int32) (Q : Int32 → PS → Prop) (h : wpX4_alike S x0 x1 Q) : mI l yX4_alike wsX4_alike rmX4_alike G S [.ref (G.2.2 + x0), .int x1] Q := by
  unfold mI
  refine met_of (cc := cX4_alike) (maxL := 2) (ret := (some .int)) (by decide) rfl (Nat.le_of_ble_eq_true rfl) ?_
  intro p e s m args below meth c C hr hin
  unfold wpX4_alike at h
  show PW p l e _ s m args below meth c _ G 2 S 0 0 [(0, .ref (G.2.2 + x0)), (1, .int x1)] 0 []
  refine pw_iconst (pc := 0) (v := 1 ) C dX4_alike_0 (by decide) ?_
  refine pw_iload_n (pc := 1) C 1 dX4_alike_1 rfl rfl ?_
  refine pw_ishl (pc := 2) C dX4_alike_2 ?_
  exact pw_iret (pc := 3) C hr h dX4_alike_3

abbrev rmX10_alike : Room := { frames := 0, cells := 0, slots := 0, locals := 0 }
theorem iX10_alike_X10 : ∀ w ∈ u_ws RX10 TX10 8, w ∈ wsX10_alike := fun _ h => List.mem_cons_of_mem _ (List.mem_append_right _ h)
def wpX10_alike (S : PS) (x0 : Nat) (x1 : Int32) (Q : Int32 → PS → Prop) : Prop := (pK S x0 = 9 ∧ (((((((pI S x0 5)).toUInt32 >>> ((x1).toUInt32 &&& Int32.toUInt32 31)).toInt32) &&& (1 : Int32)) = 0 → (Q ((31 : Int32) &&& ((pI S x0 5) ^^^ (-1 : Int32))) S)) ∧ (¬ (((((pI S x0 5)).toUInt32 >>> ((x1).toUInt32 &&& Int32.toUInt32 31)).toInt32) &&& (1 : Int32)) = 0 → (Q (pI S x0 5) S))))
set_option maxRecDepth 100000 in
set_option maxHeartbeats 4000000 in
theorem ctX10_alike (l : Launch) (G : PG) (hZ : pZa G) (S : PS) (x0 : Nat) (x1 : Int32) (Q : Int32 → PS → Prop) (h : wpX10_alike S x0 x1 Q) : mI l yX10_alike wsX10_alike rmX10_alike G S [.ref (G.2.2 + x0), .int x1] Q := by
  unfold mI
  refine met_of (cc := cX10_alike) (maxL := 2) (ret := (some .int)) (by decide) rfl (Nat.le_of_ble_eq_true rfl) ?_
  intro p e s m args below meth c C hr hin
  unfold wpX10_alike at h
  show PW p l e _ s m args below meth c _ G 2 S 0 0 [(0, .ref (G.2.2 + x0)), (1, .int x1)] 0 []
  refine pw_aload_n (pc := 0) C 0 dX10_alike_0 rfl rfl ?_
  obtain ⟨hk1, h⟩ := h
  refine pw_getI (pc := 1) (ref := "SupportSolver$Window") (k := 5) (index := 15) C pCl8 iX10_alike_X10 hk1 rfl (by decide +kernel) (Or.inl rfl) dX10_alike_1 ?_
  refine pw_iload_n (pc := 4) C 1 dX10_alike_4 rfl rfl ?_
  refine pw_iushr (pc := 5) C dX10_alike_5 ?_
  refine pw_iconst (pc := 6) (v := 1 ) C dX10_alike_6 (by decide) ?_
  refine pw_iand (pc := 7) C dX10_alike_7 ?_
  refine pw_if_eq (pc := 8) (tgt := 18) C dX10_alike_8 rfl ⟨fun hc => ?_, fun hc => ?_⟩
  · replace h := h.1 hc
    refine pw_bipush (pc := 18) (v := 31 ) C dX10_alike_18 (by decide) ?_
    refine pw_aload_n (pc := 20) C 0 dX10_alike_20 rfl rfl ?_
    refine pw_getI (pc := 21) (ref := "SupportSolver$Window") (k := 5) (index := 15) C pCl8 iX10_alike_X10 hk1 rfl (by decide +kernel) (Or.inl rfl) dX10_alike_21 ?_
    refine pw_iconst (pc := 24) (v := (-1)) C dX10_alike_24 (by decide) ?_
    refine pw_ixor (pc := 25) C dX10_alike_25 ?_
    refine pw_iand (pc := 26) C dX10_alike_26 ?_
    exact pw_iret (pc := 27) C hr h dX10_alike_27
  · replace h := h.2 hc
    refine pw_aload_n (pc := 11) C 0 dX10_alike_11 rfl rfl ?_
    refine pw_getI (pc := 12) (ref := "SupportSolver$Window") (k := 5) (index := 15) C pCl8 iX10_alike_X10 hk1 rfl (by decide +kernel) (Or.inl rfl) dX10_alike_12 ?_
    refine pw_goto (pc := 15) (tgt := 27) C dX10_alike_15 rfl ?_
    exact pw_iret (pc := 27) C hr h dX10_alike_27

def wpC_verdict (S : PS) (x0 : Nat) (x1 : Int64) (Q : Int32 → PS → Prop) : Prop := (pK S x0 = 1 → wpX0_verdict S x0 x1 Q) ∧ (pK S x0 = 2 → wpX2_verdict S x0 x1 Q) ∧ (pK S x0 = 4 → wpX4_verdict S x0 x1 Q) ∧ (pK S x0 = 9 → wpX10_verdict S x0 x1 Q)
def wpC_alike (S : PS) (x0 : Nat) (x1 : Int32) (Q : Int32 → PS → Prop) : Prop := (pK S x0 = 1 → wpX0_alike S x0 x1 Q) ∧ (pK S x0 = 2 → wpX2_alike S x0 x1 Q) ∧ (pK S x0 = 4 → wpX4_alike S x0 x1 Q) ∧ (pK S x0 = 9 → wpX10_alike S x0 x1 Q)
def rmX1_leastFrom (d : Nat) : Room := { frames := 3 + d, cells := 0, slots := 0, locals := 74 + d * 29 }
theorem iX1_leastFrom_X0 : ∀ w ∈ u_ws RX0 TX0 4, w ∈ wsX1_leastFrom := by decide +kernel
theorem iX1_leastFrom_X10 : ∀ w ∈ u_ws RX10 TX10 8, w ∈ wsX1_leastFrom := fun _ h => List.mem_cons_of_mem _ (List.mem_append_right _ h)
theorem iX1_leastFrom_X2 : ∀ w ∈ u_ws RX2 TX2 7, w ∈ wsX1_leastFrom := by decide +kernel
theorem iX1_leastFrom_X4 : ∀ w ∈ u_ws RX4 TX4 5, w ∈ wsX1_leastFrom := by decide +kernel
def wpX1_leastFrom_b28 (Rc : PS → Nat → Int64 → Int32 → (Int64 → PS → Prop) → Prop) (Q : Int64 → PS → Prop) (S : PS) (x0 : Nat) (x1 : Int64) (x3 : Int32) (x4 : Int32) : Prop := (pC4 S x0 ∧ (wpX5_leastOfEach S (x1 &&& (pJ S x0 2)) (fun r2 S3 => (wpJ13_bitCount_95d88 S3 r2 (fun r4 S5 => (pC4 S5 x0 ∧ ((¬ r4 = (pI S5 x0 1) → (Q (0 : Int64) S5)) ∧ (r4 = (pI S5 x0 1) → (Q r2 S5)))))))))
def wpX1_leastFrom_b76 (Rc : PS → Nat → Int64 → Int32 → (Int64 → PS → Prop) → Prop) (Q : Int64 → PS → Prop) : Nat → PS → Nat → Int64 → Int32 → Int32 → Int32 → Int32 → Int32 → Prop
  | 0 => fun _ _ _ _ _ _ _ _ => False
  | n + 1 => fun S x0 x1 x3 x4 x5 x6 x7 => (((5 : Int32) ≤ x7 → (Q (0 : Int64) S)) ∧ (¬ (5 : Int32) ≤ x7 → ((((((x6).toUInt32 >>> ((x7).toUInt32 &&& Int32.toUInt32 31)).toInt32) &&& (1 : Int32)) = 0 → (wpX1_leastFrom_b76 Rc Q n S x0 x1 x3 x4 x5 x6 (x7 + 1))) ∧ (¬ ((((x6).toUInt32 >>> ((x7).toUInt32 &&& Int32.toUInt32 31)).toInt32) &&& (1 : Int32)) = 0 → (wpX5_narrowed S x1 x5 x7 (fun r7 S8 => (Rc S8 x0 r7 (x3 + (1 : Int32)) (fun r9 S10 => (((lg_cmp r9 (0 : Int64)) = 0 → (pC4 S10 x0 ∧ (wpC_alike S10 x0 x7 (fun r12 S13 => (wpX1_leastFrom_b76 Rc Q n S13 x0 x1 x3 x4 x5 (x6 &&& (r12 ^^^ (-1 : Int32))) (x7 + 1)))))) ∧ (¬ (lg_cmp r9 (0 : Int64)) = 0 → (Q r9 S10)))))))))))
def wpX1_leastFrom : Nat → PS → Nat → Int64 → Int32 → (Int64 → PS → Prop) → Prop
  | 0 => fun _ _ _ _ _ => False
  | d + 1 => fun S x0 x1 x3 Q => (pC4 S x0 ∧ (wpC_verdict S x0 x1 (fun r15 S16 => ((¬ r15 = 0 → ((r15 = (2 : Int32) → (wpX1_leastFrom_b28 (wpX1_leastFrom d) Q S16 x0 x1 x3 r15)) ∧ (¬ r15 = (2 : Int32) → (pC4 S16 x0 ∧ ((x3 < (pI S16 x0 1) → (wpX1_variableAt S16 x0 x3 (fun r18 S19 => (wpX5_valuesOf S19 x1 r18 (fun r20 S21 => (∃ n9 : Nat, wpX1_leastFrom_b76 (wpX1_leastFrom d) Q n9 S21 x0 x1 x3 r15 r18 r20 (0 : Int32))))))) ∧ (¬ x3 < (pI S16 x0 1) → (wpX1_leastFrom_b28 (wpX1_leastFrom d) Q S16 x0 x1 x3 r15))))))) ∧ (r15 = 0 → (Q (0 : Int64) S16))))))
set_option maxRecDepth 100000 in
set_option maxHeartbeats 4000000 in
theorem rnX1_leastFrom_124 (d : Nat) {p : Program} {l : Launch} {e : Env} {s : State} {m : MethodId} {args : Array Value} {below : List Frame} {meth : Method} {c : Code} {G : PG} (C : pCx p s m args meth c G cX1_leastFrom 10 yX1_leastFrom.cls wsX1_leastFrom) (hZ : pZa G) (S : PS) (x : Nat) (a0 : Int32) (Q : Int32 → PS → Prop) (hk : pC4 S x) (h : wpC_alike S x a0 Q) {LV : List (Nat × Value)} {st : List Value} (hw : (st.map fun v => v.category).sum ≤ 8) : PRun p l e (rmX1_leastFrom (d + 1)) s m args below meth c G 10 S 0 0 0 0 LV 124 (.int a0 :: .ref (G.2.2 + x) :: st) st (va_Qi Q (pB G) (pFr G) (.ref (G.2.2 + x) :: [.int a0]).toArray) := by
  rcases hk with hk | hk | hk | hk
  · exact pRunU (pc := 124) (kc := 0) (kn := 0) C (ctX0_alike l G hZ _ x a0 _ (h.1 hk)) (va_cwA 1 C.2.2.2.2.1 gX1_leastFrom_X0_alike_u60X0 rfl rfl rfl ((hZ.2.2.2.2.2.2.2.2.2.2.1) s s.heap C.2.2.2.2.2.2.2.2.1) (by decide +kernel) ⟨(by show 0 + 1 ≤ 3 + (d + 1); omega), (by show 8 + (2 + 11) + 0 ≤ 74 + (d + 1) * 29; omega)⟩) pCl0 hk rfl rfl hw dX1_leastFrom_124 ⟨Nat.le_of_ble_eq_true rfl, Nat.le_of_ble_eq_true rfl⟩
  · exact pRunU (pc := 124) (kc := 0) (kn := 0) C (ctX2_alike l G hZ _ x a0 _ (h.2.1 hk)) (va_cwA 1 C.2.2.2.2.1 gX1_leastFrom_X2_alike_u60X2 rfl rfl rfl ((hZ.2.2.2.2.2.2.2.2.2.2.1) s s.heap C.2.2.2.2.2.2.2.2.1) (by decide +kernel) ⟨(by show 2 + 1 ≤ 3 + (d + 1); omega), (by show 8 + (2 + 11) + 41 ≤ 74 + (d + 1) * 29; omega)⟩) pCl1 hk rfl rfl hw dX1_leastFrom_124 ⟨Nat.le_of_ble_eq_true rfl, Nat.le_of_ble_eq_true rfl⟩
  · exact pRunU (pc := 124) (kc := 0) (kn := 0) C (ctX4_alike l G hZ _ x a0 _ (h.2.2.1 hk)) (va_cwA 1 C.2.2.2.2.1 gX1_leastFrom_X4_alike_u60X4 rfl rfl rfl ((hZ.2.2.2.2.2.2.2.2.2.2.1) s s.heap C.2.2.2.2.2.2.2.2.1) (by decide +kernel) ⟨(by show 0 + 1 ≤ 3 + (d + 1); omega), (by show 8 + (2 + 11) + 0 ≤ 74 + (d + 1) * 29; omega)⟩) pCl3 hk rfl rfl hw dX1_leastFrom_124 ⟨Nat.le_of_ble_eq_true rfl, Nat.le_of_ble_eq_true rfl⟩
  · exact pRunU (pc := 124) (kc := 0) (kn := 0) C (ctX10_alike l G hZ _ x a0 _ (h.2.2.2 hk)) (va_cwA 1 C.2.2.2.2.1 gX1_leastFrom_X10_alike_u60X10 rfl rfl rfl ((hZ.2.2.2.2.2.2.2.2.2.2.1) s s.heap C.2.2.2.2.2.2.2.2.1) (by decide +kernel) ⟨(by show 0 + 1 ≤ 3 + (d + 1); omega), (by show 8 + (2 + 11) + 0 ≤ 74 + (d + 1) * 29; omega)⟩) pCl8 hk rfl rfl hw dX1_leastFrom_124 ⟨Nat.le_of_ble_eq_true rfl, Nat.le_of_ble_eq_true rfl⟩
set_option maxRecDepth 100000 in
set_option maxHeartbeats 4000000 in
theorem rnX1_leastFrom_2 (d : Nat) {p : Program} {l : Launch} {e : Env} {s : State} {m : MethodId} {args : Array Value} {below : List Frame} {meth : Method} {c : Code} {G : PG} (C : pCx p s m args meth c G cX1_leastFrom 10 yX1_leastFrom.cls wsX1_leastFrom) (hZ : pZa G) (S : PS) (x : Nat) (a0 : Int64) (Q : Int32 → PS → Prop) (hk : pC4 S x) (h : wpC_verdict S x a0 Q) {LV : List (Nat × Value)} {st : List Value} (hw : (st.map fun v => v.category).sum ≤ 8) : PRun p l e (rmX1_leastFrom (d + 1)) s m args below meth c G 10 S 0 0 0 0 LV 2 (.long a0 :: .ref (G.2.2 + x) :: st) st (va_Qi Q (pB G) (pFr G) (.ref (G.2.2 + x) :: [.long a0]).toArray) := by
  rcases hk with hk | hk | hk | hk
  · exact pRunU (pc := 2) (kc := 0) (kn := 0) C (ctX0_verdict l G hZ _ x a0 _ (h.1 hk)) (va_cwA 1 C.2.2.2.2.1 gX1_leastFrom_X0_verdict_u31X0 rfl rfl rfl ((hZ.2.2.2.2.2.2.2.2.2.1) s s.heap C.2.2.2.2.2.2.2.2.1) (by decide +kernel) ⟨(by show 1 + 1 ≤ 3 + (d + 1); omega), (by show 8 + (5 + 11) + 23 ≤ 74 + (d + 1) * 29; omega)⟩) pCl0 hk rfl rfl hw dX1_leastFrom_2 ⟨Nat.le_of_ble_eq_true rfl, Nat.le_of_ble_eq_true rfl⟩
  · exact pRunU (pc := 2) (kc := 0) (kn := 0) C (ctX2_verdict l G hZ _ x a0 _ (h.2.1 hk)) (va_cwA 1 C.2.2.2.2.1 gX1_leastFrom_X2_verdict_u31X2 rfl rfl rfl ((hZ.2.2.2.2.2.2.2.2.2.1) s s.heap C.2.2.2.2.2.2.2.2.1) (by decide +kernel) ⟨(by show 2 + 1 ≤ 3 + (d + 1); omega), (by show 8 + (13 + 11) + 42 ≤ 74 + (d + 1) * 29; omega)⟩) pCl1 hk rfl rfl hw dX1_leastFrom_2 ⟨Nat.le_of_ble_eq_true rfl, Nat.le_of_ble_eq_true rfl⟩
  · exact pRunU (pc := 2) (kc := 0) (kn := 0) C (ctX4_verdict l G hZ _ x a0 _ (h.2.2.1 hk)) (va_cwA 1 C.2.2.2.2.1 gX1_leastFrom_X4_verdict_u31X4 rfl rfl rfl ((hZ.2.2.2.2.2.2.2.2.2.1) s s.heap C.2.2.2.2.2.2.2.2.1) (by decide +kernel) ⟨(by show 0 + 1 ≤ 3 + (d + 1); omega), (by show 8 + (3 + 11) + 0 ≤ 74 + (d + 1) * 29; omega)⟩) pCl3 hk rfl rfl hw dX1_leastFrom_2 ⟨Nat.le_of_ble_eq_true rfl, Nat.le_of_ble_eq_true rfl⟩
  · exact pRunU (pc := 2) (kc := 0) (kn := 0) C (ctX10_verdict l G hZ _ x a0 _ (h.2.2.2 hk)) (va_cwA 1 C.2.2.2.2.1 gX1_leastFrom_X10_verdict_u31X10 rfl rfl rfl ((hZ.2.2.2.2.2.2.2.2.2.1) s s.heap C.2.2.2.2.2.2.2.2.1) (by decide +kernel) ⟨(by show 2 + 1 ≤ 3 + (d + 1); omega), (by show 8 + (11 + 11) + 42 ≤ 74 + (d + 1) * 29; omega)⟩) pCl8 hk rfl rfl hw dX1_leastFrom_2 ⟨Nat.le_of_ble_eq_true rfl, Nat.le_of_ble_eq_true rfl⟩
set_option maxRecDepth 100000 in
set_option maxHeartbeats 4000000 in
theorem rnX1_leastFrom_60 (d : Nat) {p : Program} {l : Launch} {e : Env} {s : State} {m : MethodId} {args : Array Value} {below : List Frame} {meth : Method} {c : Code} {G : PG} (C : pCx p s m args meth c G cX1_leastFrom 10 yX1_leastFrom.cls wsX1_leastFrom) (hZ : pZa G) (S : PS) (x : Nat) (a0 : Int32) (Q : Int32 → PS → Prop) (hk : pC4 S x) (h : wpX1_variableAt S x a0 Q) {LV : List (Nat × Value)} {st : List Value} (hw : (st.map fun v => v.category).sum ≤ 8) : PRun p l e (rmX1_leastFrom (d + 1)) s m args below meth c G 10 S 0 0 0 0 LV 60 (.int a0 :: .ref (G.2.2 + x) :: st) st (va_Qi Q (pB G) (pFr G) (.ref (G.2.2 + x) :: [.int a0]).toArray) := by
  rcases hk with hk | hk | hk | hk
  · exact pRunU (pc := 60) (kc := 0) (kn := 0) C (ctX1_variableAt l G hZ _ x a0 _ h) (va_cwU 1 C.2.2.2.2.1 gX1_leastFrom_X1_variableAt_u44X0 rfl rfl rfl rfl (by decide +kernel) ⟨(by show 0 + 1 ≤ 3 + (d + 1); omega), (by show 8 + (2 + 11) + 0 ≤ 74 + (d + 1) * 29; omega)⟩) pCl0 hk rfl rfl hw dX1_leastFrom_60 ⟨Nat.le_of_ble_eq_true rfl, Nat.le_of_ble_eq_true rfl⟩
  · exact pRunU (pc := 60) (kc := 0) (kn := 0) C (ctX1_variableAt l G hZ _ x a0 _ h) (va_cwU 1 C.2.2.2.2.1 gX1_leastFrom_X1_variableAt_u44X2 rfl rfl rfl rfl (by decide +kernel) ⟨(by show 0 + 1 ≤ 3 + (d + 1); omega), (by show 8 + (2 + 11) + 0 ≤ 74 + (d + 1) * 29; omega)⟩) pCl1 hk rfl rfl hw dX1_leastFrom_60 ⟨Nat.le_of_ble_eq_true rfl, Nat.le_of_ble_eq_true rfl⟩
  · exact pRunU (pc := 60) (kc := 0) (kn := 0) C (ctX1_variableAt l G hZ _ x a0 _ h) (va_cwU 1 C.2.2.2.2.1 gX1_leastFrom_X1_variableAt_u44X4 rfl rfl rfl rfl (by decide +kernel) ⟨(by show 0 + 1 ≤ 3 + (d + 1); omega), (by show 8 + (2 + 11) + 0 ≤ 74 + (d + 1) * 29; omega)⟩) pCl3 hk rfl rfl hw dX1_leastFrom_60 ⟨Nat.le_of_ble_eq_true rfl, Nat.le_of_ble_eq_true rfl⟩
  · exact pRunU (pc := 60) (kc := 0) (kn := 0) C (ctX1_variableAt l G hZ _ x a0 _ h) (va_cwU 1 C.2.2.2.2.1 gX1_leastFrom_X1_variableAt_u44X10 rfl rfl rfl rfl (by decide +kernel) ⟨(by show 0 + 1 ≤ 3 + (d + 1); omega), (by show 8 + (2 + 11) + 0 ≤ 74 + (d + 1) * 29; omega)⟩) pCl8 hk rfl rfl hw dX1_leastFrom_60 ⟨Nat.le_of_ble_eq_true rfl, Nat.le_of_ble_eq_true rfl⟩
set_option maxRecDepth 100000 in
set_option maxHeartbeats 4000000 in
theorem cbX1_leastFrom_b28 {p : Program} {l : Launch} {e : Env} {s : State} {m : MethodId} {args : Array Value} {below : List Frame} {meth : Method} {c : Code} {G : PG} {Q : Int64 → PS → Prop} (C : pCx p s m args meth c G cX1_leastFrom 10 yX1_leastFrom.cls wsX1_leastFrom) (hr : meth.sig.returnType = (some .long)) (hin : meth.name = yX1_leastFrom.name) (hZ : pZa G) (d : Nat) {Rc : PS → Nat → Int64 → Int32 → (Int64 → PS → Prop) → Prop} (hRc : ∀ (S : PS) (x0 : Nat) (x1 : Int64) (x3 : Int32) (Q : Int64 → PS → Prop), Rc S x0 x1 x3 Q → mJ l yX1_leastFrom wsX1_leastFrom (rmX1_leastFrom d) G S [.ref (G.2.2 + x0), .long x1, .int x3] Q)  : ∀ (S : PS) (x0 : Nat) (x1 : Int64) (x3 : Int32) (x4 : Int32), wpX1_leastFrom_b28 Rc Q S x0 x1 x3 x4 → PW p l e (rmX1_leastFrom (d + 1)) s m args below meth c (MQ below (va_Ql Q (pB G) (pFr G)) args s (rmX1_leastFrom (d + 1)).cells (rmX1_leastFrom (d + 1)).slots (pFr G)) G 10 S 0 0 [(0, .ref (G.2.2 + x0)), (1, .long x1), (3, .int x3), (4, .int x4)] 28 ([]) := by
  intro S x0 x1 x3 x4 h
  unfold wpX1_leastFrom_b28 at h
  refine pw_lload_n (pc := 28) C 1 dX1_leastFrom_28 rfl rfl ?_
  refine pw_aload_n (pc := 29) C 0 dX1_leastFrom_29 rfl rfl ?_
  obtain ⟨hk1, h⟩ := h
  refine pw_getCJ (pc := 30) (k := 2) (index := 15) C hk1 iX1_leastFrom_X0 iX1_leastFrom_X2 iX1_leastFrom_X4 iX1_leastFrom_X10 rfl (by decide +kernel) dX1_leastFrom_30 ?_
  refine pw_land (pc := 33) C dX1_leastFrom_33 ?_
  refine pw_calll (pc := 34) (kc2 := 0) (kn2 := 0) (pRunS (pc := 34) C (ctX5_leastOfEach l G hZ  _ (x1 &&& (pJ S x0 2)) _ h) (va_cwS 1 C.2.2.2.2.1 gX1_leastFrom_X5_leastOfEach rfl rfl rfl (by decide +kernel) ⟨(by show 1 + 1 ≤ 3 + (d + 1); omega), (by show 8 + (7 + 11) + 20 ≤ 74 + (d + 1) * 29; omega)⟩) rfl rfl (Nat.le_of_ble_eq_true rfl) dX1_leastFrom_34 ⟨Nat.le_of_ble_eq_true rfl, Nat.le_of_ble_eq_true rfl⟩) rfl rfl (fun r2 S3 h => ?_)
  refine pw_lstore (pc := 37) C [(5, .long r2), (0, .ref (G.2.2 + x0)), (1, .long x1), (3, .int x3), (4, .int x4)] dX1_leastFrom_37 (by decide) rfl ?_
  refine pw_lload (pc := 39) C 0 dX1_leastFrom_39 rfl ?_
  refine pw_calli (pc := 41) (kc2 := 0) (kn2 := 0) (pRunS (pc := 41) C (ctJ13_bitCount_95d88 l G  _ r2 _ h) (va_cwS 1 C.2.2.2.2.1 gX1_leastFrom_J13_bitCount_95d88 rfl rfl rfl (by decide +kernel) ⟨(by show 0 + 1 ≤ 3 + (d + 1); omega), (by show 8 + (2 + 11) + 0 ≤ 74 + (d + 1) * 29; omega)⟩) rfl rfl (Nat.le_of_ble_eq_true rfl) dX1_leastFrom_41 ⟨Nat.le_of_ble_eq_true rfl, Nat.le_of_ble_eq_true rfl⟩) rfl rfl (fun r4 S5 h => ?_)
  refine pw_aload_n (pc := 44) C 1 dX1_leastFrom_44 rfl rfl ?_
  obtain ⟨hk6, h⟩ := h
  refine pw_getCI (pc := 45) (k := 1) (index := 9) C hk6 iX1_leastFrom_X0 iX1_leastFrom_X2 iX1_leastFrom_X4 iX1_leastFrom_X10 (by decide) (by decide +kernel) dX1_leastFrom_45 ?_
  refine pw_icmp_ne (pc := 48) (tgt := 56) C dX1_leastFrom_48 rfl ⟨fun hc => ?_, fun hc => ?_⟩
  · replace h := h.1 hc
    refine pw_lconst (pc := 56) (v := 0) C dX1_leastFrom_56 (by decide) ?_
    exact pw_lret (pc := 57) C hr h dX1_leastFrom_57
  · replace h := h.2 hc
    refine pw_lload (pc := 51) C 0 dX1_leastFrom_51 rfl ?_
    refine pw_goto (pc := 53) (tgt := 57) C dX1_leastFrom_53 rfl ?_
    exact pw_lret (pc := 57) C hr h dX1_leastFrom_57
set_option maxRecDepth 100000 in
set_option maxHeartbeats 4000000 in
theorem cbX1_leastFrom_b76 {p : Program} {l : Launch} {e : Env} {s : State} {m : MethodId} {args : Array Value} {below : List Frame} {meth : Method} {c : Code} {G : PG} {Q : Int64 → PS → Prop} (C : pCx p s m args meth c G cX1_leastFrom 10 yX1_leastFrom.cls wsX1_leastFrom) (hr : meth.sig.returnType = (some .long)) (hin : meth.name = yX1_leastFrom.name) (hZ : pZa G) (d : Nat) {Rc : PS → Nat → Int64 → Int32 → (Int64 → PS → Prop) → Prop} (hRc : ∀ (S : PS) (x0 : Nat) (x1 : Int64) (x3 : Int32) (Q : Int64 → PS → Prop), Rc S x0 x1 x3 Q → mJ l yX1_leastFrom wsX1_leastFrom (rmX1_leastFrom d) G S [.ref (G.2.2 + x0), .long x1, .int x3] Q)  (n : Nat) : ∀ (S : PS) (x0 : Nat) (x1 : Int64) (x3 : Int32) (x4 : Int32) (x5 : Int32) (x6 : Int32) (x7 : Int32), wpX1_leastFrom_b76 Rc Q n S x0 x1 x3 x4 x5 x6 x7 → PW p l e (rmX1_leastFrom (d + 1)) s m args below meth c (MQ below (va_Ql Q (pB G) (pFr G)) args s (rmX1_leastFrom (d + 1)).cells (rmX1_leastFrom (d + 1)).slots (pFr G)) G 10 S 0 0 [(0, .ref (G.2.2 + x0)), (1, .long x1), (3, .int x3), (4, .int x4), (5, .int x5), (6, .int x6), (7, .int x7)] 76 ([]) := by
  induction n with
  | zero => intro S x0 x1 x3 x4 x5 x6 x7 h; exact h.elim
  | succ n ih =>
    intro S x0 x1 x3 x4 x5 x6 x7 h
    unfold wpX1_leastFrom_b76 at h
    refine pw_iload (pc := 76) C 6 dX1_leastFrom_76 rfl ?_
    refine pw_iconst (pc := 78) (v := 5 ) C dX1_leastFrom_78 (by decide) ?_
    refine pw_icmp_ge (pc := 79) (tgt := 138) C dX1_leastFrom_79 rfl ⟨fun hc => ?_, fun hc => ?_⟩
    · replace h := h.1 hc
      refine pw_lconst (pc := 138) (v := 0) C dX1_leastFrom_138 (by decide) ?_
      exact pw_lret (pc := 139) C hr h dX1_leastFrom_139
    · replace h := h.2 hc
      refine pw_iload (pc := 82) C 5 dX1_leastFrom_82 rfl ?_
      refine pw_iload (pc := 84) C 6 dX1_leastFrom_84 rfl ?_
      refine pw_iushr (pc := 86) C dX1_leastFrom_86 ?_
      refine pw_iconst (pc := 87) (v := 1 ) C dX1_leastFrom_87 (by decide) ?_
      refine pw_iand (pc := 88) C dX1_leastFrom_88 ?_
      refine pw_if_eq (pc := 89) (tgt := 132) C dX1_leastFrom_89 rfl ⟨fun hc => ?_, fun hc => ?_⟩
      · replace h := h.1 hc
        refine pw_iincK (pc := 132) (w := 1) C [(7, .int (x7 + 1)), (0, .ref (G.2.2 + x0)), (1, .long x1), (3, .int x3), (4, .int x4), (5, .int x5), (6, .int x6)] 6 dX1_leastFrom_132 (by decide) rfl (by decide) rfl ?_
        refine pw_goto (pc := 135) (tgt := 76) C dX1_leastFrom_135 rfl ?_
        refine pw_sub [1, 2, 3, 4, 5, 6, 0] (LV2 := [(0, .ref (G.2.2 + x0)), (1, .long x1), (3, .int x3), (4, .int x4), (5, .int x5), (6, .int x6), (7, .int (x7 + 1))]) rfl ?_
        exact ih _ _ _ _ _ _ _ _ h
      · replace h := h.2 hc
        refine pw_aload_n (pc := 92) C 0 dX1_leastFrom_92 rfl rfl ?_
        refine pw_lload_n (pc := 93) C 1 dX1_leastFrom_93 rfl rfl ?_
        refine pw_iload (pc := 94) C 4 dX1_leastFrom_94 rfl ?_
        refine pw_iload (pc := 96) C 6 dX1_leastFrom_96 rfl ?_
        refine pw_calll (pc := 98) (kc2 := 0) (kn2 := 0) (pRunS (pc := 98) C (ctX5_narrowed l G hZ  _ x1 x5 x7 _ h) (va_cwS 3 C.2.2.2.2.1 gX1_leastFrom_X5_narrowed rfl rfl rfl (by decide +kernel) ⟨(by show 1 + 1 ≤ 3 + (d + 1); omega), (by show 8 + (4 + 11) + 21 ≤ 74 + (d + 1) * 29; omega)⟩) rfl rfl (Nat.le_of_ble_eq_true rfl) dX1_leastFrom_98 ⟨Nat.le_of_ble_eq_true rfl, Nat.le_of_ble_eq_true rfl⟩) rfl rfl (fun r7 S8 h => ?_)
        refine pw_iload_n (pc := 101) C 2 dX1_leastFrom_101 rfl rfl ?_
        refine pw_iconst (pc := 102) (v := 1 ) C dX1_leastFrom_102 (by decide) ?_
        refine pw_iadd (pc := 103) C dX1_leastFrom_103 ?_
        refine pw_calll (pc := 104) (kc2 := 0) (kn2 := 0) (pRunS (pc := 104) C (hRc _ x0 r7 (x3 + (1 : Int32)) _ h) (va_cwS 3 C.2.2.2.2.1 gX1_leastFrom_X1_leastFrom rfl rfl rfl (by decide +kernel) ⟨(by show 3 + d + 1 ≤ 3 + (d + 1); omega), (by show 8 + (10 + 11) + (74 + d * 29) ≤ 74 + (d + 1) * 29; omega)⟩) rfl rfl (Nat.le_of_ble_eq_true rfl) dX1_leastFrom_104 ⟨Nat.le_of_ble_eq_true rfl, Nat.le_of_ble_eq_true rfl⟩) rfl rfl (fun r9 S10 h => ?_)
        refine pw_lstore (pc := 107) C [(8, .long r9), (0, .ref (G.2.2 + x0)), (1, .long x1), (3, .int x3), (4, .int x4), (5, .int x5), (6, .int x6), (7, .int x7)] dX1_leastFrom_107 (by decide) rfl ?_
        refine pw_lload (pc := 109) C 0 dX1_leastFrom_109 rfl ?_
        refine pw_lconst (pc := 111) (v := 0) C dX1_leastFrom_111 (by decide) ?_
        refine pw_lcmp (pc := 112) C dX1_leastFrom_112 ?_
        refine pw_if_eq (pc := 113) (tgt := 119) C dX1_leastFrom_113 rfl ⟨fun hc => ?_, fun hc => ?_⟩
        · replace h := h.1 hc
          refine pw_iload (pc := 119) C 6 dX1_leastFrom_119 rfl ?_
          refine pw_aload_n (pc := 121) C 1 dX1_leastFrom_121 rfl rfl ?_
          refine pw_iload (pc := 122) C 7 dX1_leastFrom_122 rfl ?_
          obtain ⟨hk11, h⟩ := h
          refine pw_calli (pc := 124) (kc2 := 0) (kn2 := 0) (rnX1_leastFrom_124 d C hZ _ x0 x7 _ hk11 h (Nat.le_of_ble_eq_true rfl)) rfl rfl (fun r12 S13 h => ?_)
          refine pw_iconst (pc := 127) (v := (-1)) C dX1_leastFrom_127 (by decide) ?_
          refine pw_ixor (pc := 128) C dX1_leastFrom_128 ?_
          refine pw_iand (pc := 129) C dX1_leastFrom_129 ?_
          refine pw_istore (pc := 130) C [(6, .int (x6 &&& (r12 ^^^ (-1 : Int32)))), (8, .long r9), (0, .ref (G.2.2 + x0)), (1, .long x1), (3, .int x3), (4, .int x4), (5, .int x5), (7, .int x7)] dX1_leastFrom_130 (by decide) rfl ?_
          refine pw_iincK (pc := 132) (w := 1) C [(7, .int (x7 + 1)), (6, .int (x6 &&& (r12 ^^^ (-1 : Int32)))), (8, .long r9), (0, .ref (G.2.2 + x0)), (1, .long x1), (3, .int x3), (4, .int x4), (5, .int x5)] 7 dX1_leastFrom_132 (by decide) rfl (by decide) rfl ?_
          refine pw_goto (pc := 135) (tgt := 76) C dX1_leastFrom_135 rfl ?_
          refine pw_sub [3, 4, 5, 6, 7, 1, 0] (LV2 := [(0, .ref (G.2.2 + x0)), (1, .long x1), (3, .int x3), (4, .int x4), (5, .int x5), (6, .int (x6 &&& (r12 ^^^ (-1 : Int32)))), (7, .int (x7 + 1))]) rfl ?_
          exact ih _ _ _ _ _ _ _ _ h
        · replace h := h.2 hc
          refine pw_lload (pc := 116) C 0 dX1_leastFrom_116 rfl ?_
          exact pw_lret (pc := 118) C hr h dX1_leastFrom_118
set_option maxRecDepth 100000 in
set_option maxHeartbeats 4000000 in
theorem ctX1_leastFrom (d : Nat) (l : Launch) (G : PG) (hZ : pZa G) : ∀ (S : PS) (x0 : Nat) (x1 : Int64) (x3 : Int32) (Q : Int64 → PS → Prop), wpX1_leastFrom d S x0 x1 x3 Q → mJ l yX1_leastFrom wsX1_leastFrom (rmX1_leastFrom d) G S [.ref (G.2.2 + x0), .long x1, .int x3] Q := by
  induction d with
  | zero => intro S x0 x1 x3 Q h; exact h.elim
  | succ d hRc =>
    intro S x0 x1 x3 Q h
    unfold mJ
    refine met_of (cc := cX1_leastFrom) (maxL := 10) (ret := (some .long)) (by decide) rfl (Nat.le_of_ble_eq_true rfl) ?_
    intro p e s m args below meth c C hr hin
    unfold wpX1_leastFrom at h
    show PW p l e _ s m args below meth c _ G 10 S 0 0 [(0, .ref (G.2.2 + x0)), (1, .long x1), (3, .int x3)] 0 []
    refine pw_aload_n (pc := 0) C 0 dX1_leastFrom_0 rfl rfl ?_
    refine pw_lload_n (pc := 1) C 1 dX1_leastFrom_1 rfl rfl ?_
    obtain ⟨hk14, h⟩ := h
    refine pw_calli (pc := 2) (kc2 := 0) (kn2 := 0) (rnX1_leastFrom_2 d C hZ _ x0 x1 _ hk14 h (Nat.le_of_ble_eq_true rfl)) rfl rfl (fun r15 S16 h => ?_)
    refine pw_istore (pc := 5) C [(4, .int r15), (0, .ref (G.2.2 + x0)), (1, .long x1), (3, .int x3)] dX1_leastFrom_5 (by decide) rfl ?_
    refine pw_iload (pc := 7) C 0 dX1_leastFrom_7 rfl ?_
    refine pw_if_ne (pc := 9) (tgt := 14) C dX1_leastFrom_9 rfl ⟨fun hc => ?_, fun hc => ?_⟩
    · replace h := h.1 hc
      refine pw_iload (pc := 14) C 0 dX1_leastFrom_14 rfl ?_
      refine pw_iconst (pc := 16) (v := 2 ) C dX1_leastFrom_16 (by decide) ?_
      refine pw_icmp_eq (pc := 17) (tgt := 28) C dX1_leastFrom_17 rfl ⟨fun hc => ?_, fun hc => ?_⟩
      · replace h := h.1 hc
        refine pw_sub [1, 2, 3, 0] (LV2 := [(0, .ref (G.2.2 + x0)), (1, .long x1), (3, .int x3), (4, .int r15)]) rfl ?_
        exact cbX1_leastFrom_b28 C hr hin hZ d hRc  _ _ _ _ _ h
      · replace h := h.2 hc
        refine pw_iload_n (pc := 20) C 3 dX1_leastFrom_20 rfl rfl ?_
        refine pw_aload_n (pc := 21) C 1 dX1_leastFrom_21 rfl rfl ?_
        obtain ⟨hk17, h⟩ := h
        refine pw_getCI (pc := 22) (k := 1) (index := 9) C hk17 iX1_leastFrom_X0 iX1_leastFrom_X2 iX1_leastFrom_X4 iX1_leastFrom_X10 (by decide) (by decide +kernel) dX1_leastFrom_22 ?_
        refine pw_icmp_lt (pc := 25) (tgt := 58) C dX1_leastFrom_25 rfl ⟨fun hc => ?_, fun hc => ?_⟩
        · replace h := h.1 hc
          refine pw_aload_n (pc := 58) C 1 dX1_leastFrom_58 rfl rfl ?_
          refine pw_iload_n (pc := 59) C 3 dX1_leastFrom_59 rfl rfl ?_
          refine pw_calli (pc := 60) (kc2 := 0) (kn2 := 0) (rnX1_leastFrom_60 d C hZ _ x0 x3 _ hk17 h (Nat.le_of_ble_eq_true rfl)) rfl rfl (fun r18 S19 h => ?_)
          refine pw_istore (pc := 63) C [(5, .int r18), (4, .int r15), (0, .ref (G.2.2 + x0)), (1, .long x1), (3, .int x3)] dX1_leastFrom_63 (by decide) rfl ?_
          refine pw_lload_n (pc := 65) C 3 dX1_leastFrom_65 rfl rfl ?_
          refine pw_iload (pc := 66) C 0 dX1_leastFrom_66 rfl ?_
          refine pw_calli (pc := 68) (kc2 := 0) (kn2 := 0) (pRunS (pc := 68) C (ctX5_valuesOf l G hZ  _ x1 r18 _ h) (va_cwS 2 C.2.2.2.2.1 gX1_leastFrom_X5_valuesOf rfl rfl rfl (by decide +kernel) ⟨(by show 0 + 1 ≤ 3 + (d + 1); omega), (by show 8 + (3 + 11) + 0 ≤ 74 + (d + 1) * 29; omega)⟩) rfl rfl (Nat.le_of_ble_eq_true rfl) dX1_leastFrom_68 ⟨Nat.le_of_ble_eq_true rfl, Nat.le_of_ble_eq_true rfl⟩) rfl rfl (fun r20 S21 h => ?_)
          refine pw_istore (pc := 71) C [(6, .int r20), (5, .int r18), (4, .int r15), (0, .ref (G.2.2 + x0)), (1, .long x1), (3, .int x3)] dX1_leastFrom_71 (by decide) rfl ?_
          refine pw_iconst (pc := 73) (v := 0 ) C dX1_leastFrom_73 (by decide) ?_
          refine pw_istore (pc := 74) C [(7, .int (0 : Int32)), (6, .int r20), (5, .int r18), (4, .int r15), (0, .ref (G.2.2 + x0)), (1, .long x1), (3, .int x3)] dX1_leastFrom_74 (by decide) rfl ?_
          refine pw_sub [4, 5, 6, 3, 2, 1, 0] (LV2 := [(0, .ref (G.2.2 + x0)), (1, .long x1), (3, .int x3), (4, .int r15), (5, .int r18), (6, .int r20), (7, .int (0 : Int32))]) rfl ?_
          obtain ⟨n9, h⟩ := h
          exact cbX1_leastFrom_b76 C hr hin hZ d hRc  n9 _ _ _ _ _ _ _ _ h
        · replace h := h.2 hc
          refine pw_sub [1, 2, 3, 0] (LV2 := [(0, .ref (G.2.2 + x0)), (1, .long x1), (3, .int x3), (4, .int r15)]) rfl ?_
          exact cbX1_leastFrom_b28 C hr hin hZ d hRc  _ _ _ _ _ h
    · replace h := h.2 hc
      refine pw_lconst (pc := 12) (v := 0) C dX1_leastFrom_12 (by decide) ?_
      exact pw_lret (pc := 13) C hr h dX1_leastFrom_13

abbrev rmX5_assignments : Room := { frames := 1, cells := 0, slots := 0, locals := 22 }
def wpX5_assignments_b6  (Q : Int32 → PS → Prop) : Nat → PS → Int64 → Int64 → Int32 → Int32 → Prop
  | 0 => fun _ _ _ _ _ => False
  | n + 1 => fun S x0 x2 x4 x5 => (((7 : Int32) ≤ x5 → (Q x4 S)) ∧ (¬ (7 : Int32) ≤ x5 → (wpX5_allOf S x5 (fun r1 S2 => (((lg_cmp (x2 &&& r1) (0 : Int64)) = 0 → (wpX5_assignments_b6 Q n S2 x0 x2 x4 (x5 + 1))) ∧ (¬ (lg_cmp (x2 &&& r1) (0 : Int64)) = 0 → (wpX5_valuesOf S2 x0 x5 (fun r3 S4 => (wpJ6_bitCount_0f7a4 S4 r3 (fun r5 S6 => (wpX5_assignments_b6 Q n S6 x0 x2 (x4 * r5) (x5 + 1))))))))))))
def wpX5_assignments (S : PS) (x0 : Int64) (x2 : Int64) (Q : Int32 → PS → Prop) : Prop := (∃ n9 : Nat, wpX5_assignments_b6 Q n9 S x0 x2 (1 : Int32) (0 : Int32))
set_option maxRecDepth 100000 in
set_option maxHeartbeats 4000000 in
theorem cbX5_assignments_b6 {p : Program} {l : Launch} {e : Env} {s : State} {m : MethodId} {args : Array Value} {below : List Frame} {meth : Method} {c : Code} {G : PG} {Q : Int32 → PS → Prop} (C : pCx p s m args meth c G cX5_assignments 6 yX5_assignments.cls wsX5_assignments) (hr : meth.sig.returnType = (some .int)) (hin : meth.name = yX5_assignments.name) (hZ : pZa G)  (n : Nat) : ∀ (S : PS) (x0 : Int64) (x2 : Int64) (x4 : Int32) (x5 : Int32), wpX5_assignments_b6  Q n S x0 x2 x4 x5 → PW p l e rmX5_assignments s m args below meth c (MQ below (va_Qi Q (pB G) (pFr G)) args s rmX5_assignments.cells rmX5_assignments.slots (pFr G)) G 6 S 0 0 [(0, .long x0), (2, .long x2), (4, .int x4), (5, .int x5)] 6 ([]) := by
  induction n with
  | zero => intro S x0 x2 x4 x5 h; exact h.elim
  | succ n ih =>
    intro S x0 x2 x4 x5 h
    unfold wpX5_assignments_b6 at h
    refine pw_iload (pc := 6) C 3 dX5_assignments_6 rfl ?_
    refine pw_bipush (pc := 8) (v := 7 ) C dX5_assignments_8 (by decide) ?_
    refine pw_icmp_ge (pc := 10) (tgt := 45) C dX5_assignments_10 rfl ⟨fun hc => ?_, fun hc => ?_⟩
    · replace h := h.1 hc
      refine pw_iload (pc := 45) C 2 dX5_assignments_45 rfl ?_
      exact pw_iret (pc := 47) C hr h dX5_assignments_47
    · replace h := h.2 hc
      refine pw_lload_n (pc := 13) C 1 dX5_assignments_13 rfl rfl ?_
      refine pw_iload (pc := 14) C 3 dX5_assignments_14 rfl ?_
      refine pw_calll (pc := 16) (kc2 := 0) (kn2 := 0) (pRunS (pc := 16) C (ctX5_allOf l G hZ  _ x5 _ h) (va_cwS 1 C.2.2.2.2.1 gX5_assignments_X5_allOf rfl rfl rfl (by decide +kernel) ⟨Nat.le_of_ble_eq_true rfl, Nat.le_of_ble_eq_true rfl⟩) rfl rfl (Nat.le_of_ble_eq_true rfl) dX5_assignments_16 ⟨Nat.le_of_ble_eq_true rfl, Nat.le_of_ble_eq_true rfl⟩) rfl rfl (fun r1 S2 h => ?_)
      refine pw_land (pc := 19) C dX5_assignments_19 ?_
      refine pw_lconst (pc := 20) (v := 0) C dX5_assignments_20 (by decide) ?_
      refine pw_lcmp (pc := 21) C dX5_assignments_21 ?_
      refine pw_if_eq (pc := 22) (tgt := 39) C dX5_assignments_22 rfl ⟨fun hc => ?_, fun hc => ?_⟩
      · replace h := h.1 hc
        refine pw_iincK (pc := 39) (w := 1) C [(5, .int (x5 + 1)), (0, .long x0), (2, .long x2), (4, .int x4)] 3 dX5_assignments_39 (by decide) rfl (by decide) rfl ?_
        refine pw_goto (pc := 42) (tgt := 6) C dX5_assignments_42 rfl ?_
        refine pw_sub [1, 2, 3, 0] (LV2 := [(0, .long x0), (2, .long x2), (4, .int x4), (5, .int (x5 + 1))]) rfl ?_
        exact ih _ _ _ _ _ h
      · replace h := h.2 hc
        refine pw_iload (pc := 25) C 2 dX5_assignments_25 rfl ?_
        refine pw_lload_n (pc := 27) C 0 dX5_assignments_27 rfl rfl ?_
        refine pw_iload (pc := 28) C 3 dX5_assignments_28 rfl ?_
        refine pw_calli (pc := 30) (kc2 := 0) (kn2 := 0) (pRunS (pc := 30) C (ctX5_valuesOf l G hZ  _ x0 x5 _ h) (va_cwS 2 C.2.2.2.2.1 gX5_assignments_X5_valuesOf rfl rfl rfl (by decide +kernel) ⟨Nat.le_of_ble_eq_true rfl, Nat.le_of_ble_eq_true rfl⟩) rfl rfl (Nat.le_of_ble_eq_true rfl) dX5_assignments_30 ⟨Nat.le_of_ble_eq_true rfl, Nat.le_of_ble_eq_true rfl⟩) rfl rfl (fun r3 S4 h => ?_)
        refine pw_calli (pc := 33) (kc2 := 0) (kn2 := 0) (pRunS (pc := 33) C (ctJ6_bitCount_0f7a4 l G  _ r3 _ h) (va_cwS 1 C.2.2.2.2.1 gX5_assignments_J6_bitCount_0f7a4 rfl rfl rfl (by decide +kernel) ⟨Nat.le_of_ble_eq_true rfl, Nat.le_of_ble_eq_true rfl⟩) rfl rfl (Nat.le_of_ble_eq_true rfl) dX5_assignments_33 ⟨Nat.le_of_ble_eq_true rfl, Nat.le_of_ble_eq_true rfl⟩) rfl rfl (fun r5 S6 h => ?_)
        refine pw_imul (pc := 36) C dX5_assignments_36 ?_
        refine pw_istore (pc := 37) C [(4, .int (x4 * r5)), (0, .long x0), (2, .long x2), (5, .int x5)] dX5_assignments_37 (by decide) rfl ?_
        refine pw_iincK (pc := 39) (w := 1) C [(5, .int (x5 + 1)), (4, .int (x4 * r5)), (0, .long x0), (2, .long x2)] 3 dX5_assignments_39 (by decide) rfl (by decide) rfl ?_
        refine pw_goto (pc := 42) (tgt := 6) C dX5_assignments_42 rfl ?_
        refine pw_sub [2, 3, 1, 0] (LV2 := [(0, .long x0), (2, .long x2), (4, .int (x4 * r5)), (5, .int (x5 + 1))]) rfl ?_
        exact ih _ _ _ _ _ h
set_option maxRecDepth 100000 in
set_option maxHeartbeats 4000000 in
theorem ctX5_assignments (l : Launch) (G : PG) (hZ : pZa G) (S : PS) (x0 : Int64) (x2 : Int64) (Q : Int32 → PS → Prop) (h : wpX5_assignments S x0 x2 Q) : mI l yX5_assignments wsX5_assignments rmX5_assignments G S [.long x0, .long x2] Q := by
  unfold mI
  refine met_of (cc := cX5_assignments) (maxL := 6) (ret := (some .int)) (by decide) rfl (Nat.le_of_ble_eq_true rfl) ?_
  intro p e s m args below meth c C hr hin
  unfold wpX5_assignments at h
  show PW p l e _ s m args below meth c _ G 6 S 0 0 [(0, .long x0), (2, .long x2)] 0 []
  refine pw_iconst (pc := 0) (v := 1 ) C dX5_assignments_0 (by decide) ?_
  refine pw_istore (pc := 1) C [(4, .int (1 : Int32)), (0, .long x0), (2, .long x2)] dX5_assignments_1 (by decide) rfl ?_
  refine pw_iconst (pc := 3) (v := 0 ) C dX5_assignments_3 (by decide) ?_
  refine pw_istore (pc := 4) C [(5, .int (0 : Int32)), (4, .int (1 : Int32)), (0, .long x0), (2, .long x2)] dX5_assignments_4 (by decide) rfl ?_
  refine pw_sub [2, 3, 1, 0] (LV2 := [(0, .long x0), (2, .long x2), (4, .int (1 : Int32)), (5, .int (0 : Int32))]) rfl ?_
  obtain ⟨n9, h⟩ := h
  exact cbX5_assignments_b6 C hr hin hZ  n9 _ _ _ _ _ h

def rmX1_countFrom (d : Nat) : Room := { frames := 3 + d, cells := 0, slots := 0, locals := 74 + d * 31 }
theorem iX1_countFrom_X0 : ∀ w ∈ u_ws RX0 TX0 4, w ∈ wsX1_countFrom := by decide +kernel
theorem iX1_countFrom_X10 : ∀ w ∈ u_ws RX10 TX10 8, w ∈ wsX1_countFrom := fun _ h => List.mem_cons_of_mem _ (List.mem_append_right _ h)
theorem iX1_countFrom_X2 : ∀ w ∈ u_ws RX2 TX2 7, w ∈ wsX1_countFrom := by decide +kernel
theorem iX1_countFrom_X4 : ∀ w ∈ u_ws RX4 TX4 5, w ∈ wsX1_countFrom := by decide +kernel
def wpX1_countFrom_b28 (Rc : PS → Nat → Int64 → Int32 → (Int32 → PS → Prop) → Prop) (Q : Int32 → PS → Prop) (S : PS) (x0 : Nat) (x1 : Int64) (x3 : Int32) (x4 : Int32) : Prop := (pC4 S x0 ∧ (wpX5_assignments S x1 (pJ S x0 2) (fun r2 S3 => (Q r2 S3))))
def wpX1_countFrom_b58 (Rc : PS → Nat → Int64 → Int32 → (Int32 → PS → Prop) → Prop) (Q : Int32 → PS → Prop) : Nat → PS → Nat → Int64 → Int32 → Int32 → Int32 → Int32 → Int32 → Int32 → Prop
  | 0 => fun _ _ _ _ _ _ _ _ _ => False
  | n + 1 => fun S x0 x1 x3 x4 x5 x6 x7 x8 => (((5 : Int32) ≤ x8 → (Q x7 S)) ∧ (¬ (5 : Int32) ≤ x8 → ((((((x6).toUInt32 >>> ((x8).toUInt32 &&& Int32.toUInt32 31)).toInt32) &&& (1 : Int32)) = 0 → (wpX1_countFrom_b58 Rc Q n S x0 x1 x3 x4 x5 x6 x7 (x8 + 1))) ∧ (¬ ((((x6).toUInt32 >>> ((x8).toUInt32 &&& Int32.toUInt32 31)).toInt32) &&& (1 : Int32)) = 0 → (pC4 S x0 ∧ (wpC_alike S x0 x8 (fun r5 S6 => (wpX5_narrowed S6 x1 x5 x8 (fun r7 S8 => (wpJ6_bitCount_0f7a4 S8 (x6 &&& r5) (fun r9 S10 => (Rc S10 x0 r7 (x3 + (1 : Int32)) (fun r11 S12 => (wpX1_countFrom_b58 Rc Q n S12 x0 x1 x3 x4 x5 (x6 &&& ((x6 &&& r5) ^^^ (-1 : Int32))) (x7 + (r9 * r11)) (x8 + 1)))))))))))))))
def wpX1_countFrom : Nat → PS → Nat → Int64 → Int32 → (Int32 → PS → Prop) → Prop
  | 0 => fun _ _ _ _ _ => False
  | d + 1 => fun S x0 x1 x3 Q => (pC4 S x0 ∧ (wpC_verdict S x0 x1 (fun r14 S15 => ((¬ r14 = 0 → ((r14 = (2 : Int32) → (wpX1_countFrom_b28 (wpX1_countFrom d) Q S15 x0 x1 x3 r14)) ∧ (¬ r14 = (2 : Int32) → (pC4 S15 x0 ∧ ((x3 < (pI S15 x0 1) → (wpX1_variableAt S15 x0 x3 (fun r17 S18 => (wpX5_valuesOf S18 x1 r17 (fun r19 S20 => (∃ n9 : Nat, wpX1_countFrom_b58 (wpX1_countFrom d) Q n9 S20 x0 x1 x3 r14 r17 r19 (0 : Int32) (0 : Int32))))))) ∧ (¬ x3 < (pI S15 x0 1) → (wpX1_countFrom_b28 (wpX1_countFrom d) Q S15 x0 x1 x3 r14))))))) ∧ (r14 = 0 → (Q (0 : Int32) S15))))))
set_option maxRecDepth 100000 in
set_option maxHeartbeats 4000000 in
theorem rnX1_countFrom_79 (d : Nat) {p : Program} {l : Launch} {e : Env} {s : State} {m : MethodId} {args : Array Value} {below : List Frame} {meth : Method} {c : Code} {G : PG} (C : pCx p s m args meth c G cX1_countFrom 12 yX1_countFrom.cls wsX1_countFrom) (hZ : pZa G) (S : PS) (x : Nat) (a0 : Int32) (Q : Int32 → PS → Prop) (hk : pC4 S x) (h : wpC_alike S x a0 Q) {LV : List (Nat × Value)} {st : List Value} (hw : (st.map fun v => v.category).sum ≤ 8) : PRun p l e (rmX1_countFrom (d + 1)) s m args below meth c G 12 S 0 0 0 0 LV 79 (.int a0 :: .ref (G.2.2 + x) :: st) st (va_Qi Q (pB G) (pFr G) (.ref (G.2.2 + x) :: [.int a0]).toArray) := by
  rcases hk with hk | hk | hk | hk
  · exact pRunU (pc := 79) (kc := 0) (kn := 0) C (ctX0_alike l G hZ _ x a0 _ (h.1 hk)) (va_cwA 1 C.2.2.2.2.1 gX1_countFrom_X0_alike_u60X0 rfl rfl rfl ((hZ.2.2.2.2.2.2.2.2.2.2.1) s s.heap C.2.2.2.2.2.2.2.2.1) (by decide +kernel) ⟨(by show 0 + 1 ≤ 3 + (d + 1); omega), (by show 8 + (2 + 11) + 0 ≤ 74 + (d + 1) * 31; omega)⟩) pCl0 hk rfl rfl hw dX1_countFrom_79 ⟨Nat.le_of_ble_eq_true rfl, Nat.le_of_ble_eq_true rfl⟩
  · exact pRunU (pc := 79) (kc := 0) (kn := 0) C (ctX2_alike l G hZ _ x a0 _ (h.2.1 hk)) (va_cwA 1 C.2.2.2.2.1 gX1_countFrom_X2_alike_u60X2 rfl rfl rfl ((hZ.2.2.2.2.2.2.2.2.2.2.1) s s.heap C.2.2.2.2.2.2.2.2.1) (by decide +kernel) ⟨(by show 2 + 1 ≤ 3 + (d + 1); omega), (by show 8 + (2 + 11) + 41 ≤ 74 + (d + 1) * 31; omega)⟩) pCl1 hk rfl rfl hw dX1_countFrom_79 ⟨Nat.le_of_ble_eq_true rfl, Nat.le_of_ble_eq_true rfl⟩
  · exact pRunU (pc := 79) (kc := 0) (kn := 0) C (ctX4_alike l G hZ _ x a0 _ (h.2.2.1 hk)) (va_cwA 1 C.2.2.2.2.1 gX1_countFrom_X4_alike_u60X4 rfl rfl rfl ((hZ.2.2.2.2.2.2.2.2.2.2.1) s s.heap C.2.2.2.2.2.2.2.2.1) (by decide +kernel) ⟨(by show 0 + 1 ≤ 3 + (d + 1); omega), (by show 8 + (2 + 11) + 0 ≤ 74 + (d + 1) * 31; omega)⟩) pCl3 hk rfl rfl hw dX1_countFrom_79 ⟨Nat.le_of_ble_eq_true rfl, Nat.le_of_ble_eq_true rfl⟩
  · exact pRunU (pc := 79) (kc := 0) (kn := 0) C (ctX10_alike l G hZ _ x a0 _ (h.2.2.2 hk)) (va_cwA 1 C.2.2.2.2.1 gX1_countFrom_X10_alike_u60X10 rfl rfl rfl ((hZ.2.2.2.2.2.2.2.2.2.2.1) s s.heap C.2.2.2.2.2.2.2.2.1) (by decide +kernel) ⟨(by show 0 + 1 ≤ 3 + (d + 1); omega), (by show 8 + (2 + 11) + 0 ≤ 74 + (d + 1) * 31; omega)⟩) pCl8 hk rfl rfl hw dX1_countFrom_79 ⟨Nat.le_of_ble_eq_true rfl, Nat.le_of_ble_eq_true rfl⟩
set_option maxRecDepth 100000 in
set_option maxHeartbeats 4000000 in
theorem rnX1_countFrom_2 (d : Nat) {p : Program} {l : Launch} {e : Env} {s : State} {m : MethodId} {args : Array Value} {below : List Frame} {meth : Method} {c : Code} {G : PG} (C : pCx p s m args meth c G cX1_countFrom 12 yX1_countFrom.cls wsX1_countFrom) (hZ : pZa G) (S : PS) (x : Nat) (a0 : Int64) (Q : Int32 → PS → Prop) (hk : pC4 S x) (h : wpC_verdict S x a0 Q) {LV : List (Nat × Value)} {st : List Value} (hw : (st.map fun v => v.category).sum ≤ 8) : PRun p l e (rmX1_countFrom (d + 1)) s m args below meth c G 12 S 0 0 0 0 LV 2 (.long a0 :: .ref (G.2.2 + x) :: st) st (va_Qi Q (pB G) (pFr G) (.ref (G.2.2 + x) :: [.long a0]).toArray) := by
  rcases hk with hk | hk | hk | hk
  · exact pRunU (pc := 2) (kc := 0) (kn := 0) C (ctX0_verdict l G hZ _ x a0 _ (h.1 hk)) (va_cwA 1 C.2.2.2.2.1 gX1_countFrom_X0_verdict_u31X0 rfl rfl rfl ((hZ.2.2.2.2.2.2.2.2.2.1) s s.heap C.2.2.2.2.2.2.2.2.1) (by decide +kernel) ⟨(by show 1 + 1 ≤ 3 + (d + 1); omega), (by show 8 + (5 + 11) + 23 ≤ 74 + (d + 1) * 31; omega)⟩) pCl0 hk rfl rfl hw dX1_countFrom_2 ⟨Nat.le_of_ble_eq_true rfl, Nat.le_of_ble_eq_true rfl⟩
  · exact pRunU (pc := 2) (kc := 0) (kn := 0) C (ctX2_verdict l G hZ _ x a0 _ (h.2.1 hk)) (va_cwA 1 C.2.2.2.2.1 gX1_countFrom_X2_verdict_u31X2 rfl rfl rfl ((hZ.2.2.2.2.2.2.2.2.2.1) s s.heap C.2.2.2.2.2.2.2.2.1) (by decide +kernel) ⟨(by show 2 + 1 ≤ 3 + (d + 1); omega), (by show 8 + (13 + 11) + 42 ≤ 74 + (d + 1) * 31; omega)⟩) pCl1 hk rfl rfl hw dX1_countFrom_2 ⟨Nat.le_of_ble_eq_true rfl, Nat.le_of_ble_eq_true rfl⟩
  · exact pRunU (pc := 2) (kc := 0) (kn := 0) C (ctX4_verdict l G hZ _ x a0 _ (h.2.2.1 hk)) (va_cwA 1 C.2.2.2.2.1 gX1_countFrom_X4_verdict_u31X4 rfl rfl rfl ((hZ.2.2.2.2.2.2.2.2.2.1) s s.heap C.2.2.2.2.2.2.2.2.1) (by decide +kernel) ⟨(by show 0 + 1 ≤ 3 + (d + 1); omega), (by show 8 + (3 + 11) + 0 ≤ 74 + (d + 1) * 31; omega)⟩) pCl3 hk rfl rfl hw dX1_countFrom_2 ⟨Nat.le_of_ble_eq_true rfl, Nat.le_of_ble_eq_true rfl⟩
  · exact pRunU (pc := 2) (kc := 0) (kn := 0) C (ctX10_verdict l G hZ _ x a0 _ (h.2.2.2 hk)) (va_cwA 1 C.2.2.2.2.1 gX1_countFrom_X10_verdict_u31X10 rfl rfl rfl ((hZ.2.2.2.2.2.2.2.2.2.1) s s.heap C.2.2.2.2.2.2.2.2.1) (by decide +kernel) ⟨(by show 2 + 1 ≤ 3 + (d + 1); omega), (by show 8 + (11 + 11) + 42 ≤ 74 + (d + 1) * 31; omega)⟩) pCl8 hk rfl rfl hw dX1_countFrom_2 ⟨Nat.le_of_ble_eq_true rfl, Nat.le_of_ble_eq_true rfl⟩
set_option maxRecDepth 100000 in
set_option maxHeartbeats 4000000 in
theorem rnX1_countFrom_39 (d : Nat) {p : Program} {l : Launch} {e : Env} {s : State} {m : MethodId} {args : Array Value} {below : List Frame} {meth : Method} {c : Code} {G : PG} (C : pCx p s m args meth c G cX1_countFrom 12 yX1_countFrom.cls wsX1_countFrom) (hZ : pZa G) (S : PS) (x : Nat) (a0 : Int32) (Q : Int32 → PS → Prop) (hk : pC4 S x) (h : wpX1_variableAt S x a0 Q) {LV : List (Nat × Value)} {st : List Value} (hw : (st.map fun v => v.category).sum ≤ 8) : PRun p l e (rmX1_countFrom (d + 1)) s m args below meth c G 12 S 0 0 0 0 LV 39 (.int a0 :: .ref (G.2.2 + x) :: st) st (va_Qi Q (pB G) (pFr G) (.ref (G.2.2 + x) :: [.int a0]).toArray) := by
  rcases hk with hk | hk | hk | hk
  · exact pRunU (pc := 39) (kc := 0) (kn := 0) C (ctX1_variableAt l G hZ _ x a0 _ h) (va_cwU 1 C.2.2.2.2.1 gX1_countFrom_X1_variableAt_u44X0 rfl rfl rfl rfl (by decide +kernel) ⟨(by show 0 + 1 ≤ 3 + (d + 1); omega), (by show 8 + (2 + 11) + 0 ≤ 74 + (d + 1) * 31; omega)⟩) pCl0 hk rfl rfl hw dX1_countFrom_39 ⟨Nat.le_of_ble_eq_true rfl, Nat.le_of_ble_eq_true rfl⟩
  · exact pRunU (pc := 39) (kc := 0) (kn := 0) C (ctX1_variableAt l G hZ _ x a0 _ h) (va_cwU 1 C.2.2.2.2.1 gX1_countFrom_X1_variableAt_u44X2 rfl rfl rfl rfl (by decide +kernel) ⟨(by show 0 + 1 ≤ 3 + (d + 1); omega), (by show 8 + (2 + 11) + 0 ≤ 74 + (d + 1) * 31; omega)⟩) pCl1 hk rfl rfl hw dX1_countFrom_39 ⟨Nat.le_of_ble_eq_true rfl, Nat.le_of_ble_eq_true rfl⟩
  · exact pRunU (pc := 39) (kc := 0) (kn := 0) C (ctX1_variableAt l G hZ _ x a0 _ h) (va_cwU 1 C.2.2.2.2.1 gX1_countFrom_X1_variableAt_u44X4 rfl rfl rfl rfl (by decide +kernel) ⟨(by show 0 + 1 ≤ 3 + (d + 1); omega), (by show 8 + (2 + 11) + 0 ≤ 74 + (d + 1) * 31; omega)⟩) pCl3 hk rfl rfl hw dX1_countFrom_39 ⟨Nat.le_of_ble_eq_true rfl, Nat.le_of_ble_eq_true rfl⟩
  · exact pRunU (pc := 39) (kc := 0) (kn := 0) C (ctX1_variableAt l G hZ _ x a0 _ h) (va_cwU 1 C.2.2.2.2.1 gX1_countFrom_X1_variableAt_u44X10 rfl rfl rfl rfl (by decide +kernel) ⟨(by show 0 + 1 ≤ 3 + (d + 1); omega), (by show 8 + (2 + 11) + 0 ≤ 74 + (d + 1) * 31; omega)⟩) pCl8 hk rfl rfl hw dX1_countFrom_39 ⟨Nat.le_of_ble_eq_true rfl, Nat.le_of_ble_eq_true rfl⟩
set_option maxRecDepth 100000 in
set_option maxHeartbeats 4000000 in
theorem cbX1_countFrom_b28 {p : Program} {l : Launch} {e : Env} {s : State} {m : MethodId} {args : Array Value} {below : List Frame} {meth : Method} {c : Code} {G : PG} {Q : Int32 → PS → Prop} (C : pCx p s m args meth c G cX1_countFrom 12 yX1_countFrom.cls wsX1_countFrom) (hr : meth.sig.returnType = (some .int)) (hin : meth.name = yX1_countFrom.name) (hZ : pZa G) (d : Nat) {Rc : PS → Nat → Int64 → Int32 → (Int32 → PS → Prop) → Prop} (hRc : ∀ (S : PS) (x0 : Nat) (x1 : Int64) (x3 : Int32) (Q : Int32 → PS → Prop), Rc S x0 x1 x3 Q → mI l yX1_countFrom wsX1_countFrom (rmX1_countFrom d) G S [.ref (G.2.2 + x0), .long x1, .int x3] Q)  : ∀ (S : PS) (x0 : Nat) (x1 : Int64) (x3 : Int32) (x4 : Int32), wpX1_countFrom_b28 Rc Q S x0 x1 x3 x4 → PW p l e (rmX1_countFrom (d + 1)) s m args below meth c (MQ below (va_Qi Q (pB G) (pFr G)) args s (rmX1_countFrom (d + 1)).cells (rmX1_countFrom (d + 1)).slots (pFr G)) G 12 S 0 0 [(0, .ref (G.2.2 + x0)), (1, .long x1), (3, .int x3), (4, .int x4)] 28 ([]) := by
  intro S x0 x1 x3 x4 h
  unfold wpX1_countFrom_b28 at h
  refine pw_lload_n (pc := 28) C 1 dX1_countFrom_28 rfl rfl ?_
  refine pw_aload_n (pc := 29) C 0 dX1_countFrom_29 rfl rfl ?_
  obtain ⟨hk1, h⟩ := h
  refine pw_getCJ (pc := 30) (k := 2) (index := 15) C hk1 iX1_countFrom_X0 iX1_countFrom_X2 iX1_countFrom_X4 iX1_countFrom_X10 rfl (by decide +kernel) dX1_countFrom_30 ?_
  refine pw_calli (pc := 33) (kc2 := 0) (kn2 := 0) (pRunS (pc := 33) C (ctX5_assignments l G hZ  _ x1 (pJ S x0 2) _ h) (va_cwS 2 C.2.2.2.2.1 gX1_countFrom_X5_assignments rfl rfl rfl (by decide +kernel) ⟨(by show 1 + 1 ≤ 3 + (d + 1); omega), (by show 8 + (6 + 11) + 22 ≤ 74 + (d + 1) * 31; omega)⟩) rfl rfl (Nat.le_of_ble_eq_true rfl) dX1_countFrom_33 ⟨Nat.le_of_ble_eq_true rfl, Nat.le_of_ble_eq_true rfl⟩) rfl rfl (fun r2 S3 h => ?_)
  exact pw_iret (pc := 36) C hr h dX1_countFrom_36
set_option maxRecDepth 100000 in
set_option maxHeartbeats 4000000 in
theorem cbX1_countFrom_b58 {p : Program} {l : Launch} {e : Env} {s : State} {m : MethodId} {args : Array Value} {below : List Frame} {meth : Method} {c : Code} {G : PG} {Q : Int32 → PS → Prop} (C : pCx p s m args meth c G cX1_countFrom 12 yX1_countFrom.cls wsX1_countFrom) (hr : meth.sig.returnType = (some .int)) (hin : meth.name = yX1_countFrom.name) (hZ : pZa G) (d : Nat) {Rc : PS → Nat → Int64 → Int32 → (Int32 → PS → Prop) → Prop} (hRc : ∀ (S : PS) (x0 : Nat) (x1 : Int64) (x3 : Int32) (Q : Int32 → PS → Prop), Rc S x0 x1 x3 Q → mI l yX1_countFrom wsX1_countFrom (rmX1_countFrom d) G S [.ref (G.2.2 + x0), .long x1, .int x3] Q)  (n : Nat) : ∀ (S : PS) (x0 : Nat) (x1 : Int64) (x3 : Int32) (x4 : Int32) (x5 : Int32) (x6 : Int32) (x7 : Int32) (x8 : Int32), wpX1_countFrom_b58 Rc Q n S x0 x1 x3 x4 x5 x6 x7 x8 → PW p l e (rmX1_countFrom (d + 1)) s m args below meth c (MQ below (va_Qi Q (pB G) (pFr G)) args s (rmX1_countFrom (d + 1)).cells (rmX1_countFrom (d + 1)).slots (pFr G)) G 12 S 0 0 [(0, .ref (G.2.2 + x0)), (1, .long x1), (3, .int x3), (4, .int x4), (5, .int x5), (6, .int x6), (7, .int x7), (8, .int x8)] 58 ([]) := by
  induction n with
  | zero => intro S x0 x1 x3 x4 x5 x6 x7 x8 h; exact h.elim
  | succ n ih =>
    intro S x0 x1 x3 x4 x5 x6 x7 x8 h
    unfold wpX1_countFrom_b58 at h
    refine pw_iload (pc := 58) C 7 dX1_countFrom_58 rfl ?_
    refine pw_iconst (pc := 60) (v := 5 ) C dX1_countFrom_60 (by decide) ?_
    refine pw_icmp_ge (pc := 61) (tgt := 130) C dX1_countFrom_61 rfl ⟨fun hc => ?_, fun hc => ?_⟩
    · replace h := h.1 hc
      refine pw_iload (pc := 130) C 6 dX1_countFrom_130 rfl ?_
      exact pw_iret (pc := 132) C hr h dX1_countFrom_132
    · replace h := h.2 hc
      refine pw_iload (pc := 64) C 5 dX1_countFrom_64 rfl ?_
      refine pw_iload (pc := 66) C 7 dX1_countFrom_66 rfl ?_
      refine pw_iushr (pc := 68) C dX1_countFrom_68 ?_
      refine pw_iconst (pc := 69) (v := 1 ) C dX1_countFrom_69 (by decide) ?_
      refine pw_iand (pc := 70) C dX1_countFrom_70 ?_
      refine pw_if_eq (pc := 71) (tgt := 124) C dX1_countFrom_71 rfl ⟨fun hc => ?_, fun hc => ?_⟩
      · replace h := h.1 hc
        refine pw_iincK (pc := 124) (w := 1) C [(8, .int (x8 + 1)), (0, .ref (G.2.2 + x0)), (1, .long x1), (3, .int x3), (4, .int x4), (5, .int x5), (6, .int x6), (7, .int x7)] 7 dX1_countFrom_124 (by decide) rfl (by decide) rfl ?_
        refine pw_goto (pc := 127) (tgt := 58) C dX1_countFrom_127 rfl ?_
        refine pw_sub [1, 2, 3, 4, 5, 6, 7, 0] (LV2 := [(0, .ref (G.2.2 + x0)), (1, .long x1), (3, .int x3), (4, .int x4), (5, .int x5), (6, .int x6), (7, .int x7), (8, .int (x8 + 1))]) rfl ?_
        exact ih _ _ _ _ _ _ _ _ _ h
      · replace h := h.2 hc
        refine pw_iload (pc := 74) C 5 dX1_countFrom_74 rfl ?_
        refine pw_aload_n (pc := 76) C 0 dX1_countFrom_76 rfl rfl ?_
        refine pw_iload (pc := 77) C 7 dX1_countFrom_77 rfl ?_
        obtain ⟨hk4, h⟩ := h
        refine pw_calli (pc := 79) (kc2 := 0) (kn2 := 0) (rnX1_countFrom_79 d C hZ _ x0 x8 _ hk4 h (Nat.le_of_ble_eq_true rfl)) rfl rfl (fun r5 S6 h => ?_)
        refine pw_iand (pc := 82) C dX1_countFrom_82 ?_
        refine pw_istore (pc := 83) C [(9, .int (x6 &&& r5)), (0, .ref (G.2.2 + x0)), (1, .long x1), (3, .int x3), (4, .int x4), (5, .int x5), (6, .int x6), (7, .int x7), (8, .int x8)] dX1_countFrom_83 (by decide) rfl ?_
        refine pw_lload_n (pc := 85) C 2 dX1_countFrom_85 rfl rfl ?_
        refine pw_iload (pc := 86) C 5 dX1_countFrom_86 rfl ?_
        refine pw_iload (pc := 88) C 8 dX1_countFrom_88 rfl ?_
        refine pw_calll (pc := 90) (kc2 := 0) (kn2 := 0) (pRunS (pc := 90) C (ctX5_narrowed l G hZ  _ x1 x5 x8 _ h) (va_cwS 3 C.2.2.2.2.1 gX1_countFrom_X5_narrowed rfl rfl rfl (by decide +kernel) ⟨(by show 1 + 1 ≤ 3 + (d + 1); omega), (by show 8 + (4 + 11) + 21 ≤ 74 + (d + 1) * 31; omega)⟩) rfl rfl (Nat.le_of_ble_eq_true rfl) dX1_countFrom_90 ⟨Nat.le_of_ble_eq_true rfl, Nat.le_of_ble_eq_true rfl⟩) rfl rfl (fun r7 S8 h => ?_)
        refine pw_lstore (pc := 93) C [(10, .long r7), (9, .int (x6 &&& r5)), (0, .ref (G.2.2 + x0)), (1, .long x1), (3, .int x3), (4, .int x4), (5, .int x5), (6, .int x6), (7, .int x7), (8, .int x8)] dX1_countFrom_93 (by decide) rfl ?_
        refine pw_iload (pc := 95) C 8 dX1_countFrom_95 rfl ?_
        refine pw_iload (pc := 97) C 1 dX1_countFrom_97 rfl ?_
        refine pw_calli (pc := 99) (kc2 := 0) (kn2 := 0) (pRunS (pc := 99) C (ctJ6_bitCount_0f7a4 l G  _ (x6 &&& r5) _ h) (va_cwS 1 C.2.2.2.2.1 gX1_countFrom_J6_bitCount_0f7a4 rfl rfl rfl (by decide +kernel) ⟨(by show 0 + 1 ≤ 3 + (d + 1); omega), (by show 8 + (1 + 11) + 0 ≤ 74 + (d + 1) * 31; omega)⟩) rfl rfl (Nat.le_of_ble_eq_true rfl) dX1_countFrom_99 ⟨Nat.le_of_ble_eq_true rfl, Nat.le_of_ble_eq_true rfl⟩) rfl rfl (fun r9 S10 h => ?_)
        refine pw_aload_n (pc := 102) C 2 dX1_countFrom_102 rfl rfl ?_
        refine pw_lload (pc := 103) C 0 dX1_countFrom_103 rfl ?_
        refine pw_iload_n (pc := 105) C 4 dX1_countFrom_105 rfl rfl ?_
        refine pw_iconst (pc := 106) (v := 1 ) C dX1_countFrom_106 (by decide) ?_
        refine pw_iadd (pc := 107) C dX1_countFrom_107 ?_
        refine pw_calli (pc := 108) (kc2 := 0) (kn2 := 0) (pRunS (pc := 108) C (hRc _ x0 r7 (x3 + (1 : Int32)) _ h) (va_cwS 3 C.2.2.2.2.1 gX1_countFrom_X1_countFrom rfl rfl rfl (by decide +kernel) ⟨(by show 3 + d + 1 ≤ 3 + (d + 1); omega), (by show 8 + (12 + 11) + (74 + d * 31) ≤ 74 + (d + 1) * 31; omega)⟩) rfl rfl (Nat.le_of_ble_eq_true rfl) dX1_countFrom_108 ⟨Nat.le_of_ble_eq_true rfl, Nat.le_of_ble_eq_true rfl⟩) rfl rfl (fun r11 S12 h => ?_)
        refine pw_imul (pc := 111) C dX1_countFrom_111 ?_
        refine pw_iadd (pc := 112) C dX1_countFrom_112 ?_
        refine pw_istore (pc := 113) C [(7, .int (x7 + (r9 * r11))), (10, .long r7), (9, .int (x6 &&& r5)), (0, .ref (G.2.2 + x0)), (1, .long x1), (3, .int x3), (4, .int x4), (5, .int x5), (6, .int x6), (8, .int x8)] dX1_countFrom_113 (by decide) rfl ?_
        refine pw_iload (pc := 115) C 8 dX1_countFrom_115 rfl ?_
        refine pw_iload (pc := 117) C 2 dX1_countFrom_117 rfl ?_
        refine pw_iconst (pc := 119) (v := (-1)) C dX1_countFrom_119 (by decide) ?_
        refine pw_ixor (pc := 120) C dX1_countFrom_120 ?_
        refine pw_iand (pc := 121) C dX1_countFrom_121 ?_
        refine pw_istore (pc := 122) C [(6, .int (x6 &&& ((x6 &&& r5) ^^^ (-1 : Int32)))), (7, .int (x7 + (r9 * r11))), (10, .long r7), (9, .int (x6 &&& r5)), (0, .ref (G.2.2 + x0)), (1, .long x1), (3, .int x3), (4, .int x4), (5, .int x5), (8, .int x8)] dX1_countFrom_122 (by decide) rfl ?_
        refine pw_iincK (pc := 124) (w := 1) C [(8, .int (x8 + 1)), (6, .int (x6 &&& ((x6 &&& r5) ^^^ (-1 : Int32)))), (7, .int (x7 + (r9 * r11))), (10, .long r7), (9, .int (x6 &&& r5)), (0, .ref (G.2.2 + x0)), (1, .long x1), (3, .int x3), (4, .int x4), (5, .int x5)] 9 dX1_countFrom_124 (by decide) rfl (by decide) rfl ?_
        refine pw_goto (pc := 127) (tgt := 58) C dX1_countFrom_127 rfl ?_
        refine pw_sub [5, 6, 7, 8, 9, 1, 2, 0] (LV2 := [(0, .ref (G.2.2 + x0)), (1, .long x1), (3, .int x3), (4, .int x4), (5, .int x5), (6, .int (x6 &&& ((x6 &&& r5) ^^^ (-1 : Int32)))), (7, .int (x7 + (r9 * r11))), (8, .int (x8 + 1))]) rfl ?_
        exact ih _ _ _ _ _ _ _ _ _ h
set_option maxRecDepth 100000 in
set_option maxHeartbeats 4000000 in
theorem ctX1_countFrom (d : Nat) (l : Launch) (G : PG) (hZ : pZa G) : ∀ (S : PS) (x0 : Nat) (x1 : Int64) (x3 : Int32) (Q : Int32 → PS → Prop), wpX1_countFrom d S x0 x1 x3 Q → mI l yX1_countFrom wsX1_countFrom (rmX1_countFrom d) G S [.ref (G.2.2 + x0), .long x1, .int x3] Q := by
  induction d with
  | zero => intro S x0 x1 x3 Q h; exact h.elim
  | succ d hRc =>
    intro S x0 x1 x3 Q h
    unfold mI
    refine met_of (cc := cX1_countFrom) (maxL := 12) (ret := (some .int)) (by decide) rfl (Nat.le_of_ble_eq_true rfl) ?_
    intro p e s m args below meth c C hr hin
    unfold wpX1_countFrom at h
    show PW p l e _ s m args below meth c _ G 12 S 0 0 [(0, .ref (G.2.2 + x0)), (1, .long x1), (3, .int x3)] 0 []
    refine pw_aload_n (pc := 0) C 0 dX1_countFrom_0 rfl rfl ?_
    refine pw_lload_n (pc := 1) C 1 dX1_countFrom_1 rfl rfl ?_
    obtain ⟨hk13, h⟩ := h
    refine pw_calli (pc := 2) (kc2 := 0) (kn2 := 0) (rnX1_countFrom_2 d C hZ _ x0 x1 _ hk13 h (Nat.le_of_ble_eq_true rfl)) rfl rfl (fun r14 S15 h => ?_)
    refine pw_istore (pc := 5) C [(4, .int r14), (0, .ref (G.2.2 + x0)), (1, .long x1), (3, .int x3)] dX1_countFrom_5 (by decide) rfl ?_
    refine pw_iload (pc := 7) C 0 dX1_countFrom_7 rfl ?_
    refine pw_if_ne (pc := 9) (tgt := 14) C dX1_countFrom_9 rfl ⟨fun hc => ?_, fun hc => ?_⟩
    · replace h := h.1 hc
      refine pw_iload (pc := 14) C 0 dX1_countFrom_14 rfl ?_
      refine pw_iconst (pc := 16) (v := 2 ) C dX1_countFrom_16 (by decide) ?_
      refine pw_icmp_eq (pc := 17) (tgt := 28) C dX1_countFrom_17 rfl ⟨fun hc => ?_, fun hc => ?_⟩
      · replace h := h.1 hc
        refine pw_sub [1, 2, 3, 0] (LV2 := [(0, .ref (G.2.2 + x0)), (1, .long x1), (3, .int x3), (4, .int r14)]) rfl ?_
        exact cbX1_countFrom_b28 C hr hin hZ d hRc  _ _ _ _ _ h
      · replace h := h.2 hc
        refine pw_iload_n (pc := 20) C 3 dX1_countFrom_20 rfl rfl ?_
        refine pw_aload_n (pc := 21) C 1 dX1_countFrom_21 rfl rfl ?_
        obtain ⟨hk16, h⟩ := h
        refine pw_getCI (pc := 22) (k := 1) (index := 9) C hk16 iX1_countFrom_X0 iX1_countFrom_X2 iX1_countFrom_X4 iX1_countFrom_X10 (by decide) (by decide +kernel) dX1_countFrom_22 ?_
        refine pw_icmp_lt (pc := 25) (tgt := 37) C dX1_countFrom_25 rfl ⟨fun hc => ?_, fun hc => ?_⟩
        · replace h := h.1 hc
          refine pw_aload_n (pc := 37) C 1 dX1_countFrom_37 rfl rfl ?_
          refine pw_iload_n (pc := 38) C 3 dX1_countFrom_38 rfl rfl ?_
          refine pw_calli (pc := 39) (kc2 := 0) (kn2 := 0) (rnX1_countFrom_39 d C hZ _ x0 x3 _ hk16 h (Nat.le_of_ble_eq_true rfl)) rfl rfl (fun r17 S18 h => ?_)
          refine pw_istore (pc := 42) C [(5, .int r17), (4, .int r14), (0, .ref (G.2.2 + x0)), (1, .long x1), (3, .int x3)] dX1_countFrom_42 (by decide) rfl ?_
          refine pw_lload_n (pc := 44) C 3 dX1_countFrom_44 rfl rfl ?_
          refine pw_iload (pc := 45) C 0 dX1_countFrom_45 rfl ?_
          refine pw_calli (pc := 47) (kc2 := 0) (kn2 := 0) (pRunS (pc := 47) C (ctX5_valuesOf l G hZ  _ x1 r17 _ h) (va_cwS 2 C.2.2.2.2.1 gX1_countFrom_X5_valuesOf rfl rfl rfl (by decide +kernel) ⟨(by show 0 + 1 ≤ 3 + (d + 1); omega), (by show 8 + (3 + 11) + 0 ≤ 74 + (d + 1) * 31; omega)⟩) rfl rfl (Nat.le_of_ble_eq_true rfl) dX1_countFrom_47 ⟨Nat.le_of_ble_eq_true rfl, Nat.le_of_ble_eq_true rfl⟩) rfl rfl (fun r19 S20 h => ?_)
          refine pw_istore (pc := 50) C [(6, .int r19), (5, .int r17), (4, .int r14), (0, .ref (G.2.2 + x0)), (1, .long x1), (3, .int x3)] dX1_countFrom_50 (by decide) rfl ?_
          refine pw_iconst (pc := 52) (v := 0 ) C dX1_countFrom_52 (by decide) ?_
          refine pw_istore (pc := 53) C [(7, .int (0 : Int32)), (6, .int r19), (5, .int r17), (4, .int r14), (0, .ref (G.2.2 + x0)), (1, .long x1), (3, .int x3)] dX1_countFrom_53 (by decide) rfl ?_
          refine pw_iconst (pc := 55) (v := 0 ) C dX1_countFrom_55 (by decide) ?_
          refine pw_istore (pc := 56) C [(8, .int (0 : Int32)), (7, .int (0 : Int32)), (6, .int r19), (5, .int r17), (4, .int r14), (0, .ref (G.2.2 + x0)), (1, .long x1), (3, .int x3)] dX1_countFrom_56 (by decide) rfl ?_
          refine pw_sub [5, 6, 7, 4, 3, 2, 1, 0] (LV2 := [(0, .ref (G.2.2 + x0)), (1, .long x1), (3, .int x3), (4, .int r14), (5, .int r17), (6, .int r19), (7, .int (0 : Int32)), (8, .int (0 : Int32))]) rfl ?_
          obtain ⟨n9, h⟩ := h
          exact cbX1_countFrom_b58 C hr hin hZ d hRc  n9 _ _ _ _ _ _ _ _ _ h
        · replace h := h.2 hc
          refine pw_sub [1, 2, 3, 0] (LV2 := [(0, .ref (G.2.2 + x0)), (1, .long x1), (3, .int x3), (4, .int r14)]) rfl ?_
          exact cbX1_countFrom_b28 C hr hin hZ d hRc  _ _ _ _ _ h
    · replace h := h.2 hc
      refine pw_iconst (pc := 12) (v := 0 ) C dX1_countFrom_12 (by decide) ?_
      exact pw_iret (pc := 13) C hr h dX1_countFrom_13

abbrev rmX2_init : Room := { frames := 2, cells := 0, slots := 0, locals := 41 }
theorem iX2_init_X2 : ∀ w ∈ u_ws RX2 TX2 7, w ∈ wsX2_init := by decide +kernel
def wpX2_init (S : PS) (x0 : Nat) (Q : PS → Prop) : Prop := (wpX1_init S x0 (0 : Int32) (fun S2 => (pK S2 x0 = 2 ∧ (Q (sI (sI (sI S2 x0 4 (0 : Int32)) x0 5 (32767 : Int32)) x0 6 (0 : Int32))))))
set_option maxRecDepth 100000 in
set_option maxHeartbeats 4000000 in
theorem ctX2_init (l : Launch) (G : PG) (hZ : pZa G) (S : PS) (x0 : Nat) (Q : PS → Prop) (h : wpX2_init S x0 Q) : mV l yX2_init wsX2_init rmX2_init G S [.ref (G.2.2 + x0)] Q := by
  unfold mV
  refine met_of (cc := cX2_init) (maxL := 1) (ret := none) (by decide) rfl (Nat.le_of_ble_eq_true rfl) ?_
  intro p e s m args below meth c C hr hin
  unfold wpX2_init at h
  show PW p l e _ s m args below meth c _ G 1 S 0 0 [(0, .ref (G.2.2 + x0))] 0 []
  refine pw_aload_n (pc := 0) C 0 dX2_init_0 rfl rfl ?_
  refine pw_iconst (pc := 1) (v := 0 ) C dX2_init_1 (by decide) ?_
  refine pw_callv (pc := 2) (kc2 := 0) (kn2 := 0) (pRunI (pc := 2) C (ctX1_init l G hZ  _ x0 (0 : Int32) _ h) (cwI 1 C.2.2.2.2.1 gX2_init_X1_init rfl rfl rfl (C.2.2.2.2.1 (.initialized RX1) (by decide +kernel)) (C.2.2.2.2.1 (.methodLink RX2 5 yX1_init) (by decide +kernel)) (C.2.2.2.2.1 (.instanceMethod yX1_init) (by decide +kernel)) rfl (by decide +kernel) ⟨Nat.le_of_ble_eq_true rfl, Nat.le_of_ble_eq_true rfl⟩) rfl rfl (Nat.le_of_ble_eq_true rfl) dX2_init_2 ⟨Nat.le_of_ble_eq_true rfl, Nat.le_of_ble_eq_true rfl⟩) rfl rfl (fun S2 h => ?_)
  refine pw_aload_n (pc := 5) C 0 dX2_init_5 rfl rfl ?_
  refine pw_iconst (pc := 6) (v := 0 ) C dX2_init_6 (by decide) ?_
  obtain ⟨hk3, h⟩ := h
  refine pw_putI (pc := 7) (ref := "SupportSolver$Counts") (k := 4) (index := 9) C pCl1 iX2_init_X2 hk3 rfl (by decide +kernel) (Or.inl rfl) (Or.inl rfl) rfl rfl dX2_init_7 ?_
  refine pw_aload_n (pc := 10) (S := (sI S2 x0 4 (0 : Int32))) C 0 dX2_init_10 rfl rfl ?_
  refine pw_sipush (pc := 11) (S := (sI S2 x0 4 (0 : Int32))) (v := 32767 ) C dX2_init_11 (by decide) ?_
  refine pw_putI (pc := 14) (S := (sI S2 x0 4 (0 : Int32))) (ref := "SupportSolver$Counts") (k := 5) (index := 15) C pCl1 iX2_init_X2 hk3 rfl (by decide +kernel) (Or.inl rfl) (Or.inl rfl) rfl rfl dX2_init_14 ?_
  refine pw_aload_n (pc := 17) (S := (sI (sI S2 x0 4 (0 : Int32)) x0 5 (32767 : Int32))) C 0 dX2_init_17 rfl rfl ?_
  refine pw_iconst (pc := 18) (S := (sI (sI S2 x0 4 (0 : Int32)) x0 5 (32767 : Int32))) (v := 0 ) C dX2_init_18 (by decide) ?_
  refine pw_putI (pc := 19) (S := (sI (sI S2 x0 4 (0 : Int32)) x0 5 (32767 : Int32))) (ref := "SupportSolver$Counts") (k := 6) (index := 18) C pCl1 iX2_init_X2 hk3 rfl (by decide +kernel) (Or.inl rfl) (Or.inl rfl) rfl rfl dX2_init_19 ?_
  exact pw_vret (pc := 22) (S := (sI (sI (sI S2 x0 4 (0 : Int32)) x0 5 (32767 : Int32)) x0 6 (0 : Int32))) C hr h dX2_init_22

abbrev rmX2_addCount : Room := { frames := 0, cells := 0, slots := 0, locals := 0 }
theorem iX2_addCount_X2 : ∀ w ∈ u_ws RX2 TX2 7, w ∈ wsX2_addCount := fun _ h => List.mem_cons_of_mem _ (List.mem_append_right _ h)
def wpX2_addCount (S : PS) (x0 : Nat) (x1 : Int32) (x2 : Int32) (x3 : Int32) (Q : PS → Prop) : Prop := (pK S x0 = 2 ∧ (Q (sI (sI (sI S x0 6 ((pI S x0 6) ||| ((1 : Int32) <<< (x1 &&& 31)))) x0 4 ((pI (sI S x0 6 ((pI S x0 6) ||| ((1 : Int32) <<< (x1 &&& 31)))) x0 4) ||| (x2 <<< (((3 : Int32) * x1) &&& 31)))) x0 5 ((pI (sI (sI S x0 6 ((pI S x0 6) ||| ((1 : Int32) <<< (x1 &&& 31)))) x0 4 ((pI (sI S x0 6 ((pI S x0 6) ||| ((1 : Int32) <<< (x1 &&& 31)))) x0 4) ||| (x2 <<< (((3 : Int32) * x1) &&& 31)))) x0 5) &&& ((((7 : Int32) <<< (((3 : Int32) * x1) &&& 31)) ^^^ (-1 : Int32)) ||| (x3 <<< (((3 : Int32) * x1) &&& 31)))))))
set_option maxRecDepth 100000 in
set_option maxHeartbeats 4000000 in
theorem ctX2_addCount (l : Launch) (G : PG) (hZ : pZa G) (S : PS) (x0 : Nat) (x1 : Int32) (x2 : Int32) (x3 : Int32) (Q : PS → Prop) (h : wpX2_addCount S x0 x1 x2 x3 Q) : mV l yX2_addCount wsX2_addCount rmX2_addCount G S [.ref (G.2.2 + x0), .int x1, .int x2, .int x3] Q := by
  unfold mV
  refine met_of (cc := cX2_addCount) (maxL := 4) (ret := none) (by decide) rfl (Nat.le_of_ble_eq_true rfl) ?_
  intro p e s m args below meth c C hr hin
  unfold wpX2_addCount at h
  show PW p l e _ s m args below meth c _ G 4 S 0 0 [(0, .ref (G.2.2 + x0)), (1, .int x1), (2, .int x2), (3, .int x3)] 0 []
  refine pw_aload_n (pc := 0) C 0 dX2_addCount_0 rfl rfl ?_
  refine pw_dup (pc := 1) C dX2_addCount_1 rfl ?_
  obtain ⟨hk1, h⟩ := h
  refine pw_getI (pc := 2) (ref := "SupportSolver$Counts") (k := 6) (index := 18) C pCl1 iX2_addCount_X2 hk1 rfl (by decide +kernel) (Or.inl rfl) dX2_addCount_2 ?_
  refine pw_iconst (pc := 5) (v := 1 ) C dX2_addCount_5 (by decide) ?_
  refine pw_iload_n (pc := 6) C 1 dX2_addCount_6 rfl rfl ?_
  refine pw_ishl (pc := 7) C dX2_addCount_7 ?_
  refine pw_ior (pc := 8) C dX2_addCount_8 ?_
  refine pw_putI (pc := 9) (ref := "SupportSolver$Counts") (k := 6) (index := 18) C pCl1 iX2_addCount_X2 hk1 rfl (by decide +kernel) (Or.inl rfl) (Or.inl rfl) rfl rfl dX2_addCount_9 ?_
  refine pw_aload_n (pc := 12) (S := (sI S x0 6 ((pI S x0 6) ||| ((1 : Int32) <<< (x1 &&& 31))))) C 0 dX2_addCount_12 rfl rfl ?_
  refine pw_dup (pc := 13) (S := (sI S x0 6 ((pI S x0 6) ||| ((1 : Int32) <<< (x1 &&& 31))))) C dX2_addCount_13 rfl ?_
  refine pw_getI (pc := 14) (S := (sI S x0 6 ((pI S x0 6) ||| ((1 : Int32) <<< (x1 &&& 31))))) (ref := "SupportSolver$Counts") (k := 4) (index := 9) C pCl1 iX2_addCount_X2 hk1 rfl (by decide +kernel) (Or.inl rfl) dX2_addCount_14 ?_
  refine pw_iload_n (pc := 17) (S := (sI S x0 6 ((pI S x0 6) ||| ((1 : Int32) <<< (x1 &&& 31))))) C 2 dX2_addCount_17 rfl rfl ?_
  refine pw_iconst (pc := 18) (S := (sI S x0 6 ((pI S x0 6) ||| ((1 : Int32) <<< (x1 &&& 31))))) (v := 3 ) C dX2_addCount_18 (by decide) ?_
  refine pw_iload_n (pc := 19) (S := (sI S x0 6 ((pI S x0 6) ||| ((1 : Int32) <<< (x1 &&& 31))))) C 1 dX2_addCount_19 rfl rfl ?_
  refine pw_imul (pc := 20) (S := (sI S x0 6 ((pI S x0 6) ||| ((1 : Int32) <<< (x1 &&& 31))))) C dX2_addCount_20 ?_
  refine pw_ishl (pc := 21) (S := (sI S x0 6 ((pI S x0 6) ||| ((1 : Int32) <<< (x1 &&& 31))))) C dX2_addCount_21 ?_
  refine pw_ior (pc := 22) (S := (sI S x0 6 ((pI S x0 6) ||| ((1 : Int32) <<< (x1 &&& 31))))) C dX2_addCount_22 ?_
  refine pw_putI (pc := 23) (S := (sI S x0 6 ((pI S x0 6) ||| ((1 : Int32) <<< (x1 &&& 31))))) (ref := "SupportSolver$Counts") (k := 4) (index := 9) C pCl1 iX2_addCount_X2 hk1 rfl (by decide +kernel) (Or.inl rfl) (Or.inl rfl) rfl rfl dX2_addCount_23 ?_
  refine pw_aload_n (pc := 26) (S := (sI (sI S x0 6 ((pI S x0 6) ||| ((1 : Int32) <<< (x1 &&& 31)))) x0 4 ((pI (sI S x0 6 ((pI S x0 6) ||| ((1 : Int32) <<< (x1 &&& 31)))) x0 4) ||| (x2 <<< (((3 : Int32) * x1) &&& 31))))) C 0 dX2_addCount_26 rfl rfl ?_
  refine pw_dup (pc := 27) (S := (sI (sI S x0 6 ((pI S x0 6) ||| ((1 : Int32) <<< (x1 &&& 31)))) x0 4 ((pI (sI S x0 6 ((pI S x0 6) ||| ((1 : Int32) <<< (x1 &&& 31)))) x0 4) ||| (x2 <<< (((3 : Int32) * x1) &&& 31))))) C dX2_addCount_27 rfl ?_
  refine pw_getI (pc := 28) (S := (sI (sI S x0 6 ((pI S x0 6) ||| ((1 : Int32) <<< (x1 &&& 31)))) x0 4 ((pI (sI S x0 6 ((pI S x0 6) ||| ((1 : Int32) <<< (x1 &&& 31)))) x0 4) ||| (x2 <<< (((3 : Int32) * x1) &&& 31))))) (ref := "SupportSolver$Counts") (k := 5) (index := 15) C pCl1 iX2_addCount_X2 hk1 rfl (by decide +kernel) (Or.inl rfl) dX2_addCount_28 ?_
  refine pw_bipush (pc := 31) (S := (sI (sI S x0 6 ((pI S x0 6) ||| ((1 : Int32) <<< (x1 &&& 31)))) x0 4 ((pI (sI S x0 6 ((pI S x0 6) ||| ((1 : Int32) <<< (x1 &&& 31)))) x0 4) ||| (x2 <<< (((3 : Int32) * x1) &&& 31))))) (v := 7 ) C dX2_addCount_31 (by decide) ?_
  refine pw_iconst (pc := 33) (S := (sI (sI S x0 6 ((pI S x0 6) ||| ((1 : Int32) <<< (x1 &&& 31)))) x0 4 ((pI (sI S x0 6 ((pI S x0 6) ||| ((1 : Int32) <<< (x1 &&& 31)))) x0 4) ||| (x2 <<< (((3 : Int32) * x1) &&& 31))))) (v := 3 ) C dX2_addCount_33 (by decide) ?_
  refine pw_iload_n (pc := 34) (S := (sI (sI S x0 6 ((pI S x0 6) ||| ((1 : Int32) <<< (x1 &&& 31)))) x0 4 ((pI (sI S x0 6 ((pI S x0 6) ||| ((1 : Int32) <<< (x1 &&& 31)))) x0 4) ||| (x2 <<< (((3 : Int32) * x1) &&& 31))))) C 1 dX2_addCount_34 rfl rfl ?_
  refine pw_imul (pc := 35) (S := (sI (sI S x0 6 ((pI S x0 6) ||| ((1 : Int32) <<< (x1 &&& 31)))) x0 4 ((pI (sI S x0 6 ((pI S x0 6) ||| ((1 : Int32) <<< (x1 &&& 31)))) x0 4) ||| (x2 <<< (((3 : Int32) * x1) &&& 31))))) C dX2_addCount_35 ?_
  refine pw_ishl (pc := 36) (S := (sI (sI S x0 6 ((pI S x0 6) ||| ((1 : Int32) <<< (x1 &&& 31)))) x0 4 ((pI (sI S x0 6 ((pI S x0 6) ||| ((1 : Int32) <<< (x1 &&& 31)))) x0 4) ||| (x2 <<< (((3 : Int32) * x1) &&& 31))))) C dX2_addCount_36 ?_
  refine pw_iconst (pc := 37) (S := (sI (sI S x0 6 ((pI S x0 6) ||| ((1 : Int32) <<< (x1 &&& 31)))) x0 4 ((pI (sI S x0 6 ((pI S x0 6) ||| ((1 : Int32) <<< (x1 &&& 31)))) x0 4) ||| (x2 <<< (((3 : Int32) * x1) &&& 31))))) (v := (-1)) C dX2_addCount_37 (by decide) ?_
  refine pw_ixor (pc := 38) (S := (sI (sI S x0 6 ((pI S x0 6) ||| ((1 : Int32) <<< (x1 &&& 31)))) x0 4 ((pI (sI S x0 6 ((pI S x0 6) ||| ((1 : Int32) <<< (x1 &&& 31)))) x0 4) ||| (x2 <<< (((3 : Int32) * x1) &&& 31))))) C dX2_addCount_38 ?_
  refine pw_iload_n (pc := 39) (S := (sI (sI S x0 6 ((pI S x0 6) ||| ((1 : Int32) <<< (x1 &&& 31)))) x0 4 ((pI (sI S x0 6 ((pI S x0 6) ||| ((1 : Int32) <<< (x1 &&& 31)))) x0 4) ||| (x2 <<< (((3 : Int32) * x1) &&& 31))))) C 3 dX2_addCount_39 rfl rfl ?_
  refine pw_iconst (pc := 40) (S := (sI (sI S x0 6 ((pI S x0 6) ||| ((1 : Int32) <<< (x1 &&& 31)))) x0 4 ((pI (sI S x0 6 ((pI S x0 6) ||| ((1 : Int32) <<< (x1 &&& 31)))) x0 4) ||| (x2 <<< (((3 : Int32) * x1) &&& 31))))) (v := 3 ) C dX2_addCount_40 (by decide) ?_
  refine pw_iload_n (pc := 41) (S := (sI (sI S x0 6 ((pI S x0 6) ||| ((1 : Int32) <<< (x1 &&& 31)))) x0 4 ((pI (sI S x0 6 ((pI S x0 6) ||| ((1 : Int32) <<< (x1 &&& 31)))) x0 4) ||| (x2 <<< (((3 : Int32) * x1) &&& 31))))) C 1 dX2_addCount_41 rfl rfl ?_
  refine pw_imul (pc := 42) (S := (sI (sI S x0 6 ((pI S x0 6) ||| ((1 : Int32) <<< (x1 &&& 31)))) x0 4 ((pI (sI S x0 6 ((pI S x0 6) ||| ((1 : Int32) <<< (x1 &&& 31)))) x0 4) ||| (x2 <<< (((3 : Int32) * x1) &&& 31))))) C dX2_addCount_42 ?_
  refine pw_ishl (pc := 43) (S := (sI (sI S x0 6 ((pI S x0 6) ||| ((1 : Int32) <<< (x1 &&& 31)))) x0 4 ((pI (sI S x0 6 ((pI S x0 6) ||| ((1 : Int32) <<< (x1 &&& 31)))) x0 4) ||| (x2 <<< (((3 : Int32) * x1) &&& 31))))) C dX2_addCount_43 ?_
  refine pw_ior (pc := 44) (S := (sI (sI S x0 6 ((pI S x0 6) ||| ((1 : Int32) <<< (x1 &&& 31)))) x0 4 ((pI (sI S x0 6 ((pI S x0 6) ||| ((1 : Int32) <<< (x1 &&& 31)))) x0 4) ||| (x2 <<< (((3 : Int32) * x1) &&& 31))))) C dX2_addCount_44 ?_
  refine pw_iand (pc := 45) (S := (sI (sI S x0 6 ((pI S x0 6) ||| ((1 : Int32) <<< (x1 &&& 31)))) x0 4 ((pI (sI S x0 6 ((pI S x0 6) ||| ((1 : Int32) <<< (x1 &&& 31)))) x0 4) ||| (x2 <<< (((3 : Int32) * x1) &&& 31))))) C dX2_addCount_45 ?_
  refine pw_putI (pc := 46) (S := (sI (sI S x0 6 ((pI S x0 6) ||| ((1 : Int32) <<< (x1 &&& 31)))) x0 4 ((pI (sI S x0 6 ((pI S x0 6) ||| ((1 : Int32) <<< (x1 &&& 31)))) x0 4) ||| (x2 <<< (((3 : Int32) * x1) &&& 31))))) (ref := "SupportSolver$Counts") (k := 5) (index := 15) C pCl1 iX2_addCount_X2 hk1 rfl (by decide +kernel) (Or.inl rfl) (Or.inl rfl) rfl rfl dX2_addCount_46 ?_
  exact pw_vret (pc := 49) (S := (sI (sI (sI S x0 6 ((pI S x0 6) ||| ((1 : Int32) <<< (x1 &&& 31)))) x0 4 ((pI (sI S x0 6 ((pI S x0 6) ||| ((1 : Int32) <<< (x1 &&& 31)))) x0 4) ||| (x2 <<< (((3 : Int32) * x1) &&& 31)))) x0 5 ((pI (sI (sI S x0 6 ((pI S x0 6) ||| ((1 : Int32) <<< (x1 &&& 31)))) x0 4 ((pI (sI S x0 6 ((pI S x0 6) ||| ((1 : Int32) <<< (x1 &&& 31)))) x0 4) ||| (x2 <<< (((3 : Int32) * x1) &&& 31)))) x0 5) &&& ((((7 : Int32) <<< (((3 : Int32) * x1) &&& 31)) ^^^ (-1 : Int32)) ||| (x3 <<< (((3 : Int32) * x1) &&& 31)))))) C hr h dX2_addCount_49

abbrev rmX3_init : Room := { frames := 1, cells := 0, slots := 0, locals := 20 }
theorem iX3_init_X3 : ∀ w ∈ u_ws RX3 TX3 7, w ∈ wsX3_init := fun _ h => List.mem_cons_of_mem _ (List.mem_append_right _ h)
def wpX3_init (S : PS) (x0 : Nat) (Q : PS → Prop) : Prop := (pK S x0 = 3 ∧ (Q (sI (sJ (sJ (sI (sI (sI (sI S x0 0 (0 : Int32)) x0 1 (0 : Int32)) x0 2 (0 : Int32)) x0 3 (0 : Int32)) x0 4 (0 : Int64)) x0 5 (-1 : Int64)) x0 6 (0 : Int32))))
set_option maxRecDepth 100000 in
set_option maxHeartbeats 4000000 in
theorem ctX3_init (l : Launch) (G : PG) (hZ : pZa G) (S : PS) (x0 : Nat) (Q : PS → Prop) (h : wpX3_init S x0 Q) : mV l yX3_init wsX3_init rmX3_init G S [.ref (G.2.2 + x0)] Q := by
  unfold mV
  refine met_of (cc := cX3_init) (maxL := 1) (ret := none) (by decide) rfl (Nat.le_of_ble_eq_true rfl) ?_
  intro p e s m args below meth c C hr hin
  unfold wpX3_init at h
  show PW p l e _ s m args below meth c _ G 1 S 0 0 [(0, .ref (G.2.2 + x0))] 0 []
  refine pw_aload_n (pc := 0) C 0 dX3_init_0 rfl rfl ?_
  refine pw_objInit (pc := 1) C (by decide +kernel) (by decide +kernel) (by decide +kernel) (Nat.le_of_ble_eq_true rfl) (Nat.le_of_ble_eq_true rfl) (Nat.le_of_ble_eq_true rfl) dX3_init_1 ?_
  refine pw_aload_n (pc := 4) C 0 dX3_init_4 rfl rfl ?_
  refine pw_iconst (pc := 5) (v := 0 ) C dX3_init_5 (by decide) ?_
  obtain ⟨hk1, h⟩ := h
  refine pw_putI (pc := 6) (ref := "SupportSolver$Fact") (k := 0) (index := 7) C pCl2 iX3_init_X3 hk1 rfl (by decide +kernel) (Or.inl rfl) (Or.inl rfl) rfl rfl dX3_init_6 ?_
  refine pw_aload_n (pc := 9) (S := (sI S x0 0 (0 : Int32))) C 0 dX3_init_9 rfl rfl ?_
  refine pw_iconst (pc := 10) (S := (sI S x0 0 (0 : Int32))) (v := 0 ) C dX3_init_10 (by decide) ?_
  refine pw_putI (pc := 11) (S := (sI S x0 0 (0 : Int32))) (ref := "SupportSolver$Fact") (k := 1) (index := 13) C pCl2 iX3_init_X3 hk1 rfl (by decide +kernel) (Or.inl rfl) (Or.inl rfl) rfl rfl dX3_init_11 ?_
  refine pw_aload_n (pc := 14) (S := (sI (sI S x0 0 (0 : Int32)) x0 1 (0 : Int32))) C 0 dX3_init_14 rfl rfl ?_
  refine pw_iconst (pc := 15) (S := (sI (sI S x0 0 (0 : Int32)) x0 1 (0 : Int32))) (v := 0 ) C dX3_init_15 (by decide) ?_
  refine pw_putI (pc := 16) (S := (sI (sI S x0 0 (0 : Int32)) x0 1 (0 : Int32))) (ref := "SupportSolver$Fact") (k := 2) (index := 16) C pCl2 iX3_init_X3 hk1 rfl (by decide +kernel) (Or.inl rfl) (Or.inl rfl) rfl rfl dX3_init_16 ?_
  refine pw_aload_n (pc := 19) (S := (sI (sI (sI S x0 0 (0 : Int32)) x0 1 (0 : Int32)) x0 2 (0 : Int32))) C 0 dX3_init_19 rfl rfl ?_
  refine pw_iconst (pc := 20) (S := (sI (sI (sI S x0 0 (0 : Int32)) x0 1 (0 : Int32)) x0 2 (0 : Int32))) (v := 0 ) C dX3_init_20 (by decide) ?_
  refine pw_putI (pc := 21) (S := (sI (sI (sI S x0 0 (0 : Int32)) x0 1 (0 : Int32)) x0 2 (0 : Int32))) (ref := "SupportSolver$Fact") (k := 3) (index := 19) C pCl2 iX3_init_X3 hk1 rfl (by decide +kernel) (Or.inl rfl) (Or.inl rfl) rfl rfl dX3_init_21 ?_
  refine pw_aload_n (pc := 24) (S := (sI (sI (sI (sI S x0 0 (0 : Int32)) x0 1 (0 : Int32)) x0 2 (0 : Int32)) x0 3 (0 : Int32))) C 0 dX3_init_24 rfl rfl ?_
  refine pw_lconst (pc := 25) (S := (sI (sI (sI (sI S x0 0 (0 : Int32)) x0 1 (0 : Int32)) x0 2 (0 : Int32)) x0 3 (0 : Int32))) (v := 0) C dX3_init_25 (by decide) ?_
  refine pw_putJ (pc := 26) (S := (sI (sI (sI (sI S x0 0 (0 : Int32)) x0 1 (0 : Int32)) x0 2 (0 : Int32)) x0 3 (0 : Int32))) (ref := "SupportSolver$Fact") (k := 4) (index := 22) C pCl2 iX3_init_X3 hk1 rfl (by decide +kernel) (Or.inl rfl) (Or.inl rfl) rfl rfl dX3_init_26 ?_
  refine pw_aload_n (pc := 29) (S := (sJ (sI (sI (sI (sI S x0 0 (0 : Int32)) x0 1 (0 : Int32)) x0 2 (0 : Int32)) x0 3 (0 : Int32)) x0 4 (0 : Int64))) C 0 dX3_init_29 rfl rfl ?_
  refine pw_ldc2 (pc := 30) (S := (sJ (sI (sI (sI (sI S x0 0 (0 : Int32)) x0 1 (0 : Int32)) x0 2 (0 : Int32)) x0 3 (0 : Int32)) x0 4 (0 : Int64))) (v := (-1)) C (by decide +kernel) dX3_init_30 ?_
  refine pw_putJ (pc := 33) (S := (sJ (sI (sI (sI (sI S x0 0 (0 : Int32)) x0 1 (0 : Int32)) x0 2 (0 : Int32)) x0 3 (0 : Int32)) x0 4 (0 : Int64))) (ref := "SupportSolver$Fact") (k := 5) (index := 28) C pCl2 iX3_init_X3 hk1 rfl (by decide +kernel) (Or.inl rfl) (Or.inl rfl) rfl rfl dX3_init_33 ?_
  refine pw_aload_n (pc := 36) (S := (sJ (sJ (sI (sI (sI (sI S x0 0 (0 : Int32)) x0 1 (0 : Int32)) x0 2 (0 : Int32)) x0 3 (0 : Int32)) x0 4 (0 : Int64)) x0 5 (-1 : Int64))) C 0 dX3_init_36 rfl rfl ?_
  refine pw_iconst (pc := 37) (S := (sJ (sJ (sI (sI (sI (sI S x0 0 (0 : Int32)) x0 1 (0 : Int32)) x0 2 (0 : Int32)) x0 3 (0 : Int32)) x0 4 (0 : Int64)) x0 5 (-1 : Int64))) (v := 0 ) C dX3_init_37 (by decide) ?_
  refine pw_putI (pc := 38) (S := (sJ (sJ (sI (sI (sI (sI S x0 0 (0 : Int32)) x0 1 (0 : Int32)) x0 2 (0 : Int32)) x0 3 (0 : Int32)) x0 4 (0 : Int64)) x0 5 (-1 : Int64))) (ref := "SupportSolver$Fact") (k := 6) (index := 31) C pCl2 iX3_init_X3 hk1 rfl (by decide +kernel) (Or.inl rfl) (Or.inl rfl) rfl rfl dX3_init_38 ?_
  exact pw_vret (pc := 41) (S := (sI (sJ (sJ (sI (sI (sI (sI S x0 0 (0 : Int32)) x0 1 (0 : Int32)) x0 2 (0 : Int32)) x0 3 (0 : Int32)) x0 4 (0 : Int64)) x0 5 (-1 : Int64)) x0 6 (0 : Int32))) C hr h dX3_init_41

abbrev rmX3_pair : Room := { frames := 1, cells := 0, slots := 0, locals := 21 }
theorem iX3_pair_X3 : ∀ w ∈ u_ws RX3 TX3 7, w ∈ wsX3_pair := fun _ h => List.mem_cons_of_mem _ (List.mem_append_right _ h)
def wpX3_pair (S : PS) (x0 : Nat) (Q : Int64 → PS → Prop) : Prop := (pK S x0 = 3 ∧ (wpX5_pair S (pI S x0 0) (pI S x0 1) (fun r2 S3 => (Q r2 S3))))
set_option maxRecDepth 100000 in
set_option maxHeartbeats 4000000 in
theorem ctX3_pair (l : Launch) (G : PG) (hZ : pZa G) (S : PS) (x0 : Nat) (Q : Int64 → PS → Prop) (h : wpX3_pair S x0 Q) : mJ l yX3_pair wsX3_pair rmX3_pair G S [.ref (G.2.2 + x0)] Q := by
  unfold mJ
  refine met_of (cc := cX3_pair) (maxL := 1) (ret := (some .long)) (by decide) rfl (Nat.le_of_ble_eq_true rfl) ?_
  intro p e s m args below meth c C hr hin
  unfold wpX3_pair at h
  show PW p l e _ s m args below meth c _ G 1 S 0 0 [(0, .ref (G.2.2 + x0))] 0 []
  refine pw_aload_n (pc := 0) C 0 dX3_pair_0 rfl rfl ?_
  obtain ⟨hk1, h⟩ := h
  refine pw_getI (pc := 1) (ref := "SupportSolver$Fact") (k := 0) (index := 7) C pCl2 iX3_pair_X3 hk1 rfl (by decide +kernel) (Or.inl rfl) dX3_pair_1 ?_
  refine pw_aload_n (pc := 4) C 0 dX3_pair_4 rfl rfl ?_
  refine pw_getI (pc := 5) (ref := "SupportSolver$Fact") (k := 1) (index := 13) C pCl2 iX3_pair_X3 hk1 rfl (by decide +kernel) (Or.inl rfl) dX3_pair_5 ?_
  refine pw_calll (pc := 8) (kc2 := 0) (kn2 := 0) (pRunS (pc := 8) C (ctX5_pair l G hZ  _ (pI S x0 0) (pI S x0 1) _ h) (va_cwS 2 C.2.2.2.2.1 gX3_pair_X5_pair rfl rfl rfl (by decide +kernel) ⟨Nat.le_of_ble_eq_true rfl, Nat.le_of_ble_eq_true rfl⟩) rfl rfl (Nat.le_of_ble_eq_true rfl) dX3_pair_8 ⟨Nat.le_of_ble_eq_true rfl, Nat.le_of_ble_eq_true rfl⟩) rfl rfl (fun r2 S3 h => ?_)
  exact pw_lret (pc := 11) C hr h dX3_pair_11

abbrev rmX4_init : Room := { frames := 2, cells := 0, slots := 0, locals := 41 }
theorem iX4_init_X4 : ∀ w ∈ u_ws RX4 TX4 5, w ∈ wsX4_init := by decide +kernel
def wpX4_init (S : PS) (x0 : Nat) (Q : PS → Prop) : Prop := (wpX1_init S x0 (4 : Int32) (fun S2 => (pK S2 x0 = 4 ∧ (Q (sJ S2 x0 4 (0 : Int64))))))
set_option maxRecDepth 100000 in
set_option maxHeartbeats 4000000 in
theorem ctX4_init (l : Launch) (G : PG) (hZ : pZa G) (S : PS) (x0 : Nat) (Q : PS → Prop) (h : wpX4_init S x0 Q) : mV l yX4_init wsX4_init rmX4_init G S [.ref (G.2.2 + x0)] Q := by
  unfold mV
  refine met_of (cc := cX4_init) (maxL := 1) (ret := none) (by decide) rfl (Nat.le_of_ble_eq_true rfl) ?_
  intro p e s m args below meth c C hr hin
  unfold wpX4_init at h
  show PW p l e _ s m args below meth c _ G 1 S 0 0 [(0, .ref (G.2.2 + x0))] 0 []
  refine pw_aload_n (pc := 0) C 0 dX4_init_0 rfl rfl ?_
  refine pw_iconst (pc := 1) (v := 4 ) C dX4_init_1 (by decide) ?_
  refine pw_callv (pc := 2) (kc2 := 0) (kn2 := 0) (pRunI (pc := 2) C (ctX1_init l G hZ  _ x0 (4 : Int32) _ h) (cwI 1 C.2.2.2.2.1 gX4_init_X1_init rfl rfl rfl (C.2.2.2.2.1 (.initialized RX1) (by decide +kernel)) (C.2.2.2.2.1 (.methodLink RX4 5 yX1_init) (by decide +kernel)) (C.2.2.2.2.1 (.instanceMethod yX1_init) (by decide +kernel)) rfl (by decide +kernel) ⟨Nat.le_of_ble_eq_true rfl, Nat.le_of_ble_eq_true rfl⟩) rfl rfl (Nat.le_of_ble_eq_true rfl) dX4_init_2 ⟨Nat.le_of_ble_eq_true rfl, Nat.le_of_ble_eq_true rfl⟩) rfl rfl (fun S2 h => ?_)
  refine pw_aload_n (pc := 5) C 0 dX4_init_5 rfl rfl ?_
  refine pw_lconst (pc := 6) (v := 0) C dX4_init_6 (by decide) ?_
  obtain ⟨hk3, h⟩ := h
  refine pw_putJ (pc := 7) (ref := "SupportSolver$LearntSet") (k := 4) (index := 9) C pCl3 iX4_init_X4 hk3 rfl (by decide +kernel) (Or.inl rfl) (Or.inl rfl) rfl rfl dX4_init_7 ?_
  exact pw_vret (pc := 10) (S := (sJ S2 x0 4 (0 : Int64))) C hr h dX4_init_10

abbrev rmX4_show : Room := { frames := 2, cells := 0, slots := 0, locals := 41 }
theorem iX4_show_X4 : ∀ w ∈ u_ws RX4 TX4 5, w ∈ wsX4_show := by decide +kernel
def wpX4_show_b11  (Q : PS → Prop) : Nat → PS → Nat → Int64 → Int32 → Prop
  | 0 => fun _ _ _ _ => False
  | n + 1 => fun S x0 x1 x3 => (((7 : Int32) ≤ x3 → (Q S)) ∧ (¬ (7 : Int32) ≤ x3 → (wpX5_valuesOf S x1 x3 (fun r1 S2 => ((r1 = 0 → (wpX4_show_b11 Q n S2 x0 x1 (x3 + 1))) ∧ (¬ r1 = 0 → (pK S2 x0 = 4 ∧ (wpX1_addVariable S2 x0 x3 (fun S5 => (wpX4_show_b11 Q n S5 x0 x1 (x3 + 1)))))))))))
def wpX4_show (S : PS) (x0 : Nat) (x1 : Int64) (Q : PS → Prop) : Prop := (pK S x0 = 4 ∧ (wpX1_clearVariables (sJ S x0 4 x1) x0 (fun S8 => (∃ n9 : Nat, wpX4_show_b11 Q n9 S8 x0 x1 (0 : Int32)))))
set_option maxRecDepth 100000 in
set_option maxHeartbeats 4000000 in
theorem cbX4_show_b11 {p : Program} {l : Launch} {e : Env} {s : State} {m : MethodId} {args : Array Value} {below : List Frame} {meth : Method} {c : Code} {G : PG} {Q : PS → Prop} (C : pCx p s m args meth c G cX4_show 4 yX4_show.cls wsX4_show) (hr : meth.sig.returnType = none) (hin : meth.name = yX4_show.name) (hZ : pZa G)  (n : Nat) : ∀ (S : PS) (x0 : Nat) (x1 : Int64) (x3 : Int32), wpX4_show_b11  Q n S x0 x1 x3 → PW p l e rmX4_show s m args below meth c (MQ below (va_Qv Q (pB G) (pFr G)) args s rmX4_show.cells rmX4_show.slots (pFr G)) G 4 S 0 0 [(0, .ref (G.2.2 + x0)), (1, .long x1), (3, .int x3)] 11 ([]) := by
  induction n with
  | zero => intro S x0 x1 x3 h; exact h.elim
  | succ n ih =>
    intro S x0 x1 x3 h
    unfold wpX4_show_b11 at h
    refine pw_iload_n (pc := 11) C 2 dX4_show_11 rfl rfl ?_
    refine pw_bipush (pc := 12) (v := 7 ) C dX4_show_12 (by decide) ?_
    refine pw_icmp_ge (pc := 14) (tgt := 36) C dX4_show_14 rfl ⟨fun hc => ?_, fun hc => ?_⟩
    · replace h := h.1 hc
      exact pw_vret (pc := 36) C hr h dX4_show_36
    · replace h := h.2 hc
      refine pw_lload_n (pc := 17) C 1 dX4_show_17 rfl rfl ?_
      refine pw_iload_n (pc := 18) C 2 dX4_show_18 rfl rfl ?_
      refine pw_calli (pc := 19) (kc2 := 0) (kn2 := 0) (pRunS (pc := 19) C (ctX5_valuesOf l G hZ  _ x1 x3 _ h) (va_cwS 2 C.2.2.2.2.1 gX4_show_X5_valuesOf rfl rfl rfl (by decide +kernel) ⟨Nat.le_of_ble_eq_true rfl, Nat.le_of_ble_eq_true rfl⟩) rfl rfl (Nat.le_of_ble_eq_true rfl) dX4_show_19 ⟨Nat.le_of_ble_eq_true rfl, Nat.le_of_ble_eq_true rfl⟩) rfl rfl (fun r1 S2 h => ?_)
      refine pw_if_eq (pc := 22) (tgt := 30) C dX4_show_22 rfl ⟨fun hc => ?_, fun hc => ?_⟩
      · replace h := h.1 hc
        refine pw_iincK (pc := 30) (w := 1) C [(3, .int (x3 + 1)), (0, .ref (G.2.2 + x0)), (1, .long x1)] 2 dX4_show_30 (by decide) rfl (by decide) rfl ?_
        refine pw_goto (pc := 33) (tgt := 11) C dX4_show_33 rfl ?_
        refine pw_sub [1, 2, 0] (LV2 := [(0, .ref (G.2.2 + x0)), (1, .long x1), (3, .int (x3 + 1))]) rfl ?_
        exact ih _ _ _ _ h
      · replace h := h.2 hc
        refine pw_aload_n (pc := 25) C 0 dX4_show_25 rfl rfl ?_
        refine pw_iload_n (pc := 26) C 2 dX4_show_26 rfl rfl ?_
        obtain ⟨hk3, h⟩ := h
        refine pw_callv (pc := 27) (kc2 := 0) (kn2 := 0) (pRunU (pc := 27) C (ctX1_addVariable l G hZ  _ x0 x3 _ h) (va_cwU 1 C.2.2.2.2.1 gX4_show_X1_addVariable_u25X4 rfl rfl rfl rfl (by decide +kernel) ⟨Nat.le_of_ble_eq_true rfl, Nat.le_of_ble_eq_true rfl⟩) pCl3 hk3 rfl rfl (Nat.le_of_ble_eq_true rfl) dX4_show_27 ⟨Nat.le_of_ble_eq_true rfl, Nat.le_of_ble_eq_true rfl⟩) rfl rfl (fun S5 h => ?_)
        refine pw_iincK (pc := 30) (w := 1) C [(3, .int (x3 + 1)), (0, .ref (G.2.2 + x0)), (1, .long x1)] 2 dX4_show_30 (by decide) rfl (by decide) rfl ?_
        refine pw_goto (pc := 33) (tgt := 11) C dX4_show_33 rfl ?_
        refine pw_sub [1, 2, 0] (LV2 := [(0, .ref (G.2.2 + x0)), (1, .long x1), (3, .int (x3 + 1))]) rfl ?_
        exact ih _ _ _ _ h
set_option maxRecDepth 100000 in
set_option maxHeartbeats 4000000 in
theorem ctX4_show (l : Launch) (G : PG) (hZ : pZa G) (S : PS) (x0 : Nat) (x1 : Int64) (Q : PS → Prop) (h : wpX4_show S x0 x1 Q) : mV l yX4_show wsX4_show rmX4_show G S [.ref (G.2.2 + x0), .long x1] Q := by
  unfold mV
  refine met_of (cc := cX4_show) (maxL := 4) (ret := none) (by decide) rfl (Nat.le_of_ble_eq_true rfl) ?_
  intro p e s m args below meth c C hr hin
  unfold wpX4_show at h
  show PW p l e _ s m args below meth c _ G 4 S 0 0 [(0, .ref (G.2.2 + x0)), (1, .long x1)] 0 []
  refine pw_aload_n (pc := 0) C 0 dX4_show_0 rfl rfl ?_
  refine pw_lload_n (pc := 1) C 1 dX4_show_1 rfl rfl ?_
  obtain ⟨hk6, h⟩ := h
  refine pw_putJ (pc := 2) (ref := "SupportSolver$LearntSet") (k := 4) (index := 9) C pCl3 iX4_show_X4 hk6 rfl (by decide +kernel) (Or.inl rfl) (Or.inl rfl) rfl rfl dX4_show_2 ?_
  refine pw_aload_n (pc := 5) (S := (sJ S x0 4 x1)) C 0 dX4_show_5 rfl rfl ?_
  refine pw_callv (pc := 6) (S := (sJ S x0 4 x1)) (kc2 := 0) (kn2 := 0) (pRunU (pc := 6) (S := (sJ S x0 4 x1)) C (ctX1_clearVariables l G hZ  _ x0 _ h) (va_cwU 0 C.2.2.2.2.1 gX4_show_X1_clearVariables_u15X4 rfl rfl rfl rfl (by decide +kernel) ⟨Nat.le_of_ble_eq_true rfl, Nat.le_of_ble_eq_true rfl⟩) pCl3 hk6 rfl rfl (Nat.le_of_ble_eq_true rfl) dX4_show_6 ⟨Nat.le_of_ble_eq_true rfl, Nat.le_of_ble_eq_true rfl⟩) rfl rfl (fun S8 h => ?_)
  refine pw_iconst (pc := 9) (v := 0 ) C dX4_show_9 (by decide) ?_
  refine pw_istore_n (pc := 10) C [(3, .int (0 : Int32)), (0, .ref (G.2.2 + x0)), (1, .long x1)] dX4_show_10 rfl (by decide) rfl ?_
  refine pw_sub [1, 2, 0] (LV2 := [(0, .ref (G.2.2 + x0)), (1, .long x1), (3, .int (0 : Int32))]) rfl ?_
  obtain ⟨n9, h⟩ := h
  exact cbX4_show_b11 C hr hin hZ  n9 _ _ _ _ h

abbrev rmX5_has : Room := { frames := 1, cells := 0, slots := 0, locals := 21 }
def wpX5_has (S : PS) (x0 : Int64) (x2 : Int32) (x3 : Int32) (Q : Int32 → PS → Prop) : Prop := (wpX11_isValue S x3 (fun r1 S2 => ((r1 = 0 → (Q (0 : Int32) S2)) ∧ (¬ r1 = 0 → (wpX5_pair S2 x2 x3 (fun r3 S4 => (((lg_cmp (x0 &&& r3) (0 : Int64)) = 0 → (Q (0 : Int32) S4)) ∧ (¬ (lg_cmp (x0 &&& r3) (0 : Int64)) = 0 → (Q (1 : Int32) S4)))))))))
set_option maxRecDepth 100000 in
set_option maxHeartbeats 4000000 in
theorem ctX5_has (l : Launch) (G : PG) (hZ : pZa G) (S : PS) (x0 : Int64) (x2 : Int32) (x3 : Int32) (Q : Int32 → PS → Prop) (h : wpX5_has S x0 x2 x3 Q) : mI l yX5_has wsX5_has rmX5_has G S [.long x0, .int x2, .int x3] Q := by
  unfold mI
  refine met_of (cc := cX5_has) (maxL := 4) (ret := (some .boolean)) (by decide) rfl (Nat.le_of_ble_eq_true rfl) ?_
  intro p e s m args below meth c C hr hin
  unfold wpX5_has at h
  show PW p l e _ s m args below meth c _ G 4 S 0 0 [(0, .long x0), (2, .int x2), (3, .int x3)] 0 []
  refine pw_iload_n (pc := 0) C 2 dX5_has_0 rfl rfl ?_
  refine pw_calli (pc := 1) (kc2 := 0) (kn2 := 0) (pRunSN (pc := 1) C (ctX11_isValue l G hZ  _ x3 _ h) 1 gX5_has_X11_isValue_n13 rfl (hZ.2.1) (by decide +kernel) (by decide +kernel) (by decide +kernel) ⟨Nat.le_of_ble_eq_true rfl, Nat.le_of_ble_eq_true rfl⟩ rfl rfl (Nat.le_of_ble_eq_true rfl) dX5_has_1 ⟨Nat.le_of_ble_eq_true rfl, Nat.le_of_ble_eq_true rfl⟩) rfl rfl (fun r1 S2 h => ?_)
  refine pw_if_eq (pc := 4) (tgt := 23) C dX5_has_4 rfl ⟨fun hc => ?_, fun hc => ?_⟩
  · replace h := h.1 hc
    refine pw_iconst (pc := 23) (v := 0 ) C dX5_has_23 (by decide) ?_
    exact pw_zret (pc := 24) C hr rfl h dX5_has_24
  · replace h := h.2 hc
    refine pw_lload_n (pc := 7) C 0 dX5_has_7 rfl rfl ?_
    refine pw_iload_n (pc := 8) C 1 dX5_has_8 rfl rfl ?_
    refine pw_iload_n (pc := 9) C 2 dX5_has_9 rfl rfl ?_
    refine pw_calll (pc := 10) (kc2 := 0) (kn2 := 0) (pRunS (pc := 10) C (ctX5_pair l G hZ  _ x2 x3 _ h) (va_cwS 2 C.2.2.2.2.1 gX5_has_X5_pair rfl rfl rfl (by decide +kernel) ⟨Nat.le_of_ble_eq_true rfl, Nat.le_of_ble_eq_true rfl⟩) rfl rfl (Nat.le_of_ble_eq_true rfl) dX5_has_10 ⟨Nat.le_of_ble_eq_true rfl, Nat.le_of_ble_eq_true rfl⟩) rfl rfl (fun r3 S4 h => ?_)
    refine pw_land (pc := 13) C dX5_has_13 ?_
    refine pw_lconst (pc := 14) (v := 0) C dX5_has_14 (by decide) ?_
    refine pw_lcmp (pc := 15) C dX5_has_15 ?_
    refine pw_if_eq (pc := 16) (tgt := 23) C dX5_has_16 rfl ⟨fun hc => ?_, fun hc => ?_⟩
    · replace h := h.1 hc
      refine pw_iconst (pc := 23) (v := 0 ) C dX5_has_23 (by decide) ?_
      exact pw_zret (pc := 24) C hr rfl h dX5_has_24
    · replace h := h.2 hc
      refine pw_iconst (pc := 19) (v := 1 ) C dX5_has_19 (by decide) ?_
      refine pw_goto (pc := 20) (tgt := 24) C dX5_has_20 rfl ?_
      exact pw_zret (pc := 24) C hr rfl h dX5_has_24

abbrev rmX5_assigned : Room := { frames := 1, cells := 0, slots := 0, locals := 21 }
def wpX5_assigned (S : PS) (x0 : Int64) (x2 : Int64) (Q : Int64 → PS → Prop) : Prop := (wpX5_marks S x2 (fun r1 S2 => (Q (x0 &&& (((r1 * (31 : Int64)) ^^^ (-1 : Int64)) ||| x2)) S2)))
set_option maxRecDepth 100000 in
set_option maxHeartbeats 4000000 in
theorem ctX5_assigned (l : Launch) (G : PG) (hZ : pZa G) (S : PS) (x0 : Int64) (x2 : Int64) (Q : Int64 → PS → Prop) (h : wpX5_assigned S x0 x2 Q) : mJ l yX5_assigned wsX5_assigned rmX5_assigned G S [.long x0, .long x2] Q := by
  unfold mJ
  refine met_of (cc := cX5_assigned) (maxL := 4) (ret := (some .long)) (by decide) rfl (Nat.le_of_ble_eq_true rfl) ?_
  intro p e s m args below meth c C hr hin
  unfold wpX5_assigned at h
  show PW p l e _ s m args below meth c _ G 4 S 0 0 [(0, .long x0), (2, .long x2)] 0 []
  refine pw_lload_n (pc := 0) C 0 dX5_assigned_0 rfl rfl ?_
  refine pw_lload_n (pc := 1) C 1 dX5_assigned_1 rfl rfl ?_
  refine pw_calll (pc := 2) (kc2 := 0) (kn2 := 0) (pRunS (pc := 2) C (ctX5_marks l G hZ  _ x2 _ h) (va_cwS 1 C.2.2.2.2.1 gX5_assigned_X5_marks rfl rfl rfl (by decide +kernel) ⟨Nat.le_of_ble_eq_true rfl, Nat.le_of_ble_eq_true rfl⟩) rfl rfl (Nat.le_of_ble_eq_true rfl) dX5_assigned_2 ⟨Nat.le_of_ble_eq_true rfl, Nat.le_of_ble_eq_true rfl⟩) rfl rfl (fun r1 S2 h => ?_)
  refine pw_ldc2 (pc := 5) (v := 31) C (by decide +kernel) dX5_assigned_5 ?_
  refine pw_lmul (pc := 8) C dX5_assigned_8 ?_
  refine pw_ldc2 (pc := 9) (v := (-1)) C (by decide +kernel) dX5_assigned_9 ?_
  refine pw_lxor (pc := 12) C dX5_assigned_12 ?_
  refine pw_lload_n (pc := 13) C 1 dX5_assigned_13 rfl rfl ?_
  refine pw_lor (pc := 14) C dX5_assigned_14 ?_
  refine pw_land (pc := 15) C dX5_assigned_15 ?_
  exact pw_lret (pc := 16) C hr h dX5_assigned_16

abbrev rmX5_leastValueOf : Room := { frames := 2, cells := 0, slots := 0, locals := 44 }
def wpX5_leastValueOf_b2  (Q : Int32 → PS → Prop) : Nat → PS → Int64 → Int32 → Int32 → Prop
  | 0 => fun _ _ _ _ => False
  | n + 1 => fun S x0 x2 x3 => (((5 : Int32) ≤ x3 → (Q (-1 : Int32) S)) ∧ (¬ (5 : Int32) ≤ x3 → (wpX5_has S x0 x2 x3 (fun r1 S2 => ((r1 = 0 → (wpX5_leastValueOf_b2 Q n S2 x0 x2 (x3 + 1))) ∧ (¬ r1 = 0 → (Q x3 S2)))))))
def wpX5_leastValueOf (S : PS) (x0 : Int64) (x2 : Int32) (Q : Int32 → PS → Prop) : Prop := (∃ n9 : Nat, wpX5_leastValueOf_b2 Q n9 S x0 x2 (0 : Int32))
set_option maxRecDepth 100000 in
set_option maxHeartbeats 4000000 in
theorem cbX5_leastValueOf_b2 {p : Program} {l : Launch} {e : Env} {s : State} {m : MethodId} {args : Array Value} {below : List Frame} {meth : Method} {c : Code} {G : PG} {Q : Int32 → PS → Prop} (C : pCx p s m args meth c G cX5_leastValueOf 4 yX5_leastValueOf.cls wsX5_leastValueOf) (hr : meth.sig.returnType = (some .int)) (hin : meth.name = yX5_leastValueOf.name) (hZ : pZa G)  (n : Nat) : ∀ (S : PS) (x0 : Int64) (x2 : Int32) (x3 : Int32), wpX5_leastValueOf_b2  Q n S x0 x2 x3 → PW p l e rmX5_leastValueOf s m args below meth c (MQ below (va_Qi Q (pB G) (pFr G)) args s rmX5_leastValueOf.cells rmX5_leastValueOf.slots (pFr G)) G 4 S 0 0 [(0, .long x0), (2, .int x2), (3, .int x3)] 2 ([]) := by
  induction n with
  | zero => intro S x0 x2 x3 h; exact h.elim
  | succ n ih =>
    intro S x0 x2 x3 h
    unfold wpX5_leastValueOf_b2 at h
    refine pw_iload_n (pc := 2) C 2 dX5_leastValueOf_2 rfl rfl ?_
    refine pw_iconst (pc := 3) (v := 5 ) C dX5_leastValueOf_3 (by decide) ?_
    refine pw_icmp_ge (pc := 4) (tgt := 24) C dX5_leastValueOf_4 rfl ⟨fun hc => ?_, fun hc => ?_⟩
    · replace h := h.1 hc
      refine pw_iconst (pc := 24) (v := (-1)) C dX5_leastValueOf_24 (by decide) ?_
      exact pw_iret (pc := 25) C hr h dX5_leastValueOf_25
    · replace h := h.2 hc
      refine pw_lload_n (pc := 7) C 0 dX5_leastValueOf_7 rfl rfl ?_
      refine pw_iload_n (pc := 8) C 1 dX5_leastValueOf_8 rfl rfl ?_
      refine pw_iload_n (pc := 9) C 2 dX5_leastValueOf_9 rfl rfl ?_
      refine pw_calli (pc := 10) (kc2 := 0) (kn2 := 0) (pRunS (pc := 10) C (ctX5_has l G hZ  _ x0 x2 x3 _ h) (va_cwS 3 C.2.2.2.2.1 gX5_leastValueOf_X5_has rfl rfl rfl (by decide +kernel) ⟨Nat.le_of_ble_eq_true rfl, Nat.le_of_ble_eq_true rfl⟩) rfl rfl (Nat.le_of_ble_eq_true rfl) dX5_leastValueOf_10 ⟨Nat.le_of_ble_eq_true rfl, Nat.le_of_ble_eq_true rfl⟩) rfl rfl (fun r1 S2 h => ?_)
      refine pw_if_eq (pc := 13) (tgt := 18) C dX5_leastValueOf_13 rfl ⟨fun hc => ?_, fun hc => ?_⟩
      · replace h := h.1 hc
        refine pw_iincK (pc := 18) (w := 1) C [(3, .int (x3 + 1)), (0, .long x0), (2, .int x2)] 2 dX5_leastValueOf_18 (by decide) rfl (by decide) rfl ?_
        refine pw_goto (pc := 21) (tgt := 2) C dX5_leastValueOf_21 rfl ?_
        refine pw_sub [1, 2, 0] (LV2 := [(0, .long x0), (2, .int x2), (3, .int (x3 + 1))]) rfl ?_
        exact ih _ _ _ _ h
      · replace h := h.2 hc
        refine pw_iload_n (pc := 16) C 2 dX5_leastValueOf_16 rfl rfl ?_
        exact pw_iret (pc := 17) C hr h dX5_leastValueOf_17
set_option maxRecDepth 100000 in
set_option maxHeartbeats 4000000 in
theorem ctX5_leastValueOf (l : Launch) (G : PG) (hZ : pZa G) (S : PS) (x0 : Int64) (x2 : Int32) (Q : Int32 → PS → Prop) (h : wpX5_leastValueOf S x0 x2 Q) : mI l yX5_leastValueOf wsX5_leastValueOf rmX5_leastValueOf G S [.long x0, .int x2] Q := by
  unfold mI
  refine met_of (cc := cX5_leastValueOf) (maxL := 4) (ret := (some .int)) (by decide) rfl (Nat.le_of_ble_eq_true rfl) ?_
  intro p e s m args below meth c C hr hin
  unfold wpX5_leastValueOf at h
  show PW p l e _ s m args below meth c _ G 4 S 0 0 [(0, .long x0), (2, .int x2)] 0 []
  refine pw_iconst (pc := 0) (v := 0 ) C dX5_leastValueOf_0 (by decide) ?_
  refine pw_istore_n (pc := 1) C [(3, .int (0 : Int32)), (0, .long x0), (2, .int x2)] dX5_leastValueOf_1 rfl (by decide) rfl ?_
  refine pw_sub [1, 2, 0] (LV2 := [(0, .long x0), (2, .int x2), (3, .int (0 : Int32))]) rfl ?_
  obtain ⟨n9, h⟩ := h
  exact cbX5_leastValueOf_b2 C hr hin hZ  n9 _ _ _ _ h

abbrev rmX5_toldPair : Room := { frames := 0, cells := 0, slots := 0, locals := 0 }
def wpX5_toldPair_b5  (Q : Int32 → PS → Prop) : Nat → PS → Int64 → Int32 → Int32 → Int32 → Prop
  | 0 => fun _ _ _ _ _ => False
  | n + 1 => fun S x0 x2 x3 x4 => (((35 : Int32) ≤ x4 → (Q (-1 : Int32) S)) ∧ (¬ (35 : Int32) ≤ x4 → (((lg_cmp ((((x0).toUInt64 >>> ((x4).toInt64.toUInt64 &&& Int64.toUInt64 63)).toInt64) &&& (1 : Int64)) (0 : Int64)) = 0 → (wpX5_toldPair_b5 Q n S x0 x2 x3 (x4 + 1))) ∧ (¬ (lg_cmp ((((x0).toUInt64 >>> ((x4).toInt64.toUInt64 &&& Int64.toUInt64 63)).toInt64) &&& (1 : Int64)) (0 : Int64)) = 0 → ((¬ x3 = x2 → (wpX5_toldPair_b5 Q n S x0 x2 (x3 + 1) (x4 + 1))) ∧ (x3 = x2 → (Q (((10 : Int32) * (x4 / (5 : Int32))) + (x4 - x4 / (5 : Int32) * (5 : Int32))) S)))))))
def wpX5_toldPair (S : PS) (x0 : Int64) (x2 : Int32) (Q : Int32 → PS → Prop) : Prop := (∃ n9 : Nat, wpX5_toldPair_b5 Q n9 S x0 x2 (0 : Int32) (0 : Int32))
set_option maxRecDepth 100000 in
set_option maxHeartbeats 4000000 in
theorem cbX5_toldPair_b5 {p : Program} {l : Launch} {e : Env} {s : State} {m : MethodId} {args : Array Value} {below : List Frame} {meth : Method} {c : Code} {G : PG} {Q : Int32 → PS → Prop} (C : pCx p s m args meth c G cX5_toldPair 5 yX5_toldPair.cls wsX5_toldPair) (hr : meth.sig.returnType = (some .int)) (hin : meth.name = yX5_toldPair.name) (hZ : pZa G)  (n : Nat) : ∀ (S : PS) (x0 : Int64) (x2 : Int32) (x3 : Int32) (x4 : Int32), wpX5_toldPair_b5  Q n S x0 x2 x3 x4 → PW p l e rmX5_toldPair s m args below meth c (MQ below (va_Qi Q (pB G) (pFr G)) args s rmX5_toldPair.cells rmX5_toldPair.slots (pFr G)) G 5 S 0 0 [(0, .long x0), (2, .int x2), (3, .int x3), (4, .int x4)] 5 ([]) := by
  induction n with
  | zero => intro S x0 x2 x3 x4 h; exact h.elim
  | succ n ih =>
    intro S x0 x2 x3 x4 h
    unfold wpX5_toldPair_b5 at h
    refine pw_iload (pc := 5) C 3 dX5_toldPair_5 rfl ?_
    refine pw_bipush (pc := 7) (v := 35 ) C dX5_toldPair_7 (by decide) ?_
    refine pw_icmp_ge (pc := 9) (tgt := 50) C dX5_toldPair_9 rfl ⟨fun hc => ?_, fun hc => ?_⟩
    · replace h := h.1 hc
      refine pw_iconst (pc := 50) (v := (-1)) C dX5_toldPair_50 (by decide) ?_
      exact pw_iret (pc := 51) C hr h dX5_toldPair_51
    · replace h := h.2 hc
      refine pw_lload_n (pc := 12) C 0 dX5_toldPair_12 rfl rfl ?_
      refine pw_iload (pc := 13) C 3 dX5_toldPair_13 rfl ?_
      refine pw_lushr (pc := 15) C dX5_toldPair_15 ?_
      refine pw_lconst (pc := 16) (v := 1) C dX5_toldPair_16 (by decide) ?_
      refine pw_land (pc := 17) C dX5_toldPair_17 ?_
      refine pw_lconst (pc := 18) (v := 0) C dX5_toldPair_18 (by decide) ?_
      refine pw_lcmp (pc := 19) C dX5_toldPair_19 ?_
      refine pw_if_eq (pc := 20) (tgt := 44) C dX5_toldPair_20 rfl ⟨fun hc => ?_, fun hc => ?_⟩
      · replace h := h.1 hc
        refine pw_iincK (pc := 44) (w := 1) C [(4, .int (x4 + 1)), (0, .long x0), (2, .int x2), (3, .int x3)] 3 dX5_toldPair_44 (by decide) rfl (by decide) rfl ?_
        refine pw_goto (pc := 47) (tgt := 5) C dX5_toldPair_47 rfl ?_
        refine pw_sub [1, 2, 3, 0] (LV2 := [(0, .long x0), (2, .int x2), (3, .int x3), (4, .int (x4 + 1))]) rfl ?_
        exact ih _ _ _ _ _ h
      · replace h := h.2 hc
        refine pw_iload_n (pc := 23) C 2 dX5_toldPair_23 rfl rfl ?_
        refine pw_iload_n (pc := 24) C 1 dX5_toldPair_24 rfl rfl ?_
        refine pw_icmp_ne (pc := 25) (tgt := 41) C dX5_toldPair_25 rfl ⟨fun hc => ?_, fun hc => ?_⟩
        · replace h := h.1 hc
          refine pw_iincK (pc := 41) (w := 1) C [(3, .int (x3 + 1)), (0, .long x0), (2, .int x2), (4, .int x4)] 2 dX5_toldPair_41 (by decide) rfl (by decide) rfl ?_
          refine pw_iincK (pc := 44) (w := 1) C [(4, .int (x4 + 1)), (3, .int (x3 + 1)), (0, .long x0), (2, .int x2)] 3 dX5_toldPair_44 (by decide) rfl (by decide) rfl ?_
          refine pw_goto (pc := 47) (tgt := 5) C dX5_toldPair_47 rfl ?_
          refine pw_sub [2, 3, 1, 0] (LV2 := [(0, .long x0), (2, .int x2), (3, .int (x3 + 1)), (4, .int (x4 + 1))]) rfl ?_
          exact ih _ _ _ _ _ h
        · replace h := h.2 hc
          refine pw_bipush (pc := 28) (v := 10 ) C dX5_toldPair_28 (by decide) ?_
          refine pw_iload (pc := 30) C 3 dX5_toldPair_30 rfl ?_
          refine pw_iconst (pc := 32) (v := 5 ) C dX5_toldPair_32 (by decide) ?_
          refine pw_idiv (pc := 33) C dX5_toldPair_33 (by decide) ?_
          refine pw_imul (pc := 34) C dX5_toldPair_34 ?_
          refine pw_iload (pc := 35) C 3 dX5_toldPair_35 rfl ?_
          refine pw_iconst (pc := 37) (v := 5 ) C dX5_toldPair_37 (by decide) ?_
          refine pw_irem (pc := 38) C dX5_toldPair_38 (by decide) ?_
          refine pw_iadd (pc := 39) C dX5_toldPair_39 ?_
          exact pw_iret (pc := 40) C hr h dX5_toldPair_40
set_option maxRecDepth 100000 in
set_option maxHeartbeats 4000000 in
theorem ctX5_toldPair (l : Launch) (G : PG) (hZ : pZa G) (S : PS) (x0 : Int64) (x2 : Int32) (Q : Int32 → PS → Prop) (h : wpX5_toldPair S x0 x2 Q) : mI l yX5_toldPair wsX5_toldPair rmX5_toldPair G S [.long x0, .int x2] Q := by
  unfold mI
  refine met_of (cc := cX5_toldPair) (maxL := 5) (ret := (some .int)) (by decide) rfl (Nat.le_of_ble_eq_true rfl) ?_
  intro p e s m args below meth c C hr hin
  unfold wpX5_toldPair at h
  show PW p l e _ s m args below meth c _ G 5 S 0 0 [(0, .long x0), (2, .int x2)] 0 []
  refine pw_iconst (pc := 0) (v := 0 ) C dX5_toldPair_0 (by decide) ?_
  refine pw_istore_n (pc := 1) C [(3, .int (0 : Int32)), (0, .long x0), (2, .int x2)] dX5_toldPair_1 rfl (by decide) rfl ?_
  refine pw_iconst (pc := 2) (v := 0 ) C dX5_toldPair_2 (by decide) ?_
  refine pw_istore (pc := 3) C [(4, .int (0 : Int32)), (3, .int (0 : Int32)), (0, .long x0), (2, .int x2)] dX5_toldPair_3 (by decide) rfl ?_
  refine pw_sub [2, 3, 1, 0] (LV2 := [(0, .long x0), (2, .int x2), (3, .int (0 : Int32)), (4, .int (0 : Int32))]) rfl ?_
  obtain ⟨n9, h⟩ := h
  exact cbX5_toldPair_b5 C hr hin hZ  n9 _ _ _ _ _ h

abbrev rmX6_init : Room := { frames := 1, cells := 1, slots := 8, locals := 20 }
theorem iX6_init_X6 : ∀ w ∈ u_ws RX6 TX6 4, w ∈ wsX6_init := fun _ h => List.mem_cons_of_mem _ (List.mem_append_right _ h)
def wpX6_init (S : PS) (x0 : Nat) (Q : PS → Prop) : Prop := (∀ a1 S2, a1 = pN S → S2 = sNew S 16 8 → (pK S2 x0 = 5 ∧ (Q (sJ (sI (sI (sR S2 x0 0 (some a1)) x0 1 (0 : Int32)) x0 2 (0 : Int32)) x0 3 (0 : Int64)))))
set_option maxRecDepth 100000 in
set_option maxHeartbeats 4000000 in
theorem ctX6_init (l : Launch) (G : PG) (hZ : pZa G) (S : PS) (x0 : Nat) (Q : PS → Prop) (h : wpX6_init S x0 Q) : mV l yX6_init wsX6_init rmX6_init G S [.ref (G.2.2 + x0)] Q := by
  unfold mV
  refine met_of (cc := cX6_init) (maxL := 1) (ret := none) (by decide) rfl (Nat.le_of_ble_eq_true rfl) ?_
  intro p e s m args below meth c C hr hin
  unfold wpX6_init at h
  show PW p l e _ s m args below meth c _ G 1 S 0 0 [(0, .ref (G.2.2 + x0))] 0 []
  refine pw_aload_n (pc := 0) C 0 dX6_init_0 rfl rfl ?_
  refine pw_objInit (pc := 1) C (by decide +kernel) (by decide +kernel) (by decide +kernel) (Nat.le_of_ble_eq_true rfl) (Nat.le_of_ble_eq_true rfl) (Nat.le_of_ble_eq_true rfl) dX6_init_1 ?_
  refine pw_aload_n (pc := 4) C 0 dX6_init_4 rfl rfl ?_
  refine pw_bipush (pc := 5) (v := 8 ) C dX6_init_5 (by decide) ?_
  refine pw_anew (pc := 7) (CN := "SupportSolver$Constraint") (κ := 16) (i := 4) (N := 8) (kc2 := 1) (kn2 := 8) C (by decide) rfl (hZ.2.2.2.2.2.2.2.2.2.2.2.2.2.1) (by decide +kernel) (by decide) rfl (Nat.le_of_ble_eq_true rfl) rfl rfl (Nat.le_of_ble_eq_true rfl) (Nat.le_of_ble_eq_true rfl) dX6_init_7 ?_
  obtain ⟨a1, ea1⟩ : ∃ q, q = pN S := ⟨_, rfl⟩
  obtain ⟨S2, eS2⟩ : ∃ q, q = sNew S 16 8 := ⟨_, rfl⟩
  rw [← ea1, ← eS2]
  replace h := h a1 S2 ea1 eS2
  have hk3 : pK S2 a1 = 16 := by rw [eS2, ea1, pK_sNew, if_pos rfl]
  obtain ⟨hk4, h⟩ := h
  refine pw_putR (pc := 10) (ref := "SupportSolver$Problem") (k := 0) (index := 11) C pCl4 iX6_init_X6 hk4 rfl (by decide +kernel) (Or.inl rfl) (o := a1) (Or.inr ⟨rfl, hin, rfl, rfl⟩) rfl rfl dX6_init_10 ?_
  refine pw_aload_n (pc := 13) (S := (sR S2 x0 0 (some a1))) C 0 dX6_init_13 rfl rfl ?_
  refine pw_iconst (pc := 14) (S := (sR S2 x0 0 (some a1))) (v := 0 ) C dX6_init_14 (by decide) ?_
  refine pw_putI (pc := 15) (S := (sR S2 x0 0 (some a1))) (ref := "SupportSolver$Problem") (k := 1) (index := 17) C pCl4 iX6_init_X6 hk4 rfl (by decide +kernel) (Or.inl rfl) (Or.inl rfl) rfl rfl dX6_init_15 ?_
  refine pw_aload_n (pc := 18) (S := (sI (sR S2 x0 0 (some a1)) x0 1 (0 : Int32))) C 0 dX6_init_18 rfl rfl ?_
  refine pw_iconst (pc := 19) (S := (sI (sR S2 x0 0 (some a1)) x0 1 (0 : Int32))) (v := 0 ) C dX6_init_19 (by decide) ?_
  refine pw_putI (pc := 20) (S := (sI (sR S2 x0 0 (some a1)) x0 1 (0 : Int32))) (ref := "SupportSolver$Problem") (k := 2) (index := 21) C pCl4 iX6_init_X6 hk4 rfl (by decide +kernel) (Or.inl rfl) (Or.inl rfl) rfl rfl dX6_init_20 ?_
  refine pw_aload_n (pc := 23) (S := (sI (sI (sR S2 x0 0 (some a1)) x0 1 (0 : Int32)) x0 2 (0 : Int32))) C 0 dX6_init_23 rfl rfl ?_
  refine pw_lconst (pc := 24) (S := (sI (sI (sR S2 x0 0 (some a1)) x0 1 (0 : Int32)) x0 2 (0 : Int32))) (v := 0) C dX6_init_24 (by decide) ?_
  refine pw_putJ (pc := 25) (S := (sI (sI (sR S2 x0 0 (some a1)) x0 1 (0 : Int32)) x0 2 (0 : Int32))) (ref := "SupportSolver$Problem") (k := 3) (index := 24) C pCl4 iX6_init_X6 hk4 rfl (by decide +kernel) (Or.inl rfl) (Or.inl rfl) rfl rfl dX6_init_25 ?_
  exact pw_vret (pc := 28) (S := (sJ (sI (sI (sR S2 x0 0 (some a1)) x0 1 (0 : Int32)) x0 2 (0 : Int32)) x0 3 (0 : Int64))) C hr h dX6_init_28

abbrev rmX6_addVariable : Room := { frames := 1, cells := 0, slots := 0, locals := 21 }
theorem iX6_addVariable_X6 : ∀ w ∈ u_ws RX6 TX6 4, w ∈ wsX6_addVariable := fun _ h => List.mem_cons_of_mem _ (List.mem_append_right _ h)
def wpX6_addVariable_b35  (Q : PS → Prop) (S : PS) (x0 : Nat) (x1 : Int32) (x2 : Int32) (x3 : Int32) : Prop := (pK S x0 = 5 ∧ (Q (sI S x0 1 ((pI S x0 1) + (1 : Int32)))))
def wpX6_addVariable_b2  (Q : PS → Prop) : Nat → PS → Nat → Int32 → Int32 → Int32 → Prop
  | 0 => fun _ _ _ _ _ => False
  | n + 1 => fun S x0 x1 x2 x3 => ((x2 < x3 → (wpX6_addVariable_b35 Q S x0 x1 x2 x3)) ∧ (¬ x2 < x3 → (((5 : Int32) ≤ x3 → (wpX6_addVariable_b35 Q S x0 x1 x2 x3)) ∧ (¬ (5 : Int32) ≤ x3 → (pK S x0 = 5 ∧ (wpX5_pair S (pI S x0 1) x3 (fun r3 S4 => (pK S4 x0 = 5 ∧ (wpX6_addVariable_b2 Q n (sJ S4 x0 3 ((pJ S x0 3) ||| r3)) x0 x1 x2 (x3 + 1))))))))))
def wpX6_addVariable (S : PS) (x0 : Nat) (x1 : Int32) (x2 : Int32) (Q : PS → Prop) : Prop := (∃ n9 : Nat, wpX6_addVariable_b2 Q n9 S x0 x1 x2 x1)
set_option maxRecDepth 100000 in
set_option maxHeartbeats 4000000 in
theorem cbX6_addVariable_b35 {p : Program} {l : Launch} {e : Env} {s : State} {m : MethodId} {args : Array Value} {below : List Frame} {meth : Method} {c : Code} {G : PG} {Q : PS → Prop} (C : pCx p s m args meth c G cX6_addVariable 4 yX6_addVariable.cls wsX6_addVariable) (hr : meth.sig.returnType = none) (hin : meth.name = yX6_addVariable.name) (hZ : pZa G)  : ∀ (S : PS) (x0 : Nat) (x1 : Int32) (x2 : Int32) (x3 : Int32), wpX6_addVariable_b35  Q S x0 x1 x2 x3 → PW p l e rmX6_addVariable s m args below meth c (MQ below (va_Qv Q (pB G) (pFr G)) args s rmX6_addVariable.cells rmX6_addVariable.slots (pFr G)) G 4 S 0 0 [(0, .ref (G.2.2 + x0)), (1, .int x1), (2, .int x2), (3, .int x3)] 35 ([]) := by
  intro S x0 x1 x2 x3 h
  unfold wpX6_addVariable_b35 at h
  refine pw_aload_n (pc := 35) C 0 dX6_addVariable_35 rfl rfl ?_
  refine pw_dup (pc := 36) C dX6_addVariable_36 rfl ?_
  obtain ⟨hk1, h⟩ := h
  refine pw_getI (pc := 37) (ref := "SupportSolver$Problem") (k := 1) (index := 17) C pCl4 iX6_addVariable_X6 hk1 rfl (by decide +kernel) (Or.inl rfl) dX6_addVariable_37 ?_
  refine pw_iconst (pc := 40) (v := 1 ) C dX6_addVariable_40 (by decide) ?_
  refine pw_iadd (pc := 41) C dX6_addVariable_41 ?_
  refine pw_putI (pc := 42) (ref := "SupportSolver$Problem") (k := 1) (index := 17) C pCl4 iX6_addVariable_X6 hk1 rfl (by decide +kernel) (Or.inl rfl) (Or.inl rfl) rfl rfl dX6_addVariable_42 ?_
  exact pw_vret (pc := 45) (S := (sI S x0 1 ((pI S x0 1) + (1 : Int32)))) C hr h dX6_addVariable_45
set_option maxRecDepth 100000 in
set_option maxHeartbeats 4000000 in
theorem cbX6_addVariable_b2 {p : Program} {l : Launch} {e : Env} {s : State} {m : MethodId} {args : Array Value} {below : List Frame} {meth : Method} {c : Code} {G : PG} {Q : PS → Prop} (C : pCx p s m args meth c G cX6_addVariable 4 yX6_addVariable.cls wsX6_addVariable) (hr : meth.sig.returnType = none) (hin : meth.name = yX6_addVariable.name) (hZ : pZa G)  (n : Nat) : ∀ (S : PS) (x0 : Nat) (x1 : Int32) (x2 : Int32) (x3 : Int32), wpX6_addVariable_b2  Q n S x0 x1 x2 x3 → PW p l e rmX6_addVariable s m args below meth c (MQ below (va_Qv Q (pB G) (pFr G)) args s rmX6_addVariable.cells rmX6_addVariable.slots (pFr G)) G 4 S 0 0 [(0, .ref (G.2.2 + x0)), (1, .int x1), (2, .int x2), (3, .int x3)] 2 ([]) := by
  induction n with
  | zero => intro S x0 x1 x2 x3 h; exact h.elim
  | succ n ih =>
    intro S x0 x1 x2 x3 h
    unfold wpX6_addVariable_b2 at h
    refine pw_iload_n (pc := 2) C 3 dX6_addVariable_2 rfl rfl ?_
    refine pw_iload_n (pc := 3) C 2 dX6_addVariable_3 rfl rfl ?_
    refine pw_icmp_gt (pc := 4) (tgt := 35) C dX6_addVariable_4 rfl ⟨fun hc => ?_, fun hc => ?_⟩
    · replace h := h.1 hc
      exact cbX6_addVariable_b35 C hr hin hZ  _ _ _ _ _ h
    · replace h := h.2 hc
      refine pw_iload_n (pc := 7) C 3 dX6_addVariable_7 rfl rfl ?_
      refine pw_iconst (pc := 8) (v := 5 ) C dX6_addVariable_8 (by decide) ?_
      refine pw_icmp_ge (pc := 9) (tgt := 35) C dX6_addVariable_9 rfl ⟨fun hc => ?_, fun hc => ?_⟩
      · replace h := h.1 hc
        exact cbX6_addVariable_b35 C hr hin hZ  _ _ _ _ _ h
      · replace h := h.2 hc
        refine pw_aload_n (pc := 12) C 0 dX6_addVariable_12 rfl rfl ?_
        refine pw_dup (pc := 13) C dX6_addVariable_13 rfl ?_
        obtain ⟨hk2, h⟩ := h
        refine pw_getJ (pc := 14) (ref := "SupportSolver$Problem") (k := 3) (index := 24) C pCl4 iX6_addVariable_X6 hk2 rfl (by decide +kernel) (Or.inl rfl) dX6_addVariable_14 ?_
        refine pw_aload_n (pc := 17) C 0 dX6_addVariable_17 rfl rfl ?_
        refine pw_getI (pc := 18) (ref := "SupportSolver$Problem") (k := 1) (index := 17) C pCl4 iX6_addVariable_X6 hk2 rfl (by decide +kernel) (Or.inl rfl) dX6_addVariable_18 ?_
        refine pw_iload_n (pc := 21) C 3 dX6_addVariable_21 rfl rfl ?_
        refine pw_calll (pc := 22) (kc2 := 0) (kn2 := 0) (pRunS (pc := 22) C (ctX5_pair l G hZ  _ (pI S x0 1) x3 _ h) (va_cwS 2 C.2.2.2.2.1 gX6_addVariable_X5_pair rfl rfl rfl (by decide +kernel) ⟨Nat.le_of_ble_eq_true rfl, Nat.le_of_ble_eq_true rfl⟩) rfl rfl (Nat.le_of_ble_eq_true rfl) dX6_addVariable_22 ⟨Nat.le_of_ble_eq_true rfl, Nat.le_of_ble_eq_true rfl⟩) rfl rfl (fun r3 S4 h => ?_)
        refine pw_lor (pc := 25) C dX6_addVariable_25 ?_
        obtain ⟨hk5, h⟩ := h
        refine pw_putJ (pc := 26) (ref := "SupportSolver$Problem") (k := 3) (index := 24) C pCl4 iX6_addVariable_X6 hk5 rfl (by decide +kernel) (Or.inl rfl) (Or.inl rfl) rfl rfl dX6_addVariable_26 ?_
        refine pw_iincK (pc := 29) (S := (sJ S4 x0 3 ((pJ S x0 3) ||| r3))) (w := 1) C [(3, .int (x3 + 1)), (0, .ref (G.2.2 + x0)), (1, .int x1), (2, .int x2)] 3 dX6_addVariable_29 (by decide) rfl (by decide) rfl ?_
        refine pw_goto (pc := 32) (S := (sJ S4 x0 3 ((pJ S x0 3) ||| r3))) (tgt := 2) C dX6_addVariable_32 rfl ?_
        refine pw_sub [1, 2, 3, 0] (LV2 := [(0, .ref (G.2.2 + x0)), (1, .int x1), (2, .int x2), (3, .int (x3 + 1))]) rfl ?_
        exact ih _ _ _ _ _ h
set_option maxRecDepth 100000 in
set_option maxHeartbeats 4000000 in
theorem ctX6_addVariable (l : Launch) (G : PG) (hZ : pZa G) (S : PS) (x0 : Nat) (x1 : Int32) (x2 : Int32) (Q : PS → Prop) (h : wpX6_addVariable S x0 x1 x2 Q) : mV l yX6_addVariable wsX6_addVariable rmX6_addVariable G S [.ref (G.2.2 + x0), .int x1, .int x2] Q := by
  unfold mV
  refine met_of (cc := cX6_addVariable) (maxL := 4) (ret := none) (by decide) rfl (Nat.le_of_ble_eq_true rfl) ?_
  intro p e s m args below meth c C hr hin
  unfold wpX6_addVariable at h
  show PW p l e _ s m args below meth c _ G 4 S 0 0 [(0, .ref (G.2.2 + x0)), (1, .int x1), (2, .int x2)] 0 []
  refine pw_iload_n (pc := 0) C 1 dX6_addVariable_0 rfl rfl ?_
  refine pw_istore_n (pc := 1) C [(3, .int x1), (0, .ref (G.2.2 + x0)), (1, .int x1), (2, .int x2)] dX6_addVariable_1 rfl (by decide) rfl ?_
  refine pw_sub [1, 2, 3, 0] (LV2 := [(0, .ref (G.2.2 + x0)), (1, .int x1), (2, .int x2), (3, .int x1)]) rfl ?_
  obtain ⟨n9, h⟩ := h
  exact cbX6_addVariable_b2 C hr hin hZ  n9 _ _ _ _ _ h

abbrev rmX6_addConstraint : Room := { frames := 0, cells := 0, slots := 0, locals := 0 }
theorem iX6_addConstraint_X6 : ∀ w ∈ u_ws RX6 TX6 4, w ∈ wsX6_addConstraint := fun _ h => List.mem_cons_of_mem _ (List.mem_append_right _ h)
def wpX6_addConstraint (S : PS) (x0 : Nat) (x1 : Nat) (Q : PS → Prop) : Prop := (pK S x0 = 5 ∧ (((pI S x0 2) < 0 → (Q S)) ∧ (¬ (pI S x0 2) < 0 → (∃ o2, pR S x0 0 = some o2 ∧ (pK S o2 = 16 ∧ (((nI (pL S o2)) ≤ (pI S x0 2) → (Q S)) ∧ (¬ (nI (pL S o2)) ≤ (pI S x0 2) → (vp_in (pI S x0 2) (pL S o2) ∧ (pC4 S x1 ∧ (Q (sI (sR S o2 ((pI S x0 2)).toNatClampNeg (some x1)) x0 2 ((pI (sR S o2 ((pI S x0 2)).toNatClampNeg (some x1)) x0 2) + (1 : Int32)))))))))))))
set_option maxRecDepth 100000 in
set_option maxHeartbeats 4000000 in
theorem ctX6_addConstraint (l : Launch) (G : PG) (hZ : pZa G) (S : PS) (x0 : Nat) (x1 : Nat) (Q : PS → Prop) (h : wpX6_addConstraint S x0 x1 Q) : mV l yX6_addConstraint wsX6_addConstraint rmX6_addConstraint G S [.ref (G.2.2 + x0), .ref (G.2.2 + x1)] Q := by
  unfold mV
  refine met_of (cc := cX6_addConstraint) (maxL := 2) (ret := none) (by decide) rfl (Nat.le_of_ble_eq_true rfl) ?_
  intro p e s m args below meth c C hr hin
  unfold wpX6_addConstraint at h
  show PW p l e _ s m args below meth c _ G 2 S 0 0 [(0, .ref (G.2.2 + x0)), (1, .ref (G.2.2 + x1))] 0 []
  refine pw_aload_n (pc := 0) C 0 dX6_addConstraint_0 rfl rfl ?_
  obtain ⟨hk1, h⟩ := h
  refine pw_getI (pc := 1) (ref := "SupportSolver$Problem") (k := 2) (index := 21) C pCl4 iX6_addConstraint_X6 hk1 rfl (by decide +kernel) (Or.inl rfl) dX6_addConstraint_1 ?_
  refine pw_if_lt (pc := 4) (tgt := 39) C dX6_addConstraint_4 rfl ⟨fun hc => ?_, fun hc => ?_⟩
  · replace h := h.1 hc
    exact pw_vret (pc := 39) C hr h dX6_addConstraint_39
  · replace h := h.2 hc
    refine pw_aload_n (pc := 7) C 0 dX6_addConstraint_7 rfl rfl ?_
    refine pw_getI (pc := 8) (ref := "SupportSolver$Problem") (k := 2) (index := 21) C pCl4 iX6_addConstraint_X6 hk1 rfl (by decide +kernel) (Or.inl rfl) dX6_addConstraint_8 ?_
    refine pw_aload_n (pc := 11) C 0 dX6_addConstraint_11 rfl rfl ?_
    obtain ⟨o2, ho2, h⟩ := h
    refine pw_getR (pc := 12) (ref := "SupportSolver$Problem") (k := 0) (index := 11) C pCl4 iX6_addConstraint_X6 hk1 rfl (by decide +kernel) (Or.inl rfl) (o := o2) ho2 dX6_addConstraint_12 ?_
    obtain ⟨hk3, h⟩ := h
    refine pw_alen (pc := 15) C (κ := 16) hk3 (by decide) dX6_addConstraint_15 ?_
    refine pw_icmp_ge (pc := 16) (tgt := 39) C dX6_addConstraint_16 rfl ⟨fun hc => ?_, fun hc => ?_⟩
    · replace h := h.1 hc
      exact pw_vret (pc := 39) C hr h dX6_addConstraint_39
    · replace h := h.2 hc
      refine pw_aload_n (pc := 19) C 0 dX6_addConstraint_19 rfl rfl ?_
      refine pw_getR (pc := 20) (ref := "SupportSolver$Problem") (k := 0) (index := 11) C pCl4 iX6_addConstraint_X6 hk1 rfl (by decide +kernel) (Or.inl rfl) (o := o2) ho2 dX6_addConstraint_20 ?_
      refine pw_aload_n (pc := 23) C 0 dX6_addConstraint_23 rfl rfl ?_
      refine pw_getI (pc := 24) (ref := "SupportSolver$Problem") (k := 2) (index := 21) C pCl4 iX6_addConstraint_X6 hk1 rfl (by decide +kernel) (Or.inl rfl) dX6_addConstraint_24 ?_
      refine pw_aload_n (pc := 27) C 1 dX6_addConstraint_27 rfl rfl ?_
      obtain ⟨hi4, h⟩ := h
      obtain ⟨hk5, h⟩ := h
      refine pw_aastC (pc := 28) C hk3 hi4 hk5 (hZ.2.2.2.2.2.2.2.2.2.2.2.2.2.2.2.1) dX6_addConstraint_28 ?_
      refine pw_aload_n (pc := 29) (S := (sR S o2 ((pI S x0 2)).toNatClampNeg (some x1))) C 0 dX6_addConstraint_29 rfl rfl ?_
      refine pw_dup (pc := 30) (S := (sR S o2 ((pI S x0 2)).toNatClampNeg (some x1))) C dX6_addConstraint_30 rfl ?_
      refine pw_getI (pc := 31) (S := (sR S o2 ((pI S x0 2)).toNatClampNeg (some x1))) (ref := "SupportSolver$Problem") (k := 2) (index := 21) C pCl4 iX6_addConstraint_X6 hk1 rfl (by decide +kernel) (Or.inl rfl) dX6_addConstraint_31 ?_
      refine pw_iconst (pc := 34) (S := (sR S o2 ((pI S x0 2)).toNatClampNeg (some x1))) (v := 1 ) C dX6_addConstraint_34 (by decide) ?_
      refine pw_iadd (pc := 35) (S := (sR S o2 ((pI S x0 2)).toNatClampNeg (some x1))) C dX6_addConstraint_35 ?_
      refine pw_putI (pc := 36) (S := (sR S o2 ((pI S x0 2)).toNatClampNeg (some x1))) (ref := "SupportSolver$Problem") (k := 2) (index := 21) C pCl4 iX6_addConstraint_X6 hk1 rfl (by decide +kernel) (Or.inl rfl) (Or.inl rfl) rfl rfl dX6_addConstraint_36 ?_
      exact pw_vret (pc := 39) (S := (sI (sR S o2 ((pI S x0 2)).toNatClampNeg (some x1)) x0 2 ((pI (sR S o2 ((pI S x0 2)).toNatClampNeg (some x1)) x0 2) + (1 : Int32)))) C hr h dX6_addConstraint_39

abbrev rmX6_constraintAt : Room := { frames := 0, cells := 0, slots := 0, locals := 0 }
theorem iX6_constraintAt_X6 : ∀ w ∈ u_ws RX6 TX6 4, w ∈ wsX6_constraintAt := fun _ h => List.mem_cons_of_mem _ (List.mem_append_right _ h)
def wpX6_constraintAt (S : PS) (x0 : Nat) (x1 : Int32) (Q : Option Nat → PS → Prop) : Prop := ((x1 < 0 → (Q none S)) ∧ (¬ x1 < 0 → (pK S x0 = 5 ∧ (((pI S x0 2) ≤ x1 → (Q none S)) ∧ (¬ (pI S x0 2) ≤ x1 → (∃ o2, pR S x0 0 = some o2 ∧ (pK S o2 = 16 ∧ (((nI (pL S o2)) ≤ x1 → (Q none S)) ∧ (¬ (nI (pL S o2)) ≤ x1 → (vp_in x1 (pL S o2) ∧ (∃ o5, pR S o2 (x1).toNatClampNeg = some o5 ∧ (Q (some o5) S))))))))))))
set_option maxRecDepth 100000 in
set_option maxHeartbeats 4000000 in
theorem ctX6_constraintAt (l : Launch) (G : PG) (hZ : pZa G) (S : PS) (x0 : Nat) (x1 : Int32) (Q : Option Nat → PS → Prop) (h : wpX6_constraintAt S x0 x1 Q) : mQ l yX6_constraintAt wsX6_constraintAt rmX6_constraintAt G S [.ref (G.2.2 + x0), .int x1] Q := by
  unfold mQ
  refine met_of (cc := cX6_constraintAt) (maxL := 2) (ret := (some (.object "SupportSolver$Constraint"))) (by decide) rfl (Nat.le_of_ble_eq_true rfl) ?_
  intro p e s m args below meth c C hr hin
  unfold wpX6_constraintAt at h
  show PW p l e _ s m args below meth c _ G 2 S 0 0 [(0, .ref (G.2.2 + x0)), (1, .int x1)] 0 []
  refine pw_iload_n (pc := 0) C 1 dX6_constraintAt_0 rfl rfl ?_
  refine pw_if_lt (pc := 1) (tgt := 30) C dX6_constraintAt_1 rfl ⟨fun hc => ?_, fun hc => ?_⟩
  · replace h := h.1 hc
    refine pw_null (pc := 30) C dX6_constraintAt_30 ?_
    exact pw_aret (pc := 31) C hr (o := none) rfl h dX6_constraintAt_31
  · replace h := h.2 hc
    refine pw_iload_n (pc := 4) C 1 dX6_constraintAt_4 rfl rfl ?_
    refine pw_aload_n (pc := 5) C 0 dX6_constraintAt_5 rfl rfl ?_
    obtain ⟨hk1, h⟩ := h
    refine pw_getI (pc := 6) (ref := "SupportSolver$Problem") (k := 2) (index := 21) C pCl4 iX6_constraintAt_X6 hk1 rfl (by decide +kernel) (Or.inl rfl) dX6_constraintAt_6 ?_
    refine pw_icmp_ge (pc := 9) (tgt := 30) C dX6_constraintAt_9 rfl ⟨fun hc => ?_, fun hc => ?_⟩
    · replace h := h.1 hc
      refine pw_null (pc := 30) C dX6_constraintAt_30 ?_
      exact pw_aret (pc := 31) C hr (o := none) rfl h dX6_constraintAt_31
    · replace h := h.2 hc
      refine pw_iload_n (pc := 12) C 1 dX6_constraintAt_12 rfl rfl ?_
      refine pw_aload_n (pc := 13) C 0 dX6_constraintAt_13 rfl rfl ?_
      obtain ⟨o2, ho2, h⟩ := h
      refine pw_getR (pc := 14) (ref := "SupportSolver$Problem") (k := 0) (index := 11) C pCl4 iX6_constraintAt_X6 hk1 rfl (by decide +kernel) (Or.inl rfl) (o := o2) ho2 dX6_constraintAt_14 ?_
      obtain ⟨hk3, h⟩ := h
      refine pw_alen (pc := 17) C (κ := 16) hk3 (by decide) dX6_constraintAt_17 ?_
      refine pw_icmp_ge (pc := 18) (tgt := 30) C dX6_constraintAt_18 rfl ⟨fun hc => ?_, fun hc => ?_⟩
      · replace h := h.1 hc
        refine pw_null (pc := 30) C dX6_constraintAt_30 ?_
        exact pw_aret (pc := 31) C hr (o := none) rfl h dX6_constraintAt_31
      · replace h := h.2 hc
        refine pw_aload_n (pc := 21) C 0 dX6_constraintAt_21 rfl rfl ?_
        refine pw_getR (pc := 22) (ref := "SupportSolver$Problem") (k := 0) (index := 11) C pCl4 iX6_constraintAt_X6 hk1 rfl (by decide +kernel) (Or.inl rfl) (o := o2) ho2 dX6_constraintAt_22 ?_
        refine pw_iload_n (pc := 25) C 1 dX6_constraintAt_25 rfl rfl ?_
        obtain ⟨hi4, h⟩ := h
        obtain ⟨o5, ho5, h⟩ := h
        refine pw_aald (pc := 26) C (Or.inl hk3) hi4 (o := o5) ho5 dX6_constraintAt_26 ?_
        refine pw_goto (pc := 27) (tgt := 31) C dX6_constraintAt_27 rfl ?_
        exact pw_aret (pc := 31) C hr (o := (some o5)) rfl h dX6_constraintAt_31

abbrev rmX6_openScope : Room := { frames := 3, cells := 0, slots := 0, locals := 74 }
theorem iX6_openScope_X0 : ∀ w ∈ u_ws RX0 TX0 4, w ∈ wsX6_openScope := by decide +kernel
theorem iX6_openScope_X10 : ∀ w ∈ u_ws RX10 TX10 8, w ∈ wsX6_openScope := fun _ h => List.mem_cons_of_mem _ (List.mem_append_right _ h)
theorem iX6_openScope_X2 : ∀ w ∈ u_ws RX2 TX2 7, w ∈ wsX6_openScope := by decide +kernel
theorem iX6_openScope_X4 : ∀ w ∈ u_ws RX4 TX4 5, w ∈ wsX6_openScope := by decide +kernel
theorem iX6_openScope_X6 : ∀ w ∈ u_ws RX6 TX6 4, w ∈ wsX6_openScope := by decide +kernel
def wpX6_openScope_b45 (K5 : PS → Nat → Int64 → Int64 → Int32 → Prop) (Q : Int64 → PS → Prop) (S : PS) (x0 : Nat) (x1 : Int64) (x3 : Int64) (x5 : Int32) (x6 : Option Nat) (t0 : Int32) : Prop := ((x6 = none → ((¬ t0 = 0 → ((¬ t0 = (1 : Int32) → (K5 S x0 x1 x3 (x5 + 1))) ∧ (t0 = (1 : Int32) → (K5 S x0 x1 x3 (x5 + 1))))) ∧ (t0 = 0 → (K5 S x0 x1 (-1 : Int64) (x5 + 1))))) ∧ (∀ o1, x6 = some o1 → ((¬ t0 = 0 → ((¬ t0 = (1 : Int32) → (K5 S x0 x1 x3 (x5 + 1))) ∧ (t0 = (1 : Int32) → (pC4 S o1 ∧ (K5 S x0 x1 (x3 ||| (pJ S o1 2)) (x5 + 1)))))) ∧ (t0 = 0 → (K5 S x0 x1 (-1 : Int64) (x5 + 1))))))
def wpX6_openScope_b5  (Q : Int64 → PS → Prop) : Nat → PS → Nat → Int64 → Int64 → Int32 → Prop
  | 0 => fun _ _ _ _ _ => False
  | n + 1 => fun S x0 x1 x3 x5 => (pK S x0 = 5 ∧ (((pI S x0 2) ≤ x5 → (Q x3 S)) ∧ (¬ (pI S x0 2) ≤ x5 → (((lg_cmp x3 (-1 : Int64)) = 0 → (Q x3 S)) ∧ (¬ (lg_cmp x3 (-1 : Int64)) = 0 → (wpX6_constraintAt S x0 x5 (fun r4 S5 => ((r4 = none → (wpX6_openScope_b45 (wpX6_openScope_b5 Q n) Q S5 x0 x1 x3 x5 none (2 : Int32))) ∧ (∀ o6, r4 = some o6 → (pC4 S5 o6 ∧ (wpC_verdict S5 o6 x1 (fun r8 S9 => (wpX6_openScope_b45 (wpX6_openScope_b5 Q n) Q S9 x0 x1 x3 x5 (some o6) r8)))))))))))))
def wpX6_openScope (S : PS) (x0 : Nat) (x1 : Int64) (Q : Int64 → PS → Prop) : Prop := (∃ n9 : Nat, wpX6_openScope_b5 Q n9 S x0 x1 (0 : Int64) (0 : Int32))
set_option maxRecDepth 100000 in
set_option maxHeartbeats 4000000 in
theorem rnX6_openScope_42 {p : Program} {l : Launch} {e : Env} {s : State} {m : MethodId} {args : Array Value} {below : List Frame} {meth : Method} {c : Code} {G : PG} (C : pCx p s m args meth c G cX6_openScope 8 yX6_openScope.cls wsX6_openScope) (hZ : pZa G) (S : PS) (x : Nat) (a0 : Int64) (Q : Int32 → PS → Prop) (hk : pC4 S x) (h : wpC_verdict S x a0 Q) {LV : List (Nat × Value)} {st : List Value} (hw : (st.map fun v => v.category).sum ≤ 8) : PRun p l e rmX6_openScope s m args below meth c G 8 S 0 0 0 0 LV 42 (.long a0 :: .ref (G.2.2 + x) :: st) st (va_Qi Q (pB G) (pFr G) (.ref (G.2.2 + x) :: [.long a0]).toArray) := by
  rcases hk with hk | hk | hk | hk
  · exact pRunU (pc := 42) (kc := 0) (kn := 0) C (ctX0_verdict l G hZ _ x a0 _ (h.1 hk)) (va_cwA 1 C.2.2.2.2.1 gX6_openScope_X0_verdict_u40X0 rfl rfl rfl ((hZ.2.2.2.2.2.2.2.2.2.1) s s.heap C.2.2.2.2.2.2.2.2.1) (by decide +kernel) ⟨Nat.le_of_ble_eq_true rfl, Nat.le_of_ble_eq_true rfl⟩) pCl0 hk rfl rfl hw dX6_openScope_42 ⟨Nat.le_of_ble_eq_true rfl, Nat.le_of_ble_eq_true rfl⟩
  · exact pRunU (pc := 42) (kc := 0) (kn := 0) C (ctX2_verdict l G hZ _ x a0 _ (h.2.1 hk)) (va_cwA 1 C.2.2.2.2.1 gX6_openScope_X2_verdict_u40X2 rfl rfl rfl ((hZ.2.2.2.2.2.2.2.2.2.1) s s.heap C.2.2.2.2.2.2.2.2.1) (by decide +kernel) ⟨Nat.le_of_ble_eq_true rfl, Nat.le_of_ble_eq_true rfl⟩) pCl1 hk rfl rfl hw dX6_openScope_42 ⟨Nat.le_of_ble_eq_true rfl, Nat.le_of_ble_eq_true rfl⟩
  · exact pRunU (pc := 42) (kc := 0) (kn := 0) C (ctX4_verdict l G hZ _ x a0 _ (h.2.2.1 hk)) (va_cwA 1 C.2.2.2.2.1 gX6_openScope_X4_verdict_u40X4 rfl rfl rfl ((hZ.2.2.2.2.2.2.2.2.2.1) s s.heap C.2.2.2.2.2.2.2.2.1) (by decide +kernel) ⟨Nat.le_of_ble_eq_true rfl, Nat.le_of_ble_eq_true rfl⟩) pCl3 hk rfl rfl hw dX6_openScope_42 ⟨Nat.le_of_ble_eq_true rfl, Nat.le_of_ble_eq_true rfl⟩
  · exact pRunU (pc := 42) (kc := 0) (kn := 0) C (ctX10_verdict l G hZ _ x a0 _ (h.2.2.2 hk)) (va_cwA 1 C.2.2.2.2.1 gX6_openScope_X10_verdict_u40X10 rfl rfl rfl ((hZ.2.2.2.2.2.2.2.2.2.1) s s.heap C.2.2.2.2.2.2.2.2.1) (by decide +kernel) ⟨Nat.le_of_ble_eq_true rfl, Nat.le_of_ble_eq_true rfl⟩) pCl8 hk rfl rfl hw dX6_openScope_42 ⟨Nat.le_of_ble_eq_true rfl, Nat.le_of_ble_eq_true rfl⟩
set_option maxRecDepth 100000 in
set_option maxHeartbeats 4000000 in
theorem cbX6_openScope_b45 {p : Program} {l : Launch} {e : Env} {s : State} {m : MethodId} {args : Array Value} {below : List Frame} {meth : Method} {c : Code} {G : PG} {Q : Int64 → PS → Prop} (C : pCx p s m args meth c G cX6_openScope 8 yX6_openScope.cls wsX6_openScope) (hr : meth.sig.returnType = (some .long)) (hin : meth.name = yX6_openScope.name) (hZ : pZa G) {K5 : PS → Nat → Int64 → Int64 → Int32 → Prop} (hK5 : ∀ (S : PS) (x0 : Nat) (x1 : Int64) (x3 : Int64) (x5 : Int32), K5 S x0 x1 x3 x5 → PW p l e rmX6_openScope s m args below meth c (MQ below (va_Ql Q (pB G) (pFr G)) args s rmX6_openScope.cells rmX6_openScope.slots (pFr G)) G 8 S 0 0 [(0, .ref (G.2.2 + x0)), (1, .long x1), (3, .long x3), (5, .int x5)] 5 ([])) : ∀ (S : PS) (x0 : Nat) (x1 : Int64) (x3 : Int64) (x5 : Int32) (x6 : Option Nat) (t0 : Int32), wpX6_openScope_b45 K5 Q S x0 x1 x3 x5 x6 t0 → PW p l e rmX6_openScope s m args below meth c (MQ below (va_Ql Q (pB G) (pFr G)) args s rmX6_openScope.cells rmX6_openScope.slots (pFr G)) G 8 S 0 0 [(0, .ref (G.2.2 + x0)), (1, .long x1), (3, .long x3), (5, .int x5), (6, rf G.2.2 x6)] 45 (.int t0 :: []) := by
  intro S x0 x1 x3 x5 x6 t0 h
  unfold wpX6_openScope_b45 at h
  cases hqx6 : x6 with
  | none =>
    replace h := h.1 hqx6
    show PW p l e _ s m args below meth c _ G _ S _ _ [(0, .ref (G.2.2 + x0)), (1, .long x1), (3, .long x3), (5, .int x5), (6, .null)] 45 (.int t0 :: [])
    refine pw_istore (pc := 45) C [(7, .int t0), (0, .ref (G.2.2 + x0)), (1, .long x1), (3, .long x3), (5, .int x5), (6, .null)] dX6_openScope_45 (by decide) rfl ?_
    refine pw_iload (pc := 47) C 0 dX6_openScope_47 rfl ?_
    refine pw_if_ne (pc := 49) (tgt := 59) C dX6_openScope_49 rfl ⟨fun hc => ?_, fun hc => ?_⟩
    · replace h := h.1 hc
      refine pw_iload (pc := 59) C 0 dX6_openScope_59 rfl ?_
      refine pw_iconst (pc := 61) (v := 1 ) C dX6_openScope_61 (by decide) ?_
      refine pw_icmp_ne (pc := 62) (tgt := 78) C dX6_openScope_62 rfl ⟨fun hc => ?_, fun hc => ?_⟩
      · replace h := h.1 hc
        refine pw_iincK (pc := 78) (w := 1) C [(5, .int (x5 + 1)), (7, .int t0), (0, .ref (G.2.2 + x0)), (1, .long x1), (3, .long x3), (6, .null)] 4 dX6_openScope_78 (by decide) rfl (by decide) rfl ?_
        refine pw_goto (pc := 81) (tgt := 5) C dX6_openScope_81 rfl ?_
        refine pw_sub [2, 3, 4, 0] (LV2 := [(0, .ref (G.2.2 + x0)), (1, .long x1), (3, .long x3), (5, .int (x5 + 1))]) rfl ?_
        exact hK5 _ _ _ _ _ h
      · replace h := h.2 hc
        refine pw_aloadN (pc := 65) C 5 dX6_openScope_65 rfl ?_
        refine pw_ifnull_n (pc := 67) (tgt := 78) C dX6_openScope_67 rfl ?_
        refine pw_iincK (pc := 78) (w := 1) C [(5, .int (x5 + 1)), (7, .int t0), (0, .ref (G.2.2 + x0)), (1, .long x1), (3, .long x3), (6, .null)] 4 dX6_openScope_78 (by decide) rfl (by decide) rfl ?_
        refine pw_goto (pc := 81) (tgt := 5) C dX6_openScope_81 rfl ?_
        refine pw_sub [2, 3, 4, 0] (LV2 := [(0, .ref (G.2.2 + x0)), (1, .long x1), (3, .long x3), (5, .int (x5 + 1))]) rfl ?_
        exact hK5 _ _ _ _ _ h
    · replace h := h.2 hc
      refine pw_ldc2 (pc := 52) (v := (-1)) C (by decide +kernel) dX6_openScope_52 ?_
      refine pw_lstore_n (pc := 55) C [(3, .long (-1 : Int64)), (7, .int t0), (0, .ref (G.2.2 + x0)), (1, .long x1), (5, .int x5), (6, .null)] dX6_openScope_55 rfl (by decide) rfl ?_
      refine pw_goto (pc := 56) (tgt := 78) C dX6_openScope_56 rfl ?_
      refine pw_iincK (pc := 78) (w := 1) C [(5, .int (x5 + 1)), (3, .long (-1 : Int64)), (7, .int t0), (0, .ref (G.2.2 + x0)), (1, .long x1), (6, .null)] 4 dX6_openScope_78 (by decide) rfl (by decide) rfl ?_
      refine pw_goto (pc := 81) (tgt := 5) C dX6_openScope_81 rfl ?_
      refine pw_sub [3, 4, 1, 0] (LV2 := [(0, .ref (G.2.2 + x0)), (1, .long x1), (3, .long (-1 : Int64)), (5, .int (x5 + 1))]) rfl ?_
      exact hK5 _ _ _ _ _ h
  | some o1 =>
    replace h := h.2 o1 hqx6
    show PW p l e _ s m args below meth c _ G _ S _ _ [(0, .ref (G.2.2 + x0)), (1, .long x1), (3, .long x3), (5, .int x5), (6, .ref (G.2.2 + o1))] 45 (.int t0 :: [])
    refine pw_istore (pc := 45) C [(7, .int t0), (0, .ref (G.2.2 + x0)), (1, .long x1), (3, .long x3), (5, .int x5), (6, .ref (G.2.2 + o1))] dX6_openScope_45 (by decide) rfl ?_
    refine pw_iload (pc := 47) C 0 dX6_openScope_47 rfl ?_
    refine pw_if_ne (pc := 49) (tgt := 59) C dX6_openScope_49 rfl ⟨fun hc => ?_, fun hc => ?_⟩
    · replace h := h.1 hc
      refine pw_iload (pc := 59) C 0 dX6_openScope_59 rfl ?_
      refine pw_iconst (pc := 61) (v := 1 ) C dX6_openScope_61 (by decide) ?_
      refine pw_icmp_ne (pc := 62) (tgt := 78) C dX6_openScope_62 rfl ⟨fun hc => ?_, fun hc => ?_⟩
      · replace h := h.1 hc
        refine pw_iincK (pc := 78) (w := 1) C [(5, .int (x5 + 1)), (7, .int t0), (0, .ref (G.2.2 + x0)), (1, .long x1), (3, .long x3), (6, .ref (G.2.2 + o1))] 4 dX6_openScope_78 (by decide) rfl (by decide) rfl ?_
        refine pw_goto (pc := 81) (tgt := 5) C dX6_openScope_81 rfl ?_
        refine pw_sub [2, 3, 4, 0] (LV2 := [(0, .ref (G.2.2 + x0)), (1, .long x1), (3, .long x3), (5, .int (x5 + 1))]) rfl ?_
        exact hK5 _ _ _ _ _ h
      · replace h := h.2 hc
        refine pw_aload (pc := 65) C 5 dX6_openScope_65 rfl ?_
        refine pw_ifnull_r (pc := 67) C dX6_openScope_67 ?_
        refine pw_lload_n (pc := 70) C 3 dX6_openScope_70 rfl rfl ?_
        refine pw_aload (pc := 71) C 5 dX6_openScope_71 rfl ?_
        obtain ⟨hk2, h⟩ := h
        refine pw_getCJ (pc := 73) (k := 2) (index := 44) C hk2 iX6_openScope_X0 iX6_openScope_X2 iX6_openScope_X4 iX6_openScope_X10 rfl (by decide +kernel) dX6_openScope_73 ?_
        refine pw_lor (pc := 76) C dX6_openScope_76 ?_
        refine pw_lstore_n (pc := 77) C [(3, .long (x3 ||| (pJ S o1 2))), (7, .int t0), (0, .ref (G.2.2 + x0)), (1, .long x1), (5, .int x5), (6, .ref (G.2.2 + o1))] dX6_openScope_77 rfl (by decide) rfl ?_
        refine pw_iincK (pc := 78) (w := 1) C [(5, .int (x5 + 1)), (3, .long (x3 ||| (pJ S o1 2))), (7, .int t0), (0, .ref (G.2.2 + x0)), (1, .long x1), (6, .ref (G.2.2 + o1))] 4 dX6_openScope_78 (by decide) rfl (by decide) rfl ?_
        refine pw_goto (pc := 81) (tgt := 5) C dX6_openScope_81 rfl ?_
        refine pw_sub [3, 4, 1, 0] (LV2 := [(0, .ref (G.2.2 + x0)), (1, .long x1), (3, .long (x3 ||| (pJ S o1 2))), (5, .int (x5 + 1))]) rfl ?_
        exact hK5 _ _ _ _ _ h
    · replace h := h.2 hc
      refine pw_ldc2 (pc := 52) (v := (-1)) C (by decide +kernel) dX6_openScope_52 ?_
      refine pw_lstore_n (pc := 55) C [(3, .long (-1 : Int64)), (7, .int t0), (0, .ref (G.2.2 + x0)), (1, .long x1), (5, .int x5), (6, .ref (G.2.2 + o1))] dX6_openScope_55 rfl (by decide) rfl ?_
      refine pw_goto (pc := 56) (tgt := 78) C dX6_openScope_56 rfl ?_
      refine pw_iincK (pc := 78) (w := 1) C [(5, .int (x5 + 1)), (3, .long (-1 : Int64)), (7, .int t0), (0, .ref (G.2.2 + x0)), (1, .long x1), (6, .ref (G.2.2 + o1))] 4 dX6_openScope_78 (by decide) rfl (by decide) rfl ?_
      refine pw_goto (pc := 81) (tgt := 5) C dX6_openScope_81 rfl ?_
      refine pw_sub [3, 4, 1, 0] (LV2 := [(0, .ref (G.2.2 + x0)), (1, .long x1), (3, .long (-1 : Int64)), (5, .int (x5 + 1))]) rfl ?_
      exact hK5 _ _ _ _ _ h
set_option maxRecDepth 100000 in
set_option maxHeartbeats 4000000 in
theorem cbX6_openScope_b5 {p : Program} {l : Launch} {e : Env} {s : State} {m : MethodId} {args : Array Value} {below : List Frame} {meth : Method} {c : Code} {G : PG} {Q : Int64 → PS → Prop} (C : pCx p s m args meth c G cX6_openScope 8 yX6_openScope.cls wsX6_openScope) (hr : meth.sig.returnType = (some .long)) (hin : meth.name = yX6_openScope.name) (hZ : pZa G)  (n : Nat) : ∀ (S : PS) (x0 : Nat) (x1 : Int64) (x3 : Int64) (x5 : Int32), wpX6_openScope_b5  Q n S x0 x1 x3 x5 → PW p l e rmX6_openScope s m args below meth c (MQ below (va_Ql Q (pB G) (pFr G)) args s rmX6_openScope.cells rmX6_openScope.slots (pFr G)) G 8 S 0 0 [(0, .ref (G.2.2 + x0)), (1, .long x1), (3, .long x3), (5, .int x5)] 5 ([]) := by
  induction n with
  | zero => intro S x0 x1 x3 x5 h; exact h.elim
  | succ n ih =>
    intro S x0 x1 x3 x5 h
    unfold wpX6_openScope_b5 at h
    refine pw_iload (pc := 5) C 3 dX6_openScope_5 rfl ?_
    refine pw_aload_n (pc := 7) C 0 dX6_openScope_7 rfl rfl ?_
    obtain ⟨hk3, h⟩ := h
    refine pw_getI (pc := 8) (ref := "SupportSolver$Problem") (k := 2) (index := 21) C pCl4 iX6_openScope_X6 hk3 rfl (by decide +kernel) (Or.inl rfl) dX6_openScope_8 ?_
    refine pw_icmp_ge (pc := 11) (tgt := 84) C dX6_openScope_11 rfl ⟨fun hc => ?_, fun hc => ?_⟩
    · replace h := h.1 hc
      refine pw_lload_n (pc := 84) C 2 dX6_openScope_84 rfl rfl ?_
      exact pw_lret (pc := 85) C hr h dX6_openScope_85
    · replace h := h.2 hc
      refine pw_lload_n (pc := 14) C 2 dX6_openScope_14 rfl rfl ?_
      refine pw_ldc2 (pc := 15) (v := (-1)) C (by decide +kernel) dX6_openScope_15 ?_
      refine pw_lcmp (pc := 18) C dX6_openScope_18 ?_
      refine pw_if_eq (pc := 19) (tgt := 84) C dX6_openScope_19 rfl ⟨fun hc => ?_, fun hc => ?_⟩
      · replace h := h.1 hc
        refine pw_lload_n (pc := 84) C 2 dX6_openScope_84 rfl rfl ?_
        exact pw_lret (pc := 85) C hr h dX6_openScope_85
      · replace h := h.2 hc
        refine pw_aload_n (pc := 22) C 0 dX6_openScope_22 rfl rfl ?_
        refine pw_iload (pc := 23) C 3 dX6_openScope_23 rfl ?_
        refine pw_callq (pc := 25) (kc2 := 0) (kn2 := 0) (pRunV (pc := 25) C (ctX6_constraintAt l G hZ  _ x0 x5 _ h) (cwV 1 C.2.2.2.2.1 gX6_openScope_X6_constraintAt rfl rfl rfl (by decide +kernel) ⟨Nat.le_of_ble_eq_true rfl, Nat.le_of_ble_eq_true rfl⟩) pCl4 hk3 rfl rfl (Nat.le_of_ble_eq_true rfl) dX6_openScope_25 ⟨Nat.le_of_ble_eq_true rfl, Nat.le_of_ble_eq_true rfl⟩) rfl rfl (fun r4 S5 h => ?_)
        cases hqr4 : r4 with
        | none =>
          replace h := h.1 hqr4
          show PW p l e _ s m args below meth c _ G _ S5 _ _ _ _ (.null :: [])
          refine pw_astoreN (pc := 28) C [(6, .null), (0, .ref (G.2.2 + x0)), (1, .long x1), (3, .long x3), (5, .int x5)] dX6_openScope_28 (by decide) rfl ?_
          refine pw_aloadN (pc := 30) C 0 dX6_openScope_30 rfl ?_
          refine pw_ifnonnull_n (pc := 32) C dX6_openScope_32 ?_
          refine pw_iconst (pc := 35) (v := 2 ) C dX6_openScope_35 (by decide) ?_
          refine pw_goto (pc := 36) (tgt := 45) C dX6_openScope_36 rfl ?_
          refine pw_sub [1, 2, 3, 4, 0] (LV2 := [(0, .ref (G.2.2 + x0)), (1, .long x1), (3, .long x3), (5, .int x5), (6, .null)]) rfl ?_
          exact cbX6_openScope_b45 C hr hin hZ ih _ _ _ _ _ _ _ h
        | some o6 =>
          replace h := h.2 o6 hqr4
          show PW p l e _ s m args below meth c _ G _ S5 _ _ _ _ (.ref (G.2.2 + o6) :: [])
          refine pw_astore (pc := 28) C [(6, .ref (G.2.2 + o6)), (0, .ref (G.2.2 + x0)), (1, .long x1), (3, .long x3), (5, .int x5)] dX6_openScope_28 (by decide) rfl ?_
          refine pw_aload (pc := 30) C 0 dX6_openScope_30 rfl ?_
          refine pw_ifnonnull_r (pc := 32) (tgt := 39) C dX6_openScope_32 rfl ?_
          refine pw_aload (pc := 39) C 0 dX6_openScope_39 rfl ?_
          refine pw_lload_n (pc := 41) C 2 dX6_openScope_41 rfl rfl ?_
          obtain ⟨hk7, h⟩ := h
          refine pw_calli (pc := 42) (kc2 := 0) (kn2 := 0) (rnX6_openScope_42 C hZ _ o6 x1 _ hk7 h (Nat.le_of_ble_eq_true rfl)) rfl rfl (fun r8 S9 h => ?_)
          refine pw_sub [1, 2, 3, 4, 0] (LV2 := [(0, .ref (G.2.2 + x0)), (1, .long x1), (3, .long x3), (5, .int x5), (6, .ref (G.2.2 + o6))]) rfl ?_
          exact cbX6_openScope_b45 C hr hin hZ ih _ _ _ _ _ _ _ h
set_option maxRecDepth 100000 in
set_option maxHeartbeats 4000000 in
theorem ctX6_openScope (l : Launch) (G : PG) (hZ : pZa G) (S : PS) (x0 : Nat) (x1 : Int64) (Q : Int64 → PS → Prop) (h : wpX6_openScope S x0 x1 Q) : mJ l yX6_openScope wsX6_openScope rmX6_openScope G S [.ref (G.2.2 + x0), .long x1] Q := by
  unfold mJ
  refine met_of (cc := cX6_openScope) (maxL := 8) (ret := (some .long)) (by decide) rfl (Nat.le_of_ble_eq_true rfl) ?_
  intro p e s m args below meth c C hr hin
  unfold wpX6_openScope at h
  show PW p l e _ s m args below meth c _ G 8 S 0 0 [(0, .ref (G.2.2 + x0)), (1, .long x1)] 0 []
  refine pw_lconst (pc := 0) (v := 0) C dX6_openScope_0 (by decide) ?_
  refine pw_lstore_n (pc := 1) C [(3, .long (0 : Int64)), (0, .ref (G.2.2 + x0)), (1, .long x1)] dX6_openScope_1 rfl (by decide) rfl ?_
  refine pw_iconst (pc := 2) (v := 0 ) C dX6_openScope_2 (by decide) ?_
  refine pw_istore (pc := 3) C [(5, .int (0 : Int32)), (3, .long (0 : Int64)), (0, .ref (G.2.2 + x0)), (1, .long x1)] dX6_openScope_3 (by decide) rfl ?_
  refine pw_sub [2, 3, 1, 0] (LV2 := [(0, .ref (G.2.2 + x0)), (1, .long x1), (3, .long (0 : Int64)), (5, .int (0 : Int32))]) rfl ?_
  obtain ⟨n9, h⟩ := h
  exact cbX6_openScope_b5 C hr hin hZ  n9 _ _ _ _ _ h

abbrev rmX7_init : Room := { frames := 1, cells := 0, slots := 0, locals := 20 }
theorem iX7_init_X7 : ∀ w ∈ u_ws RX7 TX7 5, w ∈ wsX7_init := fun _ h => List.mem_cons_of_mem _ (List.mem_append_right _ h)
def wpX7_init (S : PS) (x0 : Nat) (Q : PS → Prop) : Prop := (pK S x0 = 6 ∧ (Q (sJ (sJ (sJ (sI (sI S x0 0 (0 : Int32)) x0 1 (0 : Int32)) x0 2 (0 : Int64)) x0 3 (0 : Int64)) x0 4 (0 : Int64))))
set_option maxRecDepth 100000 in
set_option maxHeartbeats 4000000 in
theorem ctX7_init (l : Launch) (G : PG) (hZ : pZa G) (S : PS) (x0 : Nat) (Q : PS → Prop) (h : wpX7_init S x0 Q) : mV l yX7_init wsX7_init rmX7_init G S [.ref (G.2.2 + x0)] Q := by
  unfold mV
  refine met_of (cc := cX7_init) (maxL := 1) (ret := none) (by decide) rfl (Nat.le_of_ble_eq_true rfl) ?_
  intro p e s m args below meth c C hr hin
  unfold wpX7_init at h
  show PW p l e _ s m args below meth c _ G 1 S 0 0 [(0, .ref (G.2.2 + x0))] 0 []
  refine pw_aload_n (pc := 0) C 0 dX7_init_0 rfl rfl ?_
  refine pw_objInit (pc := 1) C (by decide +kernel) (by decide +kernel) (by decide +kernel) (Nat.le_of_ble_eq_true rfl) (Nat.le_of_ble_eq_true rfl) (Nat.le_of_ble_eq_true rfl) dX7_init_1 ?_
  refine pw_aload_n (pc := 4) C 0 dX7_init_4 rfl rfl ?_
  refine pw_iconst (pc := 5) (v := 0 ) C dX7_init_5 (by decide) ?_
  obtain ⟨hk1, h⟩ := h
  refine pw_putI (pc := 6) (ref := "SupportSolver$Solutions") (k := 0) (index := 9) C pCl5 iX7_init_X7 hk1 rfl (by decide +kernel) (Or.inl rfl) (Or.inl rfl) rfl rfl dX7_init_6 ?_
  refine pw_aload_n (pc := 9) (S := (sI S x0 0 (0 : Int32))) C 0 dX7_init_9 rfl rfl ?_
  refine pw_iconst (pc := 10) (S := (sI S x0 0 (0 : Int32))) (v := 0 ) C dX7_init_10 (by decide) ?_
  refine pw_putI (pc := 11) (S := (sI S x0 0 (0 : Int32))) (ref := "SupportSolver$Solutions") (k := 1) (index := 15) C pCl5 iX7_init_X7 hk1 rfl (by decide +kernel) (Or.inl rfl) (Or.inl rfl) rfl rfl dX7_init_11 ?_
  refine pw_aload_n (pc := 14) (S := (sI (sI S x0 0 (0 : Int32)) x0 1 (0 : Int32))) C 0 dX7_init_14 rfl rfl ?_
  refine pw_lconst (pc := 15) (S := (sI (sI S x0 0 (0 : Int32)) x0 1 (0 : Int32))) (v := 0) C dX7_init_15 (by decide) ?_
  refine pw_putJ (pc := 16) (S := (sI (sI S x0 0 (0 : Int32)) x0 1 (0 : Int32))) (ref := "SupportSolver$Solutions") (k := 2) (index := 19) C pCl5 iX7_init_X7 hk1 rfl (by decide +kernel) (Or.inl rfl) (Or.inl rfl) rfl rfl dX7_init_16 ?_
  refine pw_aload_n (pc := 19) (S := (sJ (sI (sI S x0 0 (0 : Int32)) x0 1 (0 : Int32)) x0 2 (0 : Int64))) C 0 dX7_init_19 rfl rfl ?_
  refine pw_lconst (pc := 20) (S := (sJ (sI (sI S x0 0 (0 : Int32)) x0 1 (0 : Int32)) x0 2 (0 : Int64))) (v := 0) C dX7_init_20 (by decide) ?_
  refine pw_putJ (pc := 21) (S := (sJ (sI (sI S x0 0 (0 : Int32)) x0 1 (0 : Int32)) x0 2 (0 : Int64))) (ref := "SupportSolver$Solutions") (k := 3) (index := 23) C pCl5 iX7_init_X7 hk1 rfl (by decide +kernel) (Or.inl rfl) (Or.inl rfl) rfl rfl dX7_init_21 ?_
  refine pw_aload_n (pc := 24) (S := (sJ (sJ (sI (sI S x0 0 (0 : Int32)) x0 1 (0 : Int32)) x0 2 (0 : Int64)) x0 3 (0 : Int64))) C 0 dX7_init_24 rfl rfl ?_
  refine pw_lconst (pc := 25) (S := (sJ (sJ (sI (sI S x0 0 (0 : Int32)) x0 1 (0 : Int32)) x0 2 (0 : Int64)) x0 3 (0 : Int64))) (v := 0) C dX7_init_25 (by decide) ?_
  refine pw_putJ (pc := 26) (S := (sJ (sJ (sI (sI S x0 0 (0 : Int32)) x0 1 (0 : Int32)) x0 2 (0 : Int64)) x0 3 (0 : Int64))) (ref := "SupportSolver$Solutions") (k := 4) (index := 26) C pCl5 iX7_init_X7 hk1 rfl (by decide +kernel) (Or.inl rfl) (Or.inl rfl) rfl rfl dX7_init_26 ?_
  exact pw_vret (pc := 29) (S := (sJ (sJ (sJ (sI (sI S x0 0 (0 : Int32)) x0 1 (0 : Int32)) x0 2 (0 : Int64)) x0 3 (0 : Int64)) x0 4 (0 : Int64))) C hr h dX7_init_29

abbrev rmX7_addAll : Room := { frames := 2, cells := 0, slots := 0, locals := 46 }
theorem iX7_addAll_X7 : ∀ w ∈ u_ws RX7 TX7 5, w ∈ wsX7_addAll := fun _ h => List.mem_cons_of_mem _ (List.mem_append_right _ h)
def wpX7_addAll_b23  (Q : PS → Prop) (S : PS) (x0 : Nat) (x1 : Int64) (x3 : Int32) (t0 : Nat) (t1 : Int64) : Prop := (pK S t0 = 6 ∧ (pK S x0 = 6 ∧ (Q (sI (sJ (sJ S t0 2 t1) x0 3 ((pJ (sJ S t0 2 t1) x0 3) ||| x1)) x0 1 ((pI (sJ (sJ S t0 2 t1) x0 3 ((pJ (sJ S t0 2 t1) x0 3) ||| x1)) x0 1) + x3)))))
def wpX7_addAll (S : PS) (x0 : Nat) (x1 : Int64) (x3 : Int32) (Q : PS → Prop) : Prop := ((x3 ≤ 0 → (Q S)) ∧ (¬ x3 ≤ 0 → (pK S x0 = 6 ∧ ((¬ (pI S x0 1) = 0 → (wpX7_addAll_b23 Q S x0 x1 x3 x0 (pJ S x0 2))) ∧ ((pI S x0 1) = 0 → (wpX5_leastOfEach S x1 (fun r4 S5 => (wpX7_addAll_b23 Q S5 x0 x1 x3 x0 r4))))))))
set_option maxRecDepth 100000 in
set_option maxHeartbeats 4000000 in
theorem cbX7_addAll_b23 {p : Program} {l : Launch} {e : Env} {s : State} {m : MethodId} {args : Array Value} {below : List Frame} {meth : Method} {c : Code} {G : PG} {Q : PS → Prop} (C : pCx p s m args meth c G cX7_addAll 4 yX7_addAll.cls wsX7_addAll) (hr : meth.sig.returnType = none) (hin : meth.name = yX7_addAll.name) (hZ : pZa G)  : ∀ (S : PS) (x0 : Nat) (x1 : Int64) (x3 : Int32) (t0 : Nat) (t1 : Int64), wpX7_addAll_b23  Q S x0 x1 x3 t0 t1 → PW p l e rmX7_addAll s m args below meth c (MQ below (va_Qv Q (pB G) (pFr G)) args s rmX7_addAll.cells rmX7_addAll.slots (pFr G)) G 4 S 0 0 [(0, .ref (G.2.2 + x0)), (1, .long x1), (3, .int x3)] 23 (.long t1 :: .ref (G.2.2 + t0) :: []) := by
  intro S x0 x1 x3 t0 t1 h
  unfold wpX7_addAll_b23 at h
  obtain ⟨hk1, h⟩ := h
  refine pw_putJ (pc := 23) (ref := "SupportSolver$Solutions") (k := 2) (index := 19) C pCl5 iX7_addAll_X7 hk1 rfl (by decide +kernel) (Or.inl rfl) (Or.inl rfl) rfl rfl dX7_addAll_23 ?_
  refine pw_aload_n (pc := 26) (S := (sJ S t0 2 t1)) C 0 dX7_addAll_26 rfl rfl ?_
  refine pw_dup (pc := 27) (S := (sJ S t0 2 t1)) C dX7_addAll_27 rfl ?_
  obtain ⟨hk2, h⟩ := h
  refine pw_getJ (pc := 28) (S := (sJ S t0 2 t1)) (ref := "SupportSolver$Solutions") (k := 3) (index := 23) C pCl5 iX7_addAll_X7 hk2 rfl (by decide +kernel) (Or.inl rfl) dX7_addAll_28 ?_
  refine pw_lload_n (pc := 31) (S := (sJ S t0 2 t1)) C 1 dX7_addAll_31 rfl rfl ?_
  refine pw_lor (pc := 32) (S := (sJ S t0 2 t1)) C dX7_addAll_32 ?_
  refine pw_putJ (pc := 33) (S := (sJ S t0 2 t1)) (ref := "SupportSolver$Solutions") (k := 3) (index := 23) C pCl5 iX7_addAll_X7 hk2 rfl (by decide +kernel) (Or.inl rfl) (Or.inl rfl) rfl rfl dX7_addAll_33 ?_
  refine pw_aload_n (pc := 36) (S := (sJ (sJ S t0 2 t1) x0 3 ((pJ (sJ S t0 2 t1) x0 3) ||| x1))) C 0 dX7_addAll_36 rfl rfl ?_
  refine pw_dup (pc := 37) (S := (sJ (sJ S t0 2 t1) x0 3 ((pJ (sJ S t0 2 t1) x0 3) ||| x1))) C dX7_addAll_37 rfl ?_
  refine pw_getI (pc := 38) (S := (sJ (sJ S t0 2 t1) x0 3 ((pJ (sJ S t0 2 t1) x0 3) ||| x1))) (ref := "SupportSolver$Solutions") (k := 1) (index := 15) C pCl5 iX7_addAll_X7 hk2 rfl (by decide +kernel) (Or.inl rfl) dX7_addAll_38 ?_
  refine pw_iload_n (pc := 41) (S := (sJ (sJ S t0 2 t1) x0 3 ((pJ (sJ S t0 2 t1) x0 3) ||| x1))) C 2 dX7_addAll_41 rfl rfl ?_
  refine pw_iadd (pc := 42) (S := (sJ (sJ S t0 2 t1) x0 3 ((pJ (sJ S t0 2 t1) x0 3) ||| x1))) C dX7_addAll_42 ?_
  refine pw_putI (pc := 43) (S := (sJ (sJ S t0 2 t1) x0 3 ((pJ (sJ S t0 2 t1) x0 3) ||| x1))) (ref := "SupportSolver$Solutions") (k := 1) (index := 15) C pCl5 iX7_addAll_X7 hk2 rfl (by decide +kernel) (Or.inl rfl) (Or.inl rfl) rfl rfl dX7_addAll_43 ?_
  exact pw_vret (pc := 46) (S := (sI (sJ (sJ S t0 2 t1) x0 3 ((pJ (sJ S t0 2 t1) x0 3) ||| x1)) x0 1 ((pI (sJ (sJ S t0 2 t1) x0 3 ((pJ (sJ S t0 2 t1) x0 3) ||| x1)) x0 1) + x3))) C hr h dX7_addAll_46
set_option maxRecDepth 100000 in
set_option maxHeartbeats 4000000 in
theorem ctX7_addAll (l : Launch) (G : PG) (hZ : pZa G) (S : PS) (x0 : Nat) (x1 : Int64) (x3 : Int32) (Q : PS → Prop) (h : wpX7_addAll S x0 x1 x3 Q) : mV l yX7_addAll wsX7_addAll rmX7_addAll G S [.ref (G.2.2 + x0), .long x1, .int x3] Q := by
  unfold mV
  refine met_of (cc := cX7_addAll) (maxL := 4) (ret := none) (by decide) rfl (Nat.le_of_ble_eq_true rfl) ?_
  intro p e s m args below meth c C hr hin
  unfold wpX7_addAll at h
  show PW p l e _ s m args below meth c _ G 4 S 0 0 [(0, .ref (G.2.2 + x0)), (1, .long x1), (3, .int x3)] 0 []
  refine pw_iload_n (pc := 0) C 2 dX7_addAll_0 rfl rfl ?_
  refine pw_if_le (pc := 1) (tgt := 46) C dX7_addAll_1 rfl ⟨fun hc => ?_, fun hc => ?_⟩
  · replace h := h.1 hc
    exact pw_vret (pc := 46) C hr h dX7_addAll_46
  · replace h := h.2 hc
    refine pw_aload_n (pc := 4) C 0 dX7_addAll_4 rfl rfl ?_
    refine pw_aload_n (pc := 5) C 0 dX7_addAll_5 rfl rfl ?_
    obtain ⟨hk3, h⟩ := h
    refine pw_getI (pc := 6) (ref := "SupportSolver$Solutions") (k := 1) (index := 15) C pCl5 iX7_addAll_X7 hk3 rfl (by decide +kernel) (Or.inl rfl) dX7_addAll_6 ?_
    refine pw_if_ne (pc := 9) (tgt := 19) C dX7_addAll_9 rfl ⟨fun hc => ?_, fun hc => ?_⟩
    · replace h := h.1 hc
      refine pw_aload_n (pc := 19) C 0 dX7_addAll_19 rfl rfl ?_
      refine pw_getJ (pc := 20) (ref := "SupportSolver$Solutions") (k := 2) (index := 19) C pCl5 iX7_addAll_X7 hk3 rfl (by decide +kernel) (Or.inl rfl) dX7_addAll_20 ?_
      exact cbX7_addAll_b23 C hr hin hZ  _ _ _ _ _ _ h
    · replace h := h.2 hc
      refine pw_lload_n (pc := 12) C 1 dX7_addAll_12 rfl rfl ?_
      refine pw_calll (pc := 13) (kc2 := 0) (kn2 := 0) (pRunS (pc := 13) C (ctX5_leastOfEach l G hZ  _ x1 _ h) (va_cwS 1 C.2.2.2.2.1 gX7_addAll_X5_leastOfEach rfl rfl rfl (by decide +kernel) ⟨Nat.le_of_ble_eq_true rfl, Nat.le_of_ble_eq_true rfl⟩) rfl rfl (Nat.le_of_ble_eq_true rfl) dX7_addAll_13 ⟨Nat.le_of_ble_eq_true rfl, Nat.le_of_ble_eq_true rfl⟩) rfl rfl (fun r4 S5 h => ?_)
      refine pw_goto (pc := 16) (tgt := 23) C dX7_addAll_16 rfl ?_
      exact cbX7_addAll_b23 C hr hin hZ  _ _ _ _ _ _ h

def rmX7_addFrom (d : Nat) : Room := { frames := 4 + d, cells := 0, slots := 0, locals := 101 + d * 28 }
theorem iX7_addFrom_X6 : ∀ w ∈ u_ws RX6 TX6 4, w ∈ wsX7_addFrom := by decide +kernel
def wpX7_addFrom_b75 (Rc : PS → Nat → Nat → Int64 → Int32 → (PS → Prop) → Prop) (Q : PS → Prop) : Nat → PS → Nat → Nat → Int64 → Int32 → Int64 → Int32 → Int32 → Prop
  | 0 => fun _ _ _ _ _ _ _ _ => False
  | n + 1 => fun S x0 x1 x2 x4 x5 x7 x8 => (((5 : Int32) ≤ x8 → (Q S)) ∧ (¬ (5 : Int32) ≤ x8 → (wpX5_has S x2 x7 x8 (fun r1 S2 => ((r1 = 0 → (wpX7_addFrom_b75 Rc Q n S2 x0 x1 x2 x4 x5 x7 (x8 + 1))) ∧ (¬ r1 = 0 → (wpX5_narrowed S2 x2 x7 x8 (fun r3 S4 => (Rc S4 x0 x1 r3 (x7 + (1 : Int32)) (fun S6 => (wpX7_addFrom_b75 Rc Q n S6 x0 x1 x2 x4 x5 x7 (x8 + 1))))))))))))
def wpX7_addFrom_b49 (Rc : PS → Nat → Nat → Int64 → Int32 → (PS → Prop) → Prop) (Q : PS → Prop) (S : PS) (x0 : Nat) (x1 : Nat) (x2 : Int64) (x4 : Int32) (x5 : Int64) (x7 : Int32) : Prop := (pK S x1 = 5 ∧ ((x7 < (pI S x1 1) → (∃ n9 : Nat, wpX7_addFrom_b75 Rc Q n9 S x0 x1 x2 x4 x5 x7 (0 : Int32))) ∧ (¬ x7 < (pI S x1 1) → (wpX5_assignments S x2 (pJ S x1 3) (fun r8 S9 => (pK S9 x0 = 6 ∧ (wpX7_addAll S9 x0 x2 r8 (fun S12 => (Q S12)))))))))
def wpX7_addFrom_b21 (Rc : PS → Nat → Nat → Int64 → Int32 → (PS → Prop) → Prop) (Q : PS → Prop) : Nat → PS → Nat → Nat → Int64 → Int32 → Int64 → Int32 → Prop
  | 0 => fun _ _ _ _ _ _ _ => False
  | n + 1 => fun S x0 x1 x2 x4 x5 x7 => (pK S x1 = 5 ∧ (((pI S x1 1) ≤ x7 → (wpX7_addFrom_b49 Rc Q S x0 x1 x2 x4 x5 x7)) ∧ (¬ (pI S x1 1) ≤ x7 → (wpX5_allOf S x7 (fun r14 S15 => ((¬ (lg_cmp (x5 &&& r14) (0 : Int64)) = 0 → (wpX7_addFrom_b49 Rc Q S15 x0 x1 x2 x4 x5 x7)) ∧ ((lg_cmp (x5 &&& r14) (0 : Int64)) = 0 → (wpX7_addFrom_b21 Rc Q n S15 x0 x1 x2 x4 x5 (x7 + 1)))))))))
def wpX7_addFrom : Nat → PS → Nat → Nat → Int64 → Int32 → (PS → Prop) → Prop
  | 0 => fun _ _ _ _ _ _ => False
  | d + 1 => fun S x0 x1 x2 x4 Q => (pK S x1 = 5 ∧ (wpX6_openScope S x1 x2 (fun r17 S18 => ((¬ (lg_cmp r17 (-1 : Int64)) = 0 → (∃ n9 : Nat, wpX7_addFrom_b21 (wpX7_addFrom d) Q n9 S18 x0 x1 x2 x4 r17 x4)) ∧ ((lg_cmp r17 (-1 : Int64)) = 0 → (Q S18))))))
set_option maxRecDepth 100000 in
set_option maxHeartbeats 4000000 in
theorem cbX7_addFrom_b75 {p : Program} {l : Launch} {e : Env} {s : State} {m : MethodId} {args : Array Value} {below : List Frame} {meth : Method} {c : Code} {G : PG} {Q : PS → Prop} (C : pCx p s m args meth c G cX7_addFrom 9 yX7_addFrom.cls wsX7_addFrom) (hr : meth.sig.returnType = none) (hin : meth.name = yX7_addFrom.name) (hZ : pZa G) (d : Nat) {Rc : PS → Nat → Nat → Int64 → Int32 → (PS → Prop) → Prop} (hRc : ∀ (S : PS) (x0 : Nat) (x1 : Nat) (x2 : Int64) (x4 : Int32) (Q : PS → Prop), Rc S x0 x1 x2 x4 Q → mV l yX7_addFrom wsX7_addFrom (rmX7_addFrom d) G S [.ref (G.2.2 + x0), .ref (G.2.2 + x1), .long x2, .int x4] Q)  (n : Nat) : ∀ (S : PS) (x0 : Nat) (x1 : Nat) (x2 : Int64) (x4 : Int32) (x5 : Int64) (x7 : Int32) (x8 : Int32), wpX7_addFrom_b75 Rc Q n S x0 x1 x2 x4 x5 x7 x8 → PW p l e (rmX7_addFrom (d + 1)) s m args below meth c (MQ below (va_Qv Q (pB G) (pFr G)) args s (rmX7_addFrom (d + 1)).cells (rmX7_addFrom (d + 1)).slots (pFr G)) G 9 S 0 0 [(0, .ref (G.2.2 + x0)), (1, .ref (G.2.2 + x1)), (2, .long x2), (4, .int x4), (5, .long x5), (7, .int x7), (8, .int x8)] 75 ([]) := by
  induction n with
  | zero => intro S x0 x1 x2 x4 x5 x7 x8 h; exact h.elim
  | succ n ih =>
    intro S x0 x1 x2 x4 x5 x7 x8 h
    unfold wpX7_addFrom_b75 at h
    refine pw_iload (pc := 75) C 6 dX7_addFrom_75 rfl ?_
    refine pw_iconst (pc := 77) (v := 5 ) C dX7_addFrom_77 (by decide) ?_
    refine pw_icmp_ge (pc := 78) (tgt := 115) C dX7_addFrom_78 rfl ⟨fun hc => ?_, fun hc => ?_⟩
    · replace h := h.1 hc
      exact pw_vret (pc := 115) C hr h dX7_addFrom_115
    · replace h := h.2 hc
      refine pw_lload_n (pc := 81) C 2 dX7_addFrom_81 rfl rfl ?_
      refine pw_iload (pc := 82) C 5 dX7_addFrom_82 rfl ?_
      refine pw_iload (pc := 84) C 6 dX7_addFrom_84 rfl ?_
      refine pw_calli (pc := 86) (kc2 := 0) (kn2 := 0) (pRunS (pc := 86) C (ctX5_has l G hZ  _ x2 x7 x8 _ h) (va_cwS 3 C.2.2.2.2.1 gX7_addFrom_X5_has rfl rfl rfl (by decide +kernel) ⟨(by show 1 + 1 ≤ 4 + (d + 1); omega), (by show 8 + (4 + 11) + 21 ≤ 101 + (d + 1) * 28; omega)⟩) rfl rfl (Nat.le_of_ble_eq_true rfl) dX7_addFrom_86 ⟨Nat.le_of_ble_eq_true rfl, Nat.le_of_ble_eq_true rfl⟩) rfl rfl (fun r1 S2 h => ?_)
      refine pw_if_eq (pc := 89) (tgt := 109) C dX7_addFrom_89 rfl ⟨fun hc => ?_, fun hc => ?_⟩
      · replace h := h.1 hc
        refine pw_iincK (pc := 109) (w := 1) C [(8, .int (x8 + 1)), (0, .ref (G.2.2 + x0)), (1, .ref (G.2.2 + x1)), (2, .long x2), (4, .int x4), (5, .long x5), (7, .int x7)] 6 dX7_addFrom_109 (by decide) rfl (by decide) rfl ?_
        refine pw_goto (pc := 112) (tgt := 75) C dX7_addFrom_112 rfl ?_
        refine pw_sub [1, 2, 3, 4, 5, 6, 0] (LV2 := [(0, .ref (G.2.2 + x0)), (1, .ref (G.2.2 + x1)), (2, .long x2), (4, .int x4), (5, .long x5), (7, .int x7), (8, .int (x8 + 1))]) rfl ?_
        exact ih _ _ _ _ _ _ _ _ h
      · replace h := h.2 hc
        refine pw_aload_n (pc := 92) C 0 dX7_addFrom_92 rfl rfl ?_
        refine pw_aload_n (pc := 93) C 1 dX7_addFrom_93 rfl rfl ?_
        refine pw_lload_n (pc := 94) C 2 dX7_addFrom_94 rfl rfl ?_
        refine pw_iload (pc := 95) C 5 dX7_addFrom_95 rfl ?_
        refine pw_iload (pc := 97) C 6 dX7_addFrom_97 rfl ?_
        refine pw_calll (pc := 99) (kc2 := 0) (kn2 := 0) (pRunS (pc := 99) C (ctX5_narrowed l G hZ  _ x2 x7 x8 _ h) (va_cwS 3 C.2.2.2.2.1 gX7_addFrom_X5_narrowed rfl rfl rfl (by decide +kernel) ⟨(by show 1 + 1 ≤ 4 + (d + 1); omega), (by show 8 + (4 + 11) + 21 ≤ 101 + (d + 1) * 28; omega)⟩) rfl rfl (Nat.le_of_ble_eq_true rfl) dX7_addFrom_99 ⟨Nat.le_of_ble_eq_true rfl, Nat.le_of_ble_eq_true rfl⟩) rfl rfl (fun r3 S4 h => ?_)
        refine pw_iload (pc := 102) C 5 dX7_addFrom_102 rfl ?_
        refine pw_iconst (pc := 104) (v := 1 ) C dX7_addFrom_104 (by decide) ?_
        refine pw_iadd (pc := 105) C dX7_addFrom_105 ?_
        refine pw_callv (pc := 106) (kc2 := 0) (kn2 := 0) (pRunS (pc := 106) C (hRc _ x0 x1 r3 (x7 + (1 : Int32)) _ h) (va_cwS 4 C.2.2.2.2.1 gX7_addFrom_X7_addFrom rfl rfl rfl (by decide +kernel) ⟨(by show 4 + d + 1 ≤ 4 + (d + 1); omega), (by show 8 + (9 + 11) + (101 + d * 28) ≤ 101 + (d + 1) * 28; omega)⟩) rfl rfl (Nat.le_of_ble_eq_true rfl) dX7_addFrom_106 ⟨Nat.le_of_ble_eq_true rfl, Nat.le_of_ble_eq_true rfl⟩) rfl rfl (fun S6 h => ?_)
        refine pw_iincK (pc := 109) (w := 1) C [(8, .int (x8 + 1)), (0, .ref (G.2.2 + x0)), (1, .ref (G.2.2 + x1)), (2, .long x2), (4, .int x4), (5, .long x5), (7, .int x7)] 6 dX7_addFrom_109 (by decide) rfl (by decide) rfl ?_
        refine pw_goto (pc := 112) (tgt := 75) C dX7_addFrom_112 rfl ?_
        refine pw_sub [1, 2, 3, 4, 5, 6, 0] (LV2 := [(0, .ref (G.2.2 + x0)), (1, .ref (G.2.2 + x1)), (2, .long x2), (4, .int x4), (5, .long x5), (7, .int x7), (8, .int (x8 + 1))]) rfl ?_
        exact ih _ _ _ _ _ _ _ _ h
set_option maxRecDepth 100000 in
set_option maxHeartbeats 4000000 in
theorem cbX7_addFrom_b49 {p : Program} {l : Launch} {e : Env} {s : State} {m : MethodId} {args : Array Value} {below : List Frame} {meth : Method} {c : Code} {G : PG} {Q : PS → Prop} (C : pCx p s m args meth c G cX7_addFrom 9 yX7_addFrom.cls wsX7_addFrom) (hr : meth.sig.returnType = none) (hin : meth.name = yX7_addFrom.name) (hZ : pZa G) (d : Nat) {Rc : PS → Nat → Nat → Int64 → Int32 → (PS → Prop) → Prop} (hRc : ∀ (S : PS) (x0 : Nat) (x1 : Nat) (x2 : Int64) (x4 : Int32) (Q : PS → Prop), Rc S x0 x1 x2 x4 Q → mV l yX7_addFrom wsX7_addFrom (rmX7_addFrom d) G S [.ref (G.2.2 + x0), .ref (G.2.2 + x1), .long x2, .int x4] Q)  : ∀ (S : PS) (x0 : Nat) (x1 : Nat) (x2 : Int64) (x4 : Int32) (x5 : Int64) (x7 : Int32), wpX7_addFrom_b49 Rc Q S x0 x1 x2 x4 x5 x7 → PW p l e (rmX7_addFrom (d + 1)) s m args below meth c (MQ below (va_Qv Q (pB G) (pFr G)) args s (rmX7_addFrom (d + 1)).cells (rmX7_addFrom (d + 1)).slots (pFr G)) G 9 S 0 0 [(0, .ref (G.2.2 + x0)), (1, .ref (G.2.2 + x1)), (2, .long x2), (4, .int x4), (5, .long x5), (7, .int x7)] 49 ([]) := by
  intro S x0 x1 x2 x4 x5 x7 h
  unfold wpX7_addFrom_b49 at h
  refine pw_iload (pc := 49) C 5 dX7_addFrom_49 rfl ?_
  refine pw_aload_n (pc := 51) C 1 dX7_addFrom_51 rfl rfl ?_
  obtain ⟨hk7, h⟩ := h
  refine pw_getI (pc := 52) (ref := "SupportSolver$Problem") (k := 1) (index := 41) C pCl4 iX7_addFrom_X6 hk7 rfl (by decide +kernel) (Or.inl rfl) dX7_addFrom_52 ?_
  refine pw_icmp_lt (pc := 55) (tgt := 72) C dX7_addFrom_55 rfl ⟨fun hc => ?_, fun hc => ?_⟩
  · replace h := h.1 hc
    refine pw_iconst (pc := 72) (v := 0 ) C dX7_addFrom_72 (by decide) ?_
    refine pw_istore (pc := 73) C [(8, .int (0 : Int32)), (0, .ref (G.2.2 + x0)), (1, .ref (G.2.2 + x1)), (2, .long x2), (4, .int x4), (5, .long x5), (7, .int x7)] dX7_addFrom_73 (by decide) rfl ?_
    refine pw_sub [1, 2, 3, 4, 5, 6, 0] (LV2 := [(0, .ref (G.2.2 + x0)), (1, .ref (G.2.2 + x1)), (2, .long x2), (4, .int x4), (5, .long x5), (7, .int x7), (8, .int (0 : Int32))]) rfl ?_
    obtain ⟨n9, h⟩ := h
    exact cbX7_addFrom_b75 C hr hin hZ d hRc  n9 _ _ _ _ _ _ _ _ h
  · replace h := h.2 hc
    refine pw_aload_n (pc := 58) C 0 dX7_addFrom_58 rfl rfl ?_
    refine pw_lload_n (pc := 59) C 2 dX7_addFrom_59 rfl rfl ?_
    refine pw_lload_n (pc := 60) C 2 dX7_addFrom_60 rfl rfl ?_
    refine pw_aload_n (pc := 61) C 1 dX7_addFrom_61 rfl rfl ?_
    refine pw_getJ (pc := 62) (ref := "SupportSolver$Problem") (k := 3) (index := 50) C pCl4 iX7_addFrom_X6 hk7 rfl (by decide +kernel) (Or.inl rfl) dX7_addFrom_62 ?_
    refine pw_calli (pc := 65) (kc2 := 0) (kn2 := 0) (pRunS (pc := 65) C (ctX5_assignments l G hZ  _ x2 (pJ S x1 3) _ h) (va_cwS 2 C.2.2.2.2.1 gX7_addFrom_X5_assignments rfl rfl rfl (by decide +kernel) ⟨(by show 1 + 1 ≤ 4 + (d + 1); omega), (by show 8 + (6 + 11) + 22 ≤ 101 + (d + 1) * 28; omega)⟩) rfl rfl (Nat.le_of_ble_eq_true rfl) dX7_addFrom_65 ⟨Nat.le_of_ble_eq_true rfl, Nat.le_of_ble_eq_true rfl⟩) rfl rfl (fun r8 S9 h => ?_)
    obtain ⟨hk10, h⟩ := h
    refine pw_callv (pc := 68) (kc2 := 0) (kn2 := 0) (pRunV (pc := 68) C (ctX7_addAll l G hZ  _ x0 x2 r8 _ h) (cwV 2 C.2.2.2.2.1 gX7_addFrom_X7_addAll rfl rfl rfl (by decide +kernel) ⟨(by show 2 + 1 ≤ 4 + (d + 1); omega), (by show 8 + (4 + 11) + 46 ≤ 101 + (d + 1) * 28; omega)⟩) pCl5 hk10 rfl rfl (Nat.le_of_ble_eq_true rfl) dX7_addFrom_68 ⟨Nat.le_of_ble_eq_true rfl, Nat.le_of_ble_eq_true rfl⟩) rfl rfl (fun S12 h => ?_)
    exact pw_vret (pc := 71) C hr h dX7_addFrom_71
set_option maxRecDepth 100000 in
set_option maxHeartbeats 4000000 in
theorem cbX7_addFrom_b21 {p : Program} {l : Launch} {e : Env} {s : State} {m : MethodId} {args : Array Value} {below : List Frame} {meth : Method} {c : Code} {G : PG} {Q : PS → Prop} (C : pCx p s m args meth c G cX7_addFrom 9 yX7_addFrom.cls wsX7_addFrom) (hr : meth.sig.returnType = none) (hin : meth.name = yX7_addFrom.name) (hZ : pZa G) (d : Nat) {Rc : PS → Nat → Nat → Int64 → Int32 → (PS → Prop) → Prop} (hRc : ∀ (S : PS) (x0 : Nat) (x1 : Nat) (x2 : Int64) (x4 : Int32) (Q : PS → Prop), Rc S x0 x1 x2 x4 Q → mV l yX7_addFrom wsX7_addFrom (rmX7_addFrom d) G S [.ref (G.2.2 + x0), .ref (G.2.2 + x1), .long x2, .int x4] Q)  (n : Nat) : ∀ (S : PS) (x0 : Nat) (x1 : Nat) (x2 : Int64) (x4 : Int32) (x5 : Int64) (x7 : Int32), wpX7_addFrom_b21 Rc Q n S x0 x1 x2 x4 x5 x7 → PW p l e (rmX7_addFrom (d + 1)) s m args below meth c (MQ below (va_Qv Q (pB G) (pFr G)) args s (rmX7_addFrom (d + 1)).cells (rmX7_addFrom (d + 1)).slots (pFr G)) G 9 S 0 0 [(0, .ref (G.2.2 + x0)), (1, .ref (G.2.2 + x1)), (2, .long x2), (4, .int x4), (5, .long x5), (7, .int x7)] 21 ([]) := by
  induction n with
  | zero => intro S x0 x1 x2 x4 x5 x7 h; exact h.elim
  | succ n ih =>
    intro S x0 x1 x2 x4 x5 x7 h
    unfold wpX7_addFrom_b21 at h
    refine pw_iload (pc := 21) C 5 dX7_addFrom_21 rfl ?_
    refine pw_aload_n (pc := 23) C 1 dX7_addFrom_23 rfl rfl ?_
    obtain ⟨hk13, h⟩ := h
    refine pw_getI (pc := 24) (ref := "SupportSolver$Problem") (k := 1) (index := 41) C pCl4 iX7_addFrom_X6 hk13 rfl (by decide +kernel) (Or.inl rfl) dX7_addFrom_24 ?_
    refine pw_icmp_ge (pc := 27) (tgt := 49) C dX7_addFrom_27 rfl ⟨fun hc => ?_, fun hc => ?_⟩
    · replace h := h.1 hc
      exact cbX7_addFrom_b49 C hr hin hZ d hRc  _ _ _ _ _ _ _ h
    · replace h := h.2 hc
      refine pw_lload (pc := 30) C 4 dX7_addFrom_30 rfl ?_
      refine pw_iload (pc := 32) C 5 dX7_addFrom_32 rfl ?_
      refine pw_calll (pc := 34) (kc2 := 0) (kn2 := 0) (pRunS (pc := 34) C (ctX5_allOf l G hZ  _ x7 _ h) (va_cwS 1 C.2.2.2.2.1 gX7_addFrom_X5_allOf rfl rfl rfl (by decide +kernel) ⟨(by show 0 + 1 ≤ 4 + (d + 1); omega), (by show 8 + (1 + 11) + 0 ≤ 101 + (d + 1) * 28; omega)⟩) rfl rfl (Nat.le_of_ble_eq_true rfl) dX7_addFrom_34 ⟨Nat.le_of_ble_eq_true rfl, Nat.le_of_ble_eq_true rfl⟩) rfl rfl (fun r14 S15 h => ?_)
      refine pw_land (pc := 37) C dX7_addFrom_37 ?_
      refine pw_lconst (pc := 38) (v := 0) C dX7_addFrom_38 (by decide) ?_
      refine pw_lcmp (pc := 39) C dX7_addFrom_39 ?_
      refine pw_if_ne (pc := 40) (tgt := 49) C dX7_addFrom_40 rfl ⟨fun hc => ?_, fun hc => ?_⟩
      · replace h := h.1 hc
        exact cbX7_addFrom_b49 C hr hin hZ d hRc  _ _ _ _ _ _ _ h
      · replace h := h.2 hc
        refine pw_iincK (pc := 43) (w := 1) C [(7, .int (x7 + 1)), (0, .ref (G.2.2 + x0)), (1, .ref (G.2.2 + x1)), (2, .long x2), (4, .int x4), (5, .long x5)] 5 dX7_addFrom_43 (by decide) rfl (by decide) rfl ?_
        refine pw_goto (pc := 46) (tgt := 21) C dX7_addFrom_46 rfl ?_
        refine pw_sub [1, 2, 3, 4, 5, 0] (LV2 := [(0, .ref (G.2.2 + x0)), (1, .ref (G.2.2 + x1)), (2, .long x2), (4, .int x4), (5, .long x5), (7, .int (x7 + 1))]) rfl ?_
        exact ih _ _ _ _ _ _ _ h
set_option maxRecDepth 100000 in
set_option maxHeartbeats 4000000 in
theorem ctX7_addFrom (d : Nat) (l : Launch) (G : PG) (hZ : pZa G) : ∀ (S : PS) (x0 : Nat) (x1 : Nat) (x2 : Int64) (x4 : Int32) (Q : PS → Prop), wpX7_addFrom d S x0 x1 x2 x4 Q → mV l yX7_addFrom wsX7_addFrom (rmX7_addFrom d) G S [.ref (G.2.2 + x0), .ref (G.2.2 + x1), .long x2, .int x4] Q := by
  induction d with
  | zero => intro S x0 x1 x2 x4 Q h; exact h.elim
  | succ d hRc =>
    intro S x0 x1 x2 x4 Q h
    unfold mV
    refine met_of (cc := cX7_addFrom) (maxL := 9) (ret := none) (by decide) rfl (Nat.le_of_ble_eq_true rfl) ?_
    intro p e s m args below meth c C hr hin
    unfold wpX7_addFrom at h
    show PW p l e _ s m args below meth c _ G 9 S 0 0 [(0, .ref (G.2.2 + x0)), (1, .ref (G.2.2 + x1)), (2, .long x2), (4, .int x4)] 0 []
    refine pw_aload_n (pc := 0) C 1 dX7_addFrom_0 rfl rfl ?_
    refine pw_lload_n (pc := 1) C 2 dX7_addFrom_1 rfl rfl ?_
    obtain ⟨hk16, h⟩ := h
    refine pw_calll (pc := 2) (kc2 := 0) (kn2 := 0) (pRunV (pc := 2) C (ctX6_openScope l G hZ  _ x1 x2 _ h) (cwV 1 C.2.2.2.2.1 gX7_addFrom_X6_openScope rfl rfl rfl (by decide +kernel) ⟨(by show 3 + 1 ≤ 4 + (d + 1); omega), (by show 8 + (8 + 11) + 74 ≤ 101 + (d + 1) * 28; omega)⟩) pCl4 hk16 rfl rfl (Nat.le_of_ble_eq_true rfl) dX7_addFrom_2 ⟨Nat.le_of_ble_eq_true rfl, Nat.le_of_ble_eq_true rfl⟩) rfl rfl (fun r17 S18 h => ?_)
    refine pw_lstore (pc := 5) C [(5, .long r17), (0, .ref (G.2.2 + x0)), (1, .ref (G.2.2 + x1)), (2, .long x2), (4, .int x4)] dX7_addFrom_5 (by decide) rfl ?_
    refine pw_lload (pc := 7) C 0 dX7_addFrom_7 rfl ?_
    refine pw_ldc2 (pc := 9) (v := (-1)) C (by decide +kernel) dX7_addFrom_9 ?_
    refine pw_lcmp (pc := 12) C dX7_addFrom_12 ?_
    refine pw_if_ne (pc := 13) (tgt := 17) C dX7_addFrom_13 rfl ⟨fun hc => ?_, fun hc => ?_⟩
    · replace h := h.1 hc
      refine pw_iload (pc := 17) C 4 dX7_addFrom_17 rfl ?_
      refine pw_istore (pc := 19) C [(7, .int x4), (5, .long r17), (0, .ref (G.2.2 + x0)), (1, .ref (G.2.2 + x1)), (2, .long x2), (4, .int x4)] dX7_addFrom_19 (by decide) rfl ?_
      refine pw_sub [2, 3, 4, 5, 1, 0] (LV2 := [(0, .ref (G.2.2 + x0)), (1, .ref (G.2.2 + x1)), (2, .long x2), (4, .int x4), (5, .long r17), (7, .int x4)]) rfl ?_
      obtain ⟨n9, h⟩ := h
      exact cbX7_addFrom_b21 C hr hin hZ d hRc  n9 _ _ _ _ _ _ _ h
    · replace h := h.2 hc
      exact pw_vret (pc := 16) C hr h dX7_addFrom_16

abbrev rmX7_find : Room := { frames := 14, cells := 0, slots := 0, locals := 381 }
theorem iX7_find_X7 : ∀ w ∈ u_ws RX7 TX7 5, w ∈ wsX7_find := by decide +kernel
def wpX7_find_b17  (Q : PS → Prop) (S : PS) (x0 : Nat) (x1 : Nat) (x2 : Int64) : Prop := (pK S x0 = 6 ∧ (wpX7_addFrom 9 (sJ (sJ (sI (sJ (sI S x0 0 (1 : Int32)) x0 4 x2) x0 1 (0 : Int32)) x0 2 (0 : Int64)) x0 3 (0 : Int64)) x0 x1 x2 (0 : Int32) (fun S3 => (Q S3))))
def wpX7_find (S : PS) (x0 : Nat) (x1 : Nat) (x2 : Int64) (Q : PS → Prop) : Prop := (pK S x0 = 6 ∧ (((pI S x0 0) = 0 → (wpX7_find_b17 Q S x0 x1 x2)) ∧ (¬ (pI S x0 0) = 0 → ((¬ (lg_cmp (pJ S x0 4) x2) = 0 → (wpX7_find_b17 Q S x0 x1 x2)) ∧ ((lg_cmp (pJ S x0 4) x2) = 0 → (Q S))))))
set_option maxRecDepth 100000 in
set_option maxHeartbeats 4000000 in
theorem cbX7_find_b17 {p : Program} {l : Launch} {e : Env} {s : State} {m : MethodId} {args : Array Value} {below : List Frame} {meth : Method} {c : Code} {G : PG} {Q : PS → Prop} (C : pCx p s m args meth c G cX7_find 4 yX7_find.cls wsX7_find) (hr : meth.sig.returnType = none) (hin : meth.name = yX7_find.name) (hZ : pZa G)  : ∀ (S : PS) (x0 : Nat) (x1 : Nat) (x2 : Int64), wpX7_find_b17  Q S x0 x1 x2 → PW p l e rmX7_find s m args below meth c (MQ below (va_Qv Q (pB G) (pFr G)) args s rmX7_find.cells rmX7_find.slots (pFr G)) G 4 S 0 0 [(0, .ref (G.2.2 + x0)), (1, .ref (G.2.2 + x1)), (2, .long x2)] 17 ([]) := by
  intro S x0 x1 x2 h
  unfold wpX7_find_b17 at h
  refine pw_aload_n (pc := 17) C 0 dX7_find_17 rfl rfl ?_
  refine pw_iconst (pc := 18) (v := 1 ) C dX7_find_18 (by decide) ?_
  obtain ⟨hk1, h⟩ := h
  refine pw_putI (pc := 19) (ref := "SupportSolver$Solutions") (k := 0) (index := 9) C pCl5 iX7_find_X7 hk1 rfl (by decide +kernel) (Or.inl rfl) (Or.inl rfl) rfl rfl dX7_find_19 ?_
  refine pw_aload_n (pc := 22) (S := (sI S x0 0 (1 : Int32))) C 0 dX7_find_22 rfl rfl ?_
  refine pw_lload_n (pc := 23) (S := (sI S x0 0 (1 : Int32))) C 2 dX7_find_23 rfl rfl ?_
  refine pw_putJ (pc := 24) (S := (sI S x0 0 (1 : Int32))) (ref := "SupportSolver$Solutions") (k := 4) (index := 26) C pCl5 iX7_find_X7 hk1 rfl (by decide +kernel) (Or.inl rfl) (Or.inl rfl) rfl rfl dX7_find_24 ?_
  refine pw_aload_n (pc := 27) (S := (sJ (sI S x0 0 (1 : Int32)) x0 4 x2)) C 0 dX7_find_27 rfl rfl ?_
  refine pw_iconst (pc := 28) (S := (sJ (sI S x0 0 (1 : Int32)) x0 4 x2)) (v := 0 ) C dX7_find_28 (by decide) ?_
  refine pw_putI (pc := 29) (S := (sJ (sI S x0 0 (1 : Int32)) x0 4 x2)) (ref := "SupportSolver$Solutions") (k := 1) (index := 15) C pCl5 iX7_find_X7 hk1 rfl (by decide +kernel) (Or.inl rfl) (Or.inl rfl) rfl rfl dX7_find_29 ?_
  refine pw_aload_n (pc := 32) (S := (sI (sJ (sI S x0 0 (1 : Int32)) x0 4 x2) x0 1 (0 : Int32))) C 0 dX7_find_32 rfl rfl ?_
  refine pw_lconst (pc := 33) (S := (sI (sJ (sI S x0 0 (1 : Int32)) x0 4 x2) x0 1 (0 : Int32))) (v := 0) C dX7_find_33 (by decide) ?_
  refine pw_putJ (pc := 34) (S := (sI (sJ (sI S x0 0 (1 : Int32)) x0 4 x2) x0 1 (0 : Int32))) (ref := "SupportSolver$Solutions") (k := 2) (index := 19) C pCl5 iX7_find_X7 hk1 rfl (by decide +kernel) (Or.inl rfl) (Or.inl rfl) rfl rfl dX7_find_34 ?_
  refine pw_aload_n (pc := 37) (S := (sJ (sI (sJ (sI S x0 0 (1 : Int32)) x0 4 x2) x0 1 (0 : Int32)) x0 2 (0 : Int64))) C 0 dX7_find_37 rfl rfl ?_
  refine pw_lconst (pc := 38) (S := (sJ (sI (sJ (sI S x0 0 (1 : Int32)) x0 4 x2) x0 1 (0 : Int32)) x0 2 (0 : Int64))) (v := 0) C dX7_find_38 (by decide) ?_
  refine pw_putJ (pc := 39) (S := (sJ (sI (sJ (sI S x0 0 (1 : Int32)) x0 4 x2) x0 1 (0 : Int32)) x0 2 (0 : Int64))) (ref := "SupportSolver$Solutions") (k := 3) (index := 23) C pCl5 iX7_find_X7 hk1 rfl (by decide +kernel) (Or.inl rfl) (Or.inl rfl) rfl rfl dX7_find_39 ?_
  refine pw_aload_n (pc := 42) (S := (sJ (sJ (sI (sJ (sI S x0 0 (1 : Int32)) x0 4 x2) x0 1 (0 : Int32)) x0 2 (0 : Int64)) x0 3 (0 : Int64))) C 0 dX7_find_42 rfl rfl ?_
  refine pw_aload_n (pc := 43) (S := (sJ (sJ (sI (sJ (sI S x0 0 (1 : Int32)) x0 4 x2) x0 1 (0 : Int32)) x0 2 (0 : Int64)) x0 3 (0 : Int64))) C 1 dX7_find_43 rfl rfl ?_
  refine pw_lload_n (pc := 44) (S := (sJ (sJ (sI (sJ (sI S x0 0 (1 : Int32)) x0 4 x2) x0 1 (0 : Int32)) x0 2 (0 : Int64)) x0 3 (0 : Int64))) C 2 dX7_find_44 rfl rfl ?_
  refine pw_iconst (pc := 45) (S := (sJ (sJ (sI (sJ (sI S x0 0 (1 : Int32)) x0 4 x2) x0 1 (0 : Int32)) x0 2 (0 : Int64)) x0 3 (0 : Int64))) (v := 0 ) C dX7_find_45 (by decide) ?_
  refine pw_callv (pc := 46) (S := (sJ (sJ (sI (sJ (sI S x0 0 (1 : Int32)) x0 4 x2) x0 1 (0 : Int32)) x0 2 (0 : Int64)) x0 3 (0 : Int64))) (kc2 := 0) (kn2 := 0) (pRunS (pc := 46) (S := (sJ (sJ (sI (sJ (sI S x0 0 (1 : Int32)) x0 4 x2) x0 1 (0 : Int32)) x0 2 (0 : Int64)) x0 3 (0 : Int64))) C (ctX7_addFrom 9 l G hZ  _ x0 x1 x2 (0 : Int32) _ h) (va_cwS 4 C.2.2.2.2.1 gX7_find_X7_addFrom rfl rfl rfl (by decide +kernel) ⟨Nat.le_of_ble_eq_true rfl, Nat.le_of_ble_eq_true rfl⟩) rfl rfl (Nat.le_of_ble_eq_true rfl) dX7_find_46 ⟨Nat.le_of_ble_eq_true rfl, Nat.le_of_ble_eq_true rfl⟩) rfl rfl (fun S3 h => ?_)
  exact pw_vret (pc := 49) C hr h dX7_find_49
set_option maxRecDepth 100000 in
set_option maxHeartbeats 4000000 in
theorem ctX7_find (l : Launch) (G : PG) (hZ : pZa G) (S : PS) (x0 : Nat) (x1 : Nat) (x2 : Int64) (Q : PS → Prop) (h : wpX7_find S x0 x1 x2 Q) : mV l yX7_find wsX7_find rmX7_find G S [.ref (G.2.2 + x0), .ref (G.2.2 + x1), .long x2] Q := by
  unfold mV
  refine met_of (cc := cX7_find) (maxL := 4) (ret := none) (by decide) rfl (Nat.le_of_ble_eq_true rfl) ?_
  intro p e s m args below meth c C hr hin
  unfold wpX7_find at h
  show PW p l e _ s m args below meth c _ G 4 S 0 0 [(0, .ref (G.2.2 + x0)), (1, .ref (G.2.2 + x1)), (2, .long x2)] 0 []
  refine pw_aload_n (pc := 0) C 0 dX7_find_0 rfl rfl ?_
  obtain ⟨hk4, h⟩ := h
  refine pw_getI (pc := 1) (ref := "SupportSolver$Solutions") (k := 0) (index := 9) C pCl5 iX7_find_X7 hk4 rfl (by decide +kernel) (Or.inl rfl) dX7_find_1 ?_
  refine pw_if_eq (pc := 4) (tgt := 17) C dX7_find_4 rfl ⟨fun hc => ?_, fun hc => ?_⟩
  · replace h := h.1 hc
    exact cbX7_find_b17 C hr hin hZ  _ _ _ _ h
  · replace h := h.2 hc
    refine pw_aload_n (pc := 7) C 0 dX7_find_7 rfl rfl ?_
    refine pw_getJ (pc := 8) (ref := "SupportSolver$Solutions") (k := 4) (index := 26) C pCl5 iX7_find_X7 hk4 rfl (by decide +kernel) (Or.inl rfl) dX7_find_8 ?_
    refine pw_lload_n (pc := 11) C 2 dX7_find_11 rfl rfl ?_
    refine pw_lcmp (pc := 12) C dX7_find_12 ?_
    refine pw_if_ne (pc := 13) (tgt := 17) C dX7_find_13 rfl ⟨fun hc => ?_, fun hc => ?_⟩
    · replace h := h.1 hc
      exact cbX7_find_b17 C hr hin hZ  _ _ _ _ h
    · replace h := h.2 hc
      exact pw_vret (pc := 16) C hr h dX7_find_16

abbrev rmX8_init : Room := { frames := 2, cells := 4, slots := 619, locals := 40 }
theorem iX8_init_X6 : ∀ w ∈ u_ws RX6 TX6 4, w ∈ wsX8_init := fun _ h => List.mem_cons_of_mem _ (List.mem_append_right _ h)
theorem iX8_init_X8 : ∀ w ∈ u_ws RX8 TX8 10, w ∈ wsX8_init := by decide +kernel
def wpX8_init (S : PS) (x0 : Nat) (Q : PS → Prop) : Prop := (∀ a1 S2, a1 = pN S → S2 = sNew S 12 600 → (pK S2 x0 = 7 ∧ (∀ a5 S6, a5 = pN (sR S2 x0 0 (some a1)) → S6 = sNew (sR S2 x0 0 (some a1)) 13 7 → (pK S6 x0 = 7 ∧ (∀ a9 S10, a9 = pN (sI (sI (sI (sR S6 x0 1 (some a5)) x0 2 (0 : Int32)) x0 3 (0 : Int32)) x0 4 (-1 : Int32)) → S10 = sNew (sI (sI (sI (sR S6 x0 1 (some a5)) x0 2 (0 : Int32)) x0 3 (0 : Int32)) x0 4 (-1 : Int32)) 5 0 → (wpX6_init S10 a9 (fun S13 => (pK S13 x0 = 7 ∧ (Q (sI (sI (sI (sI (sR S13 x0 5 (some a9)) x0 6 (0 : Int32)) x0 7 (0 : Int32)) x0 8 (0 : Int32)) x0 9 (0 : Int32)))))))))))
set_option maxRecDepth 100000 in
set_option maxHeartbeats 4000000 in
theorem ctX8_init (l : Launch) (G : PG) (hZ : pZa G) (S : PS) (x0 : Nat) (Q : PS → Prop) (h : wpX8_init S x0 Q) : mV l yX8_init wsX8_init rmX8_init G S [.ref (G.2.2 + x0)] Q := by
  unfold mV
  refine met_of (cc := cX8_init) (maxL := 1) (ret := none) (by decide) rfl (Nat.le_of_ble_eq_true rfl) ?_
  intro p e s m args below meth c C hr hin
  unfold wpX8_init at h
  show PW p l e _ s m args below meth c _ G 1 S 0 0 [(0, .ref (G.2.2 + x0))] 0 []
  refine pw_aload_n (pc := 0) C 0 dX8_init_0 rfl rfl ?_
  refine pw_objInit (pc := 1) C (by decide +kernel) (by decide +kernel) (by decide +kernel) (Nat.le_of_ble_eq_true rfl) (Nat.le_of_ble_eq_true rfl) (Nat.le_of_ble_eq_true rfl) dX8_init_1 ?_
  refine pw_aload_n (pc := 4) C 0 dX8_init_4 rfl rfl ?_
  refine pw_sipush (pc := 5) (v := 600 ) C dX8_init_5 (by decide) ?_
  refine pw_newaI (pc := 8) (atype := .byte) (κ := 12) (i := 0) (N := 600) (kc2 := 1) (kn2 := 600) C (by decide) rfl rfl (fun h9 => h9) (by decide +kernel) (by decide) rfl (Nat.le_of_ble_eq_true rfl) rfl rfl (Nat.le_of_ble_eq_true rfl) (Nat.le_of_ble_eq_true rfl) dX8_init_8 ?_
  obtain ⟨a1, ea1⟩ : ∃ q, q = pN S := ⟨_, rfl⟩
  obtain ⟨S2, eS2⟩ : ∃ q, q = sNew S 12 600 := ⟨_, rfl⟩
  rw [← ea1, ← eS2]
  replace h := h a1 S2 ea1 eS2
  have hk3 : pK S2 a1 = 12 := by rw [eS2, ea1, pK_sNew, if_pos rfl]
  obtain ⟨hk4, h⟩ := h
  refine pw_putR (pc := 10) (ref := "SupportSolver$TextReader") (k := 0) (index := 11) C pCl6 iX8_init_X8 hk4 rfl (by decide +kernel) (Or.inl rfl) (o := a1) (Or.inr ⟨rfl, hin, rfl, rfl⟩) rfl rfl dX8_init_10 ?_
  refine pw_aload_n (pc := 13) (S := (sR S2 x0 0 (some a1))) C 0 dX8_init_13 rfl rfl ?_
  refine pw_bipush (pc := 14) (S := (sR S2 x0 0 (some a1))) (v := 7 ) C dX8_init_14 (by decide) ?_
  refine pw_newaI (pc := 16) (S := (sR S2 x0 0 (some a1))) (atype := .int) (κ := 13) (i := 1) (N := 7) (kc2 := 2) (kn2 := 607) C (by decide) rfl rfl (fun h9 => h9) (by decide +kernel) (by decide) rfl (Nat.le_of_ble_eq_true rfl) rfl rfl (Nat.le_of_ble_eq_true rfl) (Nat.le_of_ble_eq_true rfl) dX8_init_16 ?_
  obtain ⟨a5, ea5⟩ : ∃ q, q = pN (sR S2 x0 0 (some a1)) := ⟨_, rfl⟩
  obtain ⟨S6, eS6⟩ : ∃ q, q = sNew (sR S2 x0 0 (some a1)) 13 7 := ⟨_, rfl⟩
  rw [← ea5, ← eS6]
  replace h := h a5 S6 ea5 eS6
  have hk7 : pK S6 a5 = 13 := by rw [eS6, ea5, pK_sNew, if_pos rfl]
  obtain ⟨hk8, h⟩ := h
  refine pw_putR (pc := 18) (ref := "SupportSolver$TextReader") (k := 1) (index := 15) C pCl6 iX8_init_X8 hk8 rfl (by decide +kernel) (Or.inl rfl) (o := a5) (Or.inr ⟨rfl, hin, rfl, rfl⟩) rfl rfl dX8_init_18 ?_
  refine pw_aload_n (pc := 21) (S := (sR S6 x0 1 (some a5))) C 0 dX8_init_21 rfl rfl ?_
  refine pw_iconst (pc := 22) (S := (sR S6 x0 1 (some a5))) (v := 0 ) C dX8_init_22 (by decide) ?_
  refine pw_putI (pc := 23) (S := (sR S6 x0 1 (some a5))) (ref := "SupportSolver$TextReader") (k := 2) (index := 19) C pCl6 iX8_init_X8 hk8 rfl (by decide +kernel) (Or.inl rfl) (Or.inl rfl) rfl rfl dX8_init_23 ?_
  refine pw_aload_n (pc := 26) (S := (sI (sR S6 x0 1 (some a5)) x0 2 (0 : Int32))) C 0 dX8_init_26 rfl rfl ?_
  refine pw_iconst (pc := 27) (S := (sI (sR S6 x0 1 (some a5)) x0 2 (0 : Int32))) (v := 0 ) C dX8_init_27 (by decide) ?_
  refine pw_putI (pc := 28) (S := (sI (sR S6 x0 1 (some a5)) x0 2 (0 : Int32))) (ref := "SupportSolver$TextReader") (k := 3) (index := 23) C pCl6 iX8_init_X8 hk8 rfl (by decide +kernel) (Or.inl rfl) (Or.inl rfl) rfl rfl dX8_init_28 ?_
  refine pw_aload_n (pc := 31) (S := (sI (sI (sR S6 x0 1 (some a5)) x0 2 (0 : Int32)) x0 3 (0 : Int32))) C 0 dX8_init_31 rfl rfl ?_
  refine pw_iconst (pc := 32) (S := (sI (sI (sR S6 x0 1 (some a5)) x0 2 (0 : Int32)) x0 3 (0 : Int32))) (v := (-1)) C dX8_init_32 (by decide) ?_
  refine pw_putI (pc := 33) (S := (sI (sI (sR S6 x0 1 (some a5)) x0 2 (0 : Int32)) x0 3 (0 : Int32))) (ref := "SupportSolver$TextReader") (k := 4) (index := 26) C pCl6 iX8_init_X8 hk8 rfl (by decide +kernel) (Or.inl rfl) (Or.inl rfl) rfl rfl dX8_init_33 ?_
  refine pw_aload_n (pc := 36) (S := (sI (sI (sI (sR S6 x0 1 (some a5)) x0 2 (0 : Int32)) x0 3 (0 : Int32)) x0 4 (-1 : Int32))) C 0 dX8_init_36 rfl rfl ?_
  refine pw_new (pc := 37) (S := (sI (sI (sI (sR S6 x0 1 (some a5)) x0 2 (0 : Int32)) x0 3 (0 : Int32)) x0 4 (-1 : Int32))) (kc2 := 3) (kn2 := 611) C pCl4 iX8_init_X6 (by decide +kernel) (by decide +kernel) (by decide +kernel) rfl rfl (Nat.le_of_ble_eq_true rfl) (Nat.le_of_ble_eq_true rfl) dX8_init_37 ?_
  obtain ⟨a9, ea9⟩ : ∃ q, q = pN (sI (sI (sI (sR S6 x0 1 (some a5)) x0 2 (0 : Int32)) x0 3 (0 : Int32)) x0 4 (-1 : Int32)) := ⟨_, rfl⟩
  obtain ⟨S10, eS10⟩ : ∃ q, q = sNew (sI (sI (sI (sR S6 x0 1 (some a5)) x0 2 (0 : Int32)) x0 3 (0 : Int32)) x0 4 (-1 : Int32)) 5 0 := ⟨_, rfl⟩
  rw [← ea9, ← eS10]
  replace h := h a9 S10 ea9 eS10
  have hk11 : pK S10 a9 = 5 := by rw [eS10, ea9, pK_sNew, if_pos rfl]
  refine pw_dup (pc := 40) C dX8_init_40 rfl ?_
  refine pw_callv (pc := 41) (kc2 := 4) (kn2 := 619) (pRunIN (pc := 41) C (ctX6_init l G hZ  _ a9 _ h) 0 gX8_init_X6_init_n31 rfl (hZ.2.2.1) (by decide +kernel) rfl (by decide +kernel) (by decide +kernel) ⟨Nat.le_of_ble_eq_true rfl, Nat.le_of_ble_eq_true rfl⟩ rfl rfl (Nat.le_of_ble_eq_true rfl) dX8_init_41 ⟨Nat.le_of_ble_eq_true rfl, Nat.le_of_ble_eq_true rfl⟩) rfl rfl (fun S13 h => ?_)
  obtain ⟨hk14, h⟩ := h
  refine pw_putR (pc := 44) (ref := "SupportSolver$TextReader") (k := 5) (index := 32) C pCl6 iX8_init_X8 hk14 rfl (by decide +kernel) (Or.inl rfl) (o := a9) (Or.inl rfl) rfl rfl dX8_init_44 ?_
  refine pw_aload_n (pc := 47) (S := (sR S13 x0 5 (some a9))) C 0 dX8_init_47 rfl rfl ?_
  refine pw_iconst (pc := 48) (S := (sR S13 x0 5 (some a9))) (v := 0 ) C dX8_init_48 (by decide) ?_
  refine pw_putI (pc := 49) (S := (sR S13 x0 5 (some a9))) (ref := "SupportSolver$TextReader") (k := 6) (index := 36) C pCl6 iX8_init_X8 hk14 rfl (by decide +kernel) (Or.inl rfl) (Or.inl rfl) rfl rfl dX8_init_49 ?_
  refine pw_aload_n (pc := 52) (S := (sI (sR S13 x0 5 (some a9)) x0 6 (0 : Int32))) C 0 dX8_init_52 rfl rfl ?_
  refine pw_iconst (pc := 53) (S := (sI (sR S13 x0 5 (some a9)) x0 6 (0 : Int32))) (v := 0 ) C dX8_init_53 (by decide) ?_
  refine pw_putI (pc := 54) (S := (sI (sR S13 x0 5 (some a9)) x0 6 (0 : Int32))) (ref := "SupportSolver$TextReader") (k := 7) (index := 39) C pCl6 iX8_init_X8 hk14 rfl (by decide +kernel) (Or.inl rfl) (Or.inl rfl) rfl rfl dX8_init_54 ?_
  refine pw_aload_n (pc := 57) (S := (sI (sI (sR S13 x0 5 (some a9)) x0 6 (0 : Int32)) x0 7 (0 : Int32))) C 0 dX8_init_57 rfl rfl ?_
  refine pw_iconst (pc := 58) (S := (sI (sI (sR S13 x0 5 (some a9)) x0 6 (0 : Int32)) x0 7 (0 : Int32))) (v := 0 ) C dX8_init_58 (by decide) ?_
  refine pw_putI (pc := 59) (S := (sI (sI (sR S13 x0 5 (some a9)) x0 6 (0 : Int32)) x0 7 (0 : Int32))) (ref := "SupportSolver$TextReader") (k := 8) (index := 42) C pCl6 iX8_init_X8 hk14 rfl (by decide +kernel) (Or.inl rfl) (Or.inl rfl) rfl rfl dX8_init_59 ?_
  refine pw_aload_n (pc := 62) (S := (sI (sI (sI (sR S13 x0 5 (some a9)) x0 6 (0 : Int32)) x0 7 (0 : Int32)) x0 8 (0 : Int32))) C 0 dX8_init_62 rfl rfl ?_
  refine pw_iconst (pc := 63) (S := (sI (sI (sI (sR S13 x0 5 (some a9)) x0 6 (0 : Int32)) x0 7 (0 : Int32)) x0 8 (0 : Int32))) (v := 0 ) C dX8_init_63 (by decide) ?_
  refine pw_putI (pc := 64) (S := (sI (sI (sI (sR S13 x0 5 (some a9)) x0 6 (0 : Int32)) x0 7 (0 : Int32)) x0 8 (0 : Int32))) (ref := "SupportSolver$TextReader") (k := 9) (index := 45) C pCl6 iX8_init_X8 hk14 rfl (by decide +kernel) (Or.inl rfl) (Or.inl rfl) rfl rfl dX8_init_64 ?_
  exact pw_vret (pc := 67) (S := (sI (sI (sI (sI (sR S13 x0 5 (some a9)) x0 6 (0 : Int32)) x0 7 (0 : Int32)) x0 8 (0 : Int32)) x0 9 (0 : Int32))) C hr h dX8_init_67

abbrev rmX8_addFour : Room := { frames := 0, cells := 0, slots := 0, locals := 0 }
theorem iX8_addFour_X8 : ∀ w ∈ u_ws RX8 TX8 10, w ∈ wsX8_addFour := fun _ h => List.mem_cons_of_mem _ (List.mem_append_right _ h)
def wpX8_addFour_b3  (Q : PS → Prop) : Nat → PS → Nat → Int32 → Int32 → Prop
  | 0 => fun _ _ _ _ => False
  | n + 1 => fun S x0 x1 x2 => ((x2 < 0 → (Q S)) ∧ (¬ x2 < 0 → (pK S x0 = 7 ∧ (((pI S x0 2) < 0 → (wpX8_addFour_b3 Q n S x0 x1 (x2 + (-8)))) ∧ (¬ (pI S x0 2) < 0 → (∃ o2, pR S x0 0 = some o2 ∧ (pK S o2 = 12 ∧ (((nI (pL S o2)) ≤ (pI S x0 2) → (wpX8_addFour_b3 Q n S x0 x1 (x2 + (-8)))) ∧ (¬ (nI (pL S o2)) ≤ (pI S x0 2) → (vp_in (pI S x0 2) (pL S o2) ∧ (wpX8_addFour_b3 Q n (sI (sI S o2 ((pI S x0 2)).toNatClampNeg (vp_nar .byte ((((x1).toUInt32 >>> ((x2).toUInt32 &&& Int32.toUInt32 31)).toInt32).toInt8.toInt32))) x0 2 ((pI (sI S o2 ((pI S x0 2)).toNatClampNeg (vp_nar .byte ((((x1).toUInt32 >>> ((x2).toUInt32 &&& Int32.toUInt32 31)).toInt32).toInt8.toInt32))) x0 2) + (1 : Int32))) x0 x1 (x2 + (-8)))))))))))))
def wpX8_addFour (S : PS) (x0 : Nat) (x1 : Int32) (Q : PS → Prop) : Prop := (∃ n9 : Nat, wpX8_addFour_b3 Q n9 S x0 x1 (24 : Int32))
set_option maxRecDepth 100000 in
set_option maxHeartbeats 4000000 in
theorem cbX8_addFour_b3 {p : Program} {l : Launch} {e : Env} {s : State} {m : MethodId} {args : Array Value} {below : List Frame} {meth : Method} {c : Code} {G : PG} {Q : PS → Prop} (C : pCx p s m args meth c G cX8_addFour 3 yX8_addFour.cls wsX8_addFour) (hr : meth.sig.returnType = none) (hin : meth.name = yX8_addFour.name) (hZ : pZa G)  (n : Nat) : ∀ (S : PS) (x0 : Nat) (x1 : Int32) (x2 : Int32), wpX8_addFour_b3  Q n S x0 x1 x2 → PW p l e rmX8_addFour s m args below meth c (MQ below (va_Qv Q (pB G) (pFr G)) args s rmX8_addFour.cells rmX8_addFour.slots (pFr G)) G 3 S 0 0 [(0, .ref (G.2.2 + x0)), (1, .int x1), (2, .int x2)] 3 ([]) := by
  induction n with
  | zero => intro S x0 x1 x2 h; exact h.elim
  | succ n ih =>
    intro S x0 x1 x2 h
    unfold wpX8_addFour_b3 at h
    refine pw_iload_n (pc := 3) C 2 dX8_addFour_3 rfl rfl ?_
    refine pw_if_lt (pc := 4) (tgt := 55) C dX8_addFour_4 rfl ⟨fun hc => ?_, fun hc => ?_⟩
    · replace h := h.1 hc
      exact pw_vret (pc := 55) C hr h dX8_addFour_55
    · replace h := h.2 hc
      refine pw_aload_n (pc := 7) C 0 dX8_addFour_7 rfl rfl ?_
      obtain ⟨hk1, h⟩ := h
      refine pw_getI (pc := 8) (ref := "SupportSolver$TextReader") (k := 2) (index := 19) C pCl6 iX8_addFour_X8 hk1 rfl (by decide +kernel) (Or.inl rfl) dX8_addFour_8 ?_
      refine pw_if_lt (pc := 11) (tgt := 49) C dX8_addFour_11 rfl ⟨fun hc => ?_, fun hc => ?_⟩
      · replace h := h.1 hc
        refine pw_iincK (pc := 49) (w := (-8)) C [(2, .int (x2 + (-8))), (0, .ref (G.2.2 + x0)), (1, .int x1)] 2 dX8_addFour_49 (by decide) rfl (by decide) rfl ?_
        refine pw_goto (pc := 52) (tgt := 3) C dX8_addFour_52 rfl ?_
        refine pw_sub [1, 2, 0] (LV2 := [(0, .ref (G.2.2 + x0)), (1, .int x1), (2, .int (x2 + (-8)))]) rfl ?_
        exact ih _ _ _ _ h
      · replace h := h.2 hc
        refine pw_aload_n (pc := 14) C 0 dX8_addFour_14 rfl rfl ?_
        refine pw_getI (pc := 15) (ref := "SupportSolver$TextReader") (k := 2) (index := 19) C pCl6 iX8_addFour_X8 hk1 rfl (by decide +kernel) (Or.inl rfl) dX8_addFour_15 ?_
        refine pw_aload_n (pc := 18) C 0 dX8_addFour_18 rfl rfl ?_
        obtain ⟨o2, ho2, h⟩ := h
        refine pw_getR (pc := 19) (ref := "SupportSolver$TextReader") (k := 0) (index := 11) C pCl6 iX8_addFour_X8 hk1 rfl (by decide +kernel) (Or.inl rfl) (o := o2) ho2 dX8_addFour_19 ?_
        obtain ⟨hk3, h⟩ := h
        refine pw_alen (pc := 22) C (κ := 12) hk3 (by decide) dX8_addFour_22 ?_
        refine pw_icmp_ge (pc := 23) (tgt := 49) C dX8_addFour_23 rfl ⟨fun hc => ?_, fun hc => ?_⟩
        · replace h := h.1 hc
          refine pw_iincK (pc := 49) (w := (-8)) C [(2, .int (x2 + (-8))), (0, .ref (G.2.2 + x0)), (1, .int x1)] 2 dX8_addFour_49 (by decide) rfl (by decide) rfl ?_
          refine pw_goto (pc := 52) (tgt := 3) C dX8_addFour_52 rfl ?_
          refine pw_sub [1, 2, 0] (LV2 := [(0, .ref (G.2.2 + x0)), (1, .int x1), (2, .int (x2 + (-8)))]) rfl ?_
          exact ih _ _ _ _ h
        · replace h := h.2 hc
          refine pw_aload_n (pc := 26) C 0 dX8_addFour_26 rfl rfl ?_
          refine pw_getR (pc := 27) (ref := "SupportSolver$TextReader") (k := 0) (index := 11) C pCl6 iX8_addFour_X8 hk1 rfl (by decide +kernel) (Or.inl rfl) (o := o2) ho2 dX8_addFour_27 ?_
          refine pw_aload_n (pc := 30) C 0 dX8_addFour_30 rfl rfl ?_
          refine pw_getI (pc := 31) (ref := "SupportSolver$TextReader") (k := 2) (index := 19) C pCl6 iX8_addFour_X8 hk1 rfl (by decide +kernel) (Or.inl rfl) dX8_addFour_31 ?_
          refine pw_iload_n (pc := 34) C 1 dX8_addFour_34 rfl rfl ?_
          refine pw_iload_n (pc := 35) C 2 dX8_addFour_35 rfl rfl ?_
          refine pw_iushr (pc := 36) C dX8_addFour_36 ?_
          refine pw_i2b (pc := 37) C dX8_addFour_37 ?_
          obtain ⟨hi4, h⟩ := h
          refine pw_bast (pc := 38) C hk3 hi4 dX8_addFour_38 ?_
          refine pw_aload_n (pc := 39) (S := (sI S o2 ((pI S x0 2)).toNatClampNeg (vp_nar .byte ((((x1).toUInt32 >>> ((x2).toUInt32 &&& Int32.toUInt32 31)).toInt32).toInt8.toInt32)))) C 0 dX8_addFour_39 rfl rfl ?_
          refine pw_dup (pc := 40) (S := (sI S o2 ((pI S x0 2)).toNatClampNeg (vp_nar .byte ((((x1).toUInt32 >>> ((x2).toUInt32 &&& Int32.toUInt32 31)).toInt32).toInt8.toInt32)))) C dX8_addFour_40 rfl ?_
          refine pw_getI (pc := 41) (S := (sI S o2 ((pI S x0 2)).toNatClampNeg (vp_nar .byte ((((x1).toUInt32 >>> ((x2).toUInt32 &&& Int32.toUInt32 31)).toInt32).toInt8.toInt32)))) (ref := "SupportSolver$TextReader") (k := 2) (index := 19) C pCl6 iX8_addFour_X8 hk1 rfl (by decide +kernel) (Or.inl rfl) dX8_addFour_41 ?_
          refine pw_iconst (pc := 44) (S := (sI S o2 ((pI S x0 2)).toNatClampNeg (vp_nar .byte ((((x1).toUInt32 >>> ((x2).toUInt32 &&& Int32.toUInt32 31)).toInt32).toInt8.toInt32)))) (v := 1 ) C dX8_addFour_44 (by decide) ?_
          refine pw_iadd (pc := 45) (S := (sI S o2 ((pI S x0 2)).toNatClampNeg (vp_nar .byte ((((x1).toUInt32 >>> ((x2).toUInt32 &&& Int32.toUInt32 31)).toInt32).toInt8.toInt32)))) C dX8_addFour_45 ?_
          refine pw_putI (pc := 46) (S := (sI S o2 ((pI S x0 2)).toNatClampNeg (vp_nar .byte ((((x1).toUInt32 >>> ((x2).toUInt32 &&& Int32.toUInt32 31)).toInt32).toInt8.toInt32)))) (ref := "SupportSolver$TextReader") (k := 2) (index := 19) C pCl6 iX8_addFour_X8 hk1 rfl (by decide +kernel) (Or.inl rfl) (Or.inl rfl) rfl rfl dX8_addFour_46 ?_
          refine pw_iincK (pc := 49) (S := (sI (sI S o2 ((pI S x0 2)).toNatClampNeg (vp_nar .byte ((((x1).toUInt32 >>> ((x2).toUInt32 &&& Int32.toUInt32 31)).toInt32).toInt8.toInt32))) x0 2 ((pI (sI S o2 ((pI S x0 2)).toNatClampNeg (vp_nar .byte ((((x1).toUInt32 >>> ((x2).toUInt32 &&& Int32.toUInt32 31)).toInt32).toInt8.toInt32))) x0 2) + (1 : Int32)))) (w := (-8)) C [(2, .int (x2 + (-8))), (0, .ref (G.2.2 + x0)), (1, .int x1)] 2 dX8_addFour_49 (by decide) rfl (by decide) rfl ?_
          refine pw_goto (pc := 52) (S := (sI (sI S o2 ((pI S x0 2)).toNatClampNeg (vp_nar .byte ((((x1).toUInt32 >>> ((x2).toUInt32 &&& Int32.toUInt32 31)).toInt32).toInt8.toInt32))) x0 2 ((pI (sI S o2 ((pI S x0 2)).toNatClampNeg (vp_nar .byte ((((x1).toUInt32 >>> ((x2).toUInt32 &&& Int32.toUInt32 31)).toInt32).toInt8.toInt32))) x0 2) + (1 : Int32)))) (tgt := 3) C dX8_addFour_52 rfl ?_
          refine pw_sub [1, 2, 0] (LV2 := [(0, .ref (G.2.2 + x0)), (1, .int x1), (2, .int (x2 + (-8)))]) rfl ?_
          exact ih _ _ _ _ h
set_option maxRecDepth 100000 in
set_option maxHeartbeats 4000000 in
theorem ctX8_addFour (l : Launch) (G : PG) (hZ : pZa G) (S : PS) (x0 : Nat) (x1 : Int32) (Q : PS → Prop) (h : wpX8_addFour S x0 x1 Q) : mV l yX8_addFour wsX8_addFour rmX8_addFour G S [.ref (G.2.2 + x0), .int x1] Q := by
  unfold mV
  refine met_of (cc := cX8_addFour) (maxL := 3) (ret := none) (by decide) rfl (Nat.le_of_ble_eq_true rfl) ?_
  intro p e s m args below meth c C hr hin
  unfold wpX8_addFour at h
  show PW p l e _ s m args below meth c _ G 3 S 0 0 [(0, .ref (G.2.2 + x0)), (1, .int x1)] 0 []
  refine pw_bipush (pc := 0) (v := 24 ) C dX8_addFour_0 (by decide) ?_
  refine pw_istore_n (pc := 2) C [(2, .int (24 : Int32)), (0, .ref (G.2.2 + x0)), (1, .int x1)] dX8_addFour_2 rfl (by decide) rfl ?_
  refine pw_sub [1, 2, 0] (LV2 := [(0, .ref (G.2.2 + x0)), (1, .int x1), (2, .int (24 : Int32))]) rfl ?_
  obtain ⟨n9, h⟩ := h
  exact cbX8_addFour_b3 C hr hin hZ  n9 _ _ _ _ h

abbrev rmX8_byteAt : Room := { frames := 0, cells := 0, slots := 0, locals := 0 }
theorem iX8_byteAt_X8 : ∀ w ∈ u_ws RX8 TX8 10, w ∈ wsX8_byteAt := fun _ h => List.mem_cons_of_mem _ (List.mem_append_right _ h)
def wpX8_byteAt (S : PS) (x0 : Nat) (x1 : Int32) (Q : Int32 → PS → Prop) : Prop := ((x1 < 0 → (Q (-1 : Int32) S)) ∧ (¬ x1 < 0 → (pK S x0 = 7 ∧ (((pI S x0 2) ≤ x1 → (Q (-1 : Int32) S)) ∧ (¬ (pI S x0 2) ≤ x1 → (∃ o2, pR S x0 0 = some o2 ∧ (pK S o2 = 12 ∧ (((nI (pL S o2)) ≤ x1 → (Q (-1 : Int32) S)) ∧ (¬ (nI (pL S o2)) ≤ x1 → (vp_in x1 (pL S o2) ∧ (Q ((pI S o2 (x1).toNatClampNeg) &&& (255 : Int32)) S)))))))))))
set_option maxRecDepth 100000 in
set_option maxHeartbeats 4000000 in
theorem ctX8_byteAt (l : Launch) (G : PG) (hZ : pZa G) (S : PS) (x0 : Nat) (x1 : Int32) (Q : Int32 → PS → Prop) (h : wpX8_byteAt S x0 x1 Q) : mI l yX8_byteAt wsX8_byteAt rmX8_byteAt G S [.ref (G.2.2 + x0), .int x1] Q := by
  unfold mI
  refine met_of (cc := cX8_byteAt) (maxL := 2) (ret := (some .int)) (by decide) rfl (Nat.le_of_ble_eq_true rfl) ?_
  intro p e s m args below meth c C hr hin
  unfold wpX8_byteAt at h
  show PW p l e _ s m args below meth c _ G 2 S 0 0 [(0, .ref (G.2.2 + x0)), (1, .int x1)] 0 []
  refine pw_iload_n (pc := 0) C 1 dX8_byteAt_0 rfl rfl ?_
  refine pw_if_lt (pc := 1) (tgt := 34) C dX8_byteAt_1 rfl ⟨fun hc => ?_, fun hc => ?_⟩
  · replace h := h.1 hc
    refine pw_iconst (pc := 34) (v := (-1)) C dX8_byteAt_34 (by decide) ?_
    exact pw_iret (pc := 35) C hr h dX8_byteAt_35
  · replace h := h.2 hc
    refine pw_iload_n (pc := 4) C 1 dX8_byteAt_4 rfl rfl ?_
    refine pw_aload_n (pc := 5) C 0 dX8_byteAt_5 rfl rfl ?_
    obtain ⟨hk1, h⟩ := h
    refine pw_getI (pc := 6) (ref := "SupportSolver$TextReader") (k := 2) (index := 19) C pCl6 iX8_byteAt_X8 hk1 rfl (by decide +kernel) (Or.inl rfl) dX8_byteAt_6 ?_
    refine pw_icmp_ge (pc := 9) (tgt := 34) C dX8_byteAt_9 rfl ⟨fun hc => ?_, fun hc => ?_⟩
    · replace h := h.1 hc
      refine pw_iconst (pc := 34) (v := (-1)) C dX8_byteAt_34 (by decide) ?_
      exact pw_iret (pc := 35) C hr h dX8_byteAt_35
    · replace h := h.2 hc
      refine pw_iload_n (pc := 12) C 1 dX8_byteAt_12 rfl rfl ?_
      refine pw_aload_n (pc := 13) C 0 dX8_byteAt_13 rfl rfl ?_
      obtain ⟨o2, ho2, h⟩ := h
      refine pw_getR (pc := 14) (ref := "SupportSolver$TextReader") (k := 0) (index := 11) C pCl6 iX8_byteAt_X8 hk1 rfl (by decide +kernel) (Or.inl rfl) (o := o2) ho2 dX8_byteAt_14 ?_
      obtain ⟨hk3, h⟩ := h
      refine pw_alen (pc := 17) C (κ := 12) hk3 (by decide) dX8_byteAt_17 ?_
      refine pw_icmp_ge (pc := 18) (tgt := 34) C dX8_byteAt_18 rfl ⟨fun hc => ?_, fun hc => ?_⟩
      · replace h := h.1 hc
        refine pw_iconst (pc := 34) (v := (-1)) C dX8_byteAt_34 (by decide) ?_
        exact pw_iret (pc := 35) C hr h dX8_byteAt_35
      · replace h := h.2 hc
        refine pw_aload_n (pc := 21) C 0 dX8_byteAt_21 rfl rfl ?_
        refine pw_getR (pc := 22) (ref := "SupportSolver$TextReader") (k := 0) (index := 11) C pCl6 iX8_byteAt_X8 hk1 rfl (by decide +kernel) (Or.inl rfl) (o := o2) ho2 dX8_byteAt_22 ?_
        refine pw_iload_n (pc := 25) C 1 dX8_byteAt_25 rfl rfl ?_
        obtain ⟨hi4, h⟩ := h
        refine pw_bald (pc := 26) C hk3 hi4 dX8_byteAt_26 ?_
        refine pw_sipush (pc := 27) (v := 255 ) C dX8_byteAt_27 (by decide) ?_
        refine pw_iand (pc := 30) C dX8_byteAt_30 ?_
        refine pw_goto (pc := 31) (tgt := 35) C dX8_byteAt_31 rfl ?_
        exact pw_iret (pc := 35) C hr h dX8_byteAt_35

abbrev rmX8_isLetter : Room := { frames := 0, cells := 0, slots := 0, locals := 0 }
def wpX8_isLetter (S : PS) (x0 : Int32) (Q : Int32 → PS → Prop) : Prop := ((x0 < (97 : Int32) → (Q (0 : Int32) S)) ∧ (¬ x0 < (97 : Int32) → (((122 : Int32) < x0 → (Q (0 : Int32) S)) ∧ (¬ (122 : Int32) < x0 → (Q (1 : Int32) S)))))
set_option maxRecDepth 100000 in
set_option maxHeartbeats 4000000 in
theorem ctX8_isLetter (l : Launch) (G : PG) (hZ : pZa G) (S : PS) (x0 : Int32) (Q : Int32 → PS → Prop) (h : wpX8_isLetter S x0 Q) : mI l yX8_isLetter wsX8_isLetter rmX8_isLetter G S [.int x0] Q := by
  unfold mI
  refine met_of (cc := cX8_isLetter) (maxL := 1) (ret := (some .boolean)) (by decide) rfl (Nat.le_of_ble_eq_true rfl) ?_
  intro p e s m args below meth c C hr hin
  unfold wpX8_isLetter at h
  show PW p l e _ s m args below meth c _ G 1 S 0 0 [(0, .int x0)] 0 []
  refine pw_iload_n (pc := 0) C 0 dX8_isLetter_0 rfl rfl ?_
  refine pw_bipush (pc := 1) (v := 97 ) C dX8_isLetter_1 (by decide) ?_
  refine pw_icmp_lt (pc := 3) (tgt := 16) C dX8_isLetter_3 rfl ⟨fun hc => ?_, fun hc => ?_⟩
  · replace h := h.1 hc
    refine pw_iconst (pc := 16) (v := 0 ) C dX8_isLetter_16 (by decide) ?_
    exact pw_zret (pc := 17) C hr rfl h dX8_isLetter_17
  · replace h := h.2 hc
    refine pw_iload_n (pc := 6) C 0 dX8_isLetter_6 rfl rfl ?_
    refine pw_bipush (pc := 7) (v := 122 ) C dX8_isLetter_7 (by decide) ?_
    refine pw_icmp_gt (pc := 9) (tgt := 16) C dX8_isLetter_9 rfl ⟨fun hc => ?_, fun hc => ?_⟩
    · replace h := h.1 hc
      refine pw_iconst (pc := 16) (v := 0 ) C dX8_isLetter_16 (by decide) ?_
      exact pw_zret (pc := 17) C hr rfl h dX8_isLetter_17
    · replace h := h.2 hc
      refine pw_iconst (pc := 12) (v := 1 ) C dX8_isLetter_12 (by decide) ?_
      refine pw_goto (pc := 13) (tgt := 17) C dX8_isLetter_13 rfl ?_
      exact pw_zret (pc := 17) C hr rfl h dX8_isLetter_17

abbrev rmX8_takeWord : Room := { frames := 1, cells := 0, slots := 0, locals := 21 }
theorem iX8_takeWord_X8 : ∀ w ∈ u_ws RX8 TX8 10, w ∈ wsX8_takeWord := fun _ h => List.mem_cons_of_mem _ (List.mem_append_right _ h)
def wpX8_takeWord_b58  (Q : PS → Prop) (S : PS) (x0 : Nat) (x1 : Int32) : Prop := (pK S x0 = 7 ∧ ((((pI (sI S x0 6 (1 : Int32)) x0 8) - (pI (sI S x0 6 (1 : Int32)) x0 7)) ≤ (6 : Int32) → (Q (sI (sI S x0 6 (1 : Int32)) x0 9 x1))) ∧ (¬ ((pI (sI S x0 6 (1 : Int32)) x0 8) - (pI (sI S x0 6 (1 : Int32)) x0 7)) ≤ (6 : Int32) → (Q (sI (sI S x0 6 (1 : Int32)) x0 9 (-1 : Int32))))))
def wpX8_takeWord_b2  (Q : PS → Prop) : Nat → PS → Nat → Int32 → Prop
  | 0 => fun _ _ _ => False
  | n + 1 => fun S x0 x1 => (pK S x0 = 7 ∧ (((pI S x0 2) ≤ (pI S x0 8) → (wpX8_takeWord_b58 Q S x0 x1)) ∧ (¬ (pI S x0 2) ≤ (pI S x0 8) → (wpX8_byteAt S x0 (pI S x0 8) (fun r3 S4 => (wpX8_isLetter S4 r3 (fun r5 S6 => ((r5 = 0 → (wpX8_takeWord_b58 Q S6 x0 x1)) ∧ (¬ r5 = 0 → (pK S6 x0 = 7 ∧ (wpX8_byteAt S6 x0 (pI S6 x0 8) (fun r8 S9 => (pK S9 x0 = 7 ∧ (wpX8_takeWord_b2 Q n (sI S9 x0 8 ((pI S9 x0 8) + (1 : Int32))) x0 ((x1 <<< ((5 : Int32) &&& 31)) ||| ((r8 - (97 : Int32)) + (1 : Int32)))))))))))))))))
def wpX8_takeWord (S : PS) (x0 : Nat) (Q : PS → Prop) : Prop := (∃ n9 : Nat, wpX8_takeWord_b2 Q n9 S x0 (0 : Int32))
set_option maxRecDepth 100000 in
set_option maxHeartbeats 4000000 in
theorem cbX8_takeWord_b58 {p : Program} {l : Launch} {e : Env} {s : State} {m : MethodId} {args : Array Value} {below : List Frame} {meth : Method} {c : Code} {G : PG} {Q : PS → Prop} (C : pCx p s m args meth c G cX8_takeWord 2 yX8_takeWord.cls wsX8_takeWord) (hr : meth.sig.returnType = none) (hin : meth.name = yX8_takeWord.name) (hZ : pZa G)  : ∀ (S : PS) (x0 : Nat) (x1 : Int32), wpX8_takeWord_b58  Q S x0 x1 → PW p l e rmX8_takeWord s m args below meth c (MQ below (va_Qv Q (pB G) (pFr G)) args s rmX8_takeWord.cells rmX8_takeWord.slots (pFr G)) G 2 S 0 0 [(0, .ref (G.2.2 + x0)), (1, .int x1)] 58 ([]) := by
  intro S x0 x1 h
  unfold wpX8_takeWord_b58 at h
  refine pw_aload_n (pc := 58) C 0 dX8_takeWord_58 rfl rfl ?_
  refine pw_iconst (pc := 59) (v := 1 ) C dX8_takeWord_59 (by decide) ?_
  obtain ⟨hk1, h⟩ := h
  refine pw_putI (pc := 60) (ref := "SupportSolver$TextReader") (k := 6) (index := 36) C pCl6 iX8_takeWord_X8 hk1 rfl (by decide +kernel) (Or.inl rfl) (Or.inl rfl) rfl rfl dX8_takeWord_60 ?_
  refine pw_aload_n (pc := 63) (S := (sI S x0 6 (1 : Int32))) C 0 dX8_takeWord_63 rfl rfl ?_
  refine pw_aload_n (pc := 64) (S := (sI S x0 6 (1 : Int32))) C 0 dX8_takeWord_64 rfl rfl ?_
  refine pw_getI (pc := 65) (S := (sI S x0 6 (1 : Int32))) (ref := "SupportSolver$TextReader") (k := 8) (index := 42) C pCl6 iX8_takeWord_X8 hk1 rfl (by decide +kernel) (Or.inl rfl) dX8_takeWord_65 ?_
  refine pw_aload_n (pc := 68) (S := (sI S x0 6 (1 : Int32))) C 0 dX8_takeWord_68 rfl rfl ?_
  refine pw_getI (pc := 69) (S := (sI S x0 6 (1 : Int32))) (ref := "SupportSolver$TextReader") (k := 7) (index := 39) C pCl6 iX8_takeWord_X8 hk1 rfl (by decide +kernel) (Or.inl rfl) dX8_takeWord_69 ?_
  refine pw_isub (pc := 72) (S := (sI S x0 6 (1 : Int32))) C dX8_takeWord_72 ?_
  refine pw_bipush (pc := 73) (S := (sI S x0 6 (1 : Int32))) (v := 6 ) C dX8_takeWord_73 (by decide) ?_
  refine pw_icmp_le (pc := 75) (S := (sI S x0 6 (1 : Int32))) (tgt := 82) C dX8_takeWord_75 rfl ⟨fun hc => ?_, fun hc => ?_⟩
  · replace h := h.1 hc
    refine pw_iload_n (pc := 82) (S := (sI S x0 6 (1 : Int32))) C 1 dX8_takeWord_82 rfl rfl ?_
    refine pw_putI (pc := 83) (S := (sI S x0 6 (1 : Int32))) (ref := "SupportSolver$TextReader") (k := 9) (index := 45) C pCl6 iX8_takeWord_X8 hk1 rfl (by decide +kernel) (Or.inl rfl) (Or.inl rfl) rfl rfl dX8_takeWord_83 ?_
    exact pw_vret (pc := 86) (S := (sI (sI S x0 6 (1 : Int32)) x0 9 x1)) C hr h dX8_takeWord_86
  · replace h := h.2 hc
    refine pw_iconst (pc := 78) (S := (sI S x0 6 (1 : Int32))) (v := (-1)) C dX8_takeWord_78 (by decide) ?_
    refine pw_goto (pc := 79) (S := (sI S x0 6 (1 : Int32))) (tgt := 83) C dX8_takeWord_79 rfl ?_
    refine pw_putI (pc := 83) (S := (sI S x0 6 (1 : Int32))) (ref := "SupportSolver$TextReader") (k := 9) (index := 45) C pCl6 iX8_takeWord_X8 hk1 rfl (by decide +kernel) (Or.inl rfl) (Or.inl rfl) rfl rfl dX8_takeWord_83 ?_
    exact pw_vret (pc := 86) (S := (sI (sI S x0 6 (1 : Int32)) x0 9 (-1 : Int32))) C hr h dX8_takeWord_86
set_option maxRecDepth 100000 in
set_option maxHeartbeats 4000000 in
theorem cbX8_takeWord_b2 {p : Program} {l : Launch} {e : Env} {s : State} {m : MethodId} {args : Array Value} {below : List Frame} {meth : Method} {c : Code} {G : PG} {Q : PS → Prop} (C : pCx p s m args meth c G cX8_takeWord 2 yX8_takeWord.cls wsX8_takeWord) (hr : meth.sig.returnType = none) (hin : meth.name = yX8_takeWord.name) (hZ : pZa G)  (n : Nat) : ∀ (S : PS) (x0 : Nat) (x1 : Int32), wpX8_takeWord_b2  Q n S x0 x1 → PW p l e rmX8_takeWord s m args below meth c (MQ below (va_Qv Q (pB G) (pFr G)) args s rmX8_takeWord.cells rmX8_takeWord.slots (pFr G)) G 2 S 0 0 [(0, .ref (G.2.2 + x0)), (1, .int x1)] 2 ([]) := by
  induction n with
  | zero => intro S x0 x1 h; exact h.elim
  | succ n ih =>
    intro S x0 x1 h
    unfold wpX8_takeWord_b2 at h
    refine pw_aload_n (pc := 2) C 0 dX8_takeWord_2 rfl rfl ?_
    obtain ⟨hk2, h⟩ := h
    refine pw_getI (pc := 3) (ref := "SupportSolver$TextReader") (k := 8) (index := 42) C pCl6 iX8_takeWord_X8 hk2 rfl (by decide +kernel) (Or.inl rfl) dX8_takeWord_3 ?_
    refine pw_aload_n (pc := 6) C 0 dX8_takeWord_6 rfl rfl ?_
    refine pw_getI (pc := 7) (ref := "SupportSolver$TextReader") (k := 2) (index := 19) C pCl6 iX8_takeWord_X8 hk2 rfl (by decide +kernel) (Or.inl rfl) dX8_takeWord_7 ?_
    refine pw_icmp_ge (pc := 10) (tgt := 58) C dX8_takeWord_10 rfl ⟨fun hc => ?_, fun hc => ?_⟩
    · replace h := h.1 hc
      exact cbX8_takeWord_b58 C hr hin hZ  _ _ _ h
    · replace h := h.2 hc
      refine pw_aload_n (pc := 13) C 0 dX8_takeWord_13 rfl rfl ?_
      refine pw_aload_n (pc := 14) C 0 dX8_takeWord_14 rfl rfl ?_
      refine pw_getI (pc := 15) (ref := "SupportSolver$TextReader") (k := 8) (index := 42) C pCl6 iX8_takeWord_X8 hk2 rfl (by decide +kernel) (Or.inl rfl) dX8_takeWord_15 ?_
      refine pw_calli (pc := 18) (kc2 := 0) (kn2 := 0) (pRunV (pc := 18) C (ctX8_byteAt l G hZ  _ x0 (pI S x0 8) _ h) (cwV 1 C.2.2.2.2.1 gX8_takeWord_X8_byteAt rfl rfl rfl (by decide +kernel) ⟨Nat.le_of_ble_eq_true rfl, Nat.le_of_ble_eq_true rfl⟩) pCl6 hk2 rfl rfl (Nat.le_of_ble_eq_true rfl) dX8_takeWord_18 ⟨Nat.le_of_ble_eq_true rfl, Nat.le_of_ble_eq_true rfl⟩) rfl rfl (fun r3 S4 h => ?_)
      refine pw_calli (pc := 21) (kc2 := 0) (kn2 := 0) (pRunS (pc := 21) C (ctX8_isLetter l G hZ  _ r3 _ h) (va_cwS 1 C.2.2.2.2.1 gX8_takeWord_X8_isLetter rfl rfl rfl (by decide +kernel) ⟨Nat.le_of_ble_eq_true rfl, Nat.le_of_ble_eq_true rfl⟩) rfl rfl (Nat.le_of_ble_eq_true rfl) dX8_takeWord_21 ⟨Nat.le_of_ble_eq_true rfl, Nat.le_of_ble_eq_true rfl⟩) rfl rfl (fun r5 S6 h => ?_)
      refine pw_if_eq (pc := 24) (tgt := 58) C dX8_takeWord_24 rfl ⟨fun hc => ?_, fun hc => ?_⟩
      · replace h := h.1 hc
        exact cbX8_takeWord_b58 C hr hin hZ  _ _ _ h
      · replace h := h.2 hc
        refine pw_iload_n (pc := 27) C 1 dX8_takeWord_27 rfl rfl ?_
        refine pw_iconst (pc := 28) (v := 5 ) C dX8_takeWord_28 (by decide) ?_
        refine pw_ishl (pc := 29) C dX8_takeWord_29 ?_
        refine pw_aload_n (pc := 30) C 0 dX8_takeWord_30 rfl rfl ?_
        refine pw_aload_n (pc := 31) C 0 dX8_takeWord_31 rfl rfl ?_
        obtain ⟨hk7, h⟩ := h
        refine pw_getI (pc := 32) (ref := "SupportSolver$TextReader") (k := 8) (index := 42) C pCl6 iX8_takeWord_X8 hk7 rfl (by decide +kernel) (Or.inl rfl) dX8_takeWord_32 ?_
        refine pw_calli (pc := 35) (kc2 := 0) (kn2 := 0) (pRunV (pc := 35) C (ctX8_byteAt l G hZ  _ x0 (pI S6 x0 8) _ h) (cwV 1 C.2.2.2.2.1 gX8_takeWord_X8_byteAt rfl rfl rfl (by decide +kernel) ⟨Nat.le_of_ble_eq_true rfl, Nat.le_of_ble_eq_true rfl⟩) pCl6 hk7 rfl rfl (Nat.le_of_ble_eq_true rfl) dX8_takeWord_35 ⟨Nat.le_of_ble_eq_true rfl, Nat.le_of_ble_eq_true rfl⟩) rfl rfl (fun r8 S9 h => ?_)
        refine pw_bipush (pc := 38) (v := 97 ) C dX8_takeWord_38 (by decide) ?_
        refine pw_isub (pc := 40) C dX8_takeWord_40 ?_
        refine pw_iconst (pc := 41) (v := 1 ) C dX8_takeWord_41 (by decide) ?_
        refine pw_iadd (pc := 42) C dX8_takeWord_42 ?_
        refine pw_ior (pc := 43) C dX8_takeWord_43 ?_
        refine pw_istore_n (pc := 44) C [(1, .int ((x1 <<< ((5 : Int32) &&& 31)) ||| ((r8 - (97 : Int32)) + (1 : Int32)))), (0, .ref (G.2.2 + x0))] dX8_takeWord_44 rfl (by decide) rfl ?_
        refine pw_aload_n (pc := 45) C 1 dX8_takeWord_45 rfl rfl ?_
        refine pw_dup (pc := 46) C dX8_takeWord_46 rfl ?_
        obtain ⟨hk10, h⟩ := h
        refine pw_getI (pc := 47) (ref := "SupportSolver$TextReader") (k := 8) (index := 42) C pCl6 iX8_takeWord_X8 hk10 rfl (by decide +kernel) (Or.inl rfl) dX8_takeWord_47 ?_
        refine pw_iconst (pc := 50) (v := 1 ) C dX8_takeWord_50 (by decide) ?_
        refine pw_iadd (pc := 51) C dX8_takeWord_51 ?_
        refine pw_putI (pc := 52) (ref := "SupportSolver$TextReader") (k := 8) (index := 42) C pCl6 iX8_takeWord_X8 hk10 rfl (by decide +kernel) (Or.inl rfl) (Or.inl rfl) rfl rfl dX8_takeWord_52 ?_
        refine pw_goto (pc := 55) (S := (sI S9 x0 8 ((pI S9 x0 8) + (1 : Int32)))) (tgt := 2) C dX8_takeWord_55 rfl ?_
        refine pw_sub [1, 0] (LV2 := [(0, .ref (G.2.2 + x0)), (1, .int ((x1 <<< ((5 : Int32) &&& 31)) ||| ((r8 - (97 : Int32)) + (1 : Int32))))]) rfl ?_
        exact ih _ _ _ h
set_option maxRecDepth 100000 in
set_option maxHeartbeats 4000000 in
theorem ctX8_takeWord (l : Launch) (G : PG) (hZ : pZa G) (S : PS) (x0 : Nat) (Q : PS → Prop) (h : wpX8_takeWord S x0 Q) : mV l yX8_takeWord wsX8_takeWord rmX8_takeWord G S [.ref (G.2.2 + x0)] Q := by
  unfold mV
  refine met_of (cc := cX8_takeWord) (maxL := 2) (ret := none) (by decide) rfl (Nat.le_of_ble_eq_true rfl) ?_
  intro p e s m args below meth c C hr hin
  unfold wpX8_takeWord at h
  show PW p l e _ s m args below meth c _ G 2 S 0 0 [(0, .ref (G.2.2 + x0))] 0 []
  refine pw_iconst (pc := 0) (v := 0 ) C dX8_takeWord_0 (by decide) ?_
  refine pw_istore_n (pc := 1) C [(1, .int (0 : Int32)), (0, .ref (G.2.2 + x0))] dX8_takeWord_1 rfl (by decide) rfl ?_
  refine pw_sub [1, 0] (LV2 := [(0, .ref (G.2.2 + x0)), (1, .int (0 : Int32))]) rfl ?_
  obtain ⟨n9, h⟩ := h
  exact cbX8_takeWord_b2 C hr hin hZ  n9 _ _ _ h

abbrev rmX8_isDigit : Room := { frames := 0, cells := 0, slots := 0, locals := 0 }
def wpX8_isDigit (S : PS) (x0 : Int32) (Q : Int32 → PS → Prop) : Prop := ((x0 < (48 : Int32) → (Q (0 : Int32) S)) ∧ (¬ x0 < (48 : Int32) → (((57 : Int32) < x0 → (Q (0 : Int32) S)) ∧ (¬ (57 : Int32) < x0 → (Q (1 : Int32) S)))))
set_option maxRecDepth 100000 in
set_option maxHeartbeats 4000000 in
theorem ctX8_isDigit (l : Launch) (G : PG) (hZ : pZa G) (S : PS) (x0 : Int32) (Q : Int32 → PS → Prop) (h : wpX8_isDigit S x0 Q) : mI l yX8_isDigit wsX8_isDigit rmX8_isDigit G S [.int x0] Q := by
  unfold mI
  refine met_of (cc := cX8_isDigit) (maxL := 1) (ret := (some .boolean)) (by decide) rfl (Nat.le_of_ble_eq_true rfl) ?_
  intro p e s m args below meth c C hr hin
  unfold wpX8_isDigit at h
  show PW p l e _ s m args below meth c _ G 1 S 0 0 [(0, .int x0)] 0 []
  refine pw_iload_n (pc := 0) C 0 dX8_isDigit_0 rfl rfl ?_
  refine pw_bipush (pc := 1) (v := 48 ) C dX8_isDigit_1 (by decide) ?_
  refine pw_icmp_lt (pc := 3) (tgt := 16) C dX8_isDigit_3 rfl ⟨fun hc => ?_, fun hc => ?_⟩
  · replace h := h.1 hc
    refine pw_iconst (pc := 16) (v := 0 ) C dX8_isDigit_16 (by decide) ?_
    exact pw_zret (pc := 17) C hr rfl h dX8_isDigit_17
  · replace h := h.2 hc
    refine pw_iload_n (pc := 6) C 0 dX8_isDigit_6 rfl rfl ?_
    refine pw_bipush (pc := 7) (v := 57 ) C dX8_isDigit_7 (by decide) ?_
    refine pw_icmp_gt (pc := 9) (tgt := 16) C dX8_isDigit_9 rfl ⟨fun hc => ?_, fun hc => ?_⟩
    · replace h := h.1 hc
      refine pw_iconst (pc := 16) (v := 0 ) C dX8_isDigit_16 (by decide) ?_
      exact pw_zret (pc := 17) C hr rfl h dX8_isDigit_17
    · replace h := h.2 hc
      refine pw_iconst (pc := 12) (v := 1 ) C dX8_isDigit_12 (by decide) ?_
      refine pw_goto (pc := 13) (tgt := 17) C dX8_isDigit_13 rfl ?_
      exact pw_zret (pc := 17) C hr rfl h dX8_isDigit_17

abbrev rmX8_takeNumber : Room := { frames := 1, cells := 0, slots := 0, locals := 21 }
theorem iX8_takeNumber_X8 : ∀ w ∈ u_ws RX8 TX8 10, w ∈ wsX8_takeNumber := fun _ h => List.mem_cons_of_mem _ (List.mem_append_right _ h)
def wpX8_takeNumber_b57  (Q : PS → Prop) (S : PS) (x0 : Nat) (x1 : Int32) : Prop := (pK S x0 = 7 ∧ ((((pI S x0 8) - (pI S x0 7)) ≤ (2 : Int32) → (Q (sI (sI S x0 6 (2 : Int32)) x0 9 x1))) ∧ (¬ ((pI S x0 8) - (pI S x0 7)) ≤ (2 : Int32) → (Q (sI (sI S x0 6 (4 : Int32)) x0 9 x1)))))
def wpX8_takeNumber_b2  (Q : PS → Prop) : Nat → PS → Nat → Int32 → Prop
  | 0 => fun _ _ _ => False
  | n + 1 => fun S x0 x1 => (pK S x0 = 7 ∧ (((pI S x0 2) ≤ (pI S x0 8) → (wpX8_takeNumber_b57 Q S x0 x1)) ∧ (¬ (pI S x0 2) ≤ (pI S x0 8) → (wpX8_byteAt S x0 (pI S x0 8) (fun r3 S4 => (wpX8_isDigit S4 r3 (fun r5 S6 => ((r5 = 0 → (wpX8_takeNumber_b57 Q S6 x0 x1)) ∧ (¬ r5 = 0 → (pK S6 x0 = 7 ∧ (wpX8_byteAt S6 x0 (pI S6 x0 8) (fun r8 S9 => (pK S9 x0 = 7 ∧ (wpX8_takeNumber_b2 Q n (sI S9 x0 8 ((pI S9 x0 8) + (1 : Int32))) x0 ((((10 : Int32) * x1) + r8) - (48 : Int32))))))))))))))))
def wpX8_takeNumber (S : PS) (x0 : Nat) (Q : PS → Prop) : Prop := (∃ n9 : Nat, wpX8_takeNumber_b2 Q n9 S x0 (0 : Int32))
set_option maxRecDepth 100000 in
set_option maxHeartbeats 4000000 in
theorem cbX8_takeNumber_b57 {p : Program} {l : Launch} {e : Env} {s : State} {m : MethodId} {args : Array Value} {below : List Frame} {meth : Method} {c : Code} {G : PG} {Q : PS → Prop} (C : pCx p s m args meth c G cX8_takeNumber 2 yX8_takeNumber.cls wsX8_takeNumber) (hr : meth.sig.returnType = none) (hin : meth.name = yX8_takeNumber.name) (hZ : pZa G)  : ∀ (S : PS) (x0 : Nat) (x1 : Int32), wpX8_takeNumber_b57  Q S x0 x1 → PW p l e rmX8_takeNumber s m args below meth c (MQ below (va_Qv Q (pB G) (pFr G)) args s rmX8_takeNumber.cells rmX8_takeNumber.slots (pFr G)) G 2 S 0 0 [(0, .ref (G.2.2 + x0)), (1, .int x1)] 57 ([]) := by
  intro S x0 x1 h
  unfold wpX8_takeNumber_b57 at h
  refine pw_aload_n (pc := 57) C 0 dX8_takeNumber_57 rfl rfl ?_
  refine pw_aload_n (pc := 58) C 0 dX8_takeNumber_58 rfl rfl ?_
  obtain ⟨hk1, h⟩ := h
  refine pw_getI (pc := 59) (ref := "SupportSolver$TextReader") (k := 8) (index := 42) C pCl6 iX8_takeNumber_X8 hk1 rfl (by decide +kernel) (Or.inl rfl) dX8_takeNumber_59 ?_
  refine pw_aload_n (pc := 62) C 0 dX8_takeNumber_62 rfl rfl ?_
  refine pw_getI (pc := 63) (ref := "SupportSolver$TextReader") (k := 7) (index := 39) C pCl6 iX8_takeNumber_X8 hk1 rfl (by decide +kernel) (Or.inl rfl) dX8_takeNumber_63 ?_
  refine pw_isub (pc := 66) C dX8_takeNumber_66 ?_
  refine pw_iconst (pc := 67) (v := 2 ) C dX8_takeNumber_67 (by decide) ?_
  refine pw_icmp_le (pc := 68) (tgt := 75) C dX8_takeNumber_68 rfl ⟨fun hc => ?_, fun hc => ?_⟩
  · replace h := h.1 hc
    refine pw_iconst (pc := 75) (v := 2 ) C dX8_takeNumber_75 (by decide) ?_
    refine pw_putI (pc := 76) (ref := "SupportSolver$TextReader") (k := 6) (index := 36) C pCl6 iX8_takeNumber_X8 hk1 rfl (by decide +kernel) (Or.inl rfl) (Or.inl rfl) rfl rfl dX8_takeNumber_76 ?_
    refine pw_aload_n (pc := 79) (S := (sI S x0 6 (2 : Int32))) C 0 dX8_takeNumber_79 rfl rfl ?_
    refine pw_iload_n (pc := 80) (S := (sI S x0 6 (2 : Int32))) C 1 dX8_takeNumber_80 rfl rfl ?_
    refine pw_putI (pc := 81) (S := (sI S x0 6 (2 : Int32))) (ref := "SupportSolver$TextReader") (k := 9) (index := 45) C pCl6 iX8_takeNumber_X8 hk1 rfl (by decide +kernel) (Or.inl rfl) (Or.inl rfl) rfl rfl dX8_takeNumber_81 ?_
    exact pw_vret (pc := 84) (S := (sI (sI S x0 6 (2 : Int32)) x0 9 x1)) C hr h dX8_takeNumber_84
  · replace h := h.2 hc
    refine pw_iconst (pc := 71) (v := 4 ) C dX8_takeNumber_71 (by decide) ?_
    refine pw_goto (pc := 72) (tgt := 76) C dX8_takeNumber_72 rfl ?_
    refine pw_putI (pc := 76) (ref := "SupportSolver$TextReader") (k := 6) (index := 36) C pCl6 iX8_takeNumber_X8 hk1 rfl (by decide +kernel) (Or.inl rfl) (Or.inl rfl) rfl rfl dX8_takeNumber_76 ?_
    refine pw_aload_n (pc := 79) (S := (sI S x0 6 (4 : Int32))) C 0 dX8_takeNumber_79 rfl rfl ?_
    refine pw_iload_n (pc := 80) (S := (sI S x0 6 (4 : Int32))) C 1 dX8_takeNumber_80 rfl rfl ?_
    refine pw_putI (pc := 81) (S := (sI S x0 6 (4 : Int32))) (ref := "SupportSolver$TextReader") (k := 9) (index := 45) C pCl6 iX8_takeNumber_X8 hk1 rfl (by decide +kernel) (Or.inl rfl) (Or.inl rfl) rfl rfl dX8_takeNumber_81 ?_
    exact pw_vret (pc := 84) (S := (sI (sI S x0 6 (4 : Int32)) x0 9 x1)) C hr h dX8_takeNumber_84
set_option maxRecDepth 100000 in
set_option maxHeartbeats 4000000 in
theorem cbX8_takeNumber_b2 {p : Program} {l : Launch} {e : Env} {s : State} {m : MethodId} {args : Array Value} {below : List Frame} {meth : Method} {c : Code} {G : PG} {Q : PS → Prop} (C : pCx p s m args meth c G cX8_takeNumber 2 yX8_takeNumber.cls wsX8_takeNumber) (hr : meth.sig.returnType = none) (hin : meth.name = yX8_takeNumber.name) (hZ : pZa G)  (n : Nat) : ∀ (S : PS) (x0 : Nat) (x1 : Int32), wpX8_takeNumber_b2  Q n S x0 x1 → PW p l e rmX8_takeNumber s m args below meth c (MQ below (va_Qv Q (pB G) (pFr G)) args s rmX8_takeNumber.cells rmX8_takeNumber.slots (pFr G)) G 2 S 0 0 [(0, .ref (G.2.2 + x0)), (1, .int x1)] 2 ([]) := by
  induction n with
  | zero => intro S x0 x1 h; exact h.elim
  | succ n ih =>
    intro S x0 x1 h
    unfold wpX8_takeNumber_b2 at h
    refine pw_aload_n (pc := 2) C 0 dX8_takeNumber_2 rfl rfl ?_
    obtain ⟨hk2, h⟩ := h
    refine pw_getI (pc := 3) (ref := "SupportSolver$TextReader") (k := 8) (index := 42) C pCl6 iX8_takeNumber_X8 hk2 rfl (by decide +kernel) (Or.inl rfl) dX8_takeNumber_3 ?_
    refine pw_aload_n (pc := 6) C 0 dX8_takeNumber_6 rfl rfl ?_
    refine pw_getI (pc := 7) (ref := "SupportSolver$TextReader") (k := 2) (index := 19) C pCl6 iX8_takeNumber_X8 hk2 rfl (by decide +kernel) (Or.inl rfl) dX8_takeNumber_7 ?_
    refine pw_icmp_ge (pc := 10) (tgt := 57) C dX8_takeNumber_10 rfl ⟨fun hc => ?_, fun hc => ?_⟩
    · replace h := h.1 hc
      exact cbX8_takeNumber_b57 C hr hin hZ  _ _ _ h
    · replace h := h.2 hc
      refine pw_aload_n (pc := 13) C 0 dX8_takeNumber_13 rfl rfl ?_
      refine pw_aload_n (pc := 14) C 0 dX8_takeNumber_14 rfl rfl ?_
      refine pw_getI (pc := 15) (ref := "SupportSolver$TextReader") (k := 8) (index := 42) C pCl6 iX8_takeNumber_X8 hk2 rfl (by decide +kernel) (Or.inl rfl) dX8_takeNumber_15 ?_
      refine pw_calli (pc := 18) (kc2 := 0) (kn2 := 0) (pRunV (pc := 18) C (ctX8_byteAt l G hZ  _ x0 (pI S x0 8) _ h) (cwV 1 C.2.2.2.2.1 gX8_takeNumber_X8_byteAt rfl rfl rfl (by decide +kernel) ⟨Nat.le_of_ble_eq_true rfl, Nat.le_of_ble_eq_true rfl⟩) pCl6 hk2 rfl rfl (Nat.le_of_ble_eq_true rfl) dX8_takeNumber_18 ⟨Nat.le_of_ble_eq_true rfl, Nat.le_of_ble_eq_true rfl⟩) rfl rfl (fun r3 S4 h => ?_)
      refine pw_calli (pc := 21) (kc2 := 0) (kn2 := 0) (pRunS (pc := 21) C (ctX8_isDigit l G hZ  _ r3 _ h) (va_cwS 1 C.2.2.2.2.1 gX8_takeNumber_X8_isDigit rfl rfl rfl (by decide +kernel) ⟨Nat.le_of_ble_eq_true rfl, Nat.le_of_ble_eq_true rfl⟩) rfl rfl (Nat.le_of_ble_eq_true rfl) dX8_takeNumber_21 ⟨Nat.le_of_ble_eq_true rfl, Nat.le_of_ble_eq_true rfl⟩) rfl rfl (fun r5 S6 h => ?_)
      refine pw_if_eq (pc := 24) (tgt := 57) C dX8_takeNumber_24 rfl ⟨fun hc => ?_, fun hc => ?_⟩
      · replace h := h.1 hc
        exact cbX8_takeNumber_b57 C hr hin hZ  _ _ _ h
      · replace h := h.2 hc
        refine pw_bipush (pc := 27) (v := 10 ) C dX8_takeNumber_27 (by decide) ?_
        refine pw_iload_n (pc := 29) C 1 dX8_takeNumber_29 rfl rfl ?_
        refine pw_imul (pc := 30) C dX8_takeNumber_30 ?_
        refine pw_aload_n (pc := 31) C 0 dX8_takeNumber_31 rfl rfl ?_
        refine pw_aload_n (pc := 32) C 0 dX8_takeNumber_32 rfl rfl ?_
        obtain ⟨hk7, h⟩ := h
        refine pw_getI (pc := 33) (ref := "SupportSolver$TextReader") (k := 8) (index := 42) C pCl6 iX8_takeNumber_X8 hk7 rfl (by decide +kernel) (Or.inl rfl) dX8_takeNumber_33 ?_
        refine pw_calli (pc := 36) (kc2 := 0) (kn2 := 0) (pRunV (pc := 36) C (ctX8_byteAt l G hZ  _ x0 (pI S6 x0 8) _ h) (cwV 1 C.2.2.2.2.1 gX8_takeNumber_X8_byteAt rfl rfl rfl (by decide +kernel) ⟨Nat.le_of_ble_eq_true rfl, Nat.le_of_ble_eq_true rfl⟩) pCl6 hk7 rfl rfl (Nat.le_of_ble_eq_true rfl) dX8_takeNumber_36 ⟨Nat.le_of_ble_eq_true rfl, Nat.le_of_ble_eq_true rfl⟩) rfl rfl (fun r8 S9 h => ?_)
        refine pw_iadd (pc := 39) C dX8_takeNumber_39 ?_
        refine pw_bipush (pc := 40) (v := 48 ) C dX8_takeNumber_40 (by decide) ?_
        refine pw_isub (pc := 42) C dX8_takeNumber_42 ?_
        refine pw_istore_n (pc := 43) C [(1, .int ((((10 : Int32) * x1) + r8) - (48 : Int32))), (0, .ref (G.2.2 + x0))] dX8_takeNumber_43 rfl (by decide) rfl ?_
        refine pw_aload_n (pc := 44) C 1 dX8_takeNumber_44 rfl rfl ?_
        refine pw_dup (pc := 45) C dX8_takeNumber_45 rfl ?_
        obtain ⟨hk10, h⟩ := h
        refine pw_getI (pc := 46) (ref := "SupportSolver$TextReader") (k := 8) (index := 42) C pCl6 iX8_takeNumber_X8 hk10 rfl (by decide +kernel) (Or.inl rfl) dX8_takeNumber_46 ?_
        refine pw_iconst (pc := 49) (v := 1 ) C dX8_takeNumber_49 (by decide) ?_
        refine pw_iadd (pc := 50) C dX8_takeNumber_50 ?_
        refine pw_putI (pc := 51) (ref := "SupportSolver$TextReader") (k := 8) (index := 42) C pCl6 iX8_takeNumber_X8 hk10 rfl (by decide +kernel) (Or.inl rfl) (Or.inl rfl) rfl rfl dX8_takeNumber_51 ?_
        refine pw_goto (pc := 54) (S := (sI S9 x0 8 ((pI S9 x0 8) + (1 : Int32)))) (tgt := 2) C dX8_takeNumber_54 rfl ?_
        refine pw_sub [1, 0] (LV2 := [(0, .ref (G.2.2 + x0)), (1, .int ((((10 : Int32) * x1) + r8) - (48 : Int32)))]) rfl ?_
        exact ih _ _ _ h
set_option maxRecDepth 100000 in
set_option maxHeartbeats 4000000 in
theorem ctX8_takeNumber (l : Launch) (G : PG) (hZ : pZa G) (S : PS) (x0 : Nat) (Q : PS → Prop) (h : wpX8_takeNumber S x0 Q) : mV l yX8_takeNumber wsX8_takeNumber rmX8_takeNumber G S [.ref (G.2.2 + x0)] Q := by
  unfold mV
  refine met_of (cc := cX8_takeNumber) (maxL := 2) (ret := none) (by decide) rfl (Nat.le_of_ble_eq_true rfl) ?_
  intro p e s m args below meth c C hr hin
  unfold wpX8_takeNumber at h
  show PW p l e _ s m args below meth c _ G 2 S 0 0 [(0, .ref (G.2.2 + x0))] 0 []
  refine pw_iconst (pc := 0) (v := 0 ) C dX8_takeNumber_0 (by decide) ?_
  refine pw_istore_n (pc := 1) C [(1, .int (0 : Int32)), (0, .ref (G.2.2 + x0))] dX8_takeNumber_1 rfl (by decide) rfl ?_
  refine pw_sub [1, 0] (LV2 := [(0, .ref (G.2.2 + x0)), (1, .int (0 : Int32))]) rfl ?_
  obtain ⟨n9, h⟩ := h
  exact cbX8_takeNumber_b2 C hr hin hZ  n9 _ _ _ h

abbrev rmX8_nextToken : Room := { frames := 2, cells := 0, slots := 0, locals := 42 }
theorem iX8_nextToken_X8 : ∀ w ∈ u_ws RX8 TX8 10, w ∈ wsX8_nextToken := fun _ h => List.mem_cons_of_mem _ (List.mem_append_right _ h)
def wpX8_nextToken_b45 (K8 : PS → Nat → Prop) (Q : PS → Prop) (S : PS) (x0 : Nat) : Prop := (pK S x0 = 7 ∧ (K8 (sI S x0 7 ((pI S x0 7) + (1 : Int32))) x0))
def wpX8_nextToken_b134  (Q : PS → Prop) (S : PS) (x0 : Nat) (x1 : Int32) (t0 : Nat) (t1 : Int32) : Prop := (pK S t0 = 7 ∧ (pK S x0 = 7 ∧ (Q (sI (sI S t0 6 t1) x0 8 ((pI (sI S t0 6 t1) x0 7) + (1 : Int32))))))
def wpX8_nextToken_b58  (Q : PS → Prop) (S : PS) (x0 : Nat) : Prop := (pK S x0 = 7 ∧ (wpX8_byteAt (sI S x0 8 (pI S x0 7)) x0 (pI (sI S x0 8 (pI S x0 7)) x0 7) (fun r5 S6 => (wpX8_isLetter S6 r5 (fun r7 S8 => ((r7 = 0 → (wpX8_isDigit S8 r5 (fun r9 S10 => ((r9 = 0 → (pK S10 x0 = 7 ∧ (((pI S10 x0 7) < (pI S10 x0 2) → ((¬ r5 = (59 : Int32) → (wpX8_nextToken_b134 Q S10 x0 r5 x0 (4 : Int32))) ∧ (r5 = (59 : Int32) → (wpX8_nextToken_b134 Q S10 x0 r5 x0 (3 : Int32))))) ∧ (¬ (pI S10 x0 7) < (pI S10 x0 2) → (Q (sI S10 x0 6 (0 : Int32))))))) ∧ (¬ r9 = 0 → (pK S10 x0 = 7 ∧ (wpX8_takeNumber S10 x0 (fun S14 => (Q S14))))))))) ∧ (¬ r7 = 0 → (pK S8 x0 = 7 ∧ (wpX8_takeWord S8 x0 (fun S17 => (Q S17)))))))))))
def wpX8_nextToken_b8  (Q : PS → Prop) : Nat → PS → Nat → Prop
  | 0 => fun _ _ => False
  | n + 1 => fun S x0 => (pK S x0 = 7 ∧ (((pI S x0 2) ≤ (pI S x0 7) → (wpX8_nextToken_b58 Q S x0)) ∧ (¬ (pI S x0 2) ≤ (pI S x0 7) → (wpX8_byteAt S x0 (pI S x0 7) (fun r19 S20 => ((r19 = (32 : Int32) → (wpX8_nextToken_b45 (wpX8_nextToken_b8 Q n) Q S20 x0)) ∧ (¬ r19 = (32 : Int32) → (pK S20 x0 = 7 ∧ (wpX8_byteAt S20 x0 (pI S20 x0 7) (fun r22 S23 => ((¬ r22 = (10 : Int32) → (wpX8_nextToken_b58 Q S23 x0)) ∧ (r22 = (10 : Int32) → (wpX8_nextToken_b45 (wpX8_nextToken_b8 Q n) Q S23 x0)))))))))))))
def wpX8_nextToken (S : PS) (x0 : Nat) (Q : PS → Prop) : Prop := (pK S x0 = 7 ∧ (∃ n9 : Nat, wpX8_nextToken_b8 Q n9 (sI S x0 7 (pI S x0 8)) x0))
set_option maxRecDepth 100000 in
set_option maxHeartbeats 4000000 in
theorem cbX8_nextToken_b45 {p : Program} {l : Launch} {e : Env} {s : State} {m : MethodId} {args : Array Value} {below : List Frame} {meth : Method} {c : Code} {G : PG} {Q : PS → Prop} (C : pCx p s m args meth c G cX8_nextToken 2 yX8_nextToken.cls wsX8_nextToken) (hr : meth.sig.returnType = none) (hin : meth.name = yX8_nextToken.name) (hZ : pZa G) {K8 : PS → Nat → Prop} (hK8 : ∀ (S : PS) (x0 : Nat), K8 S x0 → PW p l e rmX8_nextToken s m args below meth c (MQ below (va_Qv Q (pB G) (pFr G)) args s rmX8_nextToken.cells rmX8_nextToken.slots (pFr G)) G 2 S 0 0 [(0, .ref (G.2.2 + x0))] 8 ([])) : ∀ (S : PS) (x0 : Nat), wpX8_nextToken_b45 K8 Q S x0 → PW p l e rmX8_nextToken s m args below meth c (MQ below (va_Qv Q (pB G) (pFr G)) args s rmX8_nextToken.cells rmX8_nextToken.slots (pFr G)) G 2 S 0 0 [(0, .ref (G.2.2 + x0))] 45 ([]) := by
  intro S x0 h
  unfold wpX8_nextToken_b45 at h
  refine pw_aload_n (pc := 45) C 0 dX8_nextToken_45 rfl rfl ?_
  refine pw_dup (pc := 46) C dX8_nextToken_46 rfl ?_
  obtain ⟨hk1, h⟩ := h
  refine pw_getI (pc := 47) (ref := "SupportSolver$TextReader") (k := 7) (index := 39) C pCl6 iX8_nextToken_X8 hk1 rfl (by decide +kernel) (Or.inl rfl) dX8_nextToken_47 ?_
  refine pw_iconst (pc := 50) (v := 1 ) C dX8_nextToken_50 (by decide) ?_
  refine pw_iadd (pc := 51) C dX8_nextToken_51 ?_
  refine pw_putI (pc := 52) (ref := "SupportSolver$TextReader") (k := 7) (index := 39) C pCl6 iX8_nextToken_X8 hk1 rfl (by decide +kernel) (Or.inl rfl) (Or.inl rfl) rfl rfl dX8_nextToken_52 ?_
  refine pw_goto (pc := 55) (S := (sI S x0 7 ((pI S x0 7) + (1 : Int32)))) (tgt := 8) C dX8_nextToken_55 rfl ?_
  exact hK8 _ _ h
set_option maxRecDepth 100000 in
set_option maxHeartbeats 4000000 in
theorem cbX8_nextToken_b134 {p : Program} {l : Launch} {e : Env} {s : State} {m : MethodId} {args : Array Value} {below : List Frame} {meth : Method} {c : Code} {G : PG} {Q : PS → Prop} (C : pCx p s m args meth c G cX8_nextToken 2 yX8_nextToken.cls wsX8_nextToken) (hr : meth.sig.returnType = none) (hin : meth.name = yX8_nextToken.name) (hZ : pZa G)  : ∀ (S : PS) (x0 : Nat) (x1 : Int32) (t0 : Nat) (t1 : Int32), wpX8_nextToken_b134  Q S x0 x1 t0 t1 → PW p l e rmX8_nextToken s m args below meth c (MQ below (va_Qv Q (pB G) (pFr G)) args s rmX8_nextToken.cells rmX8_nextToken.slots (pFr G)) G 2 S 0 0 [(0, .ref (G.2.2 + x0)), (1, .int x1)] 134 (.int t1 :: .ref (G.2.2 + t0) :: []) := by
  intro S x0 x1 t0 t1 h
  unfold wpX8_nextToken_b134 at h
  obtain ⟨hk2, h⟩ := h
  refine pw_putI (pc := 134) (ref := "SupportSolver$TextReader") (k := 6) (index := 36) C pCl6 iX8_nextToken_X8 hk2 rfl (by decide +kernel) (Or.inl rfl) (Or.inl rfl) rfl rfl dX8_nextToken_134 ?_
  refine pw_aload_n (pc := 137) (S := (sI S t0 6 t1)) C 0 dX8_nextToken_137 rfl rfl ?_
  refine pw_aload_n (pc := 138) (S := (sI S t0 6 t1)) C 0 dX8_nextToken_138 rfl rfl ?_
  obtain ⟨hk3, h⟩ := h
  refine pw_getI (pc := 139) (S := (sI S t0 6 t1)) (ref := "SupportSolver$TextReader") (k := 7) (index := 39) C pCl6 iX8_nextToken_X8 hk3 rfl (by decide +kernel) (Or.inl rfl) dX8_nextToken_139 ?_
  refine pw_iconst (pc := 142) (S := (sI S t0 6 t1)) (v := 1 ) C dX8_nextToken_142 (by decide) ?_
  refine pw_iadd (pc := 143) (S := (sI S t0 6 t1)) C dX8_nextToken_143 ?_
  refine pw_putI (pc := 144) (S := (sI S t0 6 t1)) (ref := "SupportSolver$TextReader") (k := 8) (index := 42) C pCl6 iX8_nextToken_X8 hk3 rfl (by decide +kernel) (Or.inl rfl) (Or.inl rfl) rfl rfl dX8_nextToken_144 ?_
  exact pw_vret (pc := 147) (S := (sI (sI S t0 6 t1) x0 8 ((pI (sI S t0 6 t1) x0 7) + (1 : Int32)))) C hr h dX8_nextToken_147
set_option maxRecDepth 100000 in
set_option maxHeartbeats 4000000 in
theorem cbX8_nextToken_b58 {p : Program} {l : Launch} {e : Env} {s : State} {m : MethodId} {args : Array Value} {below : List Frame} {meth : Method} {c : Code} {G : PG} {Q : PS → Prop} (C : pCx p s m args meth c G cX8_nextToken 2 yX8_nextToken.cls wsX8_nextToken) (hr : meth.sig.returnType = none) (hin : meth.name = yX8_nextToken.name) (hZ : pZa G)  : ∀ (S : PS) (x0 : Nat), wpX8_nextToken_b58  Q S x0 → PW p l e rmX8_nextToken s m args below meth c (MQ below (va_Qv Q (pB G) (pFr G)) args s rmX8_nextToken.cells rmX8_nextToken.slots (pFr G)) G 2 S 0 0 [(0, .ref (G.2.2 + x0))] 58 ([]) := by
  intro S x0 h
  unfold wpX8_nextToken_b58 at h
  refine pw_aload_n (pc := 58) C 0 dX8_nextToken_58 rfl rfl ?_
  refine pw_aload_n (pc := 59) C 0 dX8_nextToken_59 rfl rfl ?_
  obtain ⟨hk4, h⟩ := h
  refine pw_getI (pc := 60) (ref := "SupportSolver$TextReader") (k := 7) (index := 39) C pCl6 iX8_nextToken_X8 hk4 rfl (by decide +kernel) (Or.inl rfl) dX8_nextToken_60 ?_
  refine pw_putI (pc := 63) (ref := "SupportSolver$TextReader") (k := 8) (index := 42) C pCl6 iX8_nextToken_X8 hk4 rfl (by decide +kernel) (Or.inl rfl) (Or.inl rfl) rfl rfl dX8_nextToken_63 ?_
  refine pw_aload_n (pc := 66) (S := (sI S x0 8 (pI S x0 7))) C 0 dX8_nextToken_66 rfl rfl ?_
  refine pw_aload_n (pc := 67) (S := (sI S x0 8 (pI S x0 7))) C 0 dX8_nextToken_67 rfl rfl ?_
  refine pw_getI (pc := 68) (S := (sI S x0 8 (pI S x0 7))) (ref := "SupportSolver$TextReader") (k := 7) (index := 39) C pCl6 iX8_nextToken_X8 hk4 rfl (by decide +kernel) (Or.inl rfl) dX8_nextToken_68 ?_
  refine pw_calli (pc := 71) (S := (sI S x0 8 (pI S x0 7))) (kc2 := 0) (kn2 := 0) (pRunV (pc := 71) (S := (sI S x0 8 (pI S x0 7))) C (ctX8_byteAt l G hZ  _ x0 (pI (sI S x0 8 (pI S x0 7)) x0 7) _ h) (cwV 1 C.2.2.2.2.1 gX8_nextToken_X8_byteAt rfl rfl rfl (by decide +kernel) ⟨Nat.le_of_ble_eq_true rfl, Nat.le_of_ble_eq_true rfl⟩) pCl6 hk4 rfl rfl (Nat.le_of_ble_eq_true rfl) dX8_nextToken_71 ⟨Nat.le_of_ble_eq_true rfl, Nat.le_of_ble_eq_true rfl⟩) rfl rfl (fun r5 S6 h => ?_)
  refine pw_istore_n (pc := 74) C [(1, .int r5), (0, .ref (G.2.2 + x0))] dX8_nextToken_74 rfl (by decide) rfl ?_
  refine pw_iload_n (pc := 75) C 0 dX8_nextToken_75 rfl rfl ?_
  refine pw_calli (pc := 76) (kc2 := 0) (kn2 := 0) (pRunS (pc := 76) C (ctX8_isLetter l G hZ  _ r5 _ h) (va_cwS 1 C.2.2.2.2.1 gX8_nextToken_X8_isLetter rfl rfl rfl (by decide +kernel) ⟨Nat.le_of_ble_eq_true rfl, Nat.le_of_ble_eq_true rfl⟩) rfl rfl (Nat.le_of_ble_eq_true rfl) dX8_nextToken_76 ⟨Nat.le_of_ble_eq_true rfl, Nat.le_of_ble_eq_true rfl⟩) rfl rfl (fun r7 S8 h => ?_)
  refine pw_if_eq (pc := 79) (tgt := 89) C dX8_nextToken_79 rfl ⟨fun hc => ?_, fun hc => ?_⟩
  · replace h := h.1 hc
    refine pw_iload_n (pc := 89) C 0 dX8_nextToken_89 rfl rfl ?_
    refine pw_calli (pc := 90) (kc2 := 0) (kn2 := 0) (pRunS (pc := 90) C (ctX8_isDigit l G hZ  _ r5 _ h) (va_cwS 1 C.2.2.2.2.1 gX8_nextToken_X8_isDigit rfl rfl rfl (by decide +kernel) ⟨Nat.le_of_ble_eq_true rfl, Nat.le_of_ble_eq_true rfl⟩) rfl rfl (Nat.le_of_ble_eq_true rfl) dX8_nextToken_90 ⟨Nat.le_of_ble_eq_true rfl, Nat.le_of_ble_eq_true rfl⟩) rfl rfl (fun r9 S10 h => ?_)
    refine pw_if_eq (pc := 93) (tgt := 103) C dX8_nextToken_93 rfl ⟨fun hc => ?_, fun hc => ?_⟩
    · replace h := h.1 hc
      refine pw_aload_n (pc := 103) C 1 dX8_nextToken_103 rfl rfl ?_
      obtain ⟨hk11, h⟩ := h
      refine pw_getI (pc := 104) (ref := "SupportSolver$TextReader") (k := 7) (index := 39) C pCl6 iX8_nextToken_X8 hk11 rfl (by decide +kernel) (Or.inl rfl) dX8_nextToken_104 ?_
      refine pw_aload_n (pc := 107) C 1 dX8_nextToken_107 rfl rfl ?_
      refine pw_getI (pc := 108) (ref := "SupportSolver$TextReader") (k := 2) (index := 19) C pCl6 iX8_nextToken_X8 hk11 rfl (by decide +kernel) (Or.inl rfl) dX8_nextToken_108 ?_
      refine pw_icmp_lt (pc := 111) (tgt := 122) C dX8_nextToken_111 rfl ⟨fun hc => ?_, fun hc => ?_⟩
      · replace h := h.1 hc
        refine pw_aload_n (pc := 122) C 1 dX8_nextToken_122 rfl rfl ?_
        refine pw_iload_n (pc := 123) C 0 dX8_nextToken_123 rfl rfl ?_
        refine pw_bipush (pc := 124) (v := 59 ) C dX8_nextToken_124 (by decide) ?_
        refine pw_icmp_ne (pc := 126) (tgt := 133) C dX8_nextToken_126 rfl ⟨fun hc => ?_, fun hc => ?_⟩
        · replace h := h.1 hc
          refine pw_iconst (pc := 133) (v := 4 ) C dX8_nextToken_133 (by decide) ?_
          refine pw_sub [1, 0] (LV2 := [(0, .ref (G.2.2 + x0)), (1, .int r5)]) rfl ?_
          exact cbX8_nextToken_b134 C hr hin hZ  _ _ _ _ _ h
        · replace h := h.2 hc
          refine pw_iconst (pc := 129) (v := 3 ) C dX8_nextToken_129 (by decide) ?_
          refine pw_goto (pc := 130) (tgt := 134) C dX8_nextToken_130 rfl ?_
          refine pw_sub [1, 0] (LV2 := [(0, .ref (G.2.2 + x0)), (1, .int r5)]) rfl ?_
          exact cbX8_nextToken_b134 C hr hin hZ  _ _ _ _ _ h
      · replace h := h.2 hc
        refine pw_aload_n (pc := 114) C 1 dX8_nextToken_114 rfl rfl ?_
        refine pw_iconst (pc := 115) (v := 0 ) C dX8_nextToken_115 (by decide) ?_
        refine pw_putI (pc := 116) (ref := "SupportSolver$TextReader") (k := 6) (index := 36) C pCl6 iX8_nextToken_X8 hk11 rfl (by decide +kernel) (Or.inl rfl) (Or.inl rfl) rfl rfl dX8_nextToken_116 ?_
        refine pw_goto (pc := 119) (S := (sI S10 x0 6 (0 : Int32))) (tgt := 147) C dX8_nextToken_119 rfl ?_
        exact pw_vret (pc := 147) (S := (sI S10 x0 6 (0 : Int32))) C hr h dX8_nextToken_147
    · replace h := h.2 hc
      refine pw_aload_n (pc := 96) C 1 dX8_nextToken_96 rfl rfl ?_
      obtain ⟨hk12, h⟩ := h
      refine pw_callv (pc := 97) (kc2 := 0) (kn2 := 0) (pRunV (pc := 97) C (ctX8_takeNumber l G hZ  _ x0 _ h) (cwV 0 C.2.2.2.2.1 gX8_nextToken_X8_takeNumber rfl rfl rfl (by decide +kernel) ⟨Nat.le_of_ble_eq_true rfl, Nat.le_of_ble_eq_true rfl⟩) pCl6 hk12 rfl rfl (Nat.le_of_ble_eq_true rfl) dX8_nextToken_97 ⟨Nat.le_of_ble_eq_true rfl, Nat.le_of_ble_eq_true rfl⟩) rfl rfl (fun S14 h => ?_)
      refine pw_goto (pc := 100) (tgt := 147) C dX8_nextToken_100 rfl ?_
      exact pw_vret (pc := 147) C hr h dX8_nextToken_147
  · replace h := h.2 hc
    refine pw_aload_n (pc := 82) C 1 dX8_nextToken_82 rfl rfl ?_
    obtain ⟨hk15, h⟩ := h
    refine pw_callv (pc := 83) (kc2 := 0) (kn2 := 0) (pRunV (pc := 83) C (ctX8_takeWord l G hZ  _ x0 _ h) (cwV 0 C.2.2.2.2.1 gX8_nextToken_X8_takeWord rfl rfl rfl (by decide +kernel) ⟨Nat.le_of_ble_eq_true rfl, Nat.le_of_ble_eq_true rfl⟩) pCl6 hk15 rfl rfl (Nat.le_of_ble_eq_true rfl) dX8_nextToken_83 ⟨Nat.le_of_ble_eq_true rfl, Nat.le_of_ble_eq_true rfl⟩) rfl rfl (fun S17 h => ?_)
    refine pw_goto (pc := 86) (tgt := 147) C dX8_nextToken_86 rfl ?_
    exact pw_vret (pc := 147) C hr h dX8_nextToken_147
set_option maxRecDepth 100000 in
set_option maxHeartbeats 4000000 in
theorem cbX8_nextToken_b8 {p : Program} {l : Launch} {e : Env} {s : State} {m : MethodId} {args : Array Value} {below : List Frame} {meth : Method} {c : Code} {G : PG} {Q : PS → Prop} (C : pCx p s m args meth c G cX8_nextToken 2 yX8_nextToken.cls wsX8_nextToken) (hr : meth.sig.returnType = none) (hin : meth.name = yX8_nextToken.name) (hZ : pZa G)  (n : Nat) : ∀ (S : PS) (x0 : Nat), wpX8_nextToken_b8  Q n S x0 → PW p l e rmX8_nextToken s m args below meth c (MQ below (va_Qv Q (pB G) (pFr G)) args s rmX8_nextToken.cells rmX8_nextToken.slots (pFr G)) G 2 S 0 0 [(0, .ref (G.2.2 + x0))] 8 ([]) := by
  induction n with
  | zero => intro S x0 h; exact h.elim
  | succ n ih =>
    intro S x0 h
    unfold wpX8_nextToken_b8 at h
    refine pw_aload_n (pc := 8) C 0 dX8_nextToken_8 rfl rfl ?_
    obtain ⟨hk18, h⟩ := h
    refine pw_getI (pc := 9) (ref := "SupportSolver$TextReader") (k := 7) (index := 39) C pCl6 iX8_nextToken_X8 hk18 rfl (by decide +kernel) (Or.inl rfl) dX8_nextToken_9 ?_
    refine pw_aload_n (pc := 12) C 0 dX8_nextToken_12 rfl rfl ?_
    refine pw_getI (pc := 13) (ref := "SupportSolver$TextReader") (k := 2) (index := 19) C pCl6 iX8_nextToken_X8 hk18 rfl (by decide +kernel) (Or.inl rfl) dX8_nextToken_13 ?_
    refine pw_icmp_ge (pc := 16) (tgt := 58) C dX8_nextToken_16 rfl ⟨fun hc => ?_, fun hc => ?_⟩
    · replace h := h.1 hc
      exact cbX8_nextToken_b58 C hr hin hZ  _ _ h
    · replace h := h.2 hc
      refine pw_aload_n (pc := 19) C 0 dX8_nextToken_19 rfl rfl ?_
      refine pw_aload_n (pc := 20) C 0 dX8_nextToken_20 rfl rfl ?_
      refine pw_getI (pc := 21) (ref := "SupportSolver$TextReader") (k := 7) (index := 39) C pCl6 iX8_nextToken_X8 hk18 rfl (by decide +kernel) (Or.inl rfl) dX8_nextToken_21 ?_
      refine pw_calli (pc := 24) (kc2 := 0) (kn2 := 0) (pRunV (pc := 24) C (ctX8_byteAt l G hZ  _ x0 (pI S x0 7) _ h) (cwV 1 C.2.2.2.2.1 gX8_nextToken_X8_byteAt rfl rfl rfl (by decide +kernel) ⟨Nat.le_of_ble_eq_true rfl, Nat.le_of_ble_eq_true rfl⟩) pCl6 hk18 rfl rfl (Nat.le_of_ble_eq_true rfl) dX8_nextToken_24 ⟨Nat.le_of_ble_eq_true rfl, Nat.le_of_ble_eq_true rfl⟩) rfl rfl (fun r19 S20 h => ?_)
      refine pw_bipush (pc := 27) (v := 32 ) C dX8_nextToken_27 (by decide) ?_
      refine pw_icmp_eq (pc := 29) (tgt := 45) C dX8_nextToken_29 rfl ⟨fun hc => ?_, fun hc => ?_⟩
      · replace h := h.1 hc
        exact cbX8_nextToken_b45 C hr hin hZ ih _ _ h
      · replace h := h.2 hc
        refine pw_aload_n (pc := 32) C 0 dX8_nextToken_32 rfl rfl ?_
        refine pw_aload_n (pc := 33) C 0 dX8_nextToken_33 rfl rfl ?_
        obtain ⟨hk21, h⟩ := h
        refine pw_getI (pc := 34) (ref := "SupportSolver$TextReader") (k := 7) (index := 39) C pCl6 iX8_nextToken_X8 hk21 rfl (by decide +kernel) (Or.inl rfl) dX8_nextToken_34 ?_
        refine pw_calli (pc := 37) (kc2 := 0) (kn2 := 0) (pRunV (pc := 37) C (ctX8_byteAt l G hZ  _ x0 (pI S20 x0 7) _ h) (cwV 1 C.2.2.2.2.1 gX8_nextToken_X8_byteAt rfl rfl rfl (by decide +kernel) ⟨Nat.le_of_ble_eq_true rfl, Nat.le_of_ble_eq_true rfl⟩) pCl6 hk21 rfl rfl (Nat.le_of_ble_eq_true rfl) dX8_nextToken_37 ⟨Nat.le_of_ble_eq_true rfl, Nat.le_of_ble_eq_true rfl⟩) rfl rfl (fun r22 S23 h => ?_)
        refine pw_bipush (pc := 40) (v := 10 ) C dX8_nextToken_40 (by decide) ?_
        refine pw_icmp_ne (pc := 42) (tgt := 58) C dX8_nextToken_42 rfl ⟨fun hc => ?_, fun hc => ?_⟩
        · replace h := h.1 hc
          exact cbX8_nextToken_b58 C hr hin hZ  _ _ h
        · replace h := h.2 hc
          exact cbX8_nextToken_b45 C hr hin hZ ih _ _ h
set_option maxRecDepth 100000 in
set_option maxHeartbeats 4000000 in
theorem ctX8_nextToken (l : Launch) (G : PG) (hZ : pZa G) (S : PS) (x0 : Nat) (Q : PS → Prop) (h : wpX8_nextToken S x0 Q) : mV l yX8_nextToken wsX8_nextToken rmX8_nextToken G S [.ref (G.2.2 + x0)] Q := by
  unfold mV
  refine met_of (cc := cX8_nextToken) (maxL := 2) (ret := none) (by decide) rfl (Nat.le_of_ble_eq_true rfl) ?_
  intro p e s m args below meth c C hr hin
  unfold wpX8_nextToken at h
  show PW p l e _ s m args below meth c _ G 2 S 0 0 [(0, .ref (G.2.2 + x0))] 0 []
  refine pw_aload_n (pc := 0) C 0 dX8_nextToken_0 rfl rfl ?_
  refine pw_aload_n (pc := 1) C 0 dX8_nextToken_1 rfl rfl ?_
  obtain ⟨hk24, h⟩ := h
  refine pw_getI (pc := 2) (ref := "SupportSolver$TextReader") (k := 8) (index := 42) C pCl6 iX8_nextToken_X8 hk24 rfl (by decide +kernel) (Or.inl rfl) dX8_nextToken_2 ?_
  refine pw_putI (pc := 5) (ref := "SupportSolver$TextReader") (k := 7) (index := 39) C pCl6 iX8_nextToken_X8 hk24 rfl (by decide +kernel) (Or.inl rfl) (Or.inl rfl) rfl rfl dX8_nextToken_5 ?_
  obtain ⟨n9, h⟩ := h
  exact cbX8_nextToken_b8 C hr hin hZ  n9 _ _ h

abbrev rmX8_begin : Room := { frames := 3, cells := 2, slots := 12, locals := 63 }
theorem iX8_begin_X6 : ∀ w ∈ u_ws RX6 TX6 4, w ∈ wsX8_begin := by decide +kernel
theorem iX8_begin_X8 : ∀ w ∈ u_ws RX8 TX8 10, w ∈ wsX8_begin := fun _ h => List.mem_cons_of_mem _ (List.mem_append_right _ h)
def wpX8_begin (S : PS) (x0 : Nat) (Q : PS → Prop) : Prop := (∀ a1 S2, a1 = pN S → S2 = sNew S 5 0 → (wpX6_init S2 a1 (fun S5 => (pK S5 x0 = 7 ∧ (wpX8_nextToken (sI (sI (sI (sR S5 x0 5 (some a1)) x0 3 (0 : Int32)) x0 4 (-1 : Int32)) x0 8 (0 : Int32)) x0 (fun S8 => (Q S8)))))))
set_option maxRecDepth 100000 in
set_option maxHeartbeats 4000000 in
theorem ctX8_begin (l : Launch) (G : PG) (hZ : pZa G) (S : PS) (x0 : Nat) (Q : PS → Prop) (h : wpX8_begin S x0 Q) : mV l yX8_begin wsX8_begin rmX8_begin G S [.ref (G.2.2 + x0)] Q := by
  unfold mV
  refine met_of (cc := cX8_begin) (maxL := 1) (ret := none) (by decide) rfl (Nat.le_of_ble_eq_true rfl) ?_
  intro p e s m args below meth c C hr hin
  unfold wpX8_begin at h
  show PW p l e _ s m args below meth c _ G 1 S 0 0 [(0, .ref (G.2.2 + x0))] 0 []
  refine pw_aload_n (pc := 0) C 0 dX8_begin_0 rfl rfl ?_
  refine pw_new (pc := 1) (kc2 := 1) (kn2 := 4) C pCl4 iX8_begin_X6 (by decide +kernel) (by decide +kernel) (by decide +kernel) rfl rfl (Nat.le_of_ble_eq_true rfl) (Nat.le_of_ble_eq_true rfl) dX8_begin_1 ?_
  obtain ⟨a1, ea1⟩ : ∃ q, q = pN S := ⟨_, rfl⟩
  obtain ⟨S2, eS2⟩ : ∃ q, q = sNew S 5 0 := ⟨_, rfl⟩
  rw [← ea1, ← eS2]
  replace h := h a1 S2 ea1 eS2
  have hk3 : pK S2 a1 = 5 := by rw [eS2, ea1, pK_sNew, if_pos rfl]
  refine pw_dup (pc := 4) C dX8_begin_4 rfl ?_
  refine pw_callv (pc := 5) (kc2 := 2) (kn2 := 12) (pRunIN (pc := 5) C (ctX6_init l G hZ  _ a1 _ h) 0 gX8_begin_X6_init_n31 rfl (hZ.2.2.1) (by decide +kernel) rfl (by decide +kernel) (by decide +kernel) ⟨Nat.le_of_ble_eq_true rfl, Nat.le_of_ble_eq_true rfl⟩ rfl rfl (Nat.le_of_ble_eq_true rfl) dX8_begin_5 ⟨Nat.le_of_ble_eq_true rfl, Nat.le_of_ble_eq_true rfl⟩) rfl rfl (fun S5 h => ?_)
  obtain ⟨hk6, h⟩ := h
  refine pw_putR (pc := 8) (ref := "SupportSolver$TextReader") (k := 5) (index := 32) C pCl6 iX8_begin_X8 hk6 rfl (by decide +kernel) (Or.inl rfl) (o := a1) (Or.inl rfl) rfl rfl dX8_begin_8 ?_
  refine pw_aload_n (pc := 11) (S := (sR S5 x0 5 (some a1))) C 0 dX8_begin_11 rfl rfl ?_
  refine pw_iconst (pc := 12) (S := (sR S5 x0 5 (some a1))) (v := 0 ) C dX8_begin_12 (by decide) ?_
  refine pw_putI (pc := 13) (S := (sR S5 x0 5 (some a1))) (ref := "SupportSolver$TextReader") (k := 3) (index := 23) C pCl6 iX8_begin_X8 hk6 rfl (by decide +kernel) (Or.inl rfl) (Or.inl rfl) rfl rfl dX8_begin_13 ?_
  refine pw_aload_n (pc := 16) (S := (sI (sR S5 x0 5 (some a1)) x0 3 (0 : Int32))) C 0 dX8_begin_16 rfl rfl ?_
  refine pw_iconst (pc := 17) (S := (sI (sR S5 x0 5 (some a1)) x0 3 (0 : Int32))) (v := (-1)) C dX8_begin_17 (by decide) ?_
  refine pw_putI (pc := 18) (S := (sI (sR S5 x0 5 (some a1)) x0 3 (0 : Int32))) (ref := "SupportSolver$TextReader") (k := 4) (index := 26) C pCl6 iX8_begin_X8 hk6 rfl (by decide +kernel) (Or.inl rfl) (Or.inl rfl) rfl rfl dX8_begin_18 ?_
  refine pw_aload_n (pc := 21) (S := (sI (sI (sR S5 x0 5 (some a1)) x0 3 (0 : Int32)) x0 4 (-1 : Int32))) C 0 dX8_begin_21 rfl rfl ?_
  refine pw_iconst (pc := 22) (S := (sI (sI (sR S5 x0 5 (some a1)) x0 3 (0 : Int32)) x0 4 (-1 : Int32))) (v := 0 ) C dX8_begin_22 (by decide) ?_
  refine pw_putI (pc := 23) (S := (sI (sI (sR S5 x0 5 (some a1)) x0 3 (0 : Int32)) x0 4 (-1 : Int32))) (ref := "SupportSolver$TextReader") (k := 8) (index := 42) C pCl6 iX8_begin_X8 hk6 rfl (by decide +kernel) (Or.inl rfl) (Or.inl rfl) rfl rfl dX8_begin_23 ?_
  refine pw_aload_n (pc := 26) (S := (sI (sI (sI (sR S5 x0 5 (some a1)) x0 3 (0 : Int32)) x0 4 (-1 : Int32)) x0 8 (0 : Int32))) C 0 dX8_begin_26 rfl rfl ?_
  refine pw_callv (pc := 27) (S := (sI (sI (sI (sR S5 x0 5 (some a1)) x0 3 (0 : Int32)) x0 4 (-1 : Int32)) x0 8 (0 : Int32))) (kc2 := 2) (kn2 := 12) (pRunV (pc := 27) (S := (sI (sI (sI (sR S5 x0 5 (some a1)) x0 3 (0 : Int32)) x0 4 (-1 : Int32)) x0 8 (0 : Int32))) C (ctX8_nextToken l G hZ  _ x0 _ h) (cwV 0 C.2.2.2.2.1 gX8_begin_X8_nextToken rfl rfl rfl (by decide +kernel) ⟨Nat.le_of_ble_eq_true rfl, Nat.le_of_ble_eq_true rfl⟩) pCl6 hk6 rfl rfl (Nat.le_of_ble_eq_true rfl) dX8_begin_27 ⟨Nat.le_of_ble_eq_true rfl, Nat.le_of_ble_eq_true rfl⟩) rfl rfl (fun S8 h => ?_)
  exact pw_vret (pc := 30) C hr h dX8_begin_30

abbrev rmX8_fail : Room := { frames := 0, cells := 0, slots := 0, locals := 0 }
theorem iX8_fail_X8 : ∀ w ∈ u_ws RX8 TX8 10, w ∈ wsX8_fail := fun _ h => List.mem_cons_of_mem _ (List.mem_append_right _ h)
def wpX8_fail (S : PS) (x0 : Nat) (x1 : Int32) (Q : Int32 → PS → Prop) : Prop := (pK S x0 = 7 ∧ (Q (0 : Int32) (sI (sI S x0 3 x1) x0 4 (pI (sI S x0 3 x1) x0 7))))
set_option maxRecDepth 100000 in
set_option maxHeartbeats 4000000 in
theorem ctX8_fail (l : Launch) (G : PG) (hZ : pZa G) (S : PS) (x0 : Nat) (x1 : Int32) (Q : Int32 → PS → Prop) (h : wpX8_fail S x0 x1 Q) : mI l yX8_fail wsX8_fail rmX8_fail G S [.ref (G.2.2 + x0), .int x1] Q := by
  unfold mI
  refine met_of (cc := cX8_fail) (maxL := 2) (ret := (some .boolean)) (by decide) rfl (Nat.le_of_ble_eq_true rfl) ?_
  intro p e s m args below meth c C hr hin
  unfold wpX8_fail at h
  show PW p l e _ s m args below meth c _ G 2 S 0 0 [(0, .ref (G.2.2 + x0)), (1, .int x1)] 0 []
  refine pw_aload_n (pc := 0) C 0 dX8_fail_0 rfl rfl ?_
  refine pw_iload_n (pc := 1) C 1 dX8_fail_1 rfl rfl ?_
  obtain ⟨hk1, h⟩ := h
  refine pw_putI (pc := 2) (ref := "SupportSolver$TextReader") (k := 3) (index := 23) C pCl6 iX8_fail_X8 hk1 rfl (by decide +kernel) (Or.inl rfl) (Or.inl rfl) rfl rfl dX8_fail_2 ?_
  refine pw_aload_n (pc := 5) (S := (sI S x0 3 x1)) C 0 dX8_fail_5 rfl rfl ?_
  refine pw_aload_n (pc := 6) (S := (sI S x0 3 x1)) C 0 dX8_fail_6 rfl rfl ?_
  refine pw_getI (pc := 7) (S := (sI S x0 3 x1)) (ref := "SupportSolver$TextReader") (k := 7) (index := 39) C pCl6 iX8_fail_X8 hk1 rfl (by decide +kernel) (Or.inl rfl) dX8_fail_7 ?_
  refine pw_putI (pc := 10) (S := (sI S x0 3 x1)) (ref := "SupportSolver$TextReader") (k := 4) (index := 26) C pCl6 iX8_fail_X8 hk1 rfl (by decide +kernel) (Or.inl rfl) (Or.inl rfl) rfl rfl dX8_fail_10 ?_
  refine pw_iconst (pc := 13) (S := (sI (sI S x0 3 x1) x0 4 (pI (sI S x0 3 x1) x0 7))) (v := 0 ) C dX8_fail_13 (by decide) ?_
  exact pw_zret (pc := 14) (S := (sI (sI S x0 3 x1) x0 4 (pI (sI S x0 3 x1) x0 7))) C hr rfl h dX8_fail_14

abbrev rmX8_variableOf : Room := { frames := 0, cells := 0, slots := 0, locals := 0 }
theorem iX8_variableOf_X6 : ∀ w ∈ u_ws RX6 TX6 4, w ∈ wsX8_variableOf := fun _ h => List.mem_cons_of_mem _ (List.mem_append_right _ h)
theorem iX8_variableOf_X8 : ∀ w ∈ u_ws RX8 TX8 10, w ∈ wsX8_variableOf := by decide +kernel
def wpX8_variableOf_b2  (Q : Int32 → PS → Prop) : Nat → PS → Nat → Int32 → Int32 → Prop
  | 0 => fun _ _ _ _ => False
  | n + 1 => fun S x0 x1 x2 => (pK S x0 = 7 ∧ (∃ o2, pR S x0 5 = some o2 ∧ (pK S o2 = 5 ∧ (((pI S o2 1) ≤ x2 → (Q (-1 : Int32) S)) ∧ (¬ (pI S o2 1) ≤ x2 → (∃ o4, pR S x0 1 = some o4 ∧ (pK S o4 = 13 ∧ (((nI (pL S o4)) ≤ x2 → (Q (-1 : Int32) S)) ∧ (¬ (nI (pL S o4)) ≤ x2 → (vp_in x2 (pL S o4) ∧ ((¬ (pI S o4 (x2).toNatClampNeg) = x1 → (wpX8_variableOf_b2 Q n S x0 x1 (x2 + 1))) ∧ ((pI S o4 (x2).toNatClampNeg) = x1 → (Q x2 S)))))))))))))
def wpX8_variableOf (S : PS) (x0 : Nat) (x1 : Int32) (Q : Int32 → PS → Prop) : Prop := (∃ n9 : Nat, wpX8_variableOf_b2 Q n9 S x0 x1 (0 : Int32))
set_option maxRecDepth 100000 in
set_option maxHeartbeats 4000000 in
theorem cbX8_variableOf_b2 {p : Program} {l : Launch} {e : Env} {s : State} {m : MethodId} {args : Array Value} {below : List Frame} {meth : Method} {c : Code} {G : PG} {Q : Int32 → PS → Prop} (C : pCx p s m args meth c G cX8_variableOf 3 yX8_variableOf.cls wsX8_variableOf) (hr : meth.sig.returnType = (some .int)) (hin : meth.name = yX8_variableOf.name) (hZ : pZa G)  (n : Nat) : ∀ (S : PS) (x0 : Nat) (x1 : Int32) (x2 : Int32), wpX8_variableOf_b2  Q n S x0 x1 x2 → PW p l e rmX8_variableOf s m args below meth c (MQ below (va_Qi Q (pB G) (pFr G)) args s rmX8_variableOf.cells rmX8_variableOf.slots (pFr G)) G 3 S 0 0 [(0, .ref (G.2.2 + x0)), (1, .int x1), (2, .int x2)] 2 ([]) := by
  induction n with
  | zero => intro S x0 x1 x2 h; exact h.elim
  | succ n ih =>
    intro S x0 x1 x2 h
    unfold wpX8_variableOf_b2 at h
    refine pw_iload_n (pc := 2) C 2 dX8_variableOf_2 rfl rfl ?_
    refine pw_aload_n (pc := 3) C 0 dX8_variableOf_3 rfl rfl ?_
    obtain ⟨hk1, h⟩ := h
    obtain ⟨o2, ho2, h⟩ := h
    refine pw_getR (pc := 4) (ref := "SupportSolver$TextReader") (k := 5) (index := 32) C pCl6 iX8_variableOf_X8 hk1 rfl (by decide +kernel) (Or.inl rfl) (o := o2) ho2 dX8_variableOf_4 ?_
    obtain ⟨hk3, h⟩ := h
    refine pw_getI (pc := 7) (ref := "SupportSolver$Problem") (k := 1) (index := 79) C pCl4 iX8_variableOf_X6 hk3 rfl (by decide +kernel) (Or.inl rfl) dX8_variableOf_7 ?_
    refine pw_icmp_ge (pc := 10) (tgt := 40) C dX8_variableOf_10 rfl ⟨fun hc => ?_, fun hc => ?_⟩
    · replace h := h.1 hc
      refine pw_iconst (pc := 40) (v := (-1)) C dX8_variableOf_40 (by decide) ?_
      exact pw_iret (pc := 41) C hr h dX8_variableOf_41
    · replace h := h.2 hc
      refine pw_iload_n (pc := 13) C 2 dX8_variableOf_13 rfl rfl ?_
      refine pw_aload_n (pc := 14) C 0 dX8_variableOf_14 rfl rfl ?_
      obtain ⟨o4, ho4, h⟩ := h
      refine pw_getR (pc := 15) (ref := "SupportSolver$TextReader") (k := 1) (index := 15) C pCl6 iX8_variableOf_X8 hk1 rfl (by decide +kernel) (Or.inl rfl) (o := o4) ho4 dX8_variableOf_15 ?_
      obtain ⟨hk5, h⟩ := h
      refine pw_alen (pc := 18) C (κ := 13) hk5 (by decide) dX8_variableOf_18 ?_
      refine pw_icmp_ge (pc := 19) (tgt := 40) C dX8_variableOf_19 rfl ⟨fun hc => ?_, fun hc => ?_⟩
      · replace h := h.1 hc
        refine pw_iconst (pc := 40) (v := (-1)) C dX8_variableOf_40 (by decide) ?_
        exact pw_iret (pc := 41) C hr h dX8_variableOf_41
      · replace h := h.2 hc
        refine pw_aload_n (pc := 22) C 0 dX8_variableOf_22 rfl rfl ?_
        refine pw_getR (pc := 23) (ref := "SupportSolver$TextReader") (k := 1) (index := 15) C pCl6 iX8_variableOf_X8 hk1 rfl (by decide +kernel) (Or.inl rfl) (o := o4) ho4 dX8_variableOf_23 ?_
        refine pw_iload_n (pc := 26) C 2 dX8_variableOf_26 rfl rfl ?_
        obtain ⟨hi6, h⟩ := h
        refine pw_iald (pc := 27) C hk5 hi6 dX8_variableOf_27 ?_
        refine pw_iload_n (pc := 28) C 1 dX8_variableOf_28 rfl rfl ?_
        refine pw_icmp_ne (pc := 29) (tgt := 34) C dX8_variableOf_29 rfl ⟨fun hc => ?_, fun hc => ?_⟩
        · replace h := h.1 hc
          refine pw_iincK (pc := 34) (w := 1) C [(2, .int (x2 + 1)), (0, .ref (G.2.2 + x0)), (1, .int x1)] 2 dX8_variableOf_34 (by decide) rfl (by decide) rfl ?_
          refine pw_goto (pc := 37) (tgt := 2) C dX8_variableOf_37 rfl ?_
          refine pw_sub [1, 2, 0] (LV2 := [(0, .ref (G.2.2 + x0)), (1, .int x1), (2, .int (x2 + 1))]) rfl ?_
          exact ih _ _ _ _ h
        · replace h := h.2 hc
          refine pw_iload_n (pc := 32) C 2 dX8_variableOf_32 rfl rfl ?_
          exact pw_iret (pc := 33) C hr h dX8_variableOf_33
set_option maxRecDepth 100000 in
set_option maxHeartbeats 4000000 in
theorem ctX8_variableOf (l : Launch) (G : PG) (hZ : pZa G) (S : PS) (x0 : Nat) (x1 : Int32) (Q : Int32 → PS → Prop) (h : wpX8_variableOf S x0 x1 Q) : mI l yX8_variableOf wsX8_variableOf rmX8_variableOf G S [.ref (G.2.2 + x0), .int x1] Q := by
  unfold mI
  refine met_of (cc := cX8_variableOf) (maxL := 3) (ret := (some .int)) (by decide) rfl (Nat.le_of_ble_eq_true rfl) ?_
  intro p e s m args below meth c C hr hin
  unfold wpX8_variableOf at h
  show PW p l e _ s m args below meth c _ G 3 S 0 0 [(0, .ref (G.2.2 + x0)), (1, .int x1)] 0 []
  refine pw_iconst (pc := 0) (v := 0 ) C dX8_variableOf_0 (by decide) ?_
  refine pw_istore_n (pc := 1) C [(2, .int (0 : Int32)), (0, .ref (G.2.2 + x0)), (1, .int x1)] dX8_variableOf_1 rfl (by decide) rfl ?_
  refine pw_sub [1, 2, 0] (LV2 := [(0, .ref (G.2.2 + x0)), (1, .int x1), (2, .int (0 : Int32))]) rfl ?_
  obtain ⟨n9, h⟩ := h
  exact cbX8_variableOf_b2 C hr hin hZ  n9 _ _ _ _ h

abbrev rmX8_readNumber : Room := { frames := 3, cells := 0, slots := 0, locals := 63 }
theorem iX8_readNumber_X8 : ∀ w ∈ u_ws RX8 TX8 10, w ∈ wsX8_readNumber := fun _ h => List.mem_cons_of_mem _ (List.mem_append_right _ h)
def wpX8_readNumber_b32  (Q : Int32 → PS → Prop) (S : PS) (x0 : Nat) (x1 : Int32) (x2 : Int32) : Prop := (pK S x0 = 7 ∧ (wpX8_fail S x0 (2 : Int32) (fun r2 S3 => (Q (-1 : Int32) S3))))
def wpX8_readNumber (S : PS) (x0 : Nat) (x1 : Int32) (x2 : Int32) (Q : Int32 → PS → Prop) : Prop := (pK S x0 = 7 ∧ (((pI S x0 6) = (2 : Int32) → (((pI S x0 9) < x1 → (wpX8_readNumber_b32 Q S x0 x1 x2)) ∧ (¬ (pI S x0 9) < x1 → (((pI S x0 9) ≤ x2 → (wpX8_nextToken S x0 (fun S6 => (Q (pI S x0 9) S6)))) ∧ (¬ (pI S x0 9) ≤ x2 → (wpX8_readNumber_b32 Q S x0 x1 x2)))))) ∧ (¬ (pI S x0 6) = (2 : Int32) → (wpX8_fail S x0 (1 : Int32) (fun r7 S8 => (Q (-1 : Int32) S8))))))
set_option maxRecDepth 100000 in
set_option maxHeartbeats 4000000 in
theorem cbX8_readNumber_b32 {p : Program} {l : Launch} {e : Env} {s : State} {m : MethodId} {args : Array Value} {below : List Frame} {meth : Method} {c : Code} {G : PG} {Q : Int32 → PS → Prop} (C : pCx p s m args meth c G cX8_readNumber 4 yX8_readNumber.cls wsX8_readNumber) (hr : meth.sig.returnType = (some .int)) (hin : meth.name = yX8_readNumber.name) (hZ : pZa G)  : ∀ (S : PS) (x0 : Nat) (x1 : Int32) (x2 : Int32), wpX8_readNumber_b32  Q S x0 x1 x2 → PW p l e rmX8_readNumber s m args below meth c (MQ below (va_Qi Q (pB G) (pFr G)) args s rmX8_readNumber.cells rmX8_readNumber.slots (pFr G)) G 4 S 0 0 [(0, .ref (G.2.2 + x0)), (1, .int x1), (2, .int x2)] 32 ([]) := by
  intro S x0 x1 x2 h
  unfold wpX8_readNumber_b32 at h
  refine pw_aload_n (pc := 32) C 0 dX8_readNumber_32 rfl rfl ?_
  refine pw_iconst (pc := 33) (v := 2 ) C dX8_readNumber_33 (by decide) ?_
  obtain ⟨hk1, h⟩ := h
  refine pw_calli (pc := 34) (kc2 := 0) (kn2 := 0) (pRunV (pc := 34) C (ctX8_fail l G hZ  _ x0 (2 : Int32) _ h) (cwV 1 C.2.2.2.2.1 gX8_readNumber_X8_fail rfl rfl rfl (by decide +kernel) ⟨Nat.le_of_ble_eq_true rfl, Nat.le_of_ble_eq_true rfl⟩) pCl6 hk1 rfl rfl (Nat.le_of_ble_eq_true rfl) dX8_readNumber_34 ⟨Nat.le_of_ble_eq_true rfl, Nat.le_of_ble_eq_true rfl⟩) rfl rfl (fun r2 S3 h => ?_)
  refine pw_pop (pc := 37) C dX8_readNumber_37 rfl ?_
  refine pw_iconst (pc := 38) (v := (-1)) C dX8_readNumber_38 (by decide) ?_
  exact pw_iret (pc := 39) C hr h dX8_readNumber_39
set_option maxRecDepth 100000 in
set_option maxHeartbeats 4000000 in
theorem ctX8_readNumber (l : Launch) (G : PG) (hZ : pZa G) (S : PS) (x0 : Nat) (x1 : Int32) (x2 : Int32) (Q : Int32 → PS → Prop) (h : wpX8_readNumber S x0 x1 x2 Q) : mI l yX8_readNumber wsX8_readNumber rmX8_readNumber G S [.ref (G.2.2 + x0), .int x1, .int x2] Q := by
  unfold mI
  refine met_of (cc := cX8_readNumber) (maxL := 4) (ret := (some .int)) (by decide) rfl (Nat.le_of_ble_eq_true rfl) ?_
  intro p e s m args below meth c C hr hin
  unfold wpX8_readNumber at h
  show PW p l e _ s m args below meth c _ G 4 S 0 0 [(0, .ref (G.2.2 + x0)), (1, .int x1), (2, .int x2)] 0 []
  refine pw_aload_n (pc := 0) C 0 dX8_readNumber_0 rfl rfl ?_
  obtain ⟨hk4, h⟩ := h
  refine pw_getI (pc := 1) (ref := "SupportSolver$TextReader") (k := 6) (index := 36) C pCl6 iX8_readNumber_X8 hk4 rfl (by decide +kernel) (Or.inl rfl) dX8_readNumber_1 ?_
  refine pw_iconst (pc := 4) (v := 2 ) C dX8_readNumber_4 (by decide) ?_
  refine pw_icmp_eq (pc := 5) (tgt := 16) C dX8_readNumber_5 rfl ⟨fun hc => ?_, fun hc => ?_⟩
  · replace h := h.1 hc
    refine pw_aload_n (pc := 16) C 0 dX8_readNumber_16 rfl rfl ?_
    refine pw_getI (pc := 17) (ref := "SupportSolver$TextReader") (k := 9) (index := 45) C pCl6 iX8_readNumber_X8 hk4 rfl (by decide +kernel) (Or.inl rfl) dX8_readNumber_17 ?_
    refine pw_iload_n (pc := 20) C 1 dX8_readNumber_20 rfl rfl ?_
    refine pw_icmp_lt (pc := 21) (tgt := 32) C dX8_readNumber_21 rfl ⟨fun hc => ?_, fun hc => ?_⟩
    · replace h := h.1 hc
      exact cbX8_readNumber_b32 C hr hin hZ  _ _ _ _ h
    · replace h := h.2 hc
      refine pw_aload_n (pc := 24) C 0 dX8_readNumber_24 rfl rfl ?_
      refine pw_getI (pc := 25) (ref := "SupportSolver$TextReader") (k := 9) (index := 45) C pCl6 iX8_readNumber_X8 hk4 rfl (by decide +kernel) (Or.inl rfl) dX8_readNumber_25 ?_
      refine pw_iload_n (pc := 28) C 2 dX8_readNumber_28 rfl rfl ?_
      refine pw_icmp_le (pc := 29) (tgt := 40) C dX8_readNumber_29 rfl ⟨fun hc => ?_, fun hc => ?_⟩
      · replace h := h.1 hc
        refine pw_aload_n (pc := 40) C 0 dX8_readNumber_40 rfl rfl ?_
        refine pw_getI (pc := 41) (ref := "SupportSolver$TextReader") (k := 9) (index := 45) C pCl6 iX8_readNumber_X8 hk4 rfl (by decide +kernel) (Or.inl rfl) dX8_readNumber_41 ?_
        refine pw_istore_n (pc := 44) C [(3, .int (pI S x0 9)), (0, .ref (G.2.2 + x0)), (1, .int x1), (2, .int x2)] dX8_readNumber_44 rfl (by decide) rfl ?_
        refine pw_aload_n (pc := 45) C 1 dX8_readNumber_45 rfl rfl ?_
        refine pw_callv (pc := 46) (kc2 := 0) (kn2 := 0) (pRunV (pc := 46) C (ctX8_nextToken l G hZ  _ x0 _ h) (cwV 0 C.2.2.2.2.1 gX8_readNumber_X8_nextToken rfl rfl rfl (by decide +kernel) ⟨Nat.le_of_ble_eq_true rfl, Nat.le_of_ble_eq_true rfl⟩) pCl6 hk4 rfl rfl (Nat.le_of_ble_eq_true rfl) dX8_readNumber_46 ⟨Nat.le_of_ble_eq_true rfl, Nat.le_of_ble_eq_true rfl⟩) rfl rfl (fun S6 h => ?_)
        refine pw_iload_n (pc := 49) C 0 dX8_readNumber_49 rfl rfl ?_
        exact pw_iret (pc := 50) C hr h dX8_readNumber_50
      · replace h := h.2 hc
        exact cbX8_readNumber_b32 C hr hin hZ  _ _ _ _ h
  · replace h := h.2 hc
    refine pw_aload_n (pc := 8) C 0 dX8_readNumber_8 rfl rfl ?_
    refine pw_iconst (pc := 9) (v := 1 ) C dX8_readNumber_9 (by decide) ?_
    refine pw_calli (pc := 10) (kc2 := 0) (kn2 := 0) (pRunV (pc := 10) C (ctX8_fail l G hZ  _ x0 (1 : Int32) _ h) (cwV 1 C.2.2.2.2.1 gX8_readNumber_X8_fail rfl rfl rfl (by decide +kernel) ⟨Nat.le_of_ble_eq_true rfl, Nat.le_of_ble_eq_true rfl⟩) pCl6 hk4 rfl rfl (Nat.le_of_ble_eq_true rfl) dX8_readNumber_10 ⟨Nat.le_of_ble_eq_true rfl, Nat.le_of_ble_eq_true rfl⟩) rfl rfl (fun r7 S8 h => ?_)
    refine pw_pop (pc := 13) C dX8_readNumber_13 rfl ?_
    refine pw_iconst (pc := 14) (v := (-1)) C dX8_readNumber_14 (by decide) ?_
    exact pw_iret (pc := 15) C hr h dX8_readNumber_15

abbrev rmX8_readSemicolon : Room := { frames := 3, cells := 0, slots := 0, locals := 63 }
theorem iX8_readSemicolon_X8 : ∀ w ∈ u_ws RX8 TX8 10, w ∈ wsX8_readSemicolon := fun _ h => List.mem_cons_of_mem _ (List.mem_append_right _ h)
def wpX8_readSemicolon (S : PS) (x0 : Nat) (Q : Int32 → PS → Prop) : Prop := (pK S x0 = 7 ∧ (((pI S x0 6) = (3 : Int32) → (wpX8_nextToken S x0 (fun S3 => (Q (1 : Int32) S3)))) ∧ (¬ (pI S x0 6) = (3 : Int32) → (wpX8_fail S x0 (1 : Int32) (fun r4 S5 => ((r4 = 0 ∨ r4 = 1) ∧ (Q r4 S5)))))))
set_option maxRecDepth 100000 in
set_option maxHeartbeats 4000000 in
theorem ctX8_readSemicolon (l : Launch) (G : PG) (hZ : pZa G) (S : PS) (x0 : Nat) (Q : Int32 → PS → Prop) (h : wpX8_readSemicolon S x0 Q) : mI l yX8_readSemicolon wsX8_readSemicolon rmX8_readSemicolon G S [.ref (G.2.2 + x0)] Q := by
  unfold mI
  refine met_of (cc := cX8_readSemicolon) (maxL := 1) (ret := (some .boolean)) (by decide) rfl (Nat.le_of_ble_eq_true rfl) ?_
  intro p e s m args below meth c C hr hin
  unfold wpX8_readSemicolon at h
  show PW p l e _ s m args below meth c _ G 1 S 0 0 [(0, .ref (G.2.2 + x0))] 0 []
  refine pw_aload_n (pc := 0) C 0 dX8_readSemicolon_0 rfl rfl ?_
  obtain ⟨hk1, h⟩ := h
  refine pw_getI (pc := 1) (ref := "SupportSolver$TextReader") (k := 6) (index := 36) C pCl6 iX8_readSemicolon_X8 hk1 rfl (by decide +kernel) (Or.inl rfl) dX8_readSemicolon_1 ?_
  refine pw_iconst (pc := 4) (v := 3 ) C dX8_readSemicolon_4 (by decide) ?_
  refine pw_icmp_eq (pc := 5) (tgt := 14) C dX8_readSemicolon_5 rfl ⟨fun hc => ?_, fun hc => ?_⟩
  · replace h := h.1 hc
    refine pw_aload_n (pc := 14) C 0 dX8_readSemicolon_14 rfl rfl ?_
    refine pw_callv (pc := 15) (kc2 := 0) (kn2 := 0) (pRunV (pc := 15) C (ctX8_nextToken l G hZ  _ x0 _ h) (cwV 0 C.2.2.2.2.1 gX8_readSemicolon_X8_nextToken rfl rfl rfl (by decide +kernel) ⟨Nat.le_of_ble_eq_true rfl, Nat.le_of_ble_eq_true rfl⟩) pCl6 hk1 rfl rfl (Nat.le_of_ble_eq_true rfl) dX8_readSemicolon_15 ⟨Nat.le_of_ble_eq_true rfl, Nat.le_of_ble_eq_true rfl⟩) rfl rfl (fun S3 h => ?_)
    refine pw_iconst (pc := 18) (v := 1 ) C dX8_readSemicolon_18 (by decide) ?_
    exact pw_zret (pc := 19) C hr rfl h dX8_readSemicolon_19
  · replace h := h.2 hc
    refine pw_aload_n (pc := 8) C 0 dX8_readSemicolon_8 rfl rfl ?_
    refine pw_iconst (pc := 9) (v := 1 ) C dX8_readSemicolon_9 (by decide) ?_
    refine pw_calli (pc := 10) (kc2 := 0) (kn2 := 0) (pRunV (pc := 10) C (ctX8_fail l G hZ  _ x0 (1 : Int32) _ h) (cwV 1 C.2.2.2.2.1 gX8_readSemicolon_X8_fail rfl rfl rfl (by decide +kernel) ⟨Nat.le_of_ble_eq_true rfl, Nat.le_of_ble_eq_true rfl⟩) pCl6 hk1 rfl rfl (Nat.le_of_ble_eq_true rfl) dX8_readSemicolon_10 ⟨Nat.le_of_ble_eq_true rfl, Nat.le_of_ble_eq_true rfl⟩) rfl rfl (fun r4 S5 h => ?_)
    obtain ⟨hb6, h⟩ := h
    exact pw_zret (pc := 13) C hr (nar_bool hb6) h dX8_readSemicolon_13

abbrev rmX10_init : Room := { frames := 2, cells := 0, slots := 0, locals := 41 }
theorem iX10_init_X10 : ∀ w ∈ u_ws RX10 TX10 8, w ∈ wsX10_init := by decide +kernel
def wpX10_init (S : PS) (x0 : Nat) (x1 : Int32) (x2 : Int32) (x3 : Int32) (x4 : Int32) (Q : PS → Prop) : Prop := (wpX1_init S x0 (1 : Int32) (fun S2 => (pK S2 x0 = 9 ∧ (Q (sI (sI (sI (sI S2 x0 4 x1) x0 5 x2) x0 6 x3) x0 7 x4)))))
set_option maxRecDepth 100000 in
set_option maxHeartbeats 4000000 in
theorem ctX10_init (l : Launch) (G : PG) (hZ : pZa G) (S : PS) (x0 : Nat) (x1 : Int32) (x2 : Int32) (x3 : Int32) (x4 : Int32) (Q : PS → Prop) (h : wpX10_init S x0 x1 x2 x3 x4 Q) : mV l yX10_init wsX10_init rmX10_init G S [.ref (G.2.2 + x0), .int x1, .int x2, .int x3, .int x4] Q := by
  unfold mV
  refine met_of (cc := cX10_init) (maxL := 5) (ret := none) (by decide) rfl (Nat.le_of_ble_eq_true rfl) ?_
  intro p e s m args below meth c C hr hin
  unfold wpX10_init at h
  show PW p l e _ s m args below meth c _ G 5 S 0 0 [(0, .ref (G.2.2 + x0)), (1, .int x1), (2, .int x2), (3, .int x3), (4, .int x4)] 0 []
  refine pw_aload_n (pc := 0) C 0 dX10_init_0 rfl rfl ?_
  refine pw_iconst (pc := 1) (v := 1 ) C dX10_init_1 (by decide) ?_
  refine pw_callv (pc := 2) (kc2 := 0) (kn2 := 0) (pRunI (pc := 2) C (ctX1_init l G hZ  _ x0 (1 : Int32) _ h) (cwI 1 C.2.2.2.2.1 gX10_init_X1_init rfl rfl rfl (C.2.2.2.2.1 (.initialized RX1) (by decide +kernel)) (C.2.2.2.2.1 (.methodLink RX10 5 yX1_init) (by decide +kernel)) (C.2.2.2.2.1 (.instanceMethod yX1_init) (by decide +kernel)) rfl (by decide +kernel) ⟨Nat.le_of_ble_eq_true rfl, Nat.le_of_ble_eq_true rfl⟩) rfl rfl (Nat.le_of_ble_eq_true rfl) dX10_init_2 ⟨Nat.le_of_ble_eq_true rfl, Nat.le_of_ble_eq_true rfl⟩) rfl rfl (fun S2 h => ?_)
  refine pw_aload_n (pc := 5) C 0 dX10_init_5 rfl rfl ?_
  refine pw_iload_n (pc := 6) C 1 dX10_init_6 rfl rfl ?_
  obtain ⟨hk3, h⟩ := h
  refine pw_putI (pc := 7) (ref := "SupportSolver$Window") (k := 4) (index := 9) C pCl8 iX10_init_X10 hk3 rfl (by decide +kernel) (Or.inl rfl) (Or.inr ⟨rfl, hin, rfl, rfl⟩) rfl rfl dX10_init_7 ?_
  refine pw_aload_n (pc := 10) (S := (sI S2 x0 4 x1)) C 0 dX10_init_10 rfl rfl ?_
  refine pw_iload_n (pc := 11) (S := (sI S2 x0 4 x1)) C 2 dX10_init_11 rfl rfl ?_
  refine pw_putI (pc := 12) (S := (sI S2 x0 4 x1)) (ref := "SupportSolver$Window") (k := 5) (index := 15) C pCl8 iX10_init_X10 hk3 rfl (by decide +kernel) (Or.inl rfl) (Or.inr ⟨rfl, hin, rfl, rfl⟩) rfl rfl dX10_init_12 ?_
  refine pw_aload_n (pc := 15) (S := (sI (sI S2 x0 4 x1) x0 5 x2)) C 0 dX10_init_15 rfl rfl ?_
  refine pw_iload_n (pc := 16) (S := (sI (sI S2 x0 4 x1) x0 5 x2)) C 3 dX10_init_16 rfl rfl ?_
  refine pw_putI (pc := 17) (S := (sI (sI S2 x0 4 x1) x0 5 x2)) (ref := "SupportSolver$Window") (k := 6) (index := 18) C pCl8 iX10_init_X10 hk3 rfl (by decide +kernel) (Or.inl rfl) (Or.inr ⟨rfl, hin, rfl, rfl⟩) rfl rfl dX10_init_17 ?_
  refine pw_aload_n (pc := 20) (S := (sI (sI (sI S2 x0 4 x1) x0 5 x2) x0 6 x3)) C 0 dX10_init_20 rfl rfl ?_
  refine pw_iload (pc := 21) (S := (sI (sI (sI S2 x0 4 x1) x0 5 x2) x0 6 x3)) C 4 dX10_init_21 rfl ?_
  refine pw_putI (pc := 23) (S := (sI (sI (sI S2 x0 4 x1) x0 5 x2) x0 6 x3)) (ref := "SupportSolver$Window") (k := 7) (index := 21) C pCl8 iX10_init_X10 hk3 rfl (by decide +kernel) (Or.inl rfl) (Or.inr ⟨rfl, hin, rfl, rfl⟩) rfl rfl dX10_init_23 ?_
  exact pw_vret (pc := 26) (S := (sI (sI (sI (sI S2 x0 4 x1) x0 5 x2) x0 6 x3) x0 7 x4)) C hr h dX10_init_26

abbrev rmX9_init : Room := { frames := 2, cells := 74, slots := 546, locals := 40 }
theorem iX9_init_X3 : ∀ w ∈ u_ws RX3 TX3 7, w ∈ wsX9_init := fun _ h => List.mem_cons_of_mem _ (List.mem_append_right _ h)
theorem iX9_init_X9 : ∀ w ∈ u_ws RX9 TX9 6, w ∈ wsX9_init := by decide +kernel
def wpX9_init_b43  (Q : PS → Prop) : Nat → PS → Nat → Int32 → Prop
  | 0 => fun _ _ _ => False
  | n + 1 => fun S x0 x1 => (pK S x0 = 8 ∧ (∃ o2, pR S x0 0 = some o2 ∧ (pK S o2 = 17 ∧ (((nI (pL S o2)) ≤ x1 → (Q S)) ∧ (¬ (nI (pL S o2)) ≤ x1 → (∀ a4 S5, a4 = pN S → S5 = sNew S 3 0 → (wpX3_init S5 a4 (fun S8 => (pK S8 o2 = 17 ∧ (vp_in x1 (pL S8 o2) ∧ (pK S8 a4 = 3 ∧ (wpX9_init_b43 Q n (sR S8 o2 (x1).toNatClampNeg (some a4)) x0 (x1 + 1)))))))))))))
def wpX9_init (S : PS) (x0 : Nat) (Q : PS → Prop) : Prop := (∀ a12 S13, a12 = pN S → S13 = sNew S 17 35 → (pK S13 x0 = 8 ∧ (∀ a16 S17, a16 = pN (sR S13 x0 0 (some a12)) → S17 = sNew (sR S13 x0 0 (some a12)) 14 7 → (pK S17 x0 = 8 ∧ (wpX9_init_b43 Q 36 (sJ (sI (sI (sI (sR S17 x0 1 (some a16)) x0 2 (0 : Int32)) x0 3 (0 : Int32)) x0 4 (0 : Int32)) x0 5 (0 : Int64)) x0 (0 : Int32))))))
set_option maxRecDepth 100000 in
set_option maxHeartbeats 4000000 in
theorem cbX9_init_b43 {p : Program} {l : Launch} {e : Env} {s : State} {m : MethodId} {args : Array Value} {below : List Frame} {meth : Method} {c : Code} {G : PG} {Q : PS → Prop} (C : pCx p s m args meth c G cX9_init 2 yX9_init.cls wsX9_init) (hr : meth.sig.returnType = none) (hin : meth.name = yX9_init.name) (hZ : pZa G)  (n : Nat) : n ≤ 36 → ∀ (S : PS) (x0 : Nat) (x1 : Int32), wpX9_init_b43  Q n S x0 x1 → PW p l e rmX9_init s m args below meth c (MQ below (va_Qv Q (pB G) (pFr G)) args s rmX9_init.cells rmX9_init.slots (pFr G)) G 2 S (2 + (36 - n) * 1 + 0) (42 + (36 - n) * 7 + 0) [(0, .ref (G.2.2 + x0)), (1, .int x1)] 43 ([]) := by
  induction n with
  | zero => intro hn9 S x0 x1 h; exact h.elim
  | succ n ih =>
    intro hn9 S x0 x1 h
    unfold wpX9_init_b43 at h
    refine pw_iload_n (pc := 43) C 1 dX9_init_43 rfl rfl ?_
    refine pw_aload_n (pc := 44) C 0 dX9_init_44 rfl rfl ?_
    obtain ⟨hk1, h⟩ := h
    obtain ⟨o2, ho2, h⟩ := h
    refine pw_getR (pc := 45) (ref := "SupportSolver$Trail") (k := 0) (index := 11) C pCl7 iX9_init_X9 hk1 rfl (by decide +kernel) (Or.inl rfl) (o := o2) ho2 dX9_init_45 ?_
    obtain ⟨hk3, h⟩ := h
    refine pw_alen (pc := 48) C (κ := 17) hk3 (by decide) dX9_init_48 ?_
    refine pw_icmp_ge (pc := 49) (tgt := 71) C dX9_init_49 rfl ⟨fun hc => ?_, fun hc => ?_⟩
    · replace h := h.1 hc
      refine pw_widen (k2 := 74) (n2 := 546) (by omega) (by omega) ?_
      exact pw_vret (pc := 71) C hr h dX9_init_71
    · replace h := h.2 hc
      refine pw_aload_n (pc := 52) C 0 dX9_init_52 rfl rfl ?_
      refine pw_getR (pc := 53) (ref := "SupportSolver$Trail") (k := 0) (index := 11) C pCl7 iX9_init_X9 hk1 rfl (by decide +kernel) (Or.inl rfl) (o := o2) ho2 dX9_init_53 ?_
      refine pw_iload_n (pc := 56) C 1 dX9_init_56 rfl rfl ?_
      refine pw_new (pc := 57) (kc2 := (2 + (36 - (n + 1)) * 1 + 1)) (kn2 := (42 + (36 - (n + 1)) * 7 + 7)) C pCl2 iX9_init_X3 (by decide +kernel) (by decide +kernel) (by decide +kernel) rfl rfl (by show _ ≤ _; first | omega | (simp only []; omega)) (by show _ ≤ _; first | omega | (simp only []; omega)) dX9_init_57 ?_
      obtain ⟨a4, ea4⟩ : ∃ q, q = pN S := ⟨_, rfl⟩
      obtain ⟨S5, eS5⟩ : ∃ q, q = sNew S 3 0 := ⟨_, rfl⟩
      rw [← ea4, ← eS5]
      replace h := h a4 S5 ea4 eS5
      have hk6 : pK S5 a4 = 3 := by rw [eS5, ea4, pK_sNew, if_pos rfl]
      refine pw_dup (pc := 60) C dX9_init_60 rfl ?_
      refine pw_callv (pc := 61) (kc2 := (2 + (36 - (n + 1)) * 1 + 1)) (kn2 := (42 + (36 - (n + 1)) * 7 + 7)) (pRunIN (pc := 61) C (ctX3_init l G hZ  _ a4 _ h) 0 gX9_init_X3_init_n35 rfl (hZ.2.2.2.1) (by decide +kernel) rfl (by decide +kernel) (by decide +kernel) ⟨Nat.le_of_ble_eq_true rfl, Nat.le_of_ble_eq_true rfl⟩ rfl rfl (Nat.le_of_ble_eq_true rfl) dX9_init_61 ⟨by show _ ≤ _; first | omega | (simp only []; omega), by show _ ≤ _; first | omega | (simp only []; omega)⟩) rfl rfl (fun S8 h => ?_)
      obtain ⟨hk9, h⟩ := h
      obtain ⟨hi10, h⟩ := h
      obtain ⟨hk11, h⟩ := h
      refine pw_aast (pc := 64) (i0 := 5) C (Or.inr rfl) hk9 rfl hi10 pCl2 hk11 (hZ.2.2.2.2.2.2.2.2.2.2.2.2.2.2.2.2.1) dX9_init_64 ?_
      refine pw_iincK (pc := 65) (S := (sR S8 o2 (x1).toNatClampNeg (some a4))) (w := 1) C [(1, .int (x1 + 1)), (0, .ref (G.2.2 + x0))] 1 dX9_init_65 (by decide) rfl (by decide) rfl ?_
      refine pw_goto (pc := 68) (S := (sR S8 o2 (x1).toNatClampNeg (some a4))) (tgt := 43) C dX9_init_68 rfl ?_
      refine pw_sub [1, 0] (LV2 := [(0, .ref (G.2.2 + x0)), (1, .int (x1 + 1))]) rfl ?_
      refine pw_widen (k2 := (2 + (36 - n) * 1 + 0)) (n2 := (42 + (36 - n) * 7 + 0)) (by omega) (by omega) ?_
      exact ih (by omega) _ _ _ h
set_option maxRecDepth 100000 in
set_option maxHeartbeats 4000000 in
theorem ctX9_init (l : Launch) (G : PG) (hZ : pZa G) (S : PS) (x0 : Nat) (Q : PS → Prop) (h : wpX9_init S x0 Q) : mV l yX9_init wsX9_init rmX9_init G S [.ref (G.2.2 + x0)] Q := by
  unfold mV
  refine met_of (cc := cX9_init) (maxL := 2) (ret := none) (by decide) rfl (Nat.le_of_ble_eq_true rfl) ?_
  intro p e s m args below meth c C hr hin
  unfold wpX9_init at h
  show PW p l e _ s m args below meth c _ G 2 S 0 0 [(0, .ref (G.2.2 + x0))] 0 []
  refine pw_aload_n (pc := 0) C 0 dX9_init_0 rfl rfl ?_
  refine pw_objInit (pc := 1) C (by decide +kernel) (by decide +kernel) (by decide +kernel) (Nat.le_of_ble_eq_true rfl) (Nat.le_of_ble_eq_true rfl) (Nat.le_of_ble_eq_true rfl) dX9_init_1 ?_
  refine pw_aload_n (pc := 4) C 0 dX9_init_4 rfl rfl ?_
  refine pw_bipush (pc := 5) (v := 35 ) C dX9_init_5 (by decide) ?_
  refine pw_anew (pc := 7) (CN := "SupportSolver$Fact") (κ := 17) (i := 5) (N := 35) (kc2 := 1) (kn2 := 35) C (by decide) rfl (hZ.2.2.2.2.2.2.2.2.2.2.2.2.2.2.1) (by decide +kernel) (by decide) rfl (Nat.le_of_ble_eq_true rfl) rfl rfl (Nat.le_of_ble_eq_true rfl) (Nat.le_of_ble_eq_true rfl) dX9_init_7 ?_
  obtain ⟨a12, ea12⟩ : ∃ q, q = pN S := ⟨_, rfl⟩
  obtain ⟨S13, eS13⟩ : ∃ q, q = sNew S 17 35 := ⟨_, rfl⟩
  rw [← ea12, ← eS13]
  replace h := h a12 S13 ea12 eS13
  have hk14 : pK S13 a12 = 17 := by rw [eS13, ea12, pK_sNew, if_pos rfl]
  obtain ⟨hk15, h⟩ := h
  refine pw_putR (pc := 10) (ref := "SupportSolver$Trail") (k := 0) (index := 11) C pCl7 iX9_init_X9 hk15 rfl (by decide +kernel) (Or.inl rfl) (o := a12) (Or.inr ⟨rfl, hin, rfl, rfl⟩) rfl rfl dX9_init_10 ?_
  refine pw_aload_n (pc := 13) (S := (sR S13 x0 0 (some a12))) C 0 dX9_init_13 rfl rfl ?_
  refine pw_bipush (pc := 14) (S := (sR S13 x0 0 (some a12))) (v := 7 ) C dX9_init_14 (by decide) ?_
  refine pw_newaJ (pc := 16) (S := (sR S13 x0 0 (some a12))) (N := 7) (kc2 := 2) (kn2 := 42) C (by decide +kernel) (by decide) rfl (Nat.le_of_ble_eq_true rfl) rfl rfl (Nat.le_of_ble_eq_true rfl) (Nat.le_of_ble_eq_true rfl) dX9_init_16 ?_
  obtain ⟨a16, ea16⟩ : ∃ q, q = pN (sR S13 x0 0 (some a12)) := ⟨_, rfl⟩
  obtain ⟨S17, eS17⟩ : ∃ q, q = sNew (sR S13 x0 0 (some a12)) 14 7 := ⟨_, rfl⟩
  rw [← ea16, ← eS17]
  replace h := h a16 S17 ea16 eS17
  have hk18 : pK S17 a16 = 14 := by rw [eS17, ea16, pK_sNew, if_pos rfl]
  obtain ⟨hk19, h⟩ := h
  refine pw_putR (pc := 18) (ref := "SupportSolver$Trail") (k := 1) (index := 17) C pCl7 iX9_init_X9 hk19 rfl (by decide +kernel) (Or.inl rfl) (o := a16) (Or.inr ⟨rfl, hin, rfl, rfl⟩) rfl rfl dX9_init_18 ?_
  refine pw_aload_n (pc := 21) (S := (sR S17 x0 1 (some a16))) C 0 dX9_init_21 rfl rfl ?_
  refine pw_iconst (pc := 22) (S := (sR S17 x0 1 (some a16))) (v := 0 ) C dX9_init_22 (by decide) ?_
  refine pw_putI (pc := 23) (S := (sR S17 x0 1 (some a16))) (ref := "SupportSolver$Trail") (k := 2) (index := 21) C pCl7 iX9_init_X9 hk19 rfl (by decide +kernel) (Or.inl rfl) (Or.inl rfl) rfl rfl dX9_init_23 ?_
  refine pw_aload_n (pc := 26) (S := (sI (sR S17 x0 1 (some a16)) x0 2 (0 : Int32))) C 0 dX9_init_26 rfl rfl ?_
  refine pw_iconst (pc := 27) (S := (sI (sR S17 x0 1 (some a16)) x0 2 (0 : Int32))) (v := 0 ) C dX9_init_27 (by decide) ?_
  refine pw_putI (pc := 28) (S := (sI (sR S17 x0 1 (some a16)) x0 2 (0 : Int32))) (ref := "SupportSolver$Trail") (k := 3) (index := 25) C pCl7 iX9_init_X9 hk19 rfl (by decide +kernel) (Or.inl rfl) (Or.inl rfl) rfl rfl dX9_init_28 ?_
  refine pw_aload_n (pc := 31) (S := (sI (sI (sR S17 x0 1 (some a16)) x0 2 (0 : Int32)) x0 3 (0 : Int32))) C 0 dX9_init_31 rfl rfl ?_
  refine pw_iconst (pc := 32) (S := (sI (sI (sR S17 x0 1 (some a16)) x0 2 (0 : Int32)) x0 3 (0 : Int32))) (v := 0 ) C dX9_init_32 (by decide) ?_
  refine pw_putI (pc := 33) (S := (sI (sI (sR S17 x0 1 (some a16)) x0 2 (0 : Int32)) x0 3 (0 : Int32))) (ref := "SupportSolver$Trail") (k := 4) (index := 28) C pCl7 iX9_init_X9 hk19 rfl (by decide +kernel) (Or.inl rfl) (Or.inl rfl) rfl rfl dX9_init_33 ?_
  refine pw_aload_n (pc := 36) (S := (sI (sI (sI (sR S17 x0 1 (some a16)) x0 2 (0 : Int32)) x0 3 (0 : Int32)) x0 4 (0 : Int32))) C 0 dX9_init_36 rfl rfl ?_
  refine pw_lconst (pc := 37) (S := (sI (sI (sI (sR S17 x0 1 (some a16)) x0 2 (0 : Int32)) x0 3 (0 : Int32)) x0 4 (0 : Int32))) (v := 0) C dX9_init_37 (by decide) ?_
  refine pw_putJ (pc := 38) (S := (sI (sI (sI (sR S17 x0 1 (some a16)) x0 2 (0 : Int32)) x0 3 (0 : Int32)) x0 4 (0 : Int32))) (ref := "SupportSolver$Trail") (k := 5) (index := 31) C pCl7 iX9_init_X9 hk19 rfl (by decide +kernel) (Or.inl rfl) (Or.inl rfl) rfl rfl dX9_init_38 ?_
  refine pw_iconst (pc := 41) (S := (sJ (sI (sI (sI (sR S17 x0 1 (some a16)) x0 2 (0 : Int32)) x0 3 (0 : Int32)) x0 4 (0 : Int32)) x0 5 (0 : Int64))) (v := 0 ) C dX9_init_41 (by decide) ?_
  refine pw_istore_n (pc := 42) (S := (sJ (sI (sI (sI (sR S17 x0 1 (some a16)) x0 2 (0 : Int32)) x0 3 (0 : Int32)) x0 4 (0 : Int32)) x0 5 (0 : Int64))) C [(1, .int (0 : Int32)), (0, .ref (G.2.2 + x0))] dX9_init_42 rfl (by decide) rfl ?_
  refine pw_sub [1, 0] (LV2 := [(0, .ref (G.2.2 + x0)), (1, .int (0 : Int32))]) rfl ?_
  exact cbX9_init_b43 C hr hin hZ  36 (Nat.le_refl _) _ _ _ h

abbrev rmX9_begin : Room := { frames := 0, cells := 0, slots := 0, locals := 0 }
theorem iX9_begin_X9 : ∀ w ∈ u_ws RX9 TX9 6, w ∈ wsX9_begin := fun _ h => List.mem_cons_of_mem _ (List.mem_append_right _ h)
def wpX9_begin (S : PS) (x0 : Nat) (x1 : Int32) (x2 : Int64) (Q : PS → Prop) : Prop := (pK S x0 = 8 ∧ (Q (sJ (sI (sI (sI S x0 2 x1) x0 3 (0 : Int32)) x0 4 (0 : Int32)) x0 5 x2)))
set_option maxRecDepth 100000 in
set_option maxHeartbeats 4000000 in
theorem ctX9_begin (l : Launch) (G : PG) (hZ : pZa G) (S : PS) (x0 : Nat) (x1 : Int32) (x2 : Int64) (Q : PS → Prop) (h : wpX9_begin S x0 x1 x2 Q) : mV l yX9_begin wsX9_begin rmX9_begin G S [.ref (G.2.2 + x0), .int x1, .long x2] Q := by
  unfold mV
  refine met_of (cc := cX9_begin) (maxL := 4) (ret := none) (by decide) rfl (Nat.le_of_ble_eq_true rfl) ?_
  intro p e s m args below meth c C hr hin
  unfold wpX9_begin at h
  show PW p l e _ s m args below meth c _ G 4 S 0 0 [(0, .ref (G.2.2 + x0)), (1, .int x1), (2, .long x2)] 0 []
  refine pw_aload_n (pc := 0) C 0 dX9_begin_0 rfl rfl ?_
  refine pw_iload_n (pc := 1) C 1 dX9_begin_1 rfl rfl ?_
  obtain ⟨hk1, h⟩ := h
  refine pw_putI (pc := 2) (ref := "SupportSolver$Trail") (k := 2) (index := 21) C pCl7 iX9_begin_X9 hk1 rfl (by decide +kernel) (Or.inl rfl) (Or.inl rfl) rfl rfl dX9_begin_2 ?_
  refine pw_aload_n (pc := 5) (S := (sI S x0 2 x1)) C 0 dX9_begin_5 rfl rfl ?_
  refine pw_iconst (pc := 6) (S := (sI S x0 2 x1)) (v := 0 ) C dX9_begin_6 (by decide) ?_
  refine pw_putI (pc := 7) (S := (sI S x0 2 x1)) (ref := "SupportSolver$Trail") (k := 3) (index := 25) C pCl7 iX9_begin_X9 hk1 rfl (by decide +kernel) (Or.inl rfl) (Or.inl rfl) rfl rfl dX9_begin_7 ?_
  refine pw_aload_n (pc := 10) (S := (sI (sI S x0 2 x1) x0 3 (0 : Int32))) C 0 dX9_begin_10 rfl rfl ?_
  refine pw_iconst (pc := 11) (S := (sI (sI S x0 2 x1) x0 3 (0 : Int32))) (v := 0 ) C dX9_begin_11 (by decide) ?_
  refine pw_putI (pc := 12) (S := (sI (sI S x0 2 x1) x0 3 (0 : Int32))) (ref := "SupportSolver$Trail") (k := 4) (index := 28) C pCl7 iX9_begin_X9 hk1 rfl (by decide +kernel) (Or.inl rfl) (Or.inl rfl) rfl rfl dX9_begin_12 ?_
  refine pw_aload_n (pc := 15) (S := (sI (sI (sI S x0 2 x1) x0 3 (0 : Int32)) x0 4 (0 : Int32))) C 0 dX9_begin_15 rfl rfl ?_
  refine pw_lload_n (pc := 16) (S := (sI (sI (sI S x0 2 x1) x0 3 (0 : Int32)) x0 4 (0 : Int32))) C 2 dX9_begin_16 rfl rfl ?_
  refine pw_putJ (pc := 17) (S := (sI (sI (sI S x0 2 x1) x0 3 (0 : Int32)) x0 4 (0 : Int32))) (ref := "SupportSolver$Trail") (k := 5) (index := 31) C pCl7 iX9_begin_X9 hk1 rfl (by decide +kernel) (Or.inl rfl) (Or.inl rfl) rfl rfl dX9_begin_17 ?_
  exact pw_vret (pc := 20) (S := (sJ (sI (sI (sI S x0 2 x1) x0 3 (0 : Int32)) x0 4 (0 : Int32)) x0 5 x2)) C hr h dX9_begin_20

abbrev rmX9_hasFailed : Room := { frames := 2, cells := 0, slots := 0, locals := 42 }
theorem iX9_hasFailed_X9 : ∀ w ∈ u_ws RX9 TX9 6, w ∈ wsX9_hasFailed := fun _ h => List.mem_cons_of_mem _ (List.mem_append_right _ h)
def wpX9_hasFailed (S : PS) (x0 : Nat) (Q : Int32 → PS → Prop) : Prop := (pK S x0 = 8 ∧ (wpX5_variablesIn S (pJ S x0 5) (fun r2 S3 => (pK S3 x0 = 8 ∧ (((pI S3 x0 2) ≤ r2 → (Q (0 : Int32) S3)) ∧ (¬ (pI S3 x0 2) ≤ r2 → (Q (1 : Int32) S3)))))))
set_option maxRecDepth 100000 in
set_option maxHeartbeats 4000000 in
theorem ctX9_hasFailed (l : Launch) (G : PG) (hZ : pZa G) (S : PS) (x0 : Nat) (Q : Int32 → PS → Prop) (h : wpX9_hasFailed S x0 Q) : mI l yX9_hasFailed wsX9_hasFailed rmX9_hasFailed G S [.ref (G.2.2 + x0)] Q := by
  unfold mI
  refine met_of (cc := cX9_hasFailed) (maxL := 1) (ret := (some .boolean)) (by decide) rfl (Nat.le_of_ble_eq_true rfl) ?_
  intro p e s m args below meth c C hr hin
  unfold wpX9_hasFailed at h
  show PW p l e _ s m args below meth c _ G 1 S 0 0 [(0, .ref (G.2.2 + x0))] 0 []
  refine pw_aload_n (pc := 0) C 0 dX9_hasFailed_0 rfl rfl ?_
  obtain ⟨hk1, h⟩ := h
  refine pw_getJ (pc := 1) (ref := "SupportSolver$Trail") (k := 5) (index := 31) C pCl7 iX9_hasFailed_X9 hk1 rfl (by decide +kernel) (Or.inl rfl) dX9_hasFailed_1 ?_
  refine pw_calli (pc := 4) (kc2 := 0) (kn2 := 0) (pRunS (pc := 4) C (ctX5_variablesIn l G hZ  _ (pJ S x0 5) _ h) (va_cwS 1 C.2.2.2.2.1 gX9_hasFailed_X5_variablesIn rfl rfl rfl (by decide +kernel) ⟨Nat.le_of_ble_eq_true rfl, Nat.le_of_ble_eq_true rfl⟩) rfl rfl (Nat.le_of_ble_eq_true rfl) dX9_hasFailed_4 ⟨Nat.le_of_ble_eq_true rfl, Nat.le_of_ble_eq_true rfl⟩) rfl rfl (fun r2 S3 h => ?_)
  refine pw_aload_n (pc := 7) C 0 dX9_hasFailed_7 rfl rfl ?_
  obtain ⟨hk4, h⟩ := h
  refine pw_getI (pc := 8) (ref := "SupportSolver$Trail") (k := 2) (index := 21) C pCl7 iX9_hasFailed_X9 hk4 rfl (by decide +kernel) (Or.inl rfl) dX9_hasFailed_8 ?_
  refine pw_icmp_ge (pc := 11) (tgt := 18) C dX9_hasFailed_11 rfl ⟨fun hc => ?_, fun hc => ?_⟩
  · replace h := h.1 hc
    refine pw_iconst (pc := 18) (v := 0 ) C dX9_hasFailed_18 (by decide) ?_
    exact pw_zret (pc := 19) C hr rfl h dX9_hasFailed_19
  · replace h := h.2 hc
    refine pw_iconst (pc := 14) (v := 1 ) C dX9_hasFailed_14 (by decide) ?_
    refine pw_goto (pc := 15) (tgt := 19) C dX9_hasFailed_15 rfl ?_
    exact pw_zret (pc := 19) C hr rfl h dX9_hasFailed_19

abbrev rmX9_factAt : Room := { frames := 0, cells := 0, slots := 0, locals := 0 }
theorem iX9_factAt_X9 : ∀ w ∈ u_ws RX9 TX9 6, w ∈ wsX9_factAt := fun _ h => List.mem_cons_of_mem _ (List.mem_append_right _ h)
def wpX9_factAt (S : PS) (x0 : Nat) (x1 : Int32) (Q : Option Nat → PS → Prop) : Prop := ((x1 < 0 → (Q none S)) ∧ (¬ x1 < 0 → (pK S x0 = 8 ∧ (((pI S x0 3) ≤ x1 → (Q none S)) ∧ (¬ (pI S x0 3) ≤ x1 → (∃ o2, pR S x0 0 = some o2 ∧ (pK S o2 = 17 ∧ (((nI (pL S o2)) ≤ x1 → (Q none S)) ∧ (¬ (nI (pL S o2)) ≤ x1 → (vp_in x1 (pL S o2) ∧ (∃ o5, pR S o2 (x1).toNatClampNeg = some o5 ∧ (Q (some o5) S))))))))))))
set_option maxRecDepth 100000 in
set_option maxHeartbeats 4000000 in
theorem ctX9_factAt (l : Launch) (G : PG) (hZ : pZa G) (S : PS) (x0 : Nat) (x1 : Int32) (Q : Option Nat → PS → Prop) (h : wpX9_factAt S x0 x1 Q) : mQ l yX9_factAt wsX9_factAt rmX9_factAt G S [.ref (G.2.2 + x0), .int x1] Q := by
  unfold mQ
  refine met_of (cc := cX9_factAt) (maxL := 2) (ret := (some (.object "SupportSolver$Fact"))) (by decide) rfl (Nat.le_of_ble_eq_true rfl) ?_
  intro p e s m args below meth c C hr hin
  unfold wpX9_factAt at h
  show PW p l e _ s m args below meth c _ G 2 S 0 0 [(0, .ref (G.2.2 + x0)), (1, .int x1)] 0 []
  refine pw_iload_n (pc := 0) C 1 dX9_factAt_0 rfl rfl ?_
  refine pw_if_lt (pc := 1) (tgt := 30) C dX9_factAt_1 rfl ⟨fun hc => ?_, fun hc => ?_⟩
  · replace h := h.1 hc
    refine pw_null (pc := 30) C dX9_factAt_30 ?_
    exact pw_aret (pc := 31) C hr (o := none) rfl h dX9_factAt_31
  · replace h := h.2 hc
    refine pw_iload_n (pc := 4) C 1 dX9_factAt_4 rfl rfl ?_
    refine pw_aload_n (pc := 5) C 0 dX9_factAt_5 rfl rfl ?_
    obtain ⟨hk1, h⟩ := h
    refine pw_getI (pc := 6) (ref := "SupportSolver$Trail") (k := 3) (index := 25) C pCl7 iX9_factAt_X9 hk1 rfl (by decide +kernel) (Or.inl rfl) dX9_factAt_6 ?_
    refine pw_icmp_ge (pc := 9) (tgt := 30) C dX9_factAt_9 rfl ⟨fun hc => ?_, fun hc => ?_⟩
    · replace h := h.1 hc
      refine pw_null (pc := 30) C dX9_factAt_30 ?_
      exact pw_aret (pc := 31) C hr (o := none) rfl h dX9_factAt_31
    · replace h := h.2 hc
      refine pw_iload_n (pc := 12) C 1 dX9_factAt_12 rfl rfl ?_
      refine pw_aload_n (pc := 13) C 0 dX9_factAt_13 rfl rfl ?_
      obtain ⟨o2, ho2, h⟩ := h
      refine pw_getR (pc := 14) (ref := "SupportSolver$Trail") (k := 0) (index := 11) C pCl7 iX9_factAt_X9 hk1 rfl (by decide +kernel) (Or.inl rfl) (o := o2) ho2 dX9_factAt_14 ?_
      obtain ⟨hk3, h⟩ := h
      refine pw_alen (pc := 17) C (κ := 17) hk3 (by decide) dX9_factAt_17 ?_
      refine pw_icmp_ge (pc := 18) (tgt := 30) C dX9_factAt_18 rfl ⟨fun hc => ?_, fun hc => ?_⟩
      · replace h := h.1 hc
        refine pw_null (pc := 30) C dX9_factAt_30 ?_
        exact pw_aret (pc := 31) C hr (o := none) rfl h dX9_factAt_31
      · replace h := h.2 hc
        refine pw_aload_n (pc := 21) C 0 dX9_factAt_21 rfl rfl ?_
        refine pw_getR (pc := 22) (ref := "SupportSolver$Trail") (k := 0) (index := 11) C pCl7 iX9_factAt_X9 hk1 rfl (by decide +kernel) (Or.inl rfl) (o := o2) ho2 dX9_factAt_22 ?_
        refine pw_iload_n (pc := 25) C 1 dX9_factAt_25 rfl rfl ?_
        obtain ⟨hi4, h⟩ := h
        obtain ⟨o5, ho5, h⟩ := h
        refine pw_aald (pc := 26) C (Or.inr hk3) hi4 (o := o5) ho5 dX9_factAt_26 ?_
        refine pw_goto (pc := 27) (tgt := 31) C dX9_factAt_27 rfl ?_
        exact pw_aret (pc := 31) C hr (o := (some o5)) rfl h dX9_factAt_31

abbrev rmX9_pairAt : Room := { frames := 2, cells := 0, slots := 0, locals := 41 }
def wpX9_pairAt (S : PS) (x0 : Nat) (x1 : Int32) (Q : Int64 → PS → Prop) : Prop := (pK S x0 = 8 ∧ (wpX9_factAt S x0 x1 (fun r2 S3 => ((r2 = none → (Q (0 : Int64) S3)) ∧ (∀ o4, r2 = some o4 → (pK S3 o4 = 3 ∧ (wpX3_pair S3 o4 (fun r6 S7 => (Q r6 S7)))))))))
set_option maxRecDepth 100000 in
set_option maxHeartbeats 4000000 in
theorem ctX9_pairAt (l : Launch) (G : PG) (hZ : pZa G) (S : PS) (x0 : Nat) (x1 : Int32) (Q : Int64 → PS → Prop) (h : wpX9_pairAt S x0 x1 Q) : mJ l yX9_pairAt wsX9_pairAt rmX9_pairAt G S [.ref (G.2.2 + x0), .int x1] Q := by
  unfold mJ
  refine met_of (cc := cX9_pairAt) (maxL := 3) (ret := (some .long)) (by decide) rfl (Nat.le_of_ble_eq_true rfl) ?_
  intro p e s m args below meth c C hr hin
  unfold wpX9_pairAt at h
  show PW p l e _ s m args below meth c _ G 3 S 0 0 [(0, .ref (G.2.2 + x0)), (1, .int x1)] 0 []
  refine pw_aload_n (pc := 0) C 0 dX9_pairAt_0 rfl rfl ?_
  refine pw_iload_n (pc := 1) C 1 dX9_pairAt_1 rfl rfl ?_
  obtain ⟨hk1, h⟩ := h
  refine pw_callq (pc := 2) (kc2 := 0) (kn2 := 0) (pRunV (pc := 2) C (ctX9_factAt l G hZ  _ x0 x1 _ h) (cwV 1 C.2.2.2.2.1 gX9_pairAt_X9_factAt rfl rfl rfl (by decide +kernel) ⟨Nat.le_of_ble_eq_true rfl, Nat.le_of_ble_eq_true rfl⟩) pCl7 hk1 rfl rfl (Nat.le_of_ble_eq_true rfl) dX9_pairAt_2 ⟨Nat.le_of_ble_eq_true rfl, Nat.le_of_ble_eq_true rfl⟩) rfl rfl (fun r2 S3 h => ?_)
  cases hqr2 : r2 with
  | none =>
    replace h := h.1 hqr2
    show PW p l e _ s m args below meth c _ G _ S3 _ _ _ _ (.null :: [])
    refine pw_astore_nN (pc := 5) C [(2, .null), (0, .ref (G.2.2 + x0)), (1, .int x1)] dX9_pairAt_5 rfl (by decide) rfl ?_
    refine pw_aload_nN (pc := 6) C 0 dX9_pairAt_6 rfl rfl ?_
    refine pw_ifnonnull_n (pc := 7) C dX9_pairAt_7 ?_
    refine pw_lconst (pc := 10) (v := 0) C dX9_pairAt_10 (by decide) ?_
    refine pw_goto (pc := 11) (tgt := 18) C dX9_pairAt_11 rfl ?_
    exact pw_lret (pc := 18) C hr h dX9_pairAt_18
  | some o4 =>
    replace h := h.2 o4 hqr2
    show PW p l e _ s m args below meth c _ G _ S3 _ _ _ _ (.ref (G.2.2 + o4) :: [])
    refine pw_astore_n (pc := 5) C [(2, .ref (G.2.2 + o4)), (0, .ref (G.2.2 + x0)), (1, .int x1)] dX9_pairAt_5 rfl (by decide) rfl ?_
    refine pw_aload_n (pc := 6) C 0 dX9_pairAt_6 rfl rfl ?_
    refine pw_ifnonnull_r (pc := 7) (tgt := 14) C dX9_pairAt_7 rfl ?_
    refine pw_aload_n (pc := 14) C 0 dX9_pairAt_14 rfl rfl ?_
    obtain ⟨hk5, h⟩ := h
    refine pw_calll (pc := 15) (kc2 := 0) (kn2 := 0) (pRunV (pc := 15) C (ctX3_pair l G hZ  _ o4 _ h) (cwV 0 C.2.2.2.2.1 gX9_pairAt_X3_pair rfl rfl rfl (by decide +kernel) ⟨Nat.le_of_ble_eq_true rfl, Nat.le_of_ble_eq_true rfl⟩) pCl2 hk5 rfl rfl (Nat.le_of_ble_eq_true rfl) dX9_pairAt_15 ⟨Nat.le_of_ble_eq_true rfl, Nat.le_of_ble_eq_true rfl⟩) rfl rfl (fun r6 S7 h => ?_)
    exact pw_lret (pc := 18) C hr h dX9_pairAt_18

abbrev rmX9_decisionAt : Room := { frames := 0, cells := 0, slots := 0, locals := 0 }
theorem iX9_decisionAt_X9 : ∀ w ∈ u_ws RX9 TX9 6, w ∈ wsX9_decisionAt := fun _ h => List.mem_cons_of_mem _ (List.mem_append_right _ h)
def wpX9_decisionAt (S : PS) (x0 : Nat) (x1 : Int32) (Q : Int64 → PS → Prop) : Prop := ((x1 < 0 → (Q (0 : Int64) S)) ∧ (¬ x1 < 0 → (pK S x0 = 8 ∧ (((pI S x0 4) ≤ x1 → (Q (0 : Int64) S)) ∧ (¬ (pI S x0 4) ≤ x1 → (∃ o2, pR S x0 1 = some o2 ∧ (pK S o2 = 14 ∧ (((nI (pL S o2)) ≤ x1 → (Q (0 : Int64) S)) ∧ (¬ (nI (pL S o2)) ≤ x1 → (vp_in x1 (pL S o2) ∧ (Q (pJ S o2 (x1).toNatClampNeg) S)))))))))))
set_option maxRecDepth 100000 in
set_option maxHeartbeats 4000000 in
theorem ctX9_decisionAt (l : Launch) (G : PG) (hZ : pZa G) (S : PS) (x0 : Nat) (x1 : Int32) (Q : Int64 → PS → Prop) (h : wpX9_decisionAt S x0 x1 Q) : mJ l yX9_decisionAt wsX9_decisionAt rmX9_decisionAt G S [.ref (G.2.2 + x0), .int x1] Q := by
  unfold mJ
  refine met_of (cc := cX9_decisionAt) (maxL := 2) (ret := (some .long)) (by decide) rfl (Nat.le_of_ble_eq_true rfl) ?_
  intro p e s m args below meth c C hr hin
  unfold wpX9_decisionAt at h
  show PW p l e _ s m args below meth c _ G 2 S 0 0 [(0, .ref (G.2.2 + x0)), (1, .int x1)] 0 []
  refine pw_iload_n (pc := 0) C 1 dX9_decisionAt_0 rfl rfl ?_
  refine pw_if_lt (pc := 1) (tgt := 30) C dX9_decisionAt_1 rfl ⟨fun hc => ?_, fun hc => ?_⟩
  · replace h := h.1 hc
    refine pw_lconst (pc := 30) (v := 0) C dX9_decisionAt_30 (by decide) ?_
    exact pw_lret (pc := 31) C hr h dX9_decisionAt_31
  · replace h := h.2 hc
    refine pw_iload_n (pc := 4) C 1 dX9_decisionAt_4 rfl rfl ?_
    refine pw_aload_n (pc := 5) C 0 dX9_decisionAt_5 rfl rfl ?_
    obtain ⟨hk1, h⟩ := h
    refine pw_getI (pc := 6) (ref := "SupportSolver$Trail") (k := 4) (index := 28) C pCl7 iX9_decisionAt_X9 hk1 rfl (by decide +kernel) (Or.inl rfl) dX9_decisionAt_6 ?_
    refine pw_icmp_ge (pc := 9) (tgt := 30) C dX9_decisionAt_9 rfl ⟨fun hc => ?_, fun hc => ?_⟩
    · replace h := h.1 hc
      refine pw_lconst (pc := 30) (v := 0) C dX9_decisionAt_30 (by decide) ?_
      exact pw_lret (pc := 31) C hr h dX9_decisionAt_31
    · replace h := h.2 hc
      refine pw_iload_n (pc := 12) C 1 dX9_decisionAt_12 rfl rfl ?_
      refine pw_aload_n (pc := 13) C 0 dX9_decisionAt_13 rfl rfl ?_
      obtain ⟨o2, ho2, h⟩ := h
      refine pw_getR (pc := 14) (ref := "SupportSolver$Trail") (k := 1) (index := 17) C pCl7 iX9_decisionAt_X9 hk1 rfl (by decide +kernel) (Or.inl rfl) (o := o2) ho2 dX9_decisionAt_14 ?_
      obtain ⟨hk3, h⟩ := h
      refine pw_alen (pc := 17) C (κ := 14) hk3 (by decide) dX9_decisionAt_17 ?_
      refine pw_icmp_ge (pc := 18) (tgt := 30) C dX9_decisionAt_18 rfl ⟨fun hc => ?_, fun hc => ?_⟩
      · replace h := h.1 hc
        refine pw_lconst (pc := 30) (v := 0) C dX9_decisionAt_30 (by decide) ?_
        exact pw_lret (pc := 31) C hr h dX9_decisionAt_31
      · replace h := h.2 hc
        refine pw_aload_n (pc := 21) C 0 dX9_decisionAt_21 rfl rfl ?_
        refine pw_getR (pc := 22) (ref := "SupportSolver$Trail") (k := 1) (index := 17) C pCl7 iX9_decisionAt_X9 hk1 rfl (by decide +kernel) (Or.inl rfl) (o := o2) ho2 dX9_decisionAt_22 ?_
        refine pw_iload_n (pc := 25) C 1 dX9_decisionAt_25 rfl rfl ?_
        obtain ⟨hi4, h⟩ := h
        refine pw_lald (pc := 26) C hk3 hi4 dX9_decisionAt_26 ?_
        refine pw_goto (pc := 27) (tgt := 31) C dX9_decisionAt_27 rfl ?_
        exact pw_lret (pc := 31) C hr h dX9_decisionAt_31

abbrev rmX9_remove : Room := { frames := 2, cells := 0, slots := 0, locals := 41 }
theorem iX9_remove_X3 : ∀ w ∈ u_ws RX3 TX3 7, w ∈ wsX9_remove := fun _ h => List.mem_cons_of_mem _ (List.mem_append_right _ h)
theorem iX9_remove_X9 : ∀ w ∈ u_ws RX9 TX9 6, w ∈ wsX9_remove := by decide +kernel
def wpX9_remove (S : PS) (x0 : Nat) (x1 : Int32) (x2 : Int32) (x3 : Int32) (x4 : Int64) (Q : PS → Prop) : Prop := (pK S x0 = 8 ∧ (wpX9_factAt (sI S x0 3 ((pI S x0 3) + (1 : Int32))) x0 ((pI (sI S x0 3 ((pI S x0 3) + (1 : Int32))) x0 3) - (1 : Int32)) (fun r2 S3 => ((r2 = none → (pK S3 x0 = 8 ∧ (Q (sI S3 x0 3 ((pI S3 x0 3) - (1 : Int32)))))) ∧ (∀ o5, r2 = some o5 → (pK S3 o5 = 3 ∧ (pK S3 x0 = 8 ∧ (wpX3_pair (sJ (sJ (sI (sI (sI (sI S3 o5 0 x1) o5 1 x2) o5 2 x3) o5 3 (pI (sI (sI (sI S3 o5 0 x1) o5 1 x2) o5 2 x3) x0 4)) o5 4 x4) o5 5 (-1 : Int64)) o5 (fun r8 S9 => (pK S9 x0 = 8 ∧ (Q (sJ S9 x0 5 ((pJ (sJ (sJ (sI (sI (sI (sI S3 o5 0 x1) o5 1 x2) o5 2 x3) o5 3 (pI (sI (sI (sI S3 o5 0 x1) o5 1 x2) o5 2 x3) x0 4)) o5 4 x4) o5 5 (-1 : Int64)) x0 5) &&& (r8 ^^^ (-1 : Int64)))))))))))))))
set_option maxRecDepth 100000 in
set_option maxHeartbeats 4000000 in
theorem ctX9_remove (l : Launch) (G : PG) (hZ : pZa G) (S : PS) (x0 : Nat) (x1 : Int32) (x2 : Int32) (x3 : Int32) (x4 : Int64) (Q : PS → Prop) (h : wpX9_remove S x0 x1 x2 x3 x4 Q) : mV l yX9_remove wsX9_remove rmX9_remove G S [.ref (G.2.2 + x0), .int x1, .int x2, .int x3, .long x4] Q := by
  unfold mV
  refine met_of (cc := cX9_remove) (maxL := 7) (ret := none) (by decide) rfl (Nat.le_of_ble_eq_true rfl) ?_
  intro p e s m args below meth c C hr hin
  unfold wpX9_remove at h
  show PW p l e _ s m args below meth c _ G 7 S 0 0 [(0, .ref (G.2.2 + x0)), (1, .int x1), (2, .int x2), (3, .int x3), (4, .long x4)] 0 []
  refine pw_aload_n (pc := 0) C 0 dX9_remove_0 rfl rfl ?_
  refine pw_dup (pc := 1) C dX9_remove_1 rfl ?_
  obtain ⟨hk1, h⟩ := h
  refine pw_getI (pc := 2) (ref := "SupportSolver$Trail") (k := 3) (index := 25) C pCl7 iX9_remove_X9 hk1 rfl (by decide +kernel) (Or.inl rfl) dX9_remove_2 ?_
  refine pw_iconst (pc := 5) (v := 1 ) C dX9_remove_5 (by decide) ?_
  refine pw_iadd (pc := 6) C dX9_remove_6 ?_
  refine pw_putI (pc := 7) (ref := "SupportSolver$Trail") (k := 3) (index := 25) C pCl7 iX9_remove_X9 hk1 rfl (by decide +kernel) (Or.inl rfl) (Or.inl rfl) rfl rfl dX9_remove_7 ?_
  refine pw_aload_n (pc := 10) (S := (sI S x0 3 ((pI S x0 3) + (1 : Int32)))) C 0 dX9_remove_10 rfl rfl ?_
  refine pw_aload_n (pc := 11) (S := (sI S x0 3 ((pI S x0 3) + (1 : Int32)))) C 0 dX9_remove_11 rfl rfl ?_
  refine pw_getI (pc := 12) (S := (sI S x0 3 ((pI S x0 3) + (1 : Int32)))) (ref := "SupportSolver$Trail") (k := 3) (index := 25) C pCl7 iX9_remove_X9 hk1 rfl (by decide +kernel) (Or.inl rfl) dX9_remove_12 ?_
  refine pw_iconst (pc := 15) (S := (sI S x0 3 ((pI S x0 3) + (1 : Int32)))) (v := 1 ) C dX9_remove_15 (by decide) ?_
  refine pw_isub (pc := 16) (S := (sI S x0 3 ((pI S x0 3) + (1 : Int32)))) C dX9_remove_16 ?_
  refine pw_callq (pc := 17) (S := (sI S x0 3 ((pI S x0 3) + (1 : Int32)))) (kc2 := 0) (kn2 := 0) (pRunV (pc := 17) (S := (sI S x0 3 ((pI S x0 3) + (1 : Int32)))) C (ctX9_factAt l G hZ  _ x0 ((pI (sI S x0 3 ((pI S x0 3) + (1 : Int32))) x0 3) - (1 : Int32)) _ h) (cwV 1 C.2.2.2.2.1 gX9_remove_X9_factAt rfl rfl rfl (by decide +kernel) ⟨Nat.le_of_ble_eq_true rfl, Nat.le_of_ble_eq_true rfl⟩) pCl7 hk1 rfl rfl (Nat.le_of_ble_eq_true rfl) dX9_remove_17 ⟨Nat.le_of_ble_eq_true rfl, Nat.le_of_ble_eq_true rfl⟩) rfl rfl (fun r2 S3 h => ?_)
  cases hqr2 : r2 with
  | none =>
    replace h := h.1 hqr2
    show PW p l e _ s m args below meth c _ G _ S3 _ _ _ _ (.null :: [])
    refine pw_astoreN (pc := 20) C [(6, .null), (0, .ref (G.2.2 + x0)), (1, .int x1), (2, .int x2), (3, .int x3), (4, .long x4)] dX9_remove_20 (by decide) rfl ?_
    refine pw_aloadN (pc := 22) C 0 dX9_remove_22 rfl ?_
    refine pw_ifnonnull_n (pc := 24) C dX9_remove_24 ?_
    refine pw_aload_n (pc := 27) C 1 dX9_remove_27 rfl rfl ?_
    refine pw_dup (pc := 28) C dX9_remove_28 rfl ?_
    obtain ⟨hk4, h⟩ := h
    refine pw_getI (pc := 29) (ref := "SupportSolver$Trail") (k := 3) (index := 25) C pCl7 iX9_remove_X9 hk4 rfl (by decide +kernel) (Or.inl rfl) dX9_remove_29 ?_
    refine pw_iconst (pc := 32) (v := 1 ) C dX9_remove_32 (by decide) ?_
    refine pw_isub (pc := 33) C dX9_remove_33 ?_
    refine pw_putI (pc := 34) (ref := "SupportSolver$Trail") (k := 3) (index := 25) C pCl7 iX9_remove_X9 hk4 rfl (by decide +kernel) (Or.inl rfl) (Or.inl rfl) rfl rfl dX9_remove_34 ?_
    exact pw_vret (pc := 37) (S := (sI S3 x0 3 ((pI S3 x0 3) - (1 : Int32)))) C hr h dX9_remove_37
  | some o5 =>
    replace h := h.2 o5 hqr2
    show PW p l e _ s m args below meth c _ G _ S3 _ _ _ _ (.ref (G.2.2 + o5) :: [])
    refine pw_astore (pc := 20) C [(6, .ref (G.2.2 + o5)), (0, .ref (G.2.2 + x0)), (1, .int x1), (2, .int x2), (3, .int x3), (4, .long x4)] dX9_remove_20 (by decide) rfl ?_
    refine pw_aload (pc := 22) C 0 dX9_remove_22 rfl ?_
    refine pw_ifnonnull_r (pc := 24) (tgt := 38) C dX9_remove_24 rfl ?_
    refine pw_aload (pc := 38) C 0 dX9_remove_38 rfl ?_
    refine pw_iload_n (pc := 40) C 2 dX9_remove_40 rfl rfl ?_
    obtain ⟨hk6, h⟩ := h
    refine pw_putI (pc := 41) (ref := "SupportSolver$Fact") (k := 0) (index := 50) C pCl2 iX9_remove_X3 hk6 rfl (by decide +kernel) (Or.inl rfl) (Or.inl rfl) rfl rfl dX9_remove_41 ?_
    refine pw_aload (pc := 44) (S := (sI S3 o5 0 x1)) C 0 dX9_remove_44 rfl ?_
    refine pw_iload_n (pc := 46) (S := (sI S3 o5 0 x1)) C 3 dX9_remove_46 rfl rfl ?_
    refine pw_putI (pc := 47) (S := (sI S3 o5 0 x1)) (ref := "SupportSolver$Fact") (k := 1) (index := 53) C pCl2 iX9_remove_X3 hk6 rfl (by decide +kernel) (Or.inl rfl) (Or.inl rfl) rfl rfl dX9_remove_47 ?_
    refine pw_aload (pc := 50) (S := (sI (sI S3 o5 0 x1) o5 1 x2)) C 0 dX9_remove_50 rfl ?_
    refine pw_iload_n (pc := 52) (S := (sI (sI S3 o5 0 x1) o5 1 x2)) C 4 dX9_remove_52 rfl rfl ?_
    refine pw_putI (pc := 53) (S := (sI (sI S3 o5 0 x1) o5 1 x2)) (ref := "SupportSolver$Fact") (k := 2) (index := 56) C pCl2 iX9_remove_X3 hk6 rfl (by decide +kernel) (Or.inl rfl) (Or.inl rfl) rfl rfl dX9_remove_53 ?_
    refine pw_aload (pc := 56) (S := (sI (sI (sI S3 o5 0 x1) o5 1 x2) o5 2 x3)) C 0 dX9_remove_56 rfl ?_
    refine pw_aload_n (pc := 58) (S := (sI (sI (sI S3 o5 0 x1) o5 1 x2) o5 2 x3)) C 1 dX9_remove_58 rfl rfl ?_
    obtain ⟨hk7, h⟩ := h
    refine pw_getI (pc := 59) (S := (sI (sI (sI S3 o5 0 x1) o5 1 x2) o5 2 x3)) (ref := "SupportSolver$Trail") (k := 4) (index := 28) C pCl7 iX9_remove_X9 hk7 rfl (by decide +kernel) (Or.inl rfl) dX9_remove_59 ?_
    refine pw_putI (pc := 62) (S := (sI (sI (sI S3 o5 0 x1) o5 1 x2) o5 2 x3)) (ref := "SupportSolver$Fact") (k := 3) (index := 59) C pCl2 iX9_remove_X3 hk6 rfl (by decide +kernel) (Or.inl rfl) (Or.inl rfl) rfl rfl dX9_remove_62 ?_
    refine pw_aload (pc := 65) (S := (sI (sI (sI (sI S3 o5 0 x1) o5 1 x2) o5 2 x3) o5 3 (pI (sI (sI (sI S3 o5 0 x1) o5 1 x2) o5 2 x3) x0 4))) C 0 dX9_remove_65 rfl ?_
    refine pw_lload (pc := 67) (S := (sI (sI (sI (sI S3 o5 0 x1) o5 1 x2) o5 2 x3) o5 3 (pI (sI (sI (sI S3 o5 0 x1) o5 1 x2) o5 2 x3) x0 4))) C 5 dX9_remove_67 rfl ?_
    refine pw_putJ (pc := 69) (S := (sI (sI (sI (sI S3 o5 0 x1) o5 1 x2) o5 2 x3) o5 3 (pI (sI (sI (sI S3 o5 0 x1) o5 1 x2) o5 2 x3) x0 4))) (ref := "SupportSolver$Fact") (k := 4) (index := 60) C pCl2 iX9_remove_X3 hk6 rfl (by decide +kernel) (Or.inl rfl) (Or.inl rfl) rfl rfl dX9_remove_69 ?_
    refine pw_aload (pc := 72) (S := (sJ (sI (sI (sI (sI S3 o5 0 x1) o5 1 x2) o5 2 x3) o5 3 (pI (sI (sI (sI S3 o5 0 x1) o5 1 x2) o5 2 x3) x0 4)) o5 4 x4)) C 0 dX9_remove_72 rfl ?_
    refine pw_ldc2 (pc := 74) (S := (sJ (sI (sI (sI (sI S3 o5 0 x1) o5 1 x2) o5 2 x3) o5 3 (pI (sI (sI (sI S3 o5 0 x1) o5 1 x2) o5 2 x3) x0 4)) o5 4 x4)) (v := (-1)) C (by decide +kernel) dX9_remove_74 ?_
    refine pw_putJ (pc := 77) (S := (sJ (sI (sI (sI (sI S3 o5 0 x1) o5 1 x2) o5 2 x3) o5 3 (pI (sI (sI (sI S3 o5 0 x1) o5 1 x2) o5 2 x3) x0 4)) o5 4 x4)) (ref := "SupportSolver$Fact") (k := 5) (index := 65) C pCl2 iX9_remove_X3 hk6 rfl (by decide +kernel) (Or.inl rfl) (Or.inl rfl) rfl rfl dX9_remove_77 ?_
    refine pw_aload_n (pc := 80) (S := (sJ (sJ (sI (sI (sI (sI S3 o5 0 x1) o5 1 x2) o5 2 x3) o5 3 (pI (sI (sI (sI S3 o5 0 x1) o5 1 x2) o5 2 x3) x0 4)) o5 4 x4) o5 5 (-1 : Int64))) C 1 dX9_remove_80 rfl rfl ?_
    refine pw_dup (pc := 81) (S := (sJ (sJ (sI (sI (sI (sI S3 o5 0 x1) o5 1 x2) o5 2 x3) o5 3 (pI (sI (sI (sI S3 o5 0 x1) o5 1 x2) o5 2 x3) x0 4)) o5 4 x4) o5 5 (-1 : Int64))) C dX9_remove_81 rfl ?_
    refine pw_getJ (pc := 82) (S := (sJ (sJ (sI (sI (sI (sI S3 o5 0 x1) o5 1 x2) o5 2 x3) o5 3 (pI (sI (sI (sI S3 o5 0 x1) o5 1 x2) o5 2 x3) x0 4)) o5 4 x4) o5 5 (-1 : Int64))) (ref := "SupportSolver$Trail") (k := 5) (index := 31) C pCl7 iX9_remove_X9 hk7 rfl (by decide +kernel) (Or.inl rfl) dX9_remove_82 ?_
    refine pw_aload (pc := 85) (S := (sJ (sJ (sI (sI (sI (sI S3 o5 0 x1) o5 1 x2) o5 2 x3) o5 3 (pI (sI (sI (sI S3 o5 0 x1) o5 1 x2) o5 2 x3) x0 4)) o5 4 x4) o5 5 (-1 : Int64))) C 0 dX9_remove_85 rfl ?_
    refine pw_calll (pc := 87) (S := (sJ (sJ (sI (sI (sI (sI S3 o5 0 x1) o5 1 x2) o5 2 x3) o5 3 (pI (sI (sI (sI S3 o5 0 x1) o5 1 x2) o5 2 x3) x0 4)) o5 4 x4) o5 5 (-1 : Int64))) (kc2 := 0) (kn2 := 0) (pRunV (pc := 87) (S := (sJ (sJ (sI (sI (sI (sI S3 o5 0 x1) o5 1 x2) o5 2 x3) o5 3 (pI (sI (sI (sI S3 o5 0 x1) o5 1 x2) o5 2 x3) x0 4)) o5 4 x4) o5 5 (-1 : Int64))) C (ctX3_pair l G hZ  _ o5 _ h) (cwV 0 C.2.2.2.2.1 gX9_remove_X3_pair rfl rfl rfl (by decide +kernel) ⟨Nat.le_of_ble_eq_true rfl, Nat.le_of_ble_eq_true rfl⟩) pCl2 hk6 rfl rfl (Nat.le_of_ble_eq_true rfl) dX9_remove_87 ⟨Nat.le_of_ble_eq_true rfl, Nat.le_of_ble_eq_true rfl⟩) rfl rfl (fun r8 S9 h => ?_)
    refine pw_ldc2 (pc := 90) (v := (-1)) C (by decide +kernel) dX9_remove_90 ?_
    refine pw_lxor (pc := 93) C dX9_remove_93 ?_
    refine pw_land (pc := 94) C dX9_remove_94 ?_
    obtain ⟨hk10, h⟩ := h
    refine pw_putJ (pc := 95) (ref := "SupportSolver$Trail") (k := 5) (index := 31) C pCl7 iX9_remove_X9 hk10 rfl (by decide +kernel) (Or.inl rfl) (Or.inl rfl) rfl rfl dX9_remove_95 ?_
    exact pw_vret (pc := 98) (S := (sJ S9 x0 5 ((pJ (sJ (sJ (sI (sI (sI (sI S3 o5 0 x1) o5 1 x2) o5 2 x3) o5 3 (pI (sI (sI (sI S3 o5 0 x1) o5 1 x2) o5 2 x3) x0 4)) o5 4 x4) o5 5 (-1 : Int64)) x0 5) &&& (r8 ^^^ (-1 : Int64))))) C hr h dX9_remove_98

abbrev rmX9_assume : Room := { frames := 3, cells := 0, slots := 0, locals := 67 }
theorem iX9_assume_X9 : ∀ w ∈ u_ws RX9 TX9 6, w ∈ wsX9_assume := by decide +kernel
def wpX9_assume_b46  (Q : PS → Prop) : Nat → PS → Nat → Int32 → Int32 → Int32 → Prop
  | 0 => fun _ _ _ _ _ => False
  | n + 1 => fun S x0 x1 x2 x3 => (((5 : Int32) ≤ x3 → (Q S)) ∧ (¬ (5 : Int32) ≤ x3 → ((x3 = x2 → (wpX9_assume_b46 Q n S x0 x1 x2 (x3 + 1))) ∧ (¬ x3 = x2 → (pK S x0 = 8 ∧ (wpX5_has S (pJ S x0 5) x1 x3 (fun r2 S3 => ((r2 = 0 → (wpX9_assume_b46 Q n S3 x0 x1 x2 (x3 + 1))) ∧ (¬ r2 = 0 → (pK S3 x0 = 8 ∧ (wpX9_remove S3 x0 x1 x3 (-1 : Int32) (0 : Int64) (fun S6 => (wpX9_assume_b46 Q n S6 x0 x1 x2 (x3 + 1))))))))))))))
def wpX9_assume (S : PS) (x0 : Nat) (x1 : Int32) (x2 : Int32) (Q : PS → Prop) : Prop := (pK S x0 = 8 ∧ (((pI S x0 4) < 0 → (Q S)) ∧ (¬ (pI S x0 4) < 0 → (∃ o8, pR S x0 1 = some o8 ∧ (pK S o8 = 14 ∧ (((pI S x0 4) < (nI (pL S o8)) → (wpX5_pair S x1 x2 (fun r10 S11 => (pK S11 o8 = 14 ∧ (vp_in (pI S x0 4) (pL S11 o8) ∧ (pK S11 x0 = 8 ∧ (∃ n9 : Nat, wpX9_assume_b46 Q n9 (sI (sJ S11 o8 ((pI S x0 4)).toNatClampNeg r10) x0 4 ((pI (sJ S11 o8 ((pI S x0 4)).toNatClampNeg r10) x0 4) + (1 : Int32))) x0 x1 x2 (0 : Int32)))))))) ∧ (¬ (pI S x0 4) < (nI (pL S o8)) → (Q S))))))))
set_option maxRecDepth 100000 in
set_option maxHeartbeats 4000000 in
theorem cbX9_assume_b46 {p : Program} {l : Launch} {e : Env} {s : State} {m : MethodId} {args : Array Value} {below : List Frame} {meth : Method} {c : Code} {G : PG} {Q : PS → Prop} (C : pCx p s m args meth c G cX9_assume 4 yX9_assume.cls wsX9_assume) (hr : meth.sig.returnType = none) (hin : meth.name = yX9_assume.name) (hZ : pZa G)  (n : Nat) : ∀ (S : PS) (x0 : Nat) (x1 : Int32) (x2 : Int32) (x3 : Int32), wpX9_assume_b46  Q n S x0 x1 x2 x3 → PW p l e rmX9_assume s m args below meth c (MQ below (va_Qv Q (pB G) (pFr G)) args s rmX9_assume.cells rmX9_assume.slots (pFr G)) G 4 S 0 0 [(0, .ref (G.2.2 + x0)), (1, .int x1), (2, .int x2), (3, .int x3)] 46 ([]) := by
  induction n with
  | zero => intro S x0 x1 x2 x3 h; exact h.elim
  | succ n ih =>
    intro S x0 x1 x2 x3 h
    unfold wpX9_assume_b46 at h
    refine pw_iload_n (pc := 46) C 3 dX9_assume_46 rfl rfl ?_
    refine pw_iconst (pc := 47) (v := 5 ) C dX9_assume_47 (by decide) ?_
    refine pw_icmp_ge (pc := 48) (tgt := 82) C dX9_assume_48 rfl ⟨fun hc => ?_, fun hc => ?_⟩
    · replace h := h.1 hc
      exact pw_vret (pc := 82) C hr h dX9_assume_82
    · replace h := h.2 hc
      refine pw_iload_n (pc := 51) C 3 dX9_assume_51 rfl rfl ?_
      refine pw_iload_n (pc := 52) C 2 dX9_assume_52 rfl rfl ?_
      refine pw_icmp_eq (pc := 53) (tgt := 76) C dX9_assume_53 rfl ⟨fun hc => ?_, fun hc => ?_⟩
      · replace h := h.1 hc
        refine pw_iincK (pc := 76) (w := 1) C [(3, .int (x3 + 1)), (0, .ref (G.2.2 + x0)), (1, .int x1), (2, .int x2)] 3 dX9_assume_76 (by decide) rfl (by decide) rfl ?_
        refine pw_goto (pc := 79) (tgt := 46) C dX9_assume_79 rfl ?_
        refine pw_sub [1, 2, 3, 0] (LV2 := [(0, .ref (G.2.2 + x0)), (1, .int x1), (2, .int x2), (3, .int (x3 + 1))]) rfl ?_
        exact ih _ _ _ _ _ h
      · replace h := h.2 hc
        refine pw_aload_n (pc := 56) C 0 dX9_assume_56 rfl rfl ?_
        obtain ⟨hk1, h⟩ := h
        refine pw_getJ (pc := 57) (ref := "SupportSolver$Trail") (k := 5) (index := 31) C pCl7 iX9_assume_X9 hk1 rfl (by decide +kernel) (Or.inl rfl) dX9_assume_57 ?_
        refine pw_iload_n (pc := 60) C 1 dX9_assume_60 rfl rfl ?_
        refine pw_iload_n (pc := 61) C 3 dX9_assume_61 rfl rfl ?_
        refine pw_calli (pc := 62) (kc2 := 0) (kn2 := 0) (pRunS (pc := 62) C (ctX5_has l G hZ  _ (pJ S x0 5) x1 x3 _ h) (va_cwS 3 C.2.2.2.2.1 gX9_assume_X5_has rfl rfl rfl (by decide +kernel) ⟨Nat.le_of_ble_eq_true rfl, Nat.le_of_ble_eq_true rfl⟩) rfl rfl (Nat.le_of_ble_eq_true rfl) dX9_assume_62 ⟨Nat.le_of_ble_eq_true rfl, Nat.le_of_ble_eq_true rfl⟩) rfl rfl (fun r2 S3 h => ?_)
        refine pw_if_eq (pc := 65) (tgt := 76) C dX9_assume_65 rfl ⟨fun hc => ?_, fun hc => ?_⟩
        · replace h := h.1 hc
          refine pw_iincK (pc := 76) (w := 1) C [(3, .int (x3 + 1)), (0, .ref (G.2.2 + x0)), (1, .int x1), (2, .int x2)] 3 dX9_assume_76 (by decide) rfl (by decide) rfl ?_
          refine pw_goto (pc := 79) (tgt := 46) C dX9_assume_79 rfl ?_
          refine pw_sub [1, 2, 3, 0] (LV2 := [(0, .ref (G.2.2 + x0)), (1, .int x1), (2, .int x2), (3, .int (x3 + 1))]) rfl ?_
          exact ih _ _ _ _ _ h
        · replace h := h.2 hc
          refine pw_aload_n (pc := 68) C 0 dX9_assume_68 rfl rfl ?_
          refine pw_iload_n (pc := 69) C 1 dX9_assume_69 rfl rfl ?_
          refine pw_iload_n (pc := 70) C 3 dX9_assume_70 rfl rfl ?_
          refine pw_iconst (pc := 71) (v := (-1)) C dX9_assume_71 (by decide) ?_
          refine pw_lconst (pc := 72) (v := 0) C dX9_assume_72 (by decide) ?_
          obtain ⟨hk4, h⟩ := h
          refine pw_callv (pc := 73) (kc2 := 0) (kn2 := 0) (pRunV (pc := 73) C (ctX9_remove l G hZ  _ x0 x1 x3 (-1 : Int32) (0 : Int64) _ h) (cwV 4 C.2.2.2.2.1 gX9_assume_X9_remove rfl rfl rfl (by decide +kernel) ⟨Nat.le_of_ble_eq_true rfl, Nat.le_of_ble_eq_true rfl⟩) pCl7 hk4 rfl rfl (Nat.le_of_ble_eq_true rfl) dX9_assume_73 ⟨Nat.le_of_ble_eq_true rfl, Nat.le_of_ble_eq_true rfl⟩) rfl rfl (fun S6 h => ?_)
          refine pw_iincK (pc := 76) (w := 1) C [(3, .int (x3 + 1)), (0, .ref (G.2.2 + x0)), (1, .int x1), (2, .int x2)] 3 dX9_assume_76 (by decide) rfl (by decide) rfl ?_
          refine pw_goto (pc := 79) (tgt := 46) C dX9_assume_79 rfl ?_
          refine pw_sub [1, 2, 3, 0] (LV2 := [(0, .ref (G.2.2 + x0)), (1, .int x1), (2, .int x2), (3, .int (x3 + 1))]) rfl ?_
          exact ih _ _ _ _ _ h
set_option maxRecDepth 100000 in
set_option maxHeartbeats 4000000 in
theorem ctX9_assume (l : Launch) (G : PG) (hZ : pZa G) (S : PS) (x0 : Nat) (x1 : Int32) (x2 : Int32) (Q : PS → Prop) (h : wpX9_assume S x0 x1 x2 Q) : mV l yX9_assume wsX9_assume rmX9_assume G S [.ref (G.2.2 + x0), .int x1, .int x2] Q := by
  unfold mV
  refine met_of (cc := cX9_assume) (maxL := 4) (ret := none) (by decide) rfl (Nat.le_of_ble_eq_true rfl) ?_
  intro p e s m args below meth c C hr hin
  unfold wpX9_assume at h
  show PW p l e _ s m args below meth c _ G 4 S 0 0 [(0, .ref (G.2.2 + x0)), (1, .int x1), (2, .int x2)] 0 []
  refine pw_aload_n (pc := 0) C 0 dX9_assume_0 rfl rfl ?_
  obtain ⟨hk7, h⟩ := h
  refine pw_getI (pc := 1) (ref := "SupportSolver$Trail") (k := 4) (index := 28) C pCl7 iX9_assume_X9 hk7 rfl (by decide +kernel) (Or.inl rfl) dX9_assume_1 ?_
  refine pw_if_lt (pc := 4) (tgt := 19) C dX9_assume_4 rfl ⟨fun hc => ?_, fun hc => ?_⟩
  · replace h := h.1 hc
    exact pw_vret (pc := 19) C hr h dX9_assume_19
  · replace h := h.2 hc
    refine pw_aload_n (pc := 7) C 0 dX9_assume_7 rfl rfl ?_
    refine pw_getI (pc := 8) (ref := "SupportSolver$Trail") (k := 4) (index := 28) C pCl7 iX9_assume_X9 hk7 rfl (by decide +kernel) (Or.inl rfl) dX9_assume_8 ?_
    refine pw_aload_n (pc := 11) C 0 dX9_assume_11 rfl rfl ?_
    obtain ⟨o8, ho8, h⟩ := h
    refine pw_getR (pc := 12) (ref := "SupportSolver$Trail") (k := 1) (index := 17) C pCl7 iX9_assume_X9 hk7 rfl (by decide +kernel) (Or.inl rfl) (o := o8) ho8 dX9_assume_12 ?_
    obtain ⟨hk9, h⟩ := h
    refine pw_alen (pc := 15) C (κ := 14) hk9 (by decide) dX9_assume_15 ?_
    refine pw_icmp_lt (pc := 16) (tgt := 20) C dX9_assume_16 rfl ⟨fun hc => ?_, fun hc => ?_⟩
    · replace h := h.1 hc
      refine pw_aload_n (pc := 20) C 0 dX9_assume_20 rfl rfl ?_
      refine pw_getR (pc := 21) (ref := "SupportSolver$Trail") (k := 1) (index := 17) C pCl7 iX9_assume_X9 hk7 rfl (by decide +kernel) (Or.inl rfl) (o := o8) ho8 dX9_assume_21 ?_
      refine pw_aload_n (pc := 24) C 0 dX9_assume_24 rfl rfl ?_
      refine pw_getI (pc := 25) (ref := "SupportSolver$Trail") (k := 4) (index := 28) C pCl7 iX9_assume_X9 hk7 rfl (by decide +kernel) (Or.inl rfl) dX9_assume_25 ?_
      refine pw_iload_n (pc := 28) C 1 dX9_assume_28 rfl rfl ?_
      refine pw_iload_n (pc := 29) C 2 dX9_assume_29 rfl rfl ?_
      refine pw_calll (pc := 30) (kc2 := 0) (kn2 := 0) (pRunS (pc := 30) C (ctX5_pair l G hZ  _ x1 x2 _ h) (va_cwS 2 C.2.2.2.2.1 gX9_assume_X5_pair rfl rfl rfl (by decide +kernel) ⟨Nat.le_of_ble_eq_true rfl, Nat.le_of_ble_eq_true rfl⟩) rfl rfl (Nat.le_of_ble_eq_true rfl) dX9_assume_30 ⟨Nat.le_of_ble_eq_true rfl, Nat.le_of_ble_eq_true rfl⟩) rfl rfl (fun r10 S11 h => ?_)
      obtain ⟨hk12, h⟩ := h
      obtain ⟨hi13, h⟩ := h
      refine pw_last (pc := 33) C hk12 hi13 dX9_assume_33 ?_
      refine pw_aload_n (pc := 34) (S := (sJ S11 o8 ((pI S x0 4)).toNatClampNeg r10)) C 0 dX9_assume_34 rfl rfl ?_
      refine pw_dup (pc := 35) (S := (sJ S11 o8 ((pI S x0 4)).toNatClampNeg r10)) C dX9_assume_35 rfl ?_
      obtain ⟨hk14, h⟩ := h
      refine pw_getI (pc := 36) (S := (sJ S11 o8 ((pI S x0 4)).toNatClampNeg r10)) (ref := "SupportSolver$Trail") (k := 4) (index := 28) C pCl7 iX9_assume_X9 hk14 rfl (by decide +kernel) (Or.inl rfl) dX9_assume_36 ?_
      refine pw_iconst (pc := 39) (S := (sJ S11 o8 ((pI S x0 4)).toNatClampNeg r10)) (v := 1 ) C dX9_assume_39 (by decide) ?_
      refine pw_iadd (pc := 40) (S := (sJ S11 o8 ((pI S x0 4)).toNatClampNeg r10)) C dX9_assume_40 ?_
      refine pw_putI (pc := 41) (S := (sJ S11 o8 ((pI S x0 4)).toNatClampNeg r10)) (ref := "SupportSolver$Trail") (k := 4) (index := 28) C pCl7 iX9_assume_X9 hk14 rfl (by decide +kernel) (Or.inl rfl) (Or.inl rfl) rfl rfl dX9_assume_41 ?_
      refine pw_iconst (pc := 44) (S := (sI (sJ S11 o8 ((pI S x0 4)).toNatClampNeg r10) x0 4 ((pI (sJ S11 o8 ((pI S x0 4)).toNatClampNeg r10) x0 4) + (1 : Int32)))) (v := 0 ) C dX9_assume_44 (by decide) ?_
      refine pw_istore_n (pc := 45) (S := (sI (sJ S11 o8 ((pI S x0 4)).toNatClampNeg r10) x0 4 ((pI (sJ S11 o8 ((pI S x0 4)).toNatClampNeg r10) x0 4) + (1 : Int32)))) C [(3, .int (0 : Int32)), (0, .ref (G.2.2 + x0)), (1, .int x1), (2, .int x2)] dX9_assume_45 rfl (by decide) rfl ?_
      refine pw_sub [1, 2, 3, 0] (LV2 := [(0, .ref (G.2.2 + x0)), (1, .int x1), (2, .int x2), (3, .int (0 : Int32))]) rfl ?_
      obtain ⟨n9, h⟩ := h
      exact cbX9_assume_b46 C hr hin hZ  n9 _ _ _ _ _ h
    · replace h := h.2 hc
      exact pw_vret (pc := 19) C hr h dX9_assume_19

abbrev rmX9_takeBack : Room := { frames := 2, cells := 0, slots := 0, locals := 41 }
theorem iX9_takeBack_X3 : ∀ w ∈ u_ws RX3 TX3 7, w ∈ wsX9_takeBack := fun _ h => List.mem_cons_of_mem _ (List.mem_append_right _ h)
theorem iX9_takeBack_X9 : ∀ w ∈ u_ws RX9 TX9 6, w ∈ wsX9_takeBack := by decide +kernel
def wpX9_takeBack_b66  (Q : Int32 → PS → Prop) (S : PS) (x0 : Nat) (x1 : Int32) (x2 : Int32) : Prop := (pK S x0 = 8 ∧ (Q (x1 - (pI (sI S x0 4 ((pI S x0 4) - (1 : Int32))) x0 3)) (sI S x0 4 ((pI S x0 4) - (1 : Int32)))))
def wpX9_takeBack_b9  (Q : Int32 → PS → Prop) : Nat → PS → Nat → Int32 → Int32 → Prop
  | 0 => fun _ _ _ _ => False
  | n + 1 => fun S x0 x1 x2 => ((x2 < 0 → (wpX9_takeBack_b66 Q S x0 x1 x2)) ∧ (¬ x2 < 0 → (pK S x0 = 8 ∧ (wpX9_factAt S x0 x2 (fun r3 S4 => ((r3 = none → (wpX9_takeBack_b66 Q S4 x0 x1 x2)) ∧ (∀ o5, r3 = some o5 → (pK S4 o5 = 3 ∧ (pK S4 x0 = 8 ∧ (((pI S4 x0 4) ≤ (pI S4 o5 3) → (wpX3_pair S4 o5 (fun r8 S9 => (pK S9 x0 = 8 ∧ (wpX9_takeBack_b9 Q n (sI (sJ S9 x0 5 ((pJ S4 x0 5) ||| r8)) x0 3 ((pI (sJ S9 x0 5 ((pJ S4 x0 5) ||| r8)) x0 3) - (1 : Int32))) x0 x1 (x2 + (-1))))))) ∧ (¬ (pI S4 x0 4) ≤ (pI S4 o5 3) → (wpX9_takeBack_b66 Q S4 x0 x1 x2))))))))))))
def wpX9_takeBack (S : PS) (x0 : Nat) (Q : Int32 → PS → Prop) : Prop := (pK S x0 = 8 ∧ (∃ n9 : Nat, wpX9_takeBack_b9 Q n9 S x0 (pI S x0 3) ((pI S x0 3) - (1 : Int32))))
set_option maxRecDepth 100000 in
set_option maxHeartbeats 4000000 in
theorem cbX9_takeBack_b66 {p : Program} {l : Launch} {e : Env} {s : State} {m : MethodId} {args : Array Value} {below : List Frame} {meth : Method} {c : Code} {G : PG} {Q : Int32 → PS → Prop} (C : pCx p s m args meth c G cX9_takeBack 4 yX9_takeBack.cls wsX9_takeBack) (hr : meth.sig.returnType = (some .int)) (hin : meth.name = yX9_takeBack.name) (hZ : pZa G)  : ∀ (S : PS) (x0 : Nat) (x1 : Int32) (x2 : Int32), wpX9_takeBack_b66  Q S x0 x1 x2 → PW p l e rmX9_takeBack s m args below meth c (MQ below (va_Qi Q (pB G) (pFr G)) args s rmX9_takeBack.cells rmX9_takeBack.slots (pFr G)) G 4 S 0 0 [(0, .ref (G.2.2 + x0)), (1, .int x1), (2, .int x2)] 66 ([]) := by
  intro S x0 x1 x2 h
  unfold wpX9_takeBack_b66 at h
  refine pw_aload_n (pc := 66) C 0 dX9_takeBack_66 rfl rfl ?_
  refine pw_dup (pc := 67) C dX9_takeBack_67 rfl ?_
  obtain ⟨hk1, h⟩ := h
  refine pw_getI (pc := 68) (ref := "SupportSolver$Trail") (k := 4) (index := 28) C pCl7 iX9_takeBack_X9 hk1 rfl (by decide +kernel) (Or.inl rfl) dX9_takeBack_68 ?_
  refine pw_iconst (pc := 71) (v := 1 ) C dX9_takeBack_71 (by decide) ?_
  refine pw_isub (pc := 72) C dX9_takeBack_72 ?_
  refine pw_putI (pc := 73) (ref := "SupportSolver$Trail") (k := 4) (index := 28) C pCl7 iX9_takeBack_X9 hk1 rfl (by decide +kernel) (Or.inl rfl) (Or.inl rfl) rfl rfl dX9_takeBack_73 ?_
  refine pw_iload_n (pc := 76) (S := (sI S x0 4 ((pI S x0 4) - (1 : Int32)))) C 1 dX9_takeBack_76 rfl rfl ?_
  refine pw_aload_n (pc := 77) (S := (sI S x0 4 ((pI S x0 4) - (1 : Int32)))) C 0 dX9_takeBack_77 rfl rfl ?_
  refine pw_getI (pc := 78) (S := (sI S x0 4 ((pI S x0 4) - (1 : Int32)))) (ref := "SupportSolver$Trail") (k := 3) (index := 25) C pCl7 iX9_takeBack_X9 hk1 rfl (by decide +kernel) (Or.inl rfl) dX9_takeBack_78 ?_
  refine pw_isub (pc := 81) (S := (sI S x0 4 ((pI S x0 4) - (1 : Int32)))) C dX9_takeBack_81 ?_
  exact pw_iret (pc := 82) (S := (sI S x0 4 ((pI S x0 4) - (1 : Int32)))) C hr h dX9_takeBack_82
set_option maxRecDepth 100000 in
set_option maxHeartbeats 4000000 in
theorem cbX9_takeBack_b9 {p : Program} {l : Launch} {e : Env} {s : State} {m : MethodId} {args : Array Value} {below : List Frame} {meth : Method} {c : Code} {G : PG} {Q : Int32 → PS → Prop} (C : pCx p s m args meth c G cX9_takeBack 4 yX9_takeBack.cls wsX9_takeBack) (hr : meth.sig.returnType = (some .int)) (hin : meth.name = yX9_takeBack.name) (hZ : pZa G)  (n : Nat) : ∀ (S : PS) (x0 : Nat) (x1 : Int32) (x2 : Int32), wpX9_takeBack_b9  Q n S x0 x1 x2 → PW p l e rmX9_takeBack s m args below meth c (MQ below (va_Qi Q (pB G) (pFr G)) args s rmX9_takeBack.cells rmX9_takeBack.slots (pFr G)) G 4 S 0 0 [(0, .ref (G.2.2 + x0)), (1, .int x1), (2, .int x2)] 9 ([]) := by
  induction n with
  | zero => intro S x0 x1 x2 h; exact h.elim
  | succ n ih =>
    intro S x0 x1 x2 h
    unfold wpX9_takeBack_b9 at h
    refine pw_iload_n (pc := 9) C 2 dX9_takeBack_9 rfl rfl ?_
    refine pw_if_lt (pc := 10) (tgt := 66) C dX9_takeBack_10 rfl ⟨fun hc => ?_, fun hc => ?_⟩
    · replace h := h.1 hc
      exact cbX9_takeBack_b66 C hr hin hZ  _ _ _ _ h
    · replace h := h.2 hc
      refine pw_aload_n (pc := 13) C 0 dX9_takeBack_13 rfl rfl ?_
      refine pw_iload_n (pc := 14) C 2 dX9_takeBack_14 rfl rfl ?_
      obtain ⟨hk2, h⟩ := h
      refine pw_callq (pc := 15) (kc2 := 0) (kn2 := 0) (pRunV (pc := 15) C (ctX9_factAt l G hZ  _ x0 x2 _ h) (cwV 1 C.2.2.2.2.1 gX9_takeBack_X9_factAt rfl rfl rfl (by decide +kernel) ⟨Nat.le_of_ble_eq_true rfl, Nat.le_of_ble_eq_true rfl⟩) pCl7 hk2 rfl rfl (Nat.le_of_ble_eq_true rfl) dX9_takeBack_15 ⟨Nat.le_of_ble_eq_true rfl, Nat.le_of_ble_eq_true rfl⟩) rfl rfl (fun r3 S4 h => ?_)
      cases hqr3 : r3 with
      | none =>
        replace h := h.1 hqr3
        show PW p l e _ s m args below meth c _ G _ S4 _ _ _ _ (.null :: [])
        refine pw_astore_nN (pc := 18) C [(3, .null), (0, .ref (G.2.2 + x0)), (1, .int x1), (2, .int x2)] dX9_takeBack_18 rfl (by decide) rfl ?_
        refine pw_aload_nN (pc := 19) C 0 dX9_takeBack_19 rfl rfl ?_
        refine pw_ifnull_n (pc := 20) (tgt := 66) C dX9_takeBack_20 rfl ?_
        refine pw_sub [1, 2, 3] (LV2 := [(0, .ref (G.2.2 + x0)), (1, .int x1), (2, .int x2)]) rfl ?_
        exact cbX9_takeBack_b66 C hr hin hZ  _ _ _ _ h
      | some o5 =>
        replace h := h.2 o5 hqr3
        show PW p l e _ s m args below meth c _ G _ S4 _ _ _ _ (.ref (G.2.2 + o5) :: [])
        refine pw_astore_n (pc := 18) C [(3, .ref (G.2.2 + o5)), (0, .ref (G.2.2 + x0)), (1, .int x1), (2, .int x2)] dX9_takeBack_18 rfl (by decide) rfl ?_
        refine pw_aload_n (pc := 19) C 0 dX9_takeBack_19 rfl rfl ?_
        refine pw_ifnull_r (pc := 20) C dX9_takeBack_20 ?_
        refine pw_aload_n (pc := 23) C 0 dX9_takeBack_23 rfl rfl ?_
        obtain ⟨hk6, h⟩ := h
        refine pw_getI (pc := 24) (ref := "SupportSolver$Fact") (k := 3) (index := 59) C pCl2 iX9_takeBack_X3 hk6 rfl (by decide +kernel) (Or.inl rfl) dX9_takeBack_24 ?_
        refine pw_aload_n (pc := 27) C 1 dX9_takeBack_27 rfl rfl ?_
        obtain ⟨hk7, h⟩ := h
        refine pw_getI (pc := 28) (ref := "SupportSolver$Trail") (k := 4) (index := 28) C pCl7 iX9_takeBack_X9 hk7 rfl (by decide +kernel) (Or.inl rfl) dX9_takeBack_28 ?_
        refine pw_icmp_ge (pc := 31) (tgt := 37) C dX9_takeBack_31 rfl ⟨fun hc => ?_, fun hc => ?_⟩
        · replace h := h.1 hc
          refine pw_aload_n (pc := 37) C 1 dX9_takeBack_37 rfl rfl ?_
          refine pw_dup (pc := 38) C dX9_takeBack_38 rfl ?_
          refine pw_getJ (pc := 39) (ref := "SupportSolver$Trail") (k := 5) (index := 31) C pCl7 iX9_takeBack_X9 hk7 rfl (by decide +kernel) (Or.inl rfl) dX9_takeBack_39 ?_
          refine pw_aload_n (pc := 42) C 0 dX9_takeBack_42 rfl rfl ?_
          refine pw_calll (pc := 43) (kc2 := 0) (kn2 := 0) (pRunV (pc := 43) C (ctX3_pair l G hZ  _ o5 _ h) (cwV 0 C.2.2.2.2.1 gX9_takeBack_X3_pair rfl rfl rfl (by decide +kernel) ⟨Nat.le_of_ble_eq_true rfl, Nat.le_of_ble_eq_true rfl⟩) pCl2 hk6 rfl rfl (Nat.le_of_ble_eq_true rfl) dX9_takeBack_43 ⟨Nat.le_of_ble_eq_true rfl, Nat.le_of_ble_eq_true rfl⟩) rfl rfl (fun r8 S9 h => ?_)
          refine pw_lor (pc := 46) C dX9_takeBack_46 ?_
          obtain ⟨hk10, h⟩ := h
          refine pw_putJ (pc := 47) (ref := "SupportSolver$Trail") (k := 5) (index := 31) C pCl7 iX9_takeBack_X9 hk10 rfl (by decide +kernel) (Or.inl rfl) (Or.inl rfl) rfl rfl dX9_takeBack_47 ?_
          refine pw_aload_n (pc := 50) (S := (sJ S9 x0 5 ((pJ S4 x0 5) ||| r8))) C 1 dX9_takeBack_50 rfl rfl ?_
          refine pw_dup (pc := 51) (S := (sJ S9 x0 5 ((pJ S4 x0 5) ||| r8))) C dX9_takeBack_51 rfl ?_
          refine pw_getI (pc := 52) (S := (sJ S9 x0 5 ((pJ S4 x0 5) ||| r8))) (ref := "SupportSolver$Trail") (k := 3) (index := 25) C pCl7 iX9_takeBack_X9 hk10 rfl (by decide +kernel) (Or.inl rfl) dX9_takeBack_52 ?_
          refine pw_iconst (pc := 55) (S := (sJ S9 x0 5 ((pJ S4 x0 5) ||| r8))) (v := 1 ) C dX9_takeBack_55 (by decide) ?_
          refine pw_isub (pc := 56) (S := (sJ S9 x0 5 ((pJ S4 x0 5) ||| r8))) C dX9_takeBack_56 ?_
          refine pw_putI (pc := 57) (S := (sJ S9 x0 5 ((pJ S4 x0 5) ||| r8))) (ref := "SupportSolver$Trail") (k := 3) (index := 25) C pCl7 iX9_takeBack_X9 hk10 rfl (by decide +kernel) (Or.inl rfl) (Or.inl rfl) rfl rfl dX9_takeBack_57 ?_
          refine pw_iincK (pc := 60) (S := (sI (sJ S9 x0 5 ((pJ S4 x0 5) ||| r8)) x0 3 ((pI (sJ S9 x0 5 ((pJ S4 x0 5) ||| r8)) x0 3) - (1 : Int32)))) (w := (-1)) C [(2, .int (x2 + (-1))), (3, .ref (G.2.2 + o5)), (0, .ref (G.2.2 + x0)), (1, .int x1)] 3 dX9_takeBack_60 (by decide) rfl (by decide) rfl ?_
          refine pw_goto (pc := 63) (S := (sI (sJ S9 x0 5 ((pJ S4 x0 5) ||| r8)) x0 3 ((pI (sJ S9 x0 5 ((pJ S4 x0 5) ||| r8)) x0 3) - (1 : Int32)))) (tgt := 9) C dX9_takeBack_63 rfl ?_
          refine pw_sub [2, 3, 0] (LV2 := [(0, .ref (G.2.2 + x0)), (1, .int x1), (2, .int (x2 + (-1)))]) rfl ?_
          exact ih _ _ _ _ h
        · replace h := h.2 hc
          refine pw_goto (pc := 34) (tgt := 66) C dX9_takeBack_34 rfl ?_
          refine pw_sub [1, 2, 3] (LV2 := [(0, .ref (G.2.2 + x0)), (1, .int x1), (2, .int x2)]) rfl ?_
          exact cbX9_takeBack_b66 C hr hin hZ  _ _ _ _ h
set_option maxRecDepth 100000 in
set_option maxHeartbeats 4000000 in
theorem ctX9_takeBack (l : Launch) (G : PG) (hZ : pZa G) (S : PS) (x0 : Nat) (Q : Int32 → PS → Prop) (h : wpX9_takeBack S x0 Q) : mI l yX9_takeBack wsX9_takeBack rmX9_takeBack G S [.ref (G.2.2 + x0)] Q := by
  unfold mI
  refine met_of (cc := cX9_takeBack) (maxL := 4) (ret := (some .int)) (by decide) rfl (Nat.le_of_ble_eq_true rfl) ?_
  intro p e s m args below meth c C hr hin
  unfold wpX9_takeBack at h
  show PW p l e _ s m args below meth c _ G 4 S 0 0 [(0, .ref (G.2.2 + x0))] 0 []
  refine pw_aload_n (pc := 0) C 0 dX9_takeBack_0 rfl rfl ?_
  obtain ⟨hk11, h⟩ := h
  refine pw_getI (pc := 1) (ref := "SupportSolver$Trail") (k := 3) (index := 25) C pCl7 iX9_takeBack_X9 hk11 rfl (by decide +kernel) (Or.inl rfl) dX9_takeBack_1 ?_
  refine pw_istore_n (pc := 4) C [(1, .int (pI S x0 3)), (0, .ref (G.2.2 + x0))] dX9_takeBack_4 rfl (by decide) rfl ?_
  refine pw_iload_n (pc := 5) C 0 dX9_takeBack_5 rfl rfl ?_
  refine pw_iconst (pc := 6) (v := 1 ) C dX9_takeBack_6 (by decide) ?_
  refine pw_isub (pc := 7) C dX9_takeBack_7 ?_
  refine pw_istore_n (pc := 8) C [(2, .int ((pI S x0 3) - (1 : Int32))), (1, .int (pI S x0 3)), (0, .ref (G.2.2 + x0))] dX9_takeBack_8 rfl (by decide) rfl ?_
  refine pw_sub [2, 1, 0] (LV2 := [(0, .ref (G.2.2 + x0)), (1, .int (pI S x0 3)), (2, .int ((pI S x0 3) - (1 : Int32)))]) rfl ?_
  obtain ⟨n9, h⟩ := h
  exact cbX9_takeBack_b9 C hr hin hZ  n9 _ _ _ _ h

abbrev rmX9_groundDomains : Room := { frames := 2, cells := 0, slots := 0, locals := 41 }
theorem iX9_groundDomains_X3 : ∀ w ∈ u_ws RX3 TX3 7, w ∈ wsX9_groundDomains := fun _ h => List.mem_cons_of_mem _ (List.mem_append_right _ h)
theorem iX9_groundDomains_X9 : ∀ w ∈ u_ws RX9 TX9 6, w ∈ wsX9_groundDomains := by decide +kernel
def wpX9_groundDomains_b5  (Q : Int64 → PS → Prop) : Nat → PS → Nat → Int64 → Int64 → Int32 → Prop
  | 0 => fun _ _ _ _ _ => False
  | n + 1 => fun S x0 x1 x3 x5 => (pK S x0 = 8 ∧ (((pI S x0 3) ≤ x5 → (Q x3 S)) ∧ (¬ (pI S x0 3) ≤ x5 → (wpX9_factAt S x0 x5 (fun r2 S3 => ((r2 = none → (wpX9_groundDomains_b5 Q n S3 x0 x1 x3 (x5 + 1))) ∧ (∀ o4, r2 = some o4 → (pK S3 o4 = 3 ∧ ((¬ (pI S3 o4 3) = 0 → (wpX9_groundDomains_b5 Q n S3 x0 x1 x3 (x5 + 1))) ∧ ((pI S3 o4 3) = 0 → (wpX3_pair S3 o4 (fun r6 S7 => (wpX9_groundDomains_b5 Q n S7 x0 x1 (x3 &&& (r6 ^^^ (-1 : Int64))) (x5 + 1))))))))))))))
def wpX9_groundDomains (S : PS) (x0 : Nat) (x1 : Int64) (Q : Int64 → PS → Prop) : Prop := (∃ n9 : Nat, wpX9_groundDomains_b5 Q n9 S x0 x1 x1 (0 : Int32))
set_option maxRecDepth 100000 in
set_option maxHeartbeats 4000000 in
theorem cbX9_groundDomains_b5 {p : Program} {l : Launch} {e : Env} {s : State} {m : MethodId} {args : Array Value} {below : List Frame} {meth : Method} {c : Code} {G : PG} {Q : Int64 → PS → Prop} (C : pCx p s m args meth c G cX9_groundDomains 7 yX9_groundDomains.cls wsX9_groundDomains) (hr : meth.sig.returnType = (some .long)) (hin : meth.name = yX9_groundDomains.name) (hZ : pZa G)  (n : Nat) : ∀ (S : PS) (x0 : Nat) (x1 : Int64) (x3 : Int64) (x5 : Int32), wpX9_groundDomains_b5  Q n S x0 x1 x3 x5 → PW p l e rmX9_groundDomains s m args below meth c (MQ below (va_Ql Q (pB G) (pFr G)) args s rmX9_groundDomains.cells rmX9_groundDomains.slots (pFr G)) G 7 S 0 0 [(0, .ref (G.2.2 + x0)), (1, .long x1), (3, .long x3), (5, .int x5)] 5 ([]) := by
  induction n with
  | zero => intro S x0 x1 x3 x5 h; exact h.elim
  | succ n ih =>
    intro S x0 x1 x3 x5 h
    unfold wpX9_groundDomains_b5 at h
    refine pw_iload (pc := 5) C 3 dX9_groundDomains_5 rfl ?_
    refine pw_aload_n (pc := 7) C 0 dX9_groundDomains_7 rfl rfl ?_
    obtain ⟨hk1, h⟩ := h
    refine pw_getI (pc := 8) (ref := "SupportSolver$Trail") (k := 3) (index := 25) C pCl7 iX9_groundDomains_X9 hk1 rfl (by decide +kernel) (Or.inl rfl) dX9_groundDomains_8 ?_
    refine pw_icmp_ge (pc := 11) (tgt := 53) C dX9_groundDomains_11 rfl ⟨fun hc => ?_, fun hc => ?_⟩
    · replace h := h.1 hc
      refine pw_lload_n (pc := 53) C 2 dX9_groundDomains_53 rfl rfl ?_
      exact pw_lret (pc := 54) C hr h dX9_groundDomains_54
    · replace h := h.2 hc
      refine pw_aload_n (pc := 14) C 0 dX9_groundDomains_14 rfl rfl ?_
      refine pw_iload (pc := 15) C 3 dX9_groundDomains_15 rfl ?_
      refine pw_callq (pc := 17) (kc2 := 0) (kn2 := 0) (pRunV (pc := 17) C (ctX9_factAt l G hZ  _ x0 x5 _ h) (cwV 1 C.2.2.2.2.1 gX9_groundDomains_X9_factAt rfl rfl rfl (by decide +kernel) ⟨Nat.le_of_ble_eq_true rfl, Nat.le_of_ble_eq_true rfl⟩) pCl7 hk1 rfl rfl (Nat.le_of_ble_eq_true rfl) dX9_groundDomains_17 ⟨Nat.le_of_ble_eq_true rfl, Nat.le_of_ble_eq_true rfl⟩) rfl rfl (fun r2 S3 h => ?_)
      cases hqr2 : r2 with
      | none =>
        replace h := h.1 hqr2
        show PW p l e _ s m args below meth c _ G _ S3 _ _ _ _ (.null :: [])
        refine pw_astoreN (pc := 20) C [(6, .null), (0, .ref (G.2.2 + x0)), (1, .long x1), (3, .long x3), (5, .int x5)] dX9_groundDomains_20 (by decide) rfl ?_
        refine pw_aloadN (pc := 22) C 0 dX9_groundDomains_22 rfl ?_
        refine pw_ifnull_n (pc := 24) (tgt := 47) C dX9_groundDomains_24 rfl ?_
        refine pw_iincK (pc := 47) (w := 1) C [(5, .int (x5 + 1)), (6, .null), (0, .ref (G.2.2 + x0)), (1, .long x1), (3, .long x3)] 4 dX9_groundDomains_47 (by decide) rfl (by decide) rfl ?_
        refine pw_goto (pc := 50) (tgt := 5) C dX9_groundDomains_50 rfl ?_
        refine pw_sub [2, 3, 4, 0] (LV2 := [(0, .ref (G.2.2 + x0)), (1, .long x1), (3, .long x3), (5, .int (x5 + 1))]) rfl ?_
        exact ih _ _ _ _ _ h
      | some o4 =>
        replace h := h.2 o4 hqr2
        show PW p l e _ s m args below meth c _ G _ S3 _ _ _ _ (.ref (G.2.2 + o4) :: [])
        refine pw_astore (pc := 20) C [(6, .ref (G.2.2 + o4)), (0, .ref (G.2.2 + x0)), (1, .long x1), (3, .long x3), (5, .int x5)] dX9_groundDomains_20 (by decide) rfl ?_
        refine pw_aload (pc := 22) C 0 dX9_groundDomains_22 rfl ?_
        refine pw_ifnull_r (pc := 24) C dX9_groundDomains_24 ?_
        refine pw_aload (pc := 27) C 0 dX9_groundDomains_27 rfl ?_
        obtain ⟨hk5, h⟩ := h
        refine pw_getI (pc := 29) (ref := "SupportSolver$Fact") (k := 3) (index := 59) C pCl2 iX9_groundDomains_X3 hk5 rfl (by decide +kernel) (Or.inl rfl) dX9_groundDomains_29 ?_
        refine pw_if_ne (pc := 32) (tgt := 47) C dX9_groundDomains_32 rfl ⟨fun hc => ?_, fun hc => ?_⟩
        · replace h := h.1 hc
          refine pw_iincK (pc := 47) (w := 1) C [(5, .int (x5 + 1)), (6, .ref (G.2.2 + o4)), (0, .ref (G.2.2 + x0)), (1, .long x1), (3, .long x3)] 4 dX9_groundDomains_47 (by decide) rfl (by decide) rfl ?_
          refine pw_goto (pc := 50) (tgt := 5) C dX9_groundDomains_50 rfl ?_
          refine pw_sub [2, 3, 4, 0] (LV2 := [(0, .ref (G.2.2 + x0)), (1, .long x1), (3, .long x3), (5, .int (x5 + 1))]) rfl ?_
          exact ih _ _ _ _ _ h
        · replace h := h.2 hc
          refine pw_lload_n (pc := 35) C 3 dX9_groundDomains_35 rfl rfl ?_
          refine pw_aload (pc := 36) C 0 dX9_groundDomains_36 rfl ?_
          refine pw_calll (pc := 38) (kc2 := 0) (kn2 := 0) (pRunV (pc := 38) C (ctX3_pair l G hZ  _ o4 _ h) (cwV 0 C.2.2.2.2.1 gX9_groundDomains_X3_pair rfl rfl rfl (by decide +kernel) ⟨Nat.le_of_ble_eq_true rfl, Nat.le_of_ble_eq_true rfl⟩) pCl2 hk5 rfl rfl (Nat.le_of_ble_eq_true rfl) dX9_groundDomains_38 ⟨Nat.le_of_ble_eq_true rfl, Nat.le_of_ble_eq_true rfl⟩) rfl rfl (fun r6 S7 h => ?_)
          refine pw_ldc2 (pc := 41) (v := (-1)) C (by decide +kernel) dX9_groundDomains_41 ?_
          refine pw_lxor (pc := 44) C dX9_groundDomains_44 ?_
          refine pw_land (pc := 45) C dX9_groundDomains_45 ?_
          refine pw_lstore_n (pc := 46) C [(3, .long (x3 &&& (r6 ^^^ (-1 : Int64)))), (6, .ref (G.2.2 + o4)), (0, .ref (G.2.2 + x0)), (1, .long x1), (5, .int x5)] dX9_groundDomains_46 rfl (by decide) rfl ?_
          refine pw_iincK (pc := 47) (w := 1) C [(5, .int (x5 + 1)), (3, .long (x3 &&& (r6 ^^^ (-1 : Int64)))), (6, .ref (G.2.2 + o4)), (0, .ref (G.2.2 + x0)), (1, .long x1)] 4 dX9_groundDomains_47 (by decide) rfl (by decide) rfl ?_
          refine pw_goto (pc := 50) (tgt := 5) C dX9_groundDomains_50 rfl ?_
          refine pw_sub [3, 4, 1, 0] (LV2 := [(0, .ref (G.2.2 + x0)), (1, .long x1), (3, .long (x3 &&& (r6 ^^^ (-1 : Int64)))), (5, .int (x5 + 1))]) rfl ?_
          exact ih _ _ _ _ _ h
set_option maxRecDepth 100000 in
set_option maxHeartbeats 4000000 in
theorem ctX9_groundDomains (l : Launch) (G : PG) (hZ : pZa G) (S : PS) (x0 : Nat) (x1 : Int64) (Q : Int64 → PS → Prop) (h : wpX9_groundDomains S x0 x1 Q) : mJ l yX9_groundDomains wsX9_groundDomains rmX9_groundDomains G S [.ref (G.2.2 + x0), .long x1] Q := by
  unfold mJ
  refine met_of (cc := cX9_groundDomains) (maxL := 7) (ret := (some .long)) (by decide) rfl (Nat.le_of_ble_eq_true rfl) ?_
  intro p e s m args below meth c C hr hin
  unfold wpX9_groundDomains at h
  show PW p l e _ s m args below meth c _ G 7 S 0 0 [(0, .ref (G.2.2 + x0)), (1, .long x1)] 0 []
  refine pw_lload_n (pc := 0) C 1 dX9_groundDomains_0 rfl rfl ?_
  refine pw_lstore_n (pc := 1) C [(3, .long x1), (0, .ref (G.2.2 + x0)), (1, .long x1)] dX9_groundDomains_1 rfl (by decide) rfl ?_
  refine pw_iconst (pc := 2) (v := 0 ) C dX9_groundDomains_2 (by decide) ?_
  refine pw_istore (pc := 3) C [(5, .int (0 : Int32)), (3, .long x1), (0, .ref (G.2.2 + x0)), (1, .long x1)] dX9_groundDomains_3 (by decide) rfl ?_
  refine pw_sub [2, 3, 1, 0] (LV2 := [(0, .ref (G.2.2 + x0)), (1, .long x1), (3, .long x1), (5, .int (0 : Int32))]) rfl ?_
  obtain ⟨n9, h⟩ := h
  exact cbX9_groundDomains_b5 C hr hin hZ  n9 _ _ _ _ _ h

/-! THE CLAIM OUT OF ONE WALK OF THE LAW'S BODY (kit/laws/SKELETON.whole is its starting text) -/
def R_law : String := "SupportSolverLaw"
def lw_P (b : Addr) (xs : List Int32) (args : Array Value) (s : State) : Prop := args = #[.ref b] ∧ s.IntsAt b xs ∧ xs.length ≤ 3072 ∧ (Jvm.Cond.and given_1 narrow_1).before args s = true
/-- what a walk over the start with the record d0 says of its end, said of the start itself -/
theorem lw_closed {s t : State} {o : Outcome} {d0 : Drawn} {L : List Loc} {k n : Nat} (hd0 : s.drawn.sameBut d0 lw_cs) (hv : ∃ v, o = .returned v) (hW : (s.setDrawn d0).WarmedH t.vm) (hs : (s.setDrawn d0).sameButNew ({ t with vm := s.vm } : State) L k n) : State.butDraws s t lw_cs (fun t1 => Framed s o t1 L k n) := by
  have h2 : t.drawn = d0 := congrArg State.drawn hs.1
  refine ⟨⟨hv, hW, State.sameButNew.setDrawn hs s.drawn⟩, ?_, by decide⟩
  rw [h2]
  exact hd0
def lw_Q (_ : Array Value) (s : State) (o : Outcome) (t : State) : Prop := o = .returned (some (.int 1)) ∧ State.butDraws s t lw_cs (fun t1 => Framed s o t1 [] 601024 7293034)
def lw_Z (below : List Frame) (a : Array Value) (s : State) : State → Prop := fun t => ∃ o, t.status = .running ∧ Ended t below o ∧ lw_Q a s o t
/-- the law's own end, with 1 on the stack, nothing written that was there before, its room as the claim has it; d0: the record of draws at this point (at the entry s.drawn: begin with 'refine W.base ?_' and 'have hd0 := Drawn.sameBut.refl s.drawn lw_cs') -/
theorem lw_ret {p : Program} {l : Launch} {e : Env} {s : State} {m : MethodId} {below : List Frame} {meth : Method} {c : Code} {b : Nat} {d0 : Drawn} (hd0 : s.drawn.sameBut d0 lw_cs) (hx : p.tables.exec = Jvm.exec) (hb : c.code = code) (hr : meth.sig.returnType = ret) (hlocks : meth.locks = false) {pc : Nat} {H : Heap} {ls : Array Slot} (hdg : decode code pc = .ok (.ireturn, 1)) : W p l e room_1 (s.setDrawn d0) m #[Value.ref b] below meth c H [] 601024 7293034 (lw_Z below #[Value.ref b] s) (F0 m pc ls [.int 1]) := by
  intro T hT X
  obtain ⟨fs, hret, hrun, hended, hW, hframe⟩ := X.leave (v := some (.int 1)) (hlocks := hlocks) (fun h => by rw [hr] at h; cases h)
  have hmeth' : T.vm.method? m = some meth := X.method'
  refine ⟨T.setFrames fs, ?_, .returned (some (.int 1)), hrun, hended, rfl, lw_closed hd0 ⟨_, rfl⟩ hW hframe⟩
  jvm_step X.here [X.here.top, hx, hb, hdg, hmeth', hr, ret, narrow_b1]
  (try refine ⟨rfl, ?_⟩); (try refine ⟨rfl, ?_⟩)
  first | (intro acts; rw [hret _ acts rfl rfl rfl]) | rw [hret _ _ rfl rfl rfl]
  exact Steps.refl _
/-- what holds at the law's entry: the machine, the code, the tables' words (any of lw_tbl by 'hts w (by decide +kernel)'), the script of L ints xs at the cell b, what the Statement gives of the start (any of its parts by flat_of_before) -/
def lw_At (p : Program) (s : State) (m : MethodId) (meth : Method) (c : Code) (b L : Nat) (xs : Nat → Int32) : Prop :=
  p.tables.exec = Jvm.exec ∧ c.code = code ∧ meth.sig.returnType = ret ∧ c.maxLocals = 9 ∧ s.vm.findClass R_law = some m.cls ∧ (∀ w ∈ lw_tbl, w.before #[Value.ref b] s = true) ∧ va_X b L xs s s.heap ∧ b < s.heap.size ∧ meth.locks = false ∧ (Jvm.Cond.and given_1 narrow_1).before #[Value.ref b] s = true
/-! THE CLAIM'S PART: the start's worlds, and the walk over the pure obligation -/
theorem k_cls {s : State} {b : Nat} (h : zE0 s b) : ∃ (dC : Nat → ClassId) (dI : Nat → Nat → Nat), ∀ (k : Nat) (q : vw_C), vwCl[k]? = some q → u_Kn s q.1 q.2.1 q.2.2 (dC k) (dI k) := by
  have f : ∀ k : Nat, ∃ r : ClassId × (Nat → Nat), ∀ q : vw_C, vwCl[k]? = some q → u_Kn s q.1 q.2.1 q.2.2 r.1 r.2 := by
    intro k
    match k with
    | 0 => obtain ⟨c, i, hK⟩ := u_known (C := RX0) (T := TX0) (N := 4) (n := 4) h.1 la_8 (h.1 (.instantiable RX0 4) (by decide +kernel)); exact ⟨(c, i), fun q hq => by cases hq; exact hK⟩
    | 1 => obtain ⟨c, i, hK⟩ := u_known (C := RX2) (T := TX2) (N := 7) (n := 7) h.1 la_9 (h.1 (.instantiable RX2 7) (by decide +kernel)); exact ⟨(c, i), fun q hq => by cases hq; exact hK⟩
    | 2 => obtain ⟨c, i, hK⟩ := u_known (C := RX3) (T := TX3) (N := 7) (n := 7) h.1 la_7 (h.1 (.instantiable RX3 7) (by decide +kernel)); exact ⟨(c, i), fun q hq => by cases hq; exact hK⟩
    | 3 => obtain ⟨c, i, hK⟩ := u_known (C := RX4) (T := TX4) (N := 5) (n := 5) h.1 la_4 (h.1 (.instantiable RX4 5) (by decide +kernel)); exact ⟨(c, i), fun q hq => by cases hq; exact hK⟩
    | 4 => obtain ⟨c, i, hK⟩ := u_known (C := RX6) (T := TX6) (N := 4) (n := 4) h.1 la_6 (h.1 (.instantiable RX6 4) (by decide +kernel)); exact ⟨(c, i), fun q hq => by cases hq; exact hK⟩
    | 5 => obtain ⟨c, i, hK⟩ := u_known (C := RX7) (T := TX7) (N := 5) (n := 5) h.1 la_5 (h.1 (.instantiable RX7 5) (by decide +kernel)); exact ⟨(c, i), fun q hq => by cases hq; exact hK⟩
    | 6 => obtain ⟨c, i, hK⟩ := u_known (C := RX8) (T := TX8) (N := 10) (n := 10) h.1 la_2 (h.1 (.instantiable RX8 10) (by decide +kernel)); exact ⟨(c, i), fun q hq => by cases hq; exact hK⟩
    | 7 => obtain ⟨c, i, hK⟩ := u_known (C := RX9) (T := TX9) (N := 6) (n := 6) h.1 la_3 (h.1 (.instantiable RX9 6) (by decide +kernel)); exact ⟨(c, i), fun q hq => by cases hq; exact hK⟩
    | 8 => obtain ⟨c, i, hK⟩ := u_known (C := RX10) (T := TX10) (N := 8) (n := 8) h.1 la_10 (h.1 (.instantiable RX10 8) (by decide +kernel)); exact ⟨(c, i), fun q hq => by cases hq; exact hK⟩
    | 9 => obtain ⟨c, i, hK⟩ := u_known (C := RX11) (T := TX11) (N := 9) (n := 9) h.1 la_0 (h.1 (.instantiable RX11 9) (by decide +kernel)); exact ⟨(c, i), fun q hq => by cases hq; exact hK⟩
    | 10 => obtain ⟨c, i, hK⟩ := u_known (C := RX12) (T := TX12) (N := 32) (n := 32) h.1 la_1 (h.1 (.instantiable RX12 32) (by decide +kernel)); exact ⟨(c, i), fun q hq => by cases hq; exact hK⟩
    | k + 11 => exact ⟨(0, fun _ => 0), fun q hq => by simp [vwCl] at hq⟩
  obtain ⟨r, hr⟩ := Classical.axiomOfChoice f
  exact ⟨fun k => (r k).1, fun k => (r k).2, fun k q hq => hr k q hq⟩
theorem k_prim {s : State} {b : Nat} (h : zE0 s b) {ty : FieldType} (hm : Cond.arrayClass ty ∈ lw_tbl) : ∃ cA : ClassId, ArrOfT s cA ty ∧ s.vm.findClass ("[" ++ ty.toString) = some cA := by
  obtain ⟨c, k, comp, h1, h2, h3⟩ := Cond.arrayClass_spec (h.1 _ hm)
  exact ⟨c, fun n z => ⟨fun k h => (by cases h), k, h2, comp, h3⟩, h1⟩
theorem k_over {s : State} {b : Nat} (h : zE0 s b) {CN : String} (hm : Cond.arrayOver (.object CN) ∈ lw_tbl) : ∃ cA : ClassId, ArrOfT s cA (.object CN) ∧ va_RA s cA (.object CN) := by
  obtain ⟨comp, c, k, h1, -, h3, h4, h5⟩ := Cond.arrayOver_spec (h.1 _ hm)
  exact ⟨c, fun n z => ⟨fun k h => (by cases h), k, h3, comp, h4⟩, k, comp, h3, h4, h1, h5⟩
def pS0 : PS := (0, fun _ => 0, fun _ => 0, fun _ _ => 0, fun _ _ => 0, fun _ _ => none)
theorem hold0 (G : PG) (H : Heap) (h : H.size = G.2.2) : pHold G pS0 H :=
  ⟨[], fun a ha => absurd rfl ha, fun k q hq => by simp [va_pl] at hq, ⟨fun i j p q hp => by simp [va_pl] at hp, fun k q hq => by simp [va_pl] at hq⟩, by show H.size = G.2.2 + 0; omega⟩
theorem start_of {p : Program} {e : Env} {s : State} {m : MethodId} {below : List Frame} {meth : Method} {c : Code} (l : Launch) (hflags : l.flags = flags0) {b L : Nat} {xs : Nat → Int32} (C0 : lw_At p s m meth c b L xs) (hpure : wpL_law xs L pS0) : W p l e room_1 s m #[Value.ref b] below meth c s.heap [] 0 0 (lw_Z below #[Value.ref b] s) (entryFrame m ([Value.ref b] : List Value).toArray 9) := by
  obtain ⟨hx, hb0, hr, hml, hown, hts, hX, hbl, hlocks, hgv⟩ := C0
  have hl0 : l.stackTraces = false := by
    show _ = _
    unfold Launch.stackTraces
    rw [hflags]
    decide +kernel
  have hE : zE0 s b := ⟨hts, flat_of_before _ hgv⟩
  obtain ⟨dC, dI, hKc⟩ := k_cls hE
  obtain ⟨c12, a12, r12⟩ := k_prim hE (ty := .byte) (by decide +kernel)
  obtain ⟨c13, a13, r13⟩ := k_prim hE (ty := .int) (by decide +kernel)
  obtain ⟨c14, a14, r14⟩ := k_prim hE (ty := .long) (by decide +kernel)
  obtain ⟨c15, a15, r15⟩ := k_prim hE (ty := .boolean) (by decide +kernel)
  obtain ⟨c16, a16, r16⟩ := k_over hE (CN := "SupportSolver$Constraint") (by decide +kernel)
  obtain ⟨c17, a17, r17⟩ := k_over hE (CN := "SupportSolver$Fact") (by decide +kernel)
  obtain ⟨c18, a18, r18⟩ := k_prim hE (ty := .double) (by decide +kernel)
  obtain ⟨cl, e12, e13, e14, e15, e16, e17, e18⟩ : ∃ cl : Nat → ClassId, cl 12 = c12 ∧ cl 13 = c13 ∧ cl 14 = c14 ∧ cl 15 = c15 ∧ cl 16 = c16 ∧ cl 17 = c17 ∧ cl 18 = c18 :=
    ⟨fun k => if k = 12 then c12 else if k = 13 then c13 else if k = 14 then c14 else if k = 15 then c15 else if k = 16 then c16 else if k = 17 then c17 else c18, rfl, rfl, rfl, rfl, rfl, rfl, rfl⟩
  obtain ⟨G, hG⟩ : ∃ G : PG, G = ((((dC, dI) : va_G), zZ s), cl, s.heap.size) := ⟨_, rfl⟩
  have hZ : pZa G := by rw [hG]; exact z_all hE
  have hK : va_K G.1.1 vwCl (pTy G) s := by
    rw [hG]
    refine ⟨hKc, fun k q hq => ?_⟩
    match k, hq with
    | 0, hq => cases hq; show ArrOfT s (cl 12) .byte ∧ va_RA s (cl 12) .byte; rw [e12]; exact ⟨a12, r12⟩
    | 1, hq => cases hq; show ArrOfT s (cl 13) .int ∧ va_RA s (cl 13) .int; rw [e13]; exact ⟨a13, r13⟩
    | 2, hq => cases hq; show ArrOfT s (cl 14) .long ∧ va_RA s (cl 14) .long; rw [e14]; exact ⟨a14, r14⟩
    | 3, hq => cases hq; show ArrOfT s (cl 15) .boolean ∧ va_RA s (cl 15) .boolean; rw [e15]; exact ⟨a15, r15⟩
    | 4, hq => cases hq; show ArrOfT s (cl 16) (.object "SupportSolver$Constraint") ∧ va_RA s (cl 16) (.object "SupportSolver$Constraint"); rw [e16]; exact ⟨a16, r16⟩
    | 5, hq => cases hq; show ArrOfT s (cl 17) (.object "SupportSolver$Fact") ∧ va_RA s (cl 17) (.object "SupportSolver$Fact"); rw [e17]; exact ⟨a17, r17⟩
    | 6, hq => cases hq; show ArrOfT s (cl 18) .double ∧ va_RA s (cl 18) .double; rw [e18]; exact ⟨a18, r18⟩
    | k + 7, hq => simp [pTy] at hq
  have hbG : b < G.2.2 := by rw [hG]; exact hbl
  have hC : pCx p s m #[Value.ref b] meth c G cL_law 9 RL TsLaw := by
    rw [hG] at hK ⊢
    exact ⟨hx, hb0, hml, hown, fun w hw => hts w (ts_law w hw), hK, hlocks, Nat.le_refl _, ⟨State.WarmedH.refl s, fun _ _ => rfl, Nat.le_refl _⟩, zOK s _ _⟩
  have hend : ∀ (S : PS) (kc kn : Nat) (LV : List (Nat × Value)), kc ≤ 601024 → kn ≤ 7293034 → PW p l e room_1 s m #[Value.ref b] below meth c (lw_Z below #[Value.ref b] s) G 9 S kc kn LV 1920 [.int 1] := by
    intro S kc kn LV h1 h2 H locs ls hH hS hl
    refine W.widen h1 h2 ?_
    refine va_forget (fun q hq => by have := hS.2.2 q hq; rw [hG] at this; exact this) ?_
    exact lw_ret (d0 := s.drawn) (Drawn.sameBut.refl s.drawn lw_cs) hx hb0 hr hlocks dL_law_1920
  have k1 := ctL_law (p := p) (l := l) (e := e) (s := s) (m := m) (args := #[Value.ref b]) (below := below) (meth := meth) (c := c) (Q := lw_Z below #[Value.ref b] s) (G := G) hC hZ hl0 hX hbl hbG hend pS0 hpure
  rw [lg_entry_eq]
  exact k1 s.heap [] _ (hold0 G s.heap (by rw [hG])) va_S.rf (lv_entry ([.ref b]) (n := 9) (Nat.le_of_ble_eq_true rfl))
theorem whole_start {p : Program} {e : Env} {s : State} {m : MethodId} {below : List Frame} {meth : Method} {c : Code} (l : Launch) (hflags : l.flags = flags0) {b L : Nat} {xs : Nat → Int32} (hL : L ≤ 3072) (C0 : lw_At p s m meth c b L xs) : W p l e room_1 s m #[Value.ref b] below meth c s.heap [] 0 0 (lw_Z below #[Value.ref b] s) (entryFrame m ([Value.ref b] : List Value).toArray 9) := start_of l hflags C0 (law_pure hL rfl)

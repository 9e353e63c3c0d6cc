/-! THE POOL: a typed heap by offsets from a base b. S = (next offset, kinds, lengths, ints, longs, references). Kind 0: none; 1..11: the object of class (kind - 1) of vwCl; 12 byte, 13 int, 14 long, 15 boolean, 16 Constraint, 17 Fact, 18 double rows. -/
abbrev PS : Type := Nat × (Nat → Nat) × (Nat → Nat) × (Nat → Nat → Int32) × (Nat → Nat → Int64) × (Nat → Nat → Option Nat)
def pN (S : PS) : Nat := S.1
def pK (S : PS) (a : Nat) : Nat := S.2.1 a
def pL (S : PS) (a : Nat) : Nat := S.2.2.1 a
def pI (S : PS) (a k : Nat) : Int32 := S.2.2.2.1 a k
def pJ (S : PS) (a k : Nat) : Int64 := S.2.2.2.2.1 a k
def pR (S : PS) (a k : Nat) : Option Nat := S.2.2.2.2.2 a k
def u2 {α : Type} (f : Nat → Nat → α) (a k : Nat) (v : α) : Nat → Nat → α := fun x j => if x = a ∧ j = k then v else f x j
def sI (S : PS) (a k : Nat) (v : Int32) : PS := (S.1, S.2.1, S.2.2.1, u2 S.2.2.2.1 a k v, S.2.2.2.2.1, S.2.2.2.2.2)
def sJ (S : PS) (a k : Nat) (v : Int64) : PS := (S.1, S.2.1, S.2.2.1, S.2.2.2.1, u2 S.2.2.2.2.1 a k v, S.2.2.2.2.2)
def sR (S : PS) (a k : Nat) (v : Option Nat) : PS := (S.1, S.2.1, S.2.2.1, S.2.2.2.1, S.2.2.2.2.1, u2 S.2.2.2.2.2 a k v)
def u1 {α : Type} (f : Nat → α) (a : Nat) (v : α) : Nat → α := fun x => if x = a then v else f x
/-- a new object or row of a kind and a length, at the next offset: zeros and nulls -/
def sNew (S : PS) (κ n : Nat) : PS := (S.1 + 1, u1 S.2.1 S.1 κ, u1 S.2.2.1 S.1 n, fun x j => if x = S.1 then 0 else S.2.2.2.1 x j, fun x j => if x = S.1 then 0 else S.2.2.2.2.1 x j, fun x j => if x = S.1 then none else S.2.2.2.2.2 x j)
/-- cells that are none of the pool's come -/
def sSkip (S : PS) (n : Nat) : PS := (S.1 + n, S.2)
theorem pI_sI (S : PS) (a k : Nat) (v : Int32) (x j : Nat) : pI (sI S a k v) x j = if x = a ∧ j = k then v else pI S x j := rfl
theorem pI_sJ (S : PS) (a k : Nat) (v : Int64) (x j : Nat) : pI (sJ S a k v) x j = pI S x j := rfl
theorem pI_sR (S : PS) (a k : Nat) (v : Option Nat) (x j : Nat) : pI (sR S a k v) x j = pI S x j := rfl
theorem pJ_sI (S : PS) (a k : Nat) (v : Int32) (x j : Nat) : pJ (sI S a k v) x j = pJ S x j := rfl
theorem pJ_sJ (S : PS) (a k : Nat) (v : Int64) (x j : Nat) : pJ (sJ S a k v) x j = if x = a ∧ j = k then v else pJ S x j := rfl
theorem pJ_sR (S : PS) (a k : Nat) (v : Option Nat) (x j : Nat) : pJ (sR S a k v) x j = pJ S x j := rfl
theorem pR_sI (S : PS) (a k : Nat) (v : Int32) (x j : Nat) : pR (sI S a k v) x j = pR S x j := rfl
theorem pR_sJ (S : PS) (a k : Nat) (v : Int64) (x j : Nat) : pR (sJ S a k v) x j = pR S x j := rfl
theorem pR_sR (S : PS) (a k : Nat) (v : Option Nat) (x j : Nat) : pR (sR S a k v) x j = if x = a ∧ j = k then v else pR S x j := rfl
theorem pK_sI (S : PS) (a k : Nat) (v : Int32) (x : Nat) : pK (sI S a k v) x = pK S x := rfl
theorem pK_sJ (S : PS) (a k : Nat) (v : Int64) (x : Nat) : pK (sJ S a k v) x = pK S x := rfl
theorem pK_sR (S : PS) (a k : Nat) (v : Option Nat) (x : Nat) : pK (sR S a k v) x = pK S x := rfl
theorem pL_sI (S : PS) (a k : Nat) (v : Int32) (x : Nat) : pL (sI S a k v) x = pL S x := rfl
theorem pL_sJ (S : PS) (a k : Nat) (v : Int64) (x : Nat) : pL (sJ S a k v) x = pL S x := rfl
theorem pL_sR (S : PS) (a k : Nat) (v : Option Nat) (x : Nat) : pL (sR S a k v) x = pL S x := rfl
theorem pN_sI (S : PS) (a k : Nat) (v : Int32) : pN (sI S a k v) = pN S := rfl
theorem pN_sJ (S : PS) (a k : Nat) (v : Int64) : pN (sJ S a k v) = pN S := rfl
theorem pN_sR (S : PS) (a k : Nat) (v : Option Nat) : pN (sR S a k v) = pN S := rfl
theorem pN_sNew (S : PS) (κ n : Nat) : pN (sNew S κ n) = pN S + 1 := rfl
theorem pK_sNew (S : PS) (κ n x : Nat) : pK (sNew S κ n) x = if x = pN S then κ else pK S x := rfl
theorem pL_sNew (S : PS) (κ n x : Nat) : pL (sNew S κ n) x = if x = pN S then n else pL S x := rfl
theorem pI_sNew (S : PS) (κ n x j : Nat) : pI (sNew S κ n) x j = if x = pN S then 0 else pI S x j := rfl
theorem pJ_sNew (S : PS) (κ n x j : Nat) : pJ (sNew S κ n) x j = if x = pN S then 0 else pJ S x j := rfl
theorem pR_sNew (S : PS) (κ n x j : Nat) : pR (sNew S κ n) x j = if x = pN S then none else pR S x j := rfl
theorem pN_sSkip (S : PS) (n : Nat) : pN (sSkip S n) = pN S + n := rfl
theorem pK_sSkip (S : PS) (n x : Nat) : pK (sSkip S n) x = pK S x := rfl
theorem pL_sSkip (S : PS) (n x : Nat) : pL (sSkip S n) x = pL S x := rfl
theorem pI_sSkip (S : PS) (n x j : Nat) : pI (sSkip S n) x j = pI S x j := rfl
theorem pJ_sSkip (S : PS) (n x j : Nat) : pJ (sSkip S n) x j = pJ S x j := rfl
theorem pR_sSkip (S : PS) (n x j : Nat) : pR (sSkip S n) x j = pR S x j := rfl
/-- a reference's value -/
def rf (b : Nat) (o : Option Nat) : Value := va_rf (o.map (fun x => b + x))
theorem rf_some (b a : Nat) : rf b (some a) = .ref (b + a) := rfl
theorem rf_none (b : Nat) : rf b none = .null := rfl
def pV (b : Nat) (S : PS) (a t k : Nat) : Value := match t with
  | 0 => .int (pI S a k)
  | 1 => .long (pJ S a k)
  | _ => rf b (pR S a k)
def pC (b : Nat) (S : PS) (a : Nat) : Nat → List Nat → List Value
  | _, [] => []
  | k, t :: ts => pV b S a t k :: pC b S a (k + 1) ts
theorem pC_len (b : Nat) (S : PS) (a : Nat) (ts : List Nat) (k : Nat) : (pC b S a k ts).length = ts.length := by
  induction ts generalizing k with
  | nil => rfl
  | cons t ts ih => simp [pC, ih]
theorem pC_get (b : Nat) (S : PS) (a : Nat) (ts : List Nat) (k i t : Nat) (h : ts[i]? = some t) : (pC b S a k ts)[i]? = some (pV b S a t (k + i)) := by
  induction ts generalizing k i with
  | nil => simp at h
  | cons u ts ih =>
    cases i with
    | zero => simp at h; subst h; rfl
    | succ i =>
      simp only [List.getElem?_cons_succ] at h
      simp only [pC, List.getElem?_cons_succ]
      rw [ih (k + 1) i h]
      congr 2
      omega
theorem pC_congr (b : Nat) (S S' : PS) (a : Nat) (ts : List Nat) (k : Nat) (h : ∀ t j, pV b S a t j = pV b S' a t j) : pC b S a k ts = pC b S' a k ts := by
  induction ts generalizing k with
  | nil => rfl
  | cons u ts ih => simp only [pC]; rw [h, ih]
/-- one field set -/
theorem pC_set (b : Nat) (S S' : PS) (a : Nat) (ts : List Nat) (k i t : Nat) (h : ts[i]? = some t) (hne : ∀ (t' j : Nat), j ≠ k + i → pV b S' a t' j = pV b S a t' j) : (pC b S a k ts).set i (pV b S' a t (k + i)) = pC b S' a k ts := by
  induction ts generalizing k i with
  | nil => simp at h
  | cons u ts ih =>
    cases i with
    | zero =>
      simp at h; subst h
      simp only [pC, List.set_cons_zero, Nat.add_zero]
      congr 1
      have : ∀ (l : List Nat) (q : Nat), k < q → pC b S a q l = pC b S' a q l := by
        intro l
        induction l with
        | nil => intros; rfl
        | cons w l ih2 =>
          intro q hq
          simp only [pC]
          rw [← hne w q (by omega), ih2 (q + 1) (by omega)]
      exact this ts (k + 1) (by omega)
    | succ i =>
      simp only [List.getElem?_cons_succ] at h
      simp only [pC, List.set_cons_succ]
      rw [← hne u k (by omega)]
      congr 1
      have := ih (k + 1) i h (fun t' j hj => hne t' j (by omega))
      rw [show k + 1 + i = k + (i + 1) by omega] at this
      exact this
/-- the fields' sorts, class by class, as vwCl has them: 0 int, 1 long, 2 reference -/
def pT : Nat → List Nat
  | 0 => [0, 0, 1, 0]
  | 1 => [0, 0, 1, 0, 0, 0, 0]
  | 2 => [0, 0, 0, 0, 1, 1, 0]
  | 3 => [0, 0, 1, 0, 1]
  | 4 => [2, 0, 0, 1]
  | 5 => [0, 0, 1, 1, 1]
  | 6 => [2, 2, 0, 0, 0, 2, 0, 0, 0, 0]
  | 7 => [2, 2, 0, 0, 0, 1]
  | 8 => [0, 0, 1, 0, 0, 0, 0, 0]
  | 9 => [2, 2, 2, 2, 2, 2, 2, 0, 0]
  | 10 => [0, 2, 2, 2, 2, 2, 2, 0, 0, 0, 0, 0, 2, 0, 0, 0, 0, 0, 0, 0, 0, 1, 2, 2, 2, 2, 2, 2, 2, 2, 2, 2]
  | _ => []
/-- what a claim's worlds share: the classes' numbers and slots, the rows' classes by kind, the base -/
abbrev PG : Type := (va_G × (State → Heap → Prop)) × (Nat → ClassId) × Nat
/-- what a claim's worlds share besides (words and cells below the base) goes along: by warming, by changes above the base, by a call -/
def ZOK (G : PG) : Prop := (∀ (s U : State) (H : Heap), s.WarmedH U.vm → G.1.2 s H → G.1.2 U H) ∧ (∀ (U : State) (H H1 : Heap), (∀ a : Nat, a < G.2.2 → H1[a]? = H[a]?) → G.2.2 ≤ H.size → G.2.2 ≤ H1.size → G.1.2 U H → G.1.2 U H1) ∧ ∀ (U : State) (g : JFrame) (mk : MethodId) (a : Array Value) (H : Heap), G.1.2 U H → G.1.2 (U.calling g mk a) H
def pA (G : PG) (S : PS) (a : Nat) : vp_A :=
  if pK S a = 14 then (pL S a, .inr (.inl (pJ S a)))
  else if pK S a = 16 ∨ pK S a = 17 then (pL S a, .inr (.inr (.inr (.inr (fun i => (pR S a i).map (fun x => G.2.2 + x))))))
  else if pK S a = 18 then (pL S a, .inr (.inr (.inr (.inl (fun i => (pJ S a i).toUInt64)))))
  else (pL S a, .inl (pI S a))
def pE (G : PG) (S : PS) (q : Nat) : va_E :=
  if q < G.2.2 then .inr (0, [])
  else if pK S (q - G.2.2) < 12 then .inr (pK S (q - G.2.2) - 1, pC G.2.2 S (q - G.2.2) 0 (pT (pK S (q - G.2.2) - 1)))
  else .inl (G.2.1 (pK S (q - G.2.2)), pA G S (q - G.2.2))
theorem pE_obj (G : PG) (S : PS) {a ci : Nat} (h : pK S a = ci + 1) (hc : ci < 11) : pE G S (G.2.2 + a) = .inr (ci, pC G.2.2 S a 0 (pT ci)) := by
  unfold pE
  rw [if_neg (by omega), show G.2.2 + a - G.2.2 = a by omega, if_pos (by omega), h]
  rfl
theorem pE_rowI (G : PG) (S : PS) {a κ : Nat} (h : pK S a = κ) (hk : κ = 12 ∨ κ = 13 ∨ κ = 15) : pE G S (G.2.2 + a) = .inl (G.2.1 κ, pL S a, .inl (pI S a)) := by
  unfold pE pA
  rw [if_neg (by omega), show G.2.2 + a - G.2.2 = a by omega, if_neg (by omega), if_neg (by omega), if_neg (by omega), if_neg (by omega), h]
theorem pE_rowJ (G : PG) (S : PS) {a : Nat} (h : pK S a = 14) : pE G S (G.2.2 + a) = .inl (G.2.1 14, pL S a, .inr (.inl (pJ S a))) := by
  unfold pE pA
  rw [if_neg (by omega), show G.2.2 + a - G.2.2 = a by omega, if_neg (by omega), if_pos (by omega), h]
theorem pE_rowR (G : PG) (S : PS) {a κ : Nat} (h : pK S a = κ) (hk : κ = 16 ∨ κ = 17) : pE G S (G.2.2 + a) = .inl (G.2.1 κ, pL S a, .inr (.inr (.inr (.inr (fun i => (pR S a i).map (fun x => G.2.2 + x)))))) := by
  unfold pE pA
  rw [if_neg (by omega), show G.2.2 + a - G.2.2 = a by omega, if_neg (by omega), if_neg (by omega), if_pos (by omega), h]
theorem pE_rowD (G : PG) (S : PS) {a : Nat} (h : pK S a = 18) : pE G S (G.2.2 + a) = .inl (G.2.1 18, pL S a, .inr (.inr (.inr (.inl (fun i => (pJ S a i).toUInt64))))) := by
  unfold pE pA
  rw [if_neg (by omega), show G.2.2 + a - G.2.2 = a by omega, if_neg (by omega), if_neg (by omega), if_neg (by omega), if_pos (by omega), h]
/-- elsewhere a change at one offset leaves what stands -/
theorem pE_far (G : PG) (S S' : PS) {a : Nat} (hK : ∀ x, x ≠ a → pK S' x = pK S x) (hL : ∀ x, x ≠ a → pL S' x = pL S x) (hI : ∀ x j, x ≠ a → pI S' x j = pI S x j) (hJ : ∀ x j, x ≠ a → pJ S' x j = pJ S x j) (hR : ∀ x j, x ≠ a → pR S' x j = pR S x j) {q : Nat} (hq : q ≠ G.2.2 + a) : pE G S' q = pE G S q := by
  unfold pE
  by_cases hb : q < G.2.2
  · rw [if_pos hb, if_pos hb]
  · have hx : q - G.2.2 ≠ a := by omega
    rw [if_neg hb, if_neg hb, hK _ hx]
    have e1 : pC G.2.2 S' (q - G.2.2) 0 (pT (pK S (q - G.2.2) - 1)) = pC G.2.2 S (q - G.2.2) 0 (pT (pK S (q - G.2.2) - 1)) := by
      apply pC_congr
      intro t j
      unfold pV
      rw [hI _ _ hx, hJ _ _ hx, hR _ _ hx]
    have e2 : pA G S' (q - G.2.2) = pA G S (q - G.2.2) := by
      unfold pA
      rw [hK _ hx, hL _ hx, show pI S' (q - G.2.2) = pI S (q - G.2.2) from funext fun j => hI _ j hx, show pJ S' (q - G.2.2) = pJ S (q - G.2.2) from funext fun j => hJ _ j hx, show pR S' (q - G.2.2) = pR S (q - G.2.2) from funext fun j => hR _ j hx]
    rw [e1, e2]
abbrev vwCl : List vw_C := [(RX0, TX0, 4), (RX2, TX2, 7), (RX3, TX3, 7), (RX4, TX4, 5), (RX6, TX6, 4), (RX7, TX7, 5), (RX8, TX8, 10), (RX9, TX9, 6), (RX10, TX10, 8), (RX11, TX11, 9), (RX12, TX12, 32)]
/-- the rows' types by place -/
def pTy (G : PG) : List (ClassId × FieldType) := [(G.2.1 12, .byte), (G.2.1 13, .int), (G.2.1 14, .long), (G.2.1 15, .boolean), (G.2.1 16, .object "SupportSolver$Constraint"), (G.2.1 17, .object "SupportSolver$Fact"), (G.2.1 18, .double)]
/-- the heap H holds the pool S -/
def pHold (G : PG) (S : PS) (H : Heap) : Prop := ∃ L : List Nat, (∀ a, pK S a ≠ 0 → G.2.2 + a ∈ L) ∧ va_P G.1.1 vwCl ([] ++ va_pl L (pE G S)) H ∧ va_D (fun q => G.2.2 ≤ q) ([] ++ va_pl L (pE G S)) ∧ H.size = G.2.2 + pN S
/-- what stays the same along a method's walk -/
def pCx (p : Program) (s : State) (m : MethodId) (args : Array Value) (meth : Method) (c : Code) (G : PG) (cc : ByteArray) (nL : Nat) (own : String) (Ts : List Cond) : Prop :=
  p.tables.exec = Jvm.exec ∧ c.code = cc ∧ c.maxLocals = nL ∧ s.vm.findClass own = some m.cls ∧ (∀ w ∈ Ts, w.before args s = true) ∧ va_K G.1.1 vwCl (pTy G) s ∧ meth.locks = false ∧ G.2.2 ≤ s.heap.size ∧ G.1.2 s s.heap ∧ ZOK G
/-- W over every heap that holds S -/
def PW (p : Program) (l : Launch) (e : Env) (R : Room) (s : State) (m : MethodId) (args : Array Value) (below : List Frame) (meth : Method) (c : Code) (Q : State → Prop) (G : PG) (nL : Nat) (S : PS) (k n : Nat) (LV : List (Nat × Value)) (pc : Nat) (st : List Value) : Prop :=
  ∀ (H : Heap) (locs : List Loc) (ls : Array Slot), pHold G S H → va_S (fun q => G.2.2 ≤ q) s.heap H locs → lv_has ls nL LV → W p l e R s m args below meth c H locs k n Q (F0 m pc ls st)
section PWR
variable {p : Program} {l : Launch} {e : Env} {R : Room} {s : State} {m : MethodId} {args : Array Value} {below : List Frame} {meth : Method} {c : Code} {Q : State → Prop} {G : PG} {nL : Nat} {S : PS} {kc kn : Nat} {LV : List (Nat × Value)} {pc : Nat} {st : List Value} {cc : ByteArray} {own : String} {Ts : List Cond}
theorem pw_iconst (C : pCx p s m args meth c G cc nL own Ts) {v : Int32} {n : Int} (hd : decode cc pc = .ok (.iconst n, 1)) (hv : Int32.ofInt n = v) (k : PW p l e R s m args below meth c Q G nL S kc kn LV (pc + 1) (.int v :: st)) : PW p l e R s m args below meth c Q G nL S kc kn LV pc (st) := fun H locs ls h hS hl => lv_iconst C.1 C.2.1 hd hv (k H locs ls h hS hl)
theorem pw_bipush (C : pCx p s m args meth c G cc nL own Ts) {v : Int32} {n : Int} (hd : decode cc pc = .ok (.bipush n, 2)) (hv : (Int8.ofInt n).toInt32 = v) (k : PW p l e R s m args below meth c Q G nL S kc kn LV (pc + 2) (.int v :: st)) : PW p l e R s m args below meth c Q G nL S kc kn LV pc (st) := fun H locs ls h hS hl => lv_bipush C.1 C.2.1 hd hv (k H locs ls h hS hl)
theorem pw_sipush (C : pCx p s m args meth c G cc nL own Ts) {v : Int32} {n : Int} (hd : decode cc pc = .ok (.sipush n, 3)) (hv : (Int16.ofInt n).toInt32 = v) (k : PW p l e R s m args below meth c Q G nL S kc kn LV (pc + 3) (.int v :: st)) : PW p l e R s m args below meth c Q G nL S kc kn LV pc (st) := fun H locs ls h hS hl => lv_sipush C.1 C.2.1 hd hv (k H locs ls h hS hl)
theorem pw_lconst (C : pCx p s m args meth c G cc nL own Ts) {v : Int64} {n : Fin 2} (hd : decode cc pc = .ok (.lconst n, 1)) (hv : Int64.ofNat (n : Nat) = v) (k : PW p l e R s m args below meth c Q G nL S kc kn LV (pc + 1) (.long v :: st)) : PW p l e R s m args below meth c Q G nL S kc kn LV pc (st) := fun H locs ls h hS hl => lv_lconst C.1 C.2.1 hd hv (k H locs ls h hS hl)
theorem pw_null (C : pCx p s m args meth c G cc nL own Ts) (hd : decode cc pc = .ok (.aconst_null, 1)) (k : PW p l e R s m args below meth c Q G nL S kc kn LV (pc + 1) (.null :: st)) : PW p l e R s m args below meth c Q G nL S kc kn LV pc (st) := fun H locs ls h hS hl => lv_null C.1 C.2.1 hd (k H locs ls h hS hl)
theorem pw_iload_n (C : pCx p s m args meth c G cc nL own Ts) (q : Nat) {x : Int32} {j : Fin 4} {i : Nat} (hd : decode cc pc = .ok (.iload_n j, 1)) (hi : (j : Nat) = i) (hq : LV[q]? = some (i, .int x)) (k : PW p l e R s m args below meth c Q G nL S kc kn LV (pc + 1) (.int x :: st)) : PW p l e R s m args below meth c Q G nL S kc kn LV pc (st) := fun H locs ls h hS hl => lv_iload_n C.1 C.2.1 hd hi (lv_at hl q hq) (k H locs ls h hS hl)
theorem pw_iload (C : pCx p s m args meth c G cc nL own Ts) (q : Nat) {x : Int32} {i : Nat} (hd : decode cc pc = .ok (.iload i, 2)) (hq : LV[q]? = some (i, .int x)) (k : PW p l e R s m args below meth c Q G nL S kc kn LV (pc + 2) (.int x :: st)) : PW p l e R s m args below meth c Q G nL S kc kn LV pc (st) := fun H locs ls h hS hl => lv_iload C.1 C.2.1 hd (lv_at hl q hq) (k H locs ls h hS hl)
theorem pw_lload_n (C : pCx p s m args meth c G cc nL own Ts) (q : Nat) {x : Int64} {j : Fin 4} {i : Nat} (hd : decode cc pc = .ok (.lload_n j, 1)) (hi : (j : Nat) = i) (hq : LV[q]? = some (i, .long x)) (k : PW p l e R s m args below meth c Q G nL S kc kn LV (pc + 1) (.long x :: st)) : PW p l e R s m args below meth c Q G nL S kc kn LV pc (st) := fun H locs ls h hS hl => lv_lload_n C.1 C.2.1 hd hi (lv_at hl q hq) (k H locs ls h hS hl)
theorem pw_lload (C : pCx p s m args meth c G cc nL own Ts) (q : Nat) {x : Int64} {i : Nat} (hd : decode cc pc = .ok (.lload i, 2)) (hq : LV[q]? = some (i, .long x)) (k : PW p l e R s m args below meth c Q G nL S kc kn LV (pc + 2) (.long x :: st)) : PW p l e R s m args below meth c Q G nL S kc kn LV pc (st) := fun H locs ls h hS hl => lv_lload C.1 C.2.1 hd (lv_at hl q hq) (k H locs ls h hS hl)
theorem pw_aload_n (C : pCx p s m args meth c G cc nL own Ts) (q : Nat) {x : Nat} {j : Fin 4} {i : Nat} (hd : decode cc pc = .ok (.aload_n j, 1)) (hi : (j : Nat) = i) (hq : LV[q]? = some (i, .ref x)) (k : PW p l e R s m args below meth c Q G nL S kc kn LV (pc + 1) (.ref x :: st)) : PW p l e R s m args below meth c Q G nL S kc kn LV pc (st) := fun H locs ls h hS hl => lv_aload_n C.1 C.2.1 hd hi (lv_at hl q hq) (k H locs ls h hS hl)
theorem pw_aload (C : pCx p s m args meth c G cc nL own Ts) (q : Nat) {x : Nat} {i : Nat} (hd : decode cc pc = .ok (.aload i, 2)) (hq : LV[q]? = some (i, .ref x)) (k : PW p l e R s m args below meth c Q G nL S kc kn LV (pc + 2) (.ref x :: st)) : PW p l e R s m args below meth c Q G nL S kc kn LV pc (st) := fun H locs ls h hS hl => lv_aload C.1 C.2.1 hd (lv_at hl q hq) (k H locs ls h hS hl)
theorem pw_aload_nN (C : pCx p s m args meth c G cc nL own Ts) (q : Nat) {j : Fin 4} {i : Nat} (hd : decode cc pc = .ok (.aload_n j, 1)) (hi : (j : Nat) = i) (hq : LV[q]? = some (i, .null)) (k : PW p l e R s m args below meth c Q G nL S kc kn LV (pc + 1) (.null :: st)) : PW p l e R s m args below meth c Q G nL S kc kn LV pc (st) := fun H locs ls h hS hl => lv_aload_nN C.1 C.2.1 hd hi (lv_at hl q hq) (k H locs ls h hS hl)
theorem pw_aloadN (C : pCx p s m args meth c G cc nL own Ts) (q : Nat) {i : Nat} (hd : decode cc pc = .ok (.aload i, 2)) (hq : LV[q]? = some (i, .null)) (k : PW p l e R s m args below meth c Q G nL S kc kn LV (pc + 2) (.null :: st)) : PW p l e R s m args below meth c Q G nL S kc kn LV pc (st) := fun H locs ls h hS hl => lv_aloadN C.1 C.2.1 hd (lv_at hl q hq) (k H locs ls h hS hl)
theorem pw_istore_n (C : pCx p s m args meth c G cc nL own Ts) (LV2 : List (Nat × Value)) {x : Int32} {j : Fin 4} {i : Nat} (hd : decode cc pc = .ok (.istore_n j, 1)) (hi : (j : Nat) = i) (hn : i < nL) (he : (i, Value.int x) :: LV.filter (fun q => !(q.1 == i) && !(q.1 + 1 == i && q.2.category == 2)) = LV2) (k : PW p l e R s m args below meth c Q G nL S kc kn LV2 (pc + 1) (st)) : PW p l e R s m args below meth c Q G nL S kc kn LV pc (.int x :: st) := fun H locs ls h hS hl => lv_istore_n C.1 C.2.1 hd hi hl hn he (fun ls hl => k H locs ls h hS hl)
theorem pw_istore (C : pCx p s m args meth c G cc nL own Ts) (LV2 : List (Nat × Value)) {x : Int32} {i : Nat} (hd : decode cc pc = .ok (.istore i, 2)) (hn : i < nL) (he : (i, Value.int x) :: LV.filter (fun q => !(q.1 == i) && !(q.1 + 1 == i && q.2.category == 2)) = LV2) (k : PW p l e R s m args below meth c Q G nL S kc kn LV2 (pc + 2) (st)) : PW p l e R s m args below meth c Q G nL S kc kn LV pc (.int x :: st) := fun H locs ls h hS hl => lv_istore C.1 C.2.1 hd hl hn he (fun ls hl => k H locs ls h hS hl)
theorem pw_lstore_n (C : pCx p s m args meth c G cc nL own Ts) (LV2 : List (Nat × Value)) {x : Int64} {j : Fin 4} {i : Nat} (hd : decode cc pc = .ok (.lstore_n j, 1)) (hi : (j : Nat) = i) (hn : i + 1 < nL) (he : (i, Value.long x) :: LV.filter (fun q => !(q.1 == i) && (!(q.1 == i + 1) && !(q.1 + 1 == i && q.2.category == 2))) = LV2) (k : PW p l e R s m args below meth c Q G nL S kc kn LV2 (pc + 1) (st)) : PW p l e R s m args below meth c Q G nL S kc kn LV pc (.long x :: st) := fun H locs ls h hS hl => lv_lstore_n C.1 C.2.1 hd hi hl hn he (fun ls hl => k H locs ls h hS hl)
theorem pw_lstore (C : pCx p s m args meth c G cc nL own Ts) (LV2 : List (Nat × Value)) {x : Int64} {i : Nat} (hd : decode cc pc = .ok (.lstore i, 2)) (hn : i + 1 < nL) (he : (i, Value.long x) :: LV.filter (fun q => !(q.1 == i) && (!(q.1 == i + 1) && !(q.1 + 1 == i && q.2.category == 2))) = LV2) (k : PW p l e R s m args below meth c Q G nL S kc kn LV2 (pc + 2) (st)) : PW p l e R s m args below meth c Q G nL S kc kn LV pc (.long x :: st) := fun H locs ls h hS hl => lv_lstore C.1 C.2.1 hd hl hn he (fun ls hl => k H locs ls h hS hl)
theorem pw_astore_n (C : pCx p s m args meth c G cc nL own Ts) (LV2 : List (Nat × Value)) {x : Nat} {j : Fin 4} {i : Nat} (hd : decode cc pc = .ok (.astore_n j, 1)) (hi : (j : Nat) = i) (hn : i < nL) (he : (i, Value.ref x) :: LV.filter (fun q => !(q.1 == i) && !(q.1 + 1 == i && q.2.category == 2)) = LV2) (k : PW p l e R s m args below meth c Q G nL S kc kn LV2 (pc + 1) (st)) : PW p l e R s m args below meth c Q G nL S kc kn LV pc (.ref x :: st) := fun H locs ls h hS hl => lv_astore_n C.1 C.2.1 hd hi hl hn he (fun ls hl => k H locs ls h hS hl)
theorem pw_astore (C : pCx p s m args meth c G cc nL own Ts) (LV2 : List (Nat × Value)) {x : Nat} {i : Nat} (hd : decode cc pc = .ok (.astore i, 2)) (hn : i < nL) (he : (i, Value.ref x) :: LV.filter (fun q => !(q.1 == i) && !(q.1 + 1 == i && q.2.category == 2)) = LV2) (k : PW p l e R s m args below meth c Q G nL S kc kn LV2 (pc + 2) (st)) : PW p l e R s m args below meth c Q G nL S kc kn LV pc (.ref x :: st) := fun H locs ls h hS hl => lv_astore C.1 C.2.1 hd hl hn he (fun ls hl => k H locs ls h hS hl)
theorem pw_astore_nN (C : pCx p s m args meth c G cc nL own Ts) (LV2 : List (Nat × Value)) {j : Fin 4} {i : Nat} (hd : decode cc pc = .ok (.astore_n j, 1)) (hi : (j : Nat) = i) (hn : i < nL) (he : (i, Value.null) :: LV.filter (fun q => !(q.1 == i) && !(q.1 + 1 == i && q.2.category == 2)) = LV2) (k : PW p l e R s m args below meth c Q G nL S kc kn LV2 (pc + 1) (st)) : PW p l e R s m args below meth c Q G nL S kc kn LV pc (.null :: st) := fun H locs ls h hS hl => lv_astore_nN C.1 C.2.1 hd hi hl hn he (fun ls hl => k H locs ls h hS hl)
theorem pw_astoreN (C : pCx p s m args meth c G cc nL own Ts) (LV2 : List (Nat × Value)) {i : Nat} (hd : decode cc pc = .ok (.astore i, 2)) (hn : i < nL) (he : (i, Value.null) :: LV.filter (fun q => !(q.1 == i) && !(q.1 + 1 == i && q.2.category == 2)) = LV2) (k : PW p l e R s m args below meth c Q G nL S kc kn LV2 (pc + 2) (st)) : PW p l e R s m args below meth c Q G nL S kc kn LV pc (.null :: st) := fun H locs ls h hS hl => lv_astoreN C.1 C.2.1 hd hl hn he (fun ls hl => k H locs ls h hS hl)
theorem pw_iinc (C : pCx p s m args meth c G cc nL own Ts) (LV2 : List (Nat × Value)) (q : Nat) {x v : Int32} {i : Nat} {n : Int} (hd : decode cc pc = .ok (.iinc i n, 3)) (hq : LV[q]? = some (i, .int x)) (hv : x + Int32.ofInt n = v) (hn : i < nL) (he : (i, Value.int v) :: LV.filter (fun q => !(q.1 == i) && !(q.1 + 1 == i && q.2.category == 2)) = LV2) (k : PW p l e R s m args below meth c Q G nL S kc kn LV2 (pc + 3) (st)) : PW p l e R s m args below meth c Q G nL S kc kn LV pc (st) := fun H locs ls h hS hl => lv_iinc C.1 C.2.1 hd hl hq hv hn he (fun ls hl => k H locs ls h hS hl)
theorem pw_iadd (C : pCx p s m args meth c G cc nL own Ts) {x y : Int32} (hd : decode cc pc = .ok (.iadd, 1)) (k : PW p l e R s m args below meth c Q G nL S kc kn LV (pc + 1) (.int (x + y) :: st)) : PW p l e R s m args below meth c Q G nL S kc kn LV pc (.int y :: .int x :: st) := fun H locs ls h hS hl => lv_iadd C.1 C.2.1 hd (k H locs ls h hS hl)
theorem pw_isub (C : pCx p s m args meth c G cc nL own Ts) {x y : Int32} (hd : decode cc pc = .ok (.isub, 1)) (k : PW p l e R s m args below meth c Q G nL S kc kn LV (pc + 1) (.int (x - y) :: st)) : PW p l e R s m args below meth c Q G nL S kc kn LV pc (.int y :: .int x :: st) := fun H locs ls h hS hl => lv_isub C.1 C.2.1 hd (k H locs ls h hS hl)
theorem pw_imul (C : pCx p s m args meth c G cc nL own Ts) {x y : Int32} (hd : decode cc pc = .ok (.imul, 1)) (k : PW p l e R s m args below meth c Q G nL S kc kn LV (pc + 1) (.int (x * y) :: st)) : PW p l e R s m args below meth c Q G nL S kc kn LV pc (.int y :: .int x :: st) := fun H locs ls h hS hl => lv_imul C.1 C.2.1 hd (k H locs ls h hS hl)
theorem pw_iand (C : pCx p s m args meth c G cc nL own Ts) {x y : Int32} (hd : decode cc pc = .ok (.iand, 1)) (k : PW p l e R s m args below meth c Q G nL S kc kn LV (pc + 1) (.int (x &&& y) :: st)) : PW p l e R s m args below meth c Q G nL S kc kn LV pc (.int y :: .int x :: st) := fun H locs ls h hS hl => lv_iand C.1 C.2.1 hd (k H locs ls h hS hl)
theorem pw_ior (C : pCx p s m args meth c G cc nL own Ts) {x y : Int32} (hd : decode cc pc = .ok (.ior, 1)) (k : PW p l e R s m args below meth c Q G nL S kc kn LV (pc + 1) (.int (x ||| y) :: st)) : PW p l e R s m args below meth c Q G nL S kc kn LV pc (.int y :: .int x :: st) := fun H locs ls h hS hl => lv_ior C.1 C.2.1 hd (k H locs ls h hS hl)
theorem pw_ixor (C : pCx p s m args meth c G cc nL own Ts) {x y : Int32} (hd : decode cc pc = .ok (.ixor, 1)) (k : PW p l e R s m args below meth c Q G nL S kc kn LV (pc + 1) (.int (x ^^^ y) :: st)) : PW p l e R s m args below meth c Q G nL S kc kn LV pc (.int y :: .int x :: st) := fun H locs ls h hS hl => lv_ixor C.1 C.2.1 hd (k H locs ls h hS hl)
theorem pw_ladd (C : pCx p s m args meth c G cc nL own Ts) {x y : Int64} (hd : decode cc pc = .ok (.ladd, 1)) (k : PW p l e R s m args below meth c Q G nL S kc kn LV (pc + 1) (.long (x + y) :: st)) : PW p l e R s m args below meth c Q G nL S kc kn LV pc (.long y :: .long x :: st) := fun H locs ls h hS hl => lv_ladd C.1 C.2.1 hd (k H locs ls h hS hl)
theorem pw_lsub (C : pCx p s m args meth c G cc nL own Ts) {x y : Int64} (hd : decode cc pc = .ok (.lsub, 1)) (k : PW p l e R s m args below meth c Q G nL S kc kn LV (pc + 1) (.long (x - y) :: st)) : PW p l e R s m args below meth c Q G nL S kc kn LV pc (.long y :: .long x :: st) := fun H locs ls h hS hl => lv_lsub C.1 C.2.1 hd (k H locs ls h hS hl)
theorem pw_lmul (C : pCx p s m args meth c G cc nL own Ts) {x y : Int64} (hd : decode cc pc = .ok (.lmul, 1)) (k : PW p l e R s m args below meth c Q G nL S kc kn LV (pc + 1) (.long (x * y) :: st)) : PW p l e R s m args below meth c Q G nL S kc kn LV pc (.long y :: .long x :: st) := fun H locs ls h hS hl => lv_lmul C.1 C.2.1 hd (k H locs ls h hS hl)
theorem pw_land (C : pCx p s m args meth c G cc nL own Ts) {x y : Int64} (hd : decode cc pc = .ok (.land, 1)) (k : PW p l e R s m args below meth c Q G nL S kc kn LV (pc + 1) (.long (x &&& y) :: st)) : PW p l e R s m args below meth c Q G nL S kc kn LV pc (.long y :: .long x :: st) := fun H locs ls h hS hl => lv_land C.1 C.2.1 hd (k H locs ls h hS hl)
theorem pw_lor (C : pCx p s m args meth c G cc nL own Ts) {x y : Int64} (hd : decode cc pc = .ok (.lor, 1)) (k : PW p l e R s m args below meth c Q G nL S kc kn LV (pc + 1) (.long (x ||| y) :: st)) : PW p l e R s m args below meth c Q G nL S kc kn LV pc (.long y :: .long x :: st) := fun H locs ls h hS hl => lv_lor C.1 C.2.1 hd (k H locs ls h hS hl)
theorem pw_lxor (C : pCx p s m args meth c G cc nL own Ts) {x y : Int64} (hd : decode cc pc = .ok (.lxor, 1)) (k : PW p l e R s m args below meth c Q G nL S kc kn LV (pc + 1) (.long (x ^^^ y) :: st)) : PW p l e R s m args below meth c Q G nL S kc kn LV pc (.long y :: .long x :: st) := fun H locs ls h hS hl => lv_lxor C.1 C.2.1 hd (k H locs ls h hS hl)
theorem pw_idiv (C : pCx p s m args meth c G cc nL own Ts) {x y : Int32} (hd : decode cc pc = .ok (.idiv, 1)) (hne : ¬ y = 0) (k : PW p l e R s m args below meth c Q G nL S kc kn LV (pc + 1) (.int (x / y) :: st)) : PW p l e R s m args below meth c Q G nL S kc kn LV pc (.int y :: .int x :: st) := fun H locs ls h hS hl => lv_idiv C.1 C.2.1 hd hne (k H locs ls h hS hl)
theorem pw_irem (C : pCx p s m args meth c G cc nL own Ts) {x y : Int32} (hd : decode cc pc = .ok (.irem, 1)) (hne : ¬ y = 0) (k : PW p l e R s m args below meth c Q G nL S kc kn LV (pc + 1) (.int (x - x / y * y) :: st)) : PW p l e R s m args below meth c Q G nL S kc kn LV pc (.int y :: .int x :: st) := fun H locs ls h hS hl => lv_irem C.1 C.2.1 hd hne (k H locs ls h hS hl)
theorem pw_ineg (C : pCx p s m args meth c G cc nL own Ts) {x : Int32} (hd : decode cc pc = .ok (.ineg, 1)) (k : PW p l e R s m args below meth c Q G nL S kc kn LV (pc + 1) (.int (-x) :: st)) : PW p l e R s m args below meth c Q G nL S kc kn LV pc (.int x :: st) := fun H locs ls h hS hl => lv_ineg C.1 C.2.1 hd (k H locs ls h hS hl)
theorem pw_lneg (C : pCx p s m args meth c G cc nL own Ts) {x : Int64} (hd : decode cc pc = .ok (.lneg, 1)) (k : PW p l e R s m args below meth c Q G nL S kc kn LV (pc + 1) (.long (-x) :: st)) : PW p l e R s m args below meth c Q G nL S kc kn LV pc (.long x :: st) := fun H locs ls h hS hl => lv_lneg C.1 C.2.1 hd (k H locs ls h hS hl)
theorem pw_ishl (C : pCx p s m args meth c G cc nL own Ts) {x y : Int32} (hd : decode cc pc = .ok (.ishl, 1)) (k : PW p l e R s m args below meth c Q G nL S kc kn LV (pc + 1) (.int (x <<< (y &&& 31)) :: st)) : PW p l e R s m args below meth c Q G nL S kc kn LV pc (.int y :: .int x :: st) := fun H locs ls h hS hl => lv_ishl C.1 C.2.1 hd (k H locs ls h hS hl)
theorem pw_ishr (C : pCx p s m args meth c G cc nL own Ts) {x y : Int32} (hd : decode cc pc = .ok (.ishr, 1)) (k : PW p l e R s m args below meth c Q G nL S kc kn LV (pc + 1) (.int (x >>> (y &&& 31)) :: st)) : PW p l e R s m args below meth c Q G nL S kc kn LV pc (.int y :: .int x :: st) := fun H locs ls h hS hl => lv_ishr C.1 C.2.1 hd (k H locs ls h hS hl)
theorem pw_iushr (C : pCx p s m args meth c G cc nL own Ts) {x y : Int32} (hd : decode cc pc = .ok (.iushr, 1)) (k : PW p l e R s m args below meth c Q G nL S kc kn LV (pc + 1) (.int ((x.toUInt32 >>> (y.toUInt32 &&& Int32.toUInt32 31)).toInt32) :: st)) : PW p l e R s m args below meth c Q G nL S kc kn LV pc (.int y :: .int x :: st) := fun H locs ls h hS hl => lv_iushr C.1 C.2.1 hd rfl (k H locs ls h hS hl)
theorem pw_lushr (C : pCx p s m args meth c G cc nL own Ts) {x : Int64} {y : Int32} (hd : decode cc pc = .ok (.lushr, 1)) (k : PW p l e R s m args below meth c Q G nL S kc kn LV (pc + 1) (.long ((x.toUInt64 >>> (y.toInt64.toUInt64 &&& Int64.toUInt64 63)).toInt64) :: st)) : PW p l e R s m args below meth c Q G nL S kc kn LV pc (.int y :: .long x :: st) := fun H locs ls h hS hl => lv_lushr C.1 C.2.1 hd rfl (k H locs ls h hS hl)
theorem pw_lshl (C : pCx p s m args meth c G cc nL own Ts) {x : Int64} {y : Int32} (hd : decode cc pc = .ok (.lshl, 1)) (k : PW p l e R s m args below meth c Q G nL S kc kn LV (pc + 1) (.long (x <<< (y.toInt64 &&& 63)) :: st)) : PW p l e R s m args below meth c Q G nL S kc kn LV pc (.int y :: .long x :: st) := fun H locs ls h hS hl => lv_lshl C.1 C.2.1 hd rfl (k H locs ls h hS hl)
theorem pw_lshr (C : pCx p s m args meth c G cc nL own Ts) {x : Int64} {y : Int32} (hd : decode cc pc = .ok (.lshr, 1)) (k : PW p l e R s m args below meth c Q G nL S kc kn LV (pc + 1) (.long (x >>> (y.toInt64 &&& 63)) :: st)) : PW p l e R s m args below meth c Q G nL S kc kn LV pc (.int y :: .long x :: st) := fun H locs ls h hS hl => lv_lshr C.1 C.2.1 hd rfl (k H locs ls h hS hl)
theorem pw_i2l (C : pCx p s m args meth c G cc nL own Ts) {x : Int32} (hd : decode cc pc = .ok (.i2l, 1)) (k : PW p l e R s m args below meth c Q G nL S kc kn LV (pc + 1) (.long (x.toInt64) :: st)) : PW p l e R s m args below meth c Q G nL S kc kn LV pc (.int x :: st) := fun H locs ls h hS hl => lv_i2l C.1 C.2.1 hd rfl (k H locs ls h hS hl)
theorem pw_l2i (C : pCx p s m args meth c G cc nL own Ts) {x : Int64} (hd : decode cc pc = .ok (.l2i, 1)) (k : PW p l e R s m args below meth c Q G nL S kc kn LV (pc + 1) (.int (x.toInt32) :: st)) : PW p l e R s m args below meth c Q G nL S kc kn LV pc (.long x :: st) := fun H locs ls h hS hl => lv_l2i C.1 C.2.1 hd rfl (k H locs ls h hS hl)
theorem pw_i2b (C : pCx p s m args meth c G cc nL own Ts) {x : Int32} (hd : decode cc pc = .ok (.i2b, 1)) (k : PW p l e R s m args below meth c Q G nL S kc kn LV (pc + 1) (.int (x.toInt8.toInt32) :: st)) : PW p l e R s m args below meth c Q G nL S kc kn LV pc (.int x :: st) := fun H locs ls h hS hl => lv_i2b C.1 C.2.1 hd rfl (k H locs ls h hS hl)
theorem pw_lcmp (C : pCx p s m args meth c G cc nL own Ts) {x y : Int64} (hd : decode cc pc = .ok (.lcmp, 1)) (k : PW p l e R s m args below meth c Q G nL S kc kn LV (pc + 1) (.int (lg_cmp x y) :: st)) : PW p l e R s m args below meth c Q G nL S kc kn LV pc (.long y :: .long x :: st) := fun H locs ls h hS hl => W.lcmp C.1 C.2.1 hd (k H locs ls h hS hl)
theorem pw_dup (C : pCx p s m args meth c G cc nL own Ts) {va : Value} (hd : decode cc pc = .ok (.dup, 1)) (hva : va.category = 1) (k : PW p l e R s m args below meth c Q G nL S kc kn LV (pc + 1) (va :: va :: st)) : PW p l e R s m args below meth c Q G nL S kc kn LV pc (va :: st) := fun H locs ls h hS hl => lv_dup C.1 C.2.1 hd hva (k H locs ls h hS hl)
theorem pw_pop (C : pCx p s m args meth c G cc nL own Ts) {va : Value} (hd : decode cc pc = .ok (.pop, 1)) (hva : va.category = 1) (k : PW p l e R s m args below meth c Q G nL S kc kn LV (pc + 1) (st)) : PW p l e R s m args below meth c Q G nL S kc kn LV pc (va :: st) := fun H locs ls h hS hl => lv_pop C.1 C.2.1 hd hva (k H locs ls h hS hl)
theorem pw_pop2 (C : pCx p s m args meth c G cc nL own Ts) {va : Value} (hd : decode cc pc = .ok (.pop2, 1)) (hva : va.category = 2) (k : PW p l e R s m args below meth c Q G nL S kc kn LV (pc + 1) (st)) : PW p l e R s m args below meth c Q G nL S kc kn LV pc (va :: st) := fun H locs ls h hS hl => lv_pop2_2 C.1 C.2.1 hd hva (k H locs ls h hS hl)
theorem pw_dup_x1 (C : pCx p s m args meth c G cc nL own Ts) {va vb : Value} (hd : decode cc pc = .ok (.dup_x1, 1)) (hva : va.category = 1) (hvb : vb.category = 1) (k : PW p l e R s m args below meth c Q G nL S kc kn LV (pc + 1) (va :: vb :: va :: st)) : PW p l e R s m args below meth c Q G nL S kc kn LV pc (va :: vb :: st) := fun H locs ls h hS hl => lv_dup_x1 C.1 C.2.1 hd hva hvb (k H locs ls h hS hl)
theorem pw_dup_x2 (C : pCx p s m args meth c G cc nL own Ts) {va vb vd : Value} (hd : decode cc pc = .ok (.dup_x2, 1)) (hva : va.category = 1) (hvb : vb.category = 1) (hvd : vd.category = 1) (k : PW p l e R s m args below meth c Q G nL S kc kn LV (pc + 1) (va :: vb :: vd :: va :: st)) : PW p l e R s m args below meth c Q G nL S kc kn LV pc (va :: vb :: vd :: st) := fun H locs ls h hS hl => lv_dup_x2 C.1 C.2.1 hd hva hvb hvd (k H locs ls h hS hl)
theorem pw_dup2_11 (C : pCx p s m args meth c G cc nL own Ts) {va vb : Value} (hd : decode cc pc = .ok (.dup2, 1)) (hva : va.category = 1) (hvb : vb.category = 1) (k : PW p l e R s m args below meth c Q G nL S kc kn LV (pc + 1) (va :: vb :: va :: vb :: st)) : PW p l e R s m args below meth c Q G nL S kc kn LV pc (va :: vb :: st) := fun H locs ls h hS hl => lv_dup2_11 C.1 C.2.1 hd hva hvb (k H locs ls h hS hl)
theorem pw_dup2_2 (C : pCx p s m args meth c G cc nL own Ts) {va : Value} (hd : decode cc pc = .ok (.dup2, 1)) (hva : va.category = 2) (k : PW p l e R s m args below meth c Q G nL S kc kn LV (pc + 1) (va :: va :: st)) : PW p l e R s m args below meth c Q G nL S kc kn LV pc (va :: st) := fun H locs ls h hS hl => lv_dup2_2 C.1 C.2.1 hd hva (k H locs ls h hS hl)
theorem pw_dup2_x1_2 (C : pCx p s m args meth c G cc nL own Ts) {va vb : Value} (hd : decode cc pc = .ok (.dup2_x1, 1)) (hva : va.category = 2) (hvb : vb.category = 1) (k : PW p l e R s m args below meth c Q G nL S kc kn LV (pc + 1) (va :: vb :: va :: st)) : PW p l e R s m args below meth c Q G nL S kc kn LV pc (va :: vb :: st) := fun H locs ls h hS hl => lv_dup2_x1_2 C.1 C.2.1 hd hva hvb (k H locs ls h hS hl)
theorem pw_goto (C : pCx p s m args meth c G cc nL own Ts) {off : Int} {tgt : Nat} (hd : decode cc pc = .ok (.goto off, 3)) (ht : (pc : Int) + off = (tgt : Int)) (k : PW p l e R s m args below meth c Q G nL S kc kn LV tgt (st)) : PW p l e R s m args below meth c Q G nL S kc kn LV pc (st) := fun H locs ls h hS hl => lv_goto C.1 C.2.1 hd ht (k H locs ls h hS hl)
theorem pw_if_eq (C : pCx p s m args meth c G cc nL own Ts) {x : Int32} {off : Int} {tgt : Nat} (hd : decode cc pc = .ok (.ifCond .eq off, 3)) (ht : (pc : Int) + off = (tgt : Int)) (kk : (x = 0 → PW p l e R s m args below meth c Q G nL S kc kn LV tgt st) ∧ (¬ x = 0 → PW p l e R s m args below meth c Q G nL S kc kn LV (pc + 3) st)) : PW p l e R s m args below meth c Q G nL S kc kn LV pc (.int x :: st) := fun H locs ls h hS hl => lv_if_eq C.1 C.2.1 hd ht (fun q => kk.1 q H locs ls h hS hl) (fun q => kk.2 q H locs ls h hS hl)
theorem pw_if_ne (C : pCx p s m args meth c G cc nL own Ts) {x : Int32} {off : Int} {tgt : Nat} (hd : decode cc pc = .ok (.ifCond .ne off, 3)) (ht : (pc : Int) + off = (tgt : Int)) (kk : (¬ x = 0 → PW p l e R s m args below meth c Q G nL S kc kn LV tgt st) ∧ (x = 0 → PW p l e R s m args below meth c Q G nL S kc kn LV (pc + 3) st)) : PW p l e R s m args below meth c Q G nL S kc kn LV pc (.int x :: st) := fun H locs ls h hS hl => lv_if_ne C.1 C.2.1 hd ht (fun q => kk.1 q H locs ls h hS hl) (fun q => kk.2 q H locs ls h hS hl)
theorem pw_if_lt (C : pCx p s m args meth c G cc nL own Ts) {x : Int32} {off : Int} {tgt : Nat} (hd : decode cc pc = .ok (.ifCond .lt off, 3)) (ht : (pc : Int) + off = (tgt : Int)) (kk : (x < 0 → PW p l e R s m args below meth c Q G nL S kc kn LV tgt st) ∧ (¬ x < 0 → PW p l e R s m args below meth c Q G nL S kc kn LV (pc + 3) st)) : PW p l e R s m args below meth c Q G nL S kc kn LV pc (.int x :: st) := fun H locs ls h hS hl => lv_if_lt C.1 C.2.1 hd ht (fun q => kk.1 q H locs ls h hS hl) (fun q => kk.2 q H locs ls h hS hl)
theorem pw_if_ge (C : pCx p s m args meth c G cc nL own Ts) {x : Int32} {off : Int} {tgt : Nat} (hd : decode cc pc = .ok (.ifCond .ge off, 3)) (ht : (pc : Int) + off = (tgt : Int)) (kk : (0 ≤ x → PW p l e R s m args below meth c Q G nL S kc kn LV tgt st) ∧ (¬ 0 ≤ x → PW p l e R s m args below meth c Q G nL S kc kn LV (pc + 3) st)) : PW p l e R s m args below meth c Q G nL S kc kn LV pc (.int x :: st) := fun H locs ls h hS hl => lv_if_ge C.1 C.2.1 hd ht (fun q => kk.1 q H locs ls h hS hl) (fun q => kk.2 q H locs ls h hS hl)
theorem pw_if_gt (C : pCx p s m args meth c G cc nL own Ts) {x : Int32} {off : Int} {tgt : Nat} (hd : decode cc pc = .ok (.ifCond .gt off, 3)) (ht : (pc : Int) + off = (tgt : Int)) (kk : (0 < x → PW p l e R s m args below meth c Q G nL S kc kn LV tgt st) ∧ (¬ 0 < x → PW p l e R s m args below meth c Q G nL S kc kn LV (pc + 3) st)) : PW p l e R s m args below meth c Q G nL S kc kn LV pc (.int x :: st) := fun H locs ls h hS hl => lv_if_gt C.1 C.2.1 hd ht (fun q => kk.1 q H locs ls h hS hl) (fun q => kk.2 q H locs ls h hS hl)
theorem pw_if_le (C : pCx p s m args meth c G cc nL own Ts) {x : Int32} {off : Int} {tgt : Nat} (hd : decode cc pc = .ok (.ifCond .le off, 3)) (ht : (pc : Int) + off = (tgt : Int)) (kk : (x ≤ 0 → PW p l e R s m args below meth c Q G nL S kc kn LV tgt st) ∧ (¬ x ≤ 0 → PW p l e R s m args below meth c Q G nL S kc kn LV (pc + 3) st)) : PW p l e R s m args below meth c Q G nL S kc kn LV pc (.int x :: st) := fun H locs ls h hS hl => lv_if_le C.1 C.2.1 hd ht (fun q => kk.1 q H locs ls h hS hl) (fun q => kk.2 q H locs ls h hS hl)
theorem pw_icmp_eq (C : pCx p s m args meth c G cc nL own Ts) {x y : Int32} {off : Int} {tgt : Nat} (hd : decode cc pc = .ok (.if_icmp .eq off, 3)) (ht : (pc : Int) + off = (tgt : Int)) (kk : (x = y → PW p l e R s m args below meth c Q G nL S kc kn LV tgt st) ∧ (¬ x = y → PW p l e R s m args below meth c Q G nL S kc kn LV (pc + 3) st)) : PW p l e R s m args below meth c Q G nL S kc kn LV pc (.int y :: .int x :: st) := fun H locs ls h hS hl => lv_icmp_eq C.1 C.2.1 hd ht (fun q => kk.1 q H locs ls h hS hl) (fun q => kk.2 q H locs ls h hS hl)
theorem pw_icmp_ne (C : pCx p s m args meth c G cc nL own Ts) {x y : Int32} {off : Int} {tgt : Nat} (hd : decode cc pc = .ok (.if_icmp .ne off, 3)) (ht : (pc : Int) + off = (tgt : Int)) (kk : (¬ x = y → PW p l e R s m args below meth c Q G nL S kc kn LV tgt st) ∧ (x = y → PW p l e R s m args below meth c Q G nL S kc kn LV (pc + 3) st)) : PW p l e R s m args below meth c Q G nL S kc kn LV pc (.int y :: .int x :: st) := fun H locs ls h hS hl => lv_icmp_ne C.1 C.2.1 hd ht (fun q => kk.1 q H locs ls h hS hl) (fun q => kk.2 q H locs ls h hS hl)
theorem pw_icmp_lt (C : pCx p s m args meth c G cc nL own Ts) {x y : Int32} {off : Int} {tgt : Nat} (hd : decode cc pc = .ok (.if_icmp .lt off, 3)) (ht : (pc : Int) + off = (tgt : Int)) (kk : (x < y → PW p l e R s m args below meth c Q G nL S kc kn LV tgt st) ∧ (¬ x < y → PW p l e R s m args below meth c Q G nL S kc kn LV (pc + 3) st)) : PW p l e R s m args below meth c Q G nL S kc kn LV pc (.int y :: .int x :: st) := fun H locs ls h hS hl => lv_icmp_lt C.1 C.2.1 hd ht (fun q => kk.1 q H locs ls h hS hl) (fun q => kk.2 q H locs ls h hS hl)
theorem pw_icmp_ge (C : pCx p s m args meth c G cc nL own Ts) {x y : Int32} {off : Int} {tgt : Nat} (hd : decode cc pc = .ok (.if_icmp .ge off, 3)) (ht : (pc : Int) + off = (tgt : Int)) (kk : (y ≤ x → PW p l e R s m args below meth c Q G nL S kc kn LV tgt st) ∧ (¬ y ≤ x → PW p l e R s m args below meth c Q G nL S kc kn LV (pc + 3) st)) : PW p l e R s m args below meth c Q G nL S kc kn LV pc (.int y :: .int x :: st) := fun H locs ls h hS hl => lv_icmp_ge C.1 C.2.1 hd ht (fun q => kk.1 q H locs ls h hS hl) (fun q => kk.2 q H locs ls h hS hl)
theorem pw_icmp_gt (C : pCx p s m args meth c G cc nL own Ts) {x y : Int32} {off : Int} {tgt : Nat} (hd : decode cc pc = .ok (.if_icmp .gt off, 3)) (ht : (pc : Int) + off = (tgt : Int)) (kk : (y < x → PW p l e R s m args below meth c Q G nL S kc kn LV tgt st) ∧ (¬ y < x → PW p l e R s m args below meth c Q G nL S kc kn LV (pc + 3) st)) : PW p l e R s m args below meth c Q G nL S kc kn LV pc (.int y :: .int x :: st) := fun H locs ls h hS hl => lv_icmp_gt C.1 C.2.1 hd ht (fun q => kk.1 q H locs ls h hS hl) (fun q => kk.2 q H locs ls h hS hl)
theorem pw_icmp_le (C : pCx p s m args meth c G cc nL own Ts) {x y : Int32} {off : Int} {tgt : Nat} (hd : decode cc pc = .ok (.if_icmp .le off, 3)) (ht : (pc : Int) + off = (tgt : Int)) (kk : (x ≤ y → PW p l e R s m args below meth c Q G nL S kc kn LV tgt st) ∧ (¬ x ≤ y → PW p l e R s m args below meth c Q G nL S kc kn LV (pc + 3) st)) : PW p l e R s m args below meth c Q G nL S kc kn LV pc (.int y :: .int x :: st) := fun H locs ls h hS hl => lv_icmp_le C.1 C.2.1 hd ht (fun q => kk.1 q H locs ls h hS hl) (fun q => kk.2 q H locs ls h hS hl)
theorem pw_ifnull_r (C : pCx p s m args meth c G cc nL own Ts) {x : Nat} {off : Int} (hd : decode cc pc = .ok (.ifnull off, 3)) (k : PW p l e R s m args below meth c Q G nL S kc kn LV (pc + 3) (st)) : PW p l e R s m args below meth c Q G nL S kc kn LV pc (.ref x :: st) := fun H locs ls h hS hl => lv_ifnull C.1 C.2.1 hd (k H locs ls h hS hl)
theorem pw_ifnonnull_r (C : pCx p s m args meth c G cc nL own Ts) {x : Nat} {off : Int} {tgt : Nat} (hd : decode cc pc = .ok (.ifnonnull off, 3)) (ht : (pc : Int) + off = (tgt : Int)) (k : PW p l e R s m args below meth c Q G nL S kc kn LV tgt (st)) : PW p l e R s m args below meth c Q G nL S kc kn LV pc (.ref x :: st) := fun H locs ls h hS hl => lv_ifnonnull C.1 C.2.1 hd ht (k H locs ls h hS hl)
theorem pw_ifnull_n (C : pCx p s m args meth c G cc nL own Ts) {off : Int} {tgt : Nat} (hd : decode cc pc = .ok (.ifnull off, 3)) (ht : (pc : Int) + off = (tgt : Int)) (k : PW p l e R s m args below meth c Q G nL S kc kn LV tgt (st)) : PW p l e R s m args below meth c Q G nL S kc kn LV pc (.null :: st) := fun H locs ls h hS hl => lv_ifnullN C.1 C.2.1 hd ht (k H locs ls h hS hl)
theorem pw_ifnonnull_n (C : pCx p s m args meth c G cc nL own Ts) {off : Int} (hd : decode cc pc = .ok (.ifnonnull off, 3)) (k : PW p l e R s m args below meth c Q G nL S kc kn LV (pc + 3) (st)) : PW p l e R s m args below meth c Q G nL S kc kn LV pc (.null :: st) := fun H locs ls h hS hl => lv_ifnonnullN C.1 C.2.1 hd (k H locs ls h hS hl)
theorem pw_lookup (C : pCx p s m args meth c G cc nL own Ts) {dflt : Int} {ps : Array (Int × Int)} {len : Nat} {x : Int32} {off : Int} {tgt : Nat} (hd : decode cc pc = .ok (.lookupswitch dflt ps, len)) (hp : (ps.toList.zip (ps.toList.drop 1)).all (fun (a, next) => a.1 < next.1) = true) (ho : Op.lookupswitch.offset ps.toList dflt x.toInt = off) (ht : (pc : Int) + off = (tgt : Int)) (k : PW p l e R s m args below meth c Q G nL S kc kn LV tgt (st)) : PW p l e R s m args below meth c Q G nL S kc kn LV pc (.int x :: st) := fun H locs ls h hS hl => lv_lookup C.1 C.2.1 hd hp ho ht (k H locs ls h hS hl)
theorem pw_tableOut (C : pCx p s m args meth c G cc nL own Ts) {dflt lo hi : Int} {offs : Array Int} {len : Nat} {x : Int32} {tgt : Nat} (hd : decode cc pc = .ok (.tableswitch dflt lo hi offs, len)) (hh : x.toInt < lo ∨ hi < x.toInt) (ht : (pc : Int) + dflt = (tgt : Int)) (k : PW p l e R s m args below meth c Q G nL S kc kn LV tgt (st)) : PW p l e R s m args below meth c Q G nL S kc kn LV pc (.int x :: st) := fun H locs ls h hS hl => lv_tableOut C.1 C.2.1 hd hh ht (k H locs ls h hS hl)
theorem pw_tableIn (C : pCx p s m args meth c G cc nL own Ts) {dflt lo hi : Int} {offs : Array Int} {len : Nat} {x : Int32} {off : Int} {tgt : Nat} (hd : decode cc pc = .ok (.tableswitch dflt lo hi offs, len)) (h1 : ¬ x.toInt < lo) (h2 : ¬ hi < x.toInt) (ho : offs[(x.toInt - lo).toNat]? = some off) (ht : (pc : Int) + off = (tgt : Int)) (k : PW p l e R s m args below meth c Q G nL S kc kn LV tgt (st)) : PW p l e R s m args below meth c Q G nL S kc kn LV pc (.int x :: st) := fun H locs ls h hS hl => lv_tableIn C.1 C.2.1 hd h1 h2 ho ht (k H locs ls h hS hl)
theorem pw_sub (ks : List Nat) {LV2 : List (Nat × Value)} (he : lv_pick LV ks = LV2) (k : PW p l e R s m args below meth c Q G nL S kc kn LV2 pc st) : PW p l e R s m args below meth c Q G nL S kc kn LV pc st := fun H locs ls h hS hl => k H locs ls h hS (lv_sub hl ks he)
theorem pw_pc {pc2 : Nat} (he : pc = pc2) (k : PW p l e R s m args below meth c Q G nL S kc kn LV pc2 st) : PW p l e R s m args below meth c Q G nL S kc kn LV pc st := he ▸ k
theorem pw_widen {k2 n2 : Nat} (h1 : kc ≤ k2) (h2 : kn ≤ n2) (k : PW p l e R s m args below meth c Q G nL S k2 n2 LV pc st) : PW p l e R s m args below meth c Q G nL S kc kn LV pc st := fun H locs ls h hS hl => W.widen h1 h2 (k H locs ls h hS hl)
end PWR
theorem pHold_at {G : PG} {S : PS} {H : Heap} (h : pHold G S H) {a : Nat} (ha : pK S a ≠ 0) : ∃ (L : List Nat) (k : Nat), va_P G.1.1 vwCl ([] ++ va_pl L (pE G S)) H ∧ va_D (fun q => G.2.2 ≤ q) ([] ++ va_pl L (pE G S)) ∧ ([] ++ va_pl L (pE G S))[k]? = some (G.2.2 + a, pE G S (G.2.2 + a)) := by
  obtain ⟨L, hL, hP, hD, -⟩ := h
  obtain ⟨k, hk⟩ := va_pl_get (X := []) (f := pE G S) (hL a ha)
  exact ⟨L, k, hP, hD, hk⟩
/-- one cell changes -/
theorem pHold_set {G : PG} {S S' : PS} {H H1 : Heap} (h : pHold G S H) {a : Nat} (ha : pK S a ≠ 0) (hN : pN S' = pN S) (hK : ∀ x, pK S' x = pK S x) (hL' : ∀ x, x ≠ a → pL S' x = pL S x) (hI : ∀ x j, x ≠ a → pI S' x j = pI S x j) (hJ : ∀ x j, x ≠ a → pJ S' x j = pJ S x j) (hR : ∀ x j, x ≠ a → pR S' x j = pR S x j)
    (he : va_at G.1.1 vwCl (G.2.2 + a, pE G S' (G.2.2 + a)) H1) (z : H1.size = H.size) (oq : ∀ q : Nat, q ≠ G.2.2 + a → H1[q]? = H[q]?) : pHold G S' H1 := by
  obtain ⟨L, hL, hP, hD, hs⟩ := h
  obtain ⟨k, hk⟩ := va_pl_get (X := []) (f := pE G S) (hL a ha)
  have hP1 := hP.set hD hk he oq
  have hD1 : va_D (fun q => G.2.2 ≤ q) (([] ++ va_pl L (pE G S)).set k (G.2.2 + a, pE G S' (G.2.2 + a))) := hD.set hk
  have e1 : ([] ++ va_pl L (pE G S)).set k (G.2.2 + a, pE G S' (G.2.2 + a)) = [] ++ va_pl L (pE G S') := by
    rw [va_pl_set hD (hL a ha) hk]
    congr 1
    apply va_pl_congr
    intro q
    by_cases hq : q = G.2.2 + a
    · subst hq; rw [va_up_self]
    · rw [va_up_ne _ _ hq]
      exact (pE_far G S S' (fun x _ => hK x) hL' hI hJ hR hq).symm
  rw [e1] at hP1 hD1
  exact ⟨L, fun x hx => hL x (by rw [← hK]; exact hx), hP1, hD1, by rw [z, hs, hN]⟩
/-- a new cell comes -/
theorem pHold_new {G : PG} {S : PS} {H H1 : Heap} (h : pHold G S H) {κ n : Nat}
    (he : va_at G.1.1 vwCl (H.size, pE G (sNew S κ n) H.size) H1) (z : H1.size = H.size + 1) (oq : ∀ q : Nat, q < H.size → H1[q]? = H[q]?) : pHold G (sNew S κ n) H1 := by
  obtain ⟨L, hL, hP, hD, hs⟩ := h
  have hf : H.size ∉ L := va_pl_fresh (X := []) hP (Nat.le_refl _)
  have hP0 : va_P G.1.1 vwCl ([] ++ va_pl L (pE G S)) H1 := hP.kept (fun k x hx => oq x.1 ((hP k x hx).lt))
  have hP1 : va_P G.1.1 vwCl (([] ++ va_pl L (pE G S)) ++ [(H.size, pE G (sNew S κ n) H.size)]) H1 := by
    refine hP0.app (fun k x hx => ?_)
    have hz : k < 1 := (List.getElem?_eq_some_iff.mp hx).1
    rw [show k = 0 by omega] at hx
    cases hx
    exact he
  have hD1 : va_D (fun q => G.2.2 ≤ q) (([] ++ va_pl L (pE G S)) ++ [(H.size, pE G (sNew S κ n) H.size)]) := hD.push hP rfl (by show G.2.2 ≤ H.size; omega)
  have e1 : ([] ++ va_pl L (pE G S)) ++ [(H.size, pE G (sNew S κ n) H.size)] = [] ++ va_pl (L ++ [H.size]) (pE G (sNew S κ n)) := by
    rw [List.append_assoc, va_pl_push hf]
    congr 1
    apply va_pl_congr
    intro q
    by_cases hq : q = H.size
    · subst hq; rw [va_up_self]
    · rw [va_up_ne _ _ hq]
      have hq' : q ≠ G.2.2 + pN S := by rw [← hs]; exact hq
      exact (pE_far G S (sNew S κ n) (fun x hx => by rw [pK_sNew, if_neg hx]) (fun x hx => by rw [pL_sNew, if_neg hx]) (fun x j hx => by rw [pI_sNew, if_neg hx]) (fun x j hx => by rw [pJ_sNew, if_neg hx]) (fun x j hx => by rw [pR_sNew, if_neg hx]) hq').symm
  rw [e1] at hP1 hD1
  refine ⟨L ++ [H.size], fun x hx => ?_, hP1, hD1, by rw [z, hs, pN_sNew]; omega⟩
  by_cases hxN : x = pN S
  · subst hxN; rw [← hs]; exact List.mem_append_right _ List.mem_cons_self
  · rw [pK_sNew, if_neg hxN] at hx
    exact List.mem_append_left _ (hL x hx)
/-- a field's first value, by its sort -/
def pDf (t : Nat) : Value := match t with
  | 0 => .int 0
  | 1 => .long 0
  | _ => .null
/-- a class of vwCl: its place, name, fields, types -/
def pCl (ci : Nat) (CN : String) (T : u_T) (N : Nat) (ty0 : Nat → FieldType) : Prop := vwCl[ci]? = some (CN, T, N) ∧ ci < 11 ∧ (∀ k, k < N → parseFieldDescriptor (T k).2.2.1 = some (ty0 k)) ∧ (∀ a, a < N → ∀ b, b < N → a ≠ b → (T a).2.1 ≠ (T b).2.1) ∧ (pT ci).length = N ∧ ∀ j, j < N → ∃ t, (pT ci)[j]? = some t ∧ defaultValue (ty0 j) = pDf t
theorem pCl0 : pCl 0 RX0 TX0 4 tyX0 := ⟨rfl, by decide, tyX0_ok, nmX0, rfl, fun j hj => by rcases (show j = 0 ∨ j = 1 ∨ j = 2 ∨ j = 3 by omega) with rfl | rfl | rfl | rfl <;> exact ⟨_, rfl, rfl⟩⟩
theorem pCl1 : pCl 1 RX2 TX2 7 tyX2 := ⟨rfl, by decide, tyX2_ok, nmX2, rfl, fun j hj => by rcases (show j = 0 ∨ j = 1 ∨ j = 2 ∨ j = 3 ∨ j = 4 ∨ j = 5 ∨ j = 6 by omega) with rfl | rfl | rfl | rfl | rfl | rfl | rfl <;> exact ⟨_, rfl, rfl⟩⟩
theorem pCl2 : pCl 2 RX3 TX3 7 tyX3 := ⟨rfl, by decide, tyX3_ok, nmX3, rfl, fun j hj => by rcases (show j = 0 ∨ j = 1 ∨ j = 2 ∨ j = 3 ∨ j = 4 ∨ j = 5 ∨ j = 6 by omega) with rfl | rfl | rfl | rfl | rfl | rfl | rfl <;> exact ⟨_, rfl, rfl⟩⟩
theorem pCl3 : pCl 3 RX4 TX4 5 tyX4 := ⟨rfl, by decide, tyX4_ok, nmX4, rfl, fun j hj => by rcases (show j = 0 ∨ j = 1 ∨ j = 2 ∨ j = 3 ∨ j = 4 by omega) with rfl | rfl | rfl | rfl | rfl <;> exact ⟨_, rfl, rfl⟩⟩
theorem pCl4 : pCl 4 RX6 TX6 4 tyX6 := ⟨rfl, by decide, tyX6_ok, nmX6, rfl, fun j hj => by rcases (show j = 0 ∨ j = 1 ∨ j = 2 ∨ j = 3 by omega) with rfl | rfl | rfl | rfl <;> exact ⟨_, rfl, rfl⟩⟩
theorem pCl5 : pCl 5 RX7 TX7 5 tyX7 := ⟨rfl, by decide, tyX7_ok, nmX7, rfl, fun j hj => by rcases (show j = 0 ∨ j = 1 ∨ j = 2 ∨ j = 3 ∨ j = 4 by omega) with rfl | rfl | rfl | rfl | rfl <;> exact ⟨_, rfl, rfl⟩⟩
theorem pCl6 : pCl 6 RX8 TX8 10 tyX8 := ⟨rfl, by decide, tyX8_ok, nmX8, rfl, fun j hj => by rcases (show j = 0 ∨ j = 1 ∨ j = 2 ∨ j = 3 ∨ j = 4 ∨ j = 5 ∨ j = 6 ∨ j = 7 ∨ j = 8 ∨ j = 9 by omega) with rfl | rfl | rfl | rfl | rfl | rfl | rfl | rfl | rfl | rfl <;> exact ⟨_, rfl, rfl⟩⟩
theorem pCl7 : pCl 7 RX9 TX9 6 tyX9 := ⟨rfl, by decide, tyX9_ok, nmX9, rfl, fun j hj => by rcases (show j = 0 ∨ j = 1 ∨ j = 2 ∨ j = 3 ∨ j = 4 ∨ j = 5 by omega) with rfl | rfl | rfl | rfl | rfl | rfl <;> exact ⟨_, rfl, rfl⟩⟩
theorem pCl8 : pCl 8 RX10 TX10 8 tyX10 := ⟨rfl, by decide, tyX10_ok, nmX10, rfl, fun j hj => by rcases (show j = 0 ∨ j = 1 ∨ j = 2 ∨ j = 3 ∨ j = 4 ∨ j = 5 ∨ j = 6 ∨ j = 7 by omega) with rfl | rfl | rfl | rfl | rfl | rfl | rfl | rfl <;> exact ⟨_, rfl, rfl⟩⟩
theorem pCl9 : pCl 9 RX11 TX11 9 tyX11 := ⟨rfl, by decide, tyX11_ok, nmX11, rfl, fun j hj => by rcases (show j = 0 ∨ j = 1 ∨ j = 2 ∨ j = 3 ∨ j = 4 ∨ j = 5 ∨ j = 6 ∨ j = 7 ∨ j = 8 by omega) with rfl | rfl | rfl | rfl | rfl | rfl | rfl | rfl | rfl <;> exact ⟨_, rfl, rfl⟩⟩
theorem pCl10 : pCl 10 RX12 TX12 32 tyX12 := ⟨rfl, by decide, tyX12_ok, nmX12, rfl, fun j hj => by rcases (show j = 0 ∨ j = 1 ∨ j = 2 ∨ j = 3 ∨ j = 4 ∨ j = 5 ∨ j = 6 ∨ j = 7 ∨ j = 8 ∨ j = 9 ∨ j = 10 ∨ j = 11 ∨ j = 12 ∨ j = 13 ∨ j = 14 ∨ j = 15 ∨ j = 16 ∨ j = 17 ∨ j = 18 ∨ j = 19 ∨ j = 20 ∨ j = 21 ∨ j = 22 ∨ j = 23 ∨ j = 24 ∨ j = 25 ∨ j = 26 ∨ j = 27 ∨ j = 28 ∨ j = 29 ∨ j = 30 ∨ j = 31 by omega) with rfl | rfl | rfl | rfl | rfl | rfl | rfl | rfl | rfl | rfl | rfl | rfl | rfl | rfl | rfl | rfl | rfl | rfl | rfl | rfl | rfl | rfl | rfl | rfl | rfl | rfl | rfl | rfl | rfl | rfl | rfl | rfl <;> exact ⟨_, rfl, rfl⟩⟩
section PWH
variable {p : Program} {l : Launch} {e : Env} {R : Room} {s : State} {m : MethodId} {args : Array Value} {below : List Frame} {meth : Method} {c : Code} {Q : State → Prop} {G : PG} {nL : Nat} {S : PS} {kc kn : Nat} {LV : List (Nat × Value)} {pc : Nat} {st : List Value} {cc : ByteArray} {own : String} {Ts : List Cond}
variable {CN ref : String} {T : u_T} {N ci index a k : Nat} {ty0 : Nat → FieldType}
/-- a field is read, whatever its sort -/
theorem pw_getV (C : pCx p s m args meth c G cc nL own Ts) (hc : pCl ci CN T N ty0) (hin : ∀ w ∈ u_ws CN T N, w ∈ Ts) (ha : pK S a = ci + 1) {t : Nat} (ht : (pT ci)[k]? = some t) (hlink : Cond.fieldLink own index ref (T k).2.1 (T k).2.2.1 ∈ Ts) (hsame : (T k).1 = ref ∨ Cond.sameField ref (T k).1 (T k).2.1 (T k).2.2.1 ∈ Ts) (hd : decode cc pc = .ok (.getfield index, 3))
    (kk : PW p l e R s m args below meth c Q G nL S kc kn LV (pc + 3) (pV G.2.2 S a t k :: st)) : PW p l e R s m args below meth c Q G nL S kc kn LV pc (.ref (G.2.2 + a) :: st) := by
  intro H locs ls h hS hl
  have h0 := h
  obtain ⟨L, i, hP, hD, hi⟩ := pHold_at h0 (a := a) (by omega)
  rw [pE_obj G S ha hc.2.1] at hi
  have hkN : k < N := by rw [← hc.2.2.2.2.1]; exact (List.getElem?_eq_some_iff.mp ht).1
  refine va_get C.1 C.2.1 C.2.2.2.2.1 hin C.2.2.2.1 C.2.2.2.2.2.1 hP i hi hc.1 k hkN (C.2.2.2.2.1 _ hlink) (fun x hx => ?_) (v := pV G.2.2 S a t k) ?_ hd (kk H locs ls h hS hl)
  · rcases hsame with h1 | h1
    · rw [← h1]; exact hx
    · exact u_same (C.2.2.2.2.1 _ h1) x hx
  · have := pC_get G.2.2 S a (pT ci) 0 k t ht
    rw [Nat.zero_add] at this
    exact this
theorem pw_getI (C : pCx p s m args meth c G cc nL own Ts) (hc : pCl ci CN T N ty0) (hin : ∀ w ∈ u_ws CN T N, w ∈ Ts) (ha : pK S a = ci + 1) (ht : (pT ci)[k]? = some 0) (hlink : Cond.fieldLink own index ref (T k).2.1 (T k).2.2.1 ∈ Ts) (hsame : (T k).1 = ref ∨ Cond.sameField ref (T k).1 (T k).2.1 (T k).2.2.1 ∈ Ts) (hd : decode cc pc = .ok (.getfield index, 3))
    (kk : PW p l e R s m args below meth c Q G nL S kc kn LV (pc + 3) (.int (pI S a k) :: st)) : PW p l e R s m args below meth c Q G nL S kc kn LV pc (.ref (G.2.2 + a) :: st) := pw_getV C hc hin ha ht hlink hsame hd kk
theorem pw_getJ (C : pCx p s m args meth c G cc nL own Ts) (hc : pCl ci CN T N ty0) (hin : ∀ w ∈ u_ws CN T N, w ∈ Ts) (ha : pK S a = ci + 1) (ht : (pT ci)[k]? = some 1) (hlink : Cond.fieldLink own index ref (T k).2.1 (T k).2.2.1 ∈ Ts) (hsame : (T k).1 = ref ∨ Cond.sameField ref (T k).1 (T k).2.1 (T k).2.2.1 ∈ Ts) (hd : decode cc pc = .ok (.getfield index, 3))
    (kk : PW p l e R s m args below meth c Q G nL S kc kn LV (pc + 3) (.long (pJ S a k) :: st)) : PW p l e R s m args below meth c Q G nL S kc kn LV pc (.ref (G.2.2 + a) :: st) := pw_getV C hc hin ha ht hlink hsame hd kk
theorem pw_getR (C : pCx p s m args meth c G cc nL own Ts) (hc : pCl ci CN T N ty0) (hin : ∀ w ∈ u_ws CN T N, w ∈ Ts) (ha : pK S a = ci + 1) (ht : (pT ci)[k]? = some 2) (hlink : Cond.fieldLink own index ref (T k).2.1 (T k).2.2.1 ∈ Ts) (hsame : (T k).1 = ref ∨ Cond.sameField ref (T k).1 (T k).2.1 (T k).2.2.1 ∈ Ts) {o : Nat} (ho : pR S a k = some o) (hd : decode cc pc = .ok (.getfield index, 3))
    (kk : PW p l e R s m args below meth c Q G nL S kc kn LV (pc + 3) (.ref (G.2.2 + o) :: st)) : PW p l e R s m args below meth c Q G nL S kc kn LV pc (.ref (G.2.2 + a) :: st) := pw_getV C hc hin ha ht hlink hsame hd (by show PW p l e R s m args below meth c Q G nL S kc kn LV (pc + 3) (rf G.2.2 (pR S a k) :: st); rw [ho]; exact kk)
/-- a field is written -/
theorem pw_putV (C : pCx p s m args meth c G cc nL own Ts) (hc : pCl ci CN T N ty0) (hin : ∀ w ∈ u_ws CN T N, w ∈ Ts) (ha : pK S a = ci + 1) {t : Nat} (ht : (pT ci)[k]? = some t) (hlink : Cond.fieldLink own index ref (T k).2.1 (T k).2.2.1 ∈ Ts) (hsame : (T k).1 = ref ∨ Cond.sameField ref (T k).1 (T k).2.1 (T k).2.2.1 ∈ Ts) (S' : PS) {v : Value} (hv : pV G.2.2 S' a t k = v)
    (hN : pN S' = pN S) (hKK : ∀ x, pK S' x = pK S x) (hLL : ∀ x, x ≠ a → pL S' x = pL S x) (hI : ∀ x j, x ≠ a → pI S' x j = pI S x j) (hJ : ∀ x j, x ≠ a → pJ S' x j = pJ S x j) (hR : ∀ x j, x ≠ a → pR S' x j = pR S x j) (hne : ∀ (t' j : Nat), j ≠ k → pV G.2.2 S' a t' j = pV G.2.2 S a t' j)
    (hfin : (T k).2.2.2 = false ∨ ((T k).2.2.2 = true ∧ meth.name = "<init>" ∧ (T k).1 = own ∧ ref = own)) (hn : narrow (ty0 k) v = v) (hfit : fits (ty0 k) v = true) (hd : decode cc pc = .ok (.putfield index, 3))
    (kk : PW p l e R s m args below meth c Q G nL S' kc kn LV (pc + 3) st) : PW p l e R s m args below meth c Q G nL S kc kn LV pc (v :: .ref (G.2.2 + a) :: st) := by
  intro H locs ls h hS0 hl
  obtain ⟨L, i, hP, hD, hi⟩ := pHold_at h (a := a) (by omega)
  rw [pE_obj G S ha hc.2.1] at hi
  have hkN : k < N := by rw [← hc.2.2.2.2.1]; exact (List.getElem?_eq_some_iff.mp ht).1
  have hts := C.2.2.2.2.1
  have hK := C.2.2.2.2.2.1
  have hap := va_apart (own := own) hts hin ty0 hc.2.2.1 hc.2.2.2.1 hK hc.1
  obtain ⟨r, h1, cell, q1, q2, q3, q4⟩ := hP i _ hi
  have hr : r = (CN, T, N) := Option.some.inj (h1.symm.trans hc.1)
  subst hr
  obtain ⟨hSl, hfc, kC, hkC, hkind⟩ := hK.1 ci _ hc.1
  obtain ⟨cf, kf, fi, f, hif, hsl⟩ := hSl k hkN
  have hst := (u_facts hfc hkC (u_lays hts hin hkN) hif).1
  have hsm : s.fieldFound? ref (T k).2.1 (T k).2.2.1 = some (cf, kf, fi, f) := by
    rcases hsame with h1 | h1
    · rw [← h1]; exact hif
    · exact u_same (hts _ h1) _ hif
  have hlt : f.slot < cell.slots.size := by rw [hsl]; exact k2_hasslot (q4 k hkN)
  have fin : ∀ H' : Heap, H'[G.2.2 + a]? = some (cell.setSlot f.slot v) → H'.size = H.size → (∀ q, q ≠ G.2.2 + a → H'[q]? = H[q]?) → W p l e R s m args below meth c H' (locs ++ [⟨G.2.2 + a, f.slot⟩]) kc kn Q (F0 m (pc + 3) ls st) := by
    intro H' e1 e2 e3
    rw [hsl] at e1 ⊢
    refine kk H' _ ls (pHold_set h (by omega) hN hKK hLL hI hJ hR ?_ e2 e3) (hS0.put e2 e3 (by show G.2.2 ≤ G.2.2 + a; omega)) hl
    rw [pE_obj G S' (by rw [hKK]; exact ha) hc.2.1]
    have hset := pC_set G.2.2 S S' a (pT ci) 0 k t ht (fun t' j hj => hne t' j (by omega))
    rw [Nat.zero_add, hv] at hset
    rw [← hset]
    exact ⟨_, hc.1, t_OB.to (V := updV (vp_V (pC G.2.2 S a 0 (pT ci))) k v) ⟨_, e1, q2, q3, t_set q4 hap hkN v⟩ (fun j _ => vp_updV_set (by rw [pC_len, hc.2.2.2.2.1]; exact hkN) v j)⟩
  rcases hfin with hf | ⟨hf, hin2, hown1, href⟩
  · have hlay := hts _ (hin _ (u_in_lay hkN))
    unfold u_lay at hlay
    rw [if_neg (by rw [hf]; decide)] at hlay
    have h6 := u_store hfc hkC hkind hlay hif (hc.2.2.1 k hkN) hn hfit
    exact W.putK C.1 C.2.1 (f := f) ⟨C.2.2.2.1, hts _ hlink, ⟨_, _, _, hsm⟩, hst⟩ (by rw [q2]; exact h6) q1 q3 hlt rfl rfl hd fin
  · have hlay := hts _ (hin _ (u_in_lay hkN))
    unfold u_lay at hlay
    rw [if_pos hf] at hlay
    have hcf : m.cls = cf := by
      obtain ⟨_, _, c', _, _, _, -, -, hf', -, -, -, hown2, -⟩ := Cond.laysFinal_spec hlay
      have e1 : c' = cf := by have := hif.symm.trans hf'; simp at this; exact this.1.symm
      rw [hown1] at hown2
      rw [← e1]; exact Option.some.inj (C.2.2.2.1.symm.trans hown2)
    have h6 := u_fits hfc hkC hkind (Or.inr hlay) hif (hc.2.2.1 k hkN) hn hfit
    exact W.putFinK C.1 C.2.1 C.2.2.2.1 (hts _ hlink) hsm hst hcf hin2 (by rw [q2]; exact h6) q1 q3 hlt rfl rfl hd fin
theorem pw_putI (C : pCx p s m args meth c G cc nL own Ts) (hc : pCl ci CN T N ty0) (hin : ∀ w ∈ u_ws CN T N, w ∈ Ts) (ha : pK S a = ci + 1) (ht : (pT ci)[k]? = some 0) (hlink : Cond.fieldLink own index ref (T k).2.1 (T k).2.2.1 ∈ Ts) (hsame : (T k).1 = ref ∨ Cond.sameField ref (T k).1 (T k).2.1 (T k).2.2.1 ∈ Ts) {v : Int32}
    (hfin : (T k).2.2.2 = false ∨ ((T k).2.2.2 = true ∧ meth.name = "<init>" ∧ (T k).1 = own ∧ ref = own)) (hn : narrow (ty0 k) (.int v) = .int v) (hfit : fits (ty0 k) (.int v) = true) (hd : decode cc pc = .ok (.putfield index, 3))
    (kk : PW p l e R s m args below meth c Q G nL (sI S a k v) kc kn LV (pc + 3) st) : PW p l e R s m args below meth c Q G nL S kc kn LV pc (.int v :: .ref (G.2.2 + a) :: st) := by
  refine pw_putV C hc hin ha ht hlink hsame (sI S a k v) (v := .int v) ?_ rfl (fun _ => rfl) (fun _ _ => rfl) (fun x j hx => ?_) (fun _ _ _ => rfl) (fun _ _ _ => rfl) (fun t' j hj => ?_) hfin hn hfit hd kk
  · show Value.int (pI (sI S a k v) a k) = _; rw [pI_sI, if_pos ⟨rfl, rfl⟩]
  · rw [pI_sI, if_neg (fun q => hx q.1)]
  · unfold pV; rw [pI_sI, if_neg (fun q => hj q.2)]; rfl
theorem pw_putJ (C : pCx p s m args meth c G cc nL own Ts) (hc : pCl ci CN T N ty0) (hin : ∀ w ∈ u_ws CN T N, w ∈ Ts) (ha : pK S a = ci + 1) (ht : (pT ci)[k]? = some 1) (hlink : Cond.fieldLink own index ref (T k).2.1 (T k).2.2.1 ∈ Ts) (hsame : (T k).1 = ref ∨ Cond.sameField ref (T k).1 (T k).2.1 (T k).2.2.1 ∈ Ts) {v : Int64}
    (hfin : (T k).2.2.2 = false ∨ ((T k).2.2.2 = true ∧ meth.name = "<init>" ∧ (T k).1 = own ∧ ref = own)) (hn : narrow (ty0 k) (.long v) = .long v) (hfit : fits (ty0 k) (.long v) = true) (hd : decode cc pc = .ok (.putfield index, 3))
    (kk : PW p l e R s m args below meth c Q G nL (sJ S a k v) kc kn LV (pc + 3) st) : PW p l e R s m args below meth c Q G nL S kc kn LV pc (.long v :: .ref (G.2.2 + a) :: st) := by
  refine pw_putV C hc hin ha ht hlink hsame (sJ S a k v) (v := .long v) ?_ rfl (fun _ => rfl) (fun _ _ => rfl) (fun _ _ _ => rfl) (fun x j hx => ?_) (fun _ _ _ => rfl) (fun t' j hj => ?_) hfin hn hfit hd kk
  · show Value.long (pJ (sJ S a k v) a k) = _; rw [pJ_sJ, if_pos ⟨rfl, rfl⟩]
  · rw [pJ_sJ, if_neg (fun q => hx q.1)]
  · unfold pV; rw [pJ_sJ, if_neg (fun q => hj q.2)]; rfl
theorem pw_putR (C : pCx p s m args meth c G cc nL own Ts) (hc : pCl ci CN T N ty0) (hin : ∀ w ∈ u_ws CN T N, w ∈ Ts) (ha : pK S a = ci + 1) (ht : (pT ci)[k]? = some 2) (hlink : Cond.fieldLink own index ref (T k).2.1 (T k).2.2.1 ∈ Ts) (hsame : (T k).1 = ref ∨ Cond.sameField ref (T k).1 (T k).2.1 (T k).2.2.1 ∈ Ts) {o : Nat}
    (hfin : (T k).2.2.2 = false ∨ ((T k).2.2.2 = true ∧ meth.name = "<init>" ∧ (T k).1 = own ∧ ref = own)) (hn : narrow (ty0 k) (.ref (G.2.2 + o)) = .ref (G.2.2 + o)) (hfit : fits (ty0 k) (.ref (G.2.2 + o)) = true) (hd : decode cc pc = .ok (.putfield index, 3))
    (kk : PW p l e R s m args below meth c Q G nL (sR S a k (some o)) kc kn LV (pc + 3) st) : PW p l e R s m args below meth c Q G nL S kc kn LV pc (.ref (G.2.2 + o) :: .ref (G.2.2 + a) :: st) := by
  refine pw_putV C hc hin ha ht hlink hsame (sR S a k (some o)) (v := .ref (G.2.2 + o)) ?_ rfl (fun _ => rfl) (fun _ _ => rfl) (fun _ _ _ => rfl) (fun _ _ _ => rfl) (fun x j hx => ?_) (fun t' j hj => ?_) hfin hn hfit hd kk
  · show rf G.2.2 (pR (sR S a k (some o)) a k) = _; rw [pR_sR, if_pos ⟨rfl, rfl⟩]; rfl
  · rw [pR_sR, if_neg (fun q => hx q.1)]
  · unfold pV; rw [pR_sR, if_neg (fun q => hj q.2)]; rfl
end PWH
section PWA
variable {p : Program} {l : Launch} {e : Env} {R : Room} {s : State} {m : MethodId} {args : Array Value} {below : List Frame} {meth : Method} {c : Code} {Q : State → Prop} {G : PG} {nL : Nat} {S : PS} {kc kn : Nat} {LV : List (Nat × Value)} {pc : Nat} {st : List Value} {cc : ByteArray} {own : String} {Ts : List Cond} {a : Nat} {i : Int32}
theorem pw_iald (C : pCx p s m args meth c G cc nL own Ts) (ha : pK S a = 13) (hin : vp_in i (pL S a)) (hd : decode cc pc = .ok (.iaload, 1)) (kk : PW p l e R s m args below meth c Q G nL S kc kn LV (pc + 1) (.int (pI S a i.toNatClampNeg) :: st)) : PW p l e R s m args below meth c Q G nL S kc kn LV pc (.int i :: .ref (G.2.2 + a) :: st) := by
  intro H locs ls h hS hl
  obtain ⟨L, k, hP, hD, hk⟩ := pHold_at h (a := a) (by omega)
  rw [pE_rowI G S ha (by omega)] at hk
  exact va_iald C.1 C.2.1 C.2.2.2.2.2.1 hP k 1 hk rfl hin hd (kk H locs ls h hS hl)
theorem pw_bald (C : pCx p s m args meth c G cc nL own Ts) (ha : pK S a = 12) (hin : vp_in i (pL S a)) (hd : decode cc pc = .ok (.baload, 1)) (kk : PW p l e R s m args below meth c Q G nL S kc kn LV (pc + 1) (.int (pI S a i.toNatClampNeg) :: st)) : PW p l e R s m args below meth c Q G nL S kc kn LV pc (.int i :: .ref (G.2.2 + a) :: st) := by
  intro H locs ls h hS hl
  obtain ⟨L, k, hP, hD, hk⟩ := pHold_at h (a := a) (by omega)
  rw [pE_rowI G S ha (by omega)] at hk
  exact va_bald C.1 C.2.1 C.2.2.2.2.2.1 hP k 0 hk rfl hin hd (kk H locs ls h hS hl)
theorem pw_zald (C : pCx p s m args meth c G cc nL own Ts) (ha : pK S a = 15) (hin : vp_in i (pL S a)) (hd : decode cc pc = .ok (.baload, 1)) (kk : PW p l e R s m args below meth c Q G nL S kc kn LV (pc + 1) (.int (pI S a i.toNatClampNeg) :: st)) : PW p l e R s m args below meth c Q G nL S kc kn LV pc (.int i :: .ref (G.2.2 + a) :: st) := by
  intro H locs ls h hS hl
  obtain ⟨L, k, hP, hD, hk⟩ := pHold_at h (a := a) (by omega)
  rw [pE_rowI G S ha (by omega)] at hk
  exact va_zald C.1 C.2.1 C.2.2.2.2.2.1 hP k 3 hk rfl hin hd (kk H locs ls h hS hl)
theorem pw_lald (C : pCx p s m args meth c G cc nL own Ts) (ha : pK S a = 14) (hin : vp_in i (pL S a)) (hd : decode cc pc = .ok (.laload, 1)) (kk : PW p l e R s m args below meth c Q G nL S kc kn LV (pc + 1) (.long (pJ S a i.toNatClampNeg) :: st)) : PW p l e R s m args below meth c Q G nL S kc kn LV pc (.int i :: .ref (G.2.2 + a) :: st) := by
  intro H locs ls h hS hl
  obtain ⟨L, k, hP, hD, hk⟩ := pHold_at h (a := a) (by omega)
  rw [pE_rowJ G S ha] at hk
  exact va_lald C.1 C.2.1 C.2.2.2.2.2.1 hP k 2 hk rfl hin hd (kk H locs ls h hS hl)
theorem pw_aald (C : pCx p s m args meth c G cc nL own Ts) (ha : pK S a = 16 ∨ pK S a = 17) (hin : vp_in i (pL S a)) {o : Nat} (ho : pR S a i.toNatClampNeg = some o) (hd : decode cc pc = .ok (.aaload, 1)) (kk : PW p l e R s m args below meth c Q G nL S kc kn LV (pc + 1) (.ref (G.2.2 + o) :: st)) : PW p l e R s m args below meth c Q G nL S kc kn LV pc (.int i :: .ref (G.2.2 + a) :: st) := by
  intro H locs ls h hS hl
  obtain ⟨L, k, hP, hD, hk⟩ := pHold_at h (a := a) (by omega)
  rw [pE_rowR G S rfl ha] at hk
  rcases ha with ha | ha
  · rw [ha] at hk
    refine va_aldq C.1 C.2.1 C.2.2.2.2.2.1 hP k 4 hk rfl hin hd ?_
    rw [ho]
    exact kk H locs ls h hS hl
  · rw [ha] at hk
    refine va_aldq C.1 C.2.1 C.2.2.2.2.2.1 hP k 5 hk rfl hin hd ?_
    rw [ho]
    exact kk H locs ls h hS hl
theorem pw_iast (C : pCx p s m args meth c G cc nL own Ts) (ha : pK S a = 13) (hin : vp_in i (pL S a)) {x : Int32} (hd : decode cc pc = .ok (.iastore, 1)) (kk : PW p l e R s m args below meth c Q G nL (sI S a i.toNatClampNeg x) kc kn LV (pc + 1) st) : PW p l e R s m args below meth c Q G nL S kc kn LV pc (.int x :: .int i :: .ref (G.2.2 + a) :: st) := by
  intro H locs ls h hS hl
  obtain ⟨L, k, hP, hD, hk⟩ := pHold_at h (a := a) (by omega)
  rw [pE_rowI G S ha (by omega)] at hk
  refine W.iast C.1 C.2.1 (hP k _ hk) ((C.2.2.2.2.2.1.2 1 _ rfl).1 _ _) (fun q => by cases q) (by show ¬ (i < 0 ∨ (arrV _ _ _).slots.size ≤ _); rw [arrV_size]; exact hin) rfl rfl hd fun H1 e z oq => ?_
  refine kk H1 _ ls (pHold_set h (by omega) rfl (fun _ => rfl) (fun _ _ => rfl) (fun x j hx => by rw [pI_sI, if_neg (fun q => hx q.1)]) (fun _ _ _ => rfl) (fun _ _ _ => rfl) ?_ z oq) (hS.put z oq (by show G.2.2 ≤ G.2.2 + a; omega)) hl
  rw [pE_rowI G (sI S a i.toNatClampNeg x) (a := a) (κ := 13) ha (by omega)]
  show H1[G.2.2 + a]? = some (vp_cell _ _)
  rw [e, vp_cell_i, vp_cell_i, arrV_store]
  show some (arrV _ _ _) = some (arrV _ _ _)
  congr 2
  funext q
  rw [pI_sI]
  by_cases hq : q = i.toNatClampNeg
  · subst hq; simp [updV]
  · simp [updV, hq]
theorem pw_bast (C : pCx p s m args meth c G cc nL own Ts) (ha : pK S a = 12) (hin : vp_in i (pL S a)) {x : Int32} (hd : decode cc pc = .ok (.bastore, 1)) (kk : PW p l e R s m args below meth c Q G nL (sI S a i.toNatClampNeg (vp_nar .byte x)) kc kn LV (pc + 1) st) : PW p l e R s m args below meth c Q G nL S kc kn LV pc (.int x :: .int i :: .ref (G.2.2 + a) :: st) := by
  intro H locs ls h hS hl
  obtain ⟨L, k, hP, hD, hk⟩ := pHold_at h (a := a) (by omega)
  rw [pE_rowI G S ha (by omega)] at hk
  refine W.bast C.1 C.2.1 (hP k _ hk) ((C.2.2.2.2.2.1.2 0 _ rfl).1 _ _) (fun q => by cases q) (by show ¬ (i < 0 ∨ (arrV _ _ _).slots.size ≤ _); rw [arrV_size]; exact hin) rfl rfl hd fun H1 e z oq => ?_
  refine kk H1 _ ls (pHold_set h (by omega) rfl (fun _ => rfl) (fun _ _ => rfl) (fun x j hx => by rw [pI_sI, if_neg (fun q => hx q.1)]) (fun _ _ _ => rfl) (fun _ _ _ => rfl) ?_ z oq) (hS.put z oq (by show G.2.2 ≤ G.2.2 + a; omega)) hl
  rw [pE_rowI G (sI S a i.toNatClampNeg _) (a := a) (κ := 12) ha (by omega)]
  show H1[G.2.2 + a]? = some (vp_cell _ _)
  rw [e, vp_cell_i, vp_cell_i, arrV_store]
  show some (arrV _ _ _) = some (arrV _ _ _)
  congr 2
  funext q
  rw [pI_sI]
  by_cases hq : q = i.toNatClampNeg
  · subst hq; simp [updV, vp_nar, narrow]
  · simp [updV, hq]
theorem pw_zast (C : pCx p s m args meth c G cc nL own Ts) (ha : pK S a = 15) (hin : vp_in i (pL S a)) {x : Int32} (hd : decode cc pc = .ok (.bastore, 1)) (kk : PW p l e R s m args below meth c Q G nL (sI S a i.toNatClampNeg (vp_nar .boolean x)) kc kn LV (pc + 1) st) : PW p l e R s m args below meth c Q G nL S kc kn LV pc (.int x :: .int i :: .ref (G.2.2 + a) :: st) := by
  intro H locs ls h hS hl
  obtain ⟨L, k, hP, hD, hk⟩ := pHold_at h (a := a) (by omega)
  rw [pE_rowI G S ha (by omega)] at hk
  refine W.zast C.1 C.2.1 (hP k _ hk) ((C.2.2.2.2.2.1.2 3 _ rfl).1 _ _) (fun q => by cases q) (by show ¬ (i < 0 ∨ (arrV _ _ _).slots.size ≤ _); rw [arrV_size]; exact hin) rfl rfl hd fun H1 e z oq => ?_
  refine kk H1 _ ls (pHold_set h (by omega) rfl (fun _ => rfl) (fun _ _ => rfl) (fun x j hx => by rw [pI_sI, if_neg (fun q => hx q.1)]) (fun _ _ _ => rfl) (fun _ _ _ => rfl) ?_ z oq) (hS.put z oq (by show G.2.2 ≤ G.2.2 + a; omega)) hl
  rw [pE_rowI G (sI S a i.toNatClampNeg _) (a := a) (κ := 15) ha (by omega)]
  show H1[G.2.2 + a]? = some (vp_cell _ _)
  rw [e, vp_cell_i, vp_cell_i, arrV_store]
  show some (arrV _ _ _) = some (arrV _ _ _)
  congr 2
  funext q
  rw [pI_sI]
  by_cases hq : q = i.toNatClampNeg
  · subst hq; simp [updV, vp_nar, narrow]
  · simp [updV, hq]
theorem pw_last (C : pCx p s m args meth c G cc nL own Ts) (ha : pK S a = 14) (hin : vp_in i (pL S a)) {x : Int64} (hd : decode cc pc = .ok (.lastore, 1)) (kk : PW p l e R s m args below meth c Q G nL (sJ S a i.toNatClampNeg x) kc kn LV (pc + 1) st) : PW p l e R s m args below meth c Q G nL S kc kn LV pc (.long x :: .int i :: .ref (G.2.2 + a) :: st) := by
  intro H locs ls h hS hl
  obtain ⟨L, k, hP, hD, hk⟩ := pHold_at h (a := a) (by omega)
  rw [pE_rowJ G S ha] at hk
  refine W.last C.1 C.2.1 (hP k _ hk) ((C.2.2.2.2.2.1.2 2 _ rfl).1 _ _) (fun q => by cases q) (by show ¬ (i < 0 ∨ (arrV _ _ _).slots.size ≤ _); rw [arrV_size]; exact hin) rfl rfl hd fun H1 e z oq => ?_
  refine kk H1 _ ls (pHold_set h (by omega) rfl (fun _ => rfl) (fun _ _ => rfl) (fun _ _ _ => rfl) (fun x j hx => by rw [pJ_sJ, if_neg (fun q => hx q.1)]) (fun _ _ _ => rfl) ?_ z oq) (hS.put z oq (by show G.2.2 ≤ G.2.2 + a; omega)) hl
  rw [pE_rowJ G (sJ S a i.toNatClampNeg x) (a := a) ha]
  show H1[G.2.2 + a]? = some (vp_cell _ _)
  rw [e, vp_cell_l, vp_cell_l, arrV_store]
  show some (arrV _ _ _) = some (arrV _ _ _)
  congr 2
  funext q
  rw [pJ_sJ]
  by_cases hq : q = i.toNatClampNeg
  · subst hq; simp [updV]
  · simp [updV, hq]
end PWA
/-! contracts over the pool -/
def pFr (G : PG) : Nat → Prop := fun q => G.2.2 ≤ q
def pPre (G : PG) (S : PS) (av : List Value) : Array Value → State → Prop := va_Pc av (fun U => pHold G S U.heap ∧ va_K G.1.1 vwCl (pTy G) U ∧ G.1.2 U U.heap ∧ ZOK G)
def pB (G : PG) (S : PS) (t : State) : Prop := pHold G S t.heap
def mI (l : Launch) (y : MethodName) (ws : List Cond) (rm : Room) (G : PG) (S : PS) (av : List Value) (post : Int32 → PS → Prop) : Prop := Met l y ws rm (pPre G S av) (va_Qi post (pB G) (pFr G)) rm.cells rm.slots (pFr G)
def mJ (l : Launch) (y : MethodName) (ws : List Cond) (rm : Room) (G : PG) (S : PS) (av : List Value) (post : Int64 → PS → Prop) : Prop := Met l y ws rm (pPre G S av) (va_Ql post (pB G) (pFr G)) rm.cells rm.slots (pFr G)
def mV (l : Launch) (y : MethodName) (ws : List Cond) (rm : Room) (G : PG) (S : PS) (av : List Value) (post : PS → Prop) : Prop := Met l y ws rm (pPre G S av) (va_Qv post (pB G) (pFr G)) rm.cells rm.slots (pFr G)
def pPq (G : PG) (post : Option Nat → PS → Prop) : Option Nat → PS → Prop := fun r u => ∃ o : Option Nat, r = o.map (fun x => G.2.2 + x) ∧ post o u
def mQ (l : Launch) (y : MethodName) (ws : List Cond) (rm : Room) (G : PG) (S : PS) (av : List Value) (post : Option Nat → PS → Prop) : Prop := Met l y ws rm (pPre G S av) (va_Qq (pPq G post) (pB G) (pFr G)) rm.cells rm.slots (pFr G)
theorem pPre_blind (G : PG) (S : PS) (av : List Value) : FrameBlind (pPre G S av) := fun a U g mk q => ⟨q.1, q.2.1, va_K.moved (u := U) (U := U.calling g mk a) (Vm.Alike.refl U.vm) q.2.2.1, q.2.2.2.2.2.2 U g mk a _ q.2.2.2.1, q.2.2.2.2⟩
theorem pHold_base {G : PG} {S : PS} {H : Heap} (h : pHold G S H) : G.2.2 ≤ H.size := by obtain ⟨L, -, -, -, h4⟩ := h; omega
theorem pZ_go {p : Program} {s U : State} {m : MethodId} {args : Array Value} {meth : Method} {c : Code} {G : PG} {cc : ByteArray} {nL : Nat} {own : String} {Ts : List Cond} {S : PS} {H : Heap} {locs : List Loc} (C : pCx p s m args meth c G cc nL own Ts) (hU : U.heap = H) (hW : s.WarmedH U.vm) (h : pHold G S H) (hS : va_S (fun q => G.2.2 ≤ q) s.heap H locs) : G.1.2 U U.heap ∧ ZOK G := by
  obtain ⟨-, -, -, -, -, -, -, hb, hZ, hZk⟩ := C
  refine ⟨?_, hZk⟩
  rw [hU]
  exact hZk.1 s U H hW (hZk.2.1 s s.heap H (fun a ha => hS.2.1 a (Nat.lt_of_lt_of_le ha hb) (Nat.not_le.mpr ha)) hb (pHold_base h) hZ)
/-- a contract out of a walk, whatever it answers -/
theorem met_of {l : Launch} {y : MethodName} {ws ws' : List Cond} {rm : Room} {G : PG} {S : PS} {av : List Value} {Qc : Array Value → State → Outcome → State → Prop} {cc : ByteArray} {maxL : Nat} {ret : Option FieldType} (hy : plainName y.cls = true) (hw : ws = Cond.code y cc maxL ret :: ws') (hlen : (lg_sl av).length ≤ maxL)
    (body : ∀ (p : Program) (e : Env) (s : State) (m : MethodId) (args : Array Value) (below : List Frame) (meth : Method) (c : Code), pCx p s m args meth c G cc maxL y.cls ws → meth.sig.returnType = ret → meth.name = y.name → PW p l e rm s m args below meth c (MQ below Qc args s rm.cells rm.slots (pFr G)) G maxL S 0 0 (lv_args 0 av) 0 []) :
    Met l y ws rm (pPre G S av) Qc rm.cells rm.slots (pFr G) := by
  refine Met.ofW hy hw ?_
  intro p e s m args below meth c s₁ B hml hv
  obtain ⟨rfl, hP, hK, hZ, hZk⟩ := hv
  have hts := atoms_spec (ws := ws) B.pre
  rw [lg_entry_eq]
  exact body p e s m _ below meth c ⟨B.exec, B.bytes, hml, findClass_of_methodNamed B.named, hts, hK, B.notSynchronized, pHold_base hP, hZ, hZk⟩ B.returns (name_of_methodNamed B.named B.method).1 s.heap [] _ hP va_S.rf (lv_entry av hlen)
section PWC
variable {p : Program} {l : Launch} {e : Env} {R : Room} {s : State} {m : MethodId} {args : Array Value} {below : List Frame} {meth : Method} {c : Code} {Q : State → Prop} {G : PG} {nL : Nat} {S : PS} {kc kn : Nat} {LV : List (Nat × Value)} {pc : Nat} {st : List Value} {cc : ByteArray} {own : String} {Ts : List Cond}
/-- a call, over every heap that holds S -/
def PRun (p : Program) (l : Launch) (e : Env) (R : Room) (s : State) (m : MethodId) (args : Array Value) (below : List Frame) (meth : Method) (c : Code) (G : PG) (nL : Nat) (S : PS) (kc kn mc ms : Nat) (LV : List (Nat × Value)) (pc : Nat) (stk st : List Value) (Qa : State → Outcome → State → Prop) : Prop :=
  ∀ (H : Heap) (locs : List Loc) (ls : Array Slot), pHold G S H → va_S (fun q => G.2.2 ≤ q) s.heap H locs → lv_has ls nL LV → va_Run p l e R s m args below meth c H locs kc kn mc ms (F0 m pc ls stk) st Qa (pFr G)
variable {y : MethodName} {bytes : ByteArray} {maxL n index ci N a mc ms : Nat} {ret : Option FieldType} {ws : List Cond} {rm : Room} {CN : String} {T : u_T} {ty0 : Nat → FieldType} {As stk : List Value} {Qc : Array Value → State → Outcome → State → Prop}
theorem pRunV (C : pCx p s m args meth c G cc nL own Ts) (hM : Met l y ws rm (pPre G S (.ref (G.2.2 + a) :: As)) Qc rm.cells rm.slots (pFr G)) (cw : CallW R s args own CN index y bytes maxL ret ws rm rm.cells rm.slots n) (hc : pCl ci CN T N ty0) (ha : pK S a = ci + 1) (hn : As.length = n) (hst : stk = As.reverse ++ .ref (G.2.2 + a) :: st) (hw : (st.map fun v => v.category).sum ≤ 8) (hd : decode cc pc = .ok (.invokevirtual index, 3)) (hf : kc + rm.cells ≤ R.cells ∧ kn + rm.slots ≤ R.slots) :
    PRun p l e R s m args below meth c G nL S kc kn rm.cells rm.slots LV pc stk st (Qc (.ref (G.2.2 + a) :: As).toArray) := by
  intro H locs ls h hS hl
  obtain ⟨L, i, hP, hD, hi⟩ := pHold_at h (a := a) (by omega)
  rw [pE_obj G S ha hc.2.1] at hi
  exact va_runV ⟨C.1, C.2.1, C.2.2.1, C.2.2.2.1, C.2.2.2.2.1⟩ hM cw ⟨pPre_blind G S _, va_recv C.2.2.2.2.2.1 hP hc.1 hi, fun U hU hW => ⟨rfl, by rw [hU]; exact h, va_K.moved hW.alike C.2.2.2.2.2.1, pZ_go C hU hW h hS⟩⟩ rfl hn hl.1 hst (lv_room hw) hd hf
theorem pRunS (C : pCx p s m args meth c G cc nL own Ts) (hM : Met l y ws rm (pPre G S As) Qc rm.cells rm.slots (pFr G)) (cw : CallB R s args own index y bytes maxL ret ws rm rm.cells rm.slots n ∧ (Cond.static y).before args s = true) (hn : As.length = n) (hst : stk = As.reverse ++ st) (hw : (st.map fun v => v.category).sum ≤ 8) (hd : decode cc pc = .ok (.invokestatic index, 3)) (hf : kc + rm.cells ≤ R.cells ∧ kn + rm.slots ≤ R.slots) :
    PRun p l e R s m args below meth c G nL S kc kn rm.cells rm.slots LV pc stk st (Qc As.toArray) := by
  intro H locs ls h hS hl
  exact va_runS ⟨C.1, C.2.1, C.2.2.1, C.2.2.2.1, C.2.2.2.2.1⟩ hM cw ⟨pPre_blind G S _, fun U hU hW => ⟨rfl, by rw [hU]; exact h, va_K.moved hW.alike C.2.2.2.2.2.1, pZ_go C hU hW h hS⟩⟩ rfl hn hl.1 hst (lv_room hw) hd hf
theorem pRunI (C : pCx p s m args meth c G cc nL own Ts) (hM : Met l y ws rm (pPre G S (.ref (G.2.2 + a) :: As)) Qc rm.cells rm.slots (pFr G)) (cw : CallB R s args own index y bytes maxL none ws rm rm.cells rm.slots n ∧ y.name = "<init>" ∧ (Cond.instanceMethod y).before args s = true) (hn : As.length = n) (hst : stk = As.reverse ++ .ref (G.2.2 + a) :: st) (hw : (st.map fun v => v.category).sum ≤ 8) (hd : decode cc pc = .ok (.invokespecial index, 3)) (hf : kc + rm.cells ≤ R.cells ∧ kn + rm.slots ≤ R.slots) :
    PRun p l e R s m args below meth c G nL S kc kn rm.cells rm.slots LV pc stk st (Qc (.ref (G.2.2 + a) :: As).toArray) := by
  intro H locs ls h hS hl
  exact va_runI ⟨C.1, C.2.1, C.2.2.1, C.2.2.2.1, C.2.2.2.2.1⟩ hM cw ⟨pPre_blind G S _, fun U hU hW => ⟨rfl, by rw [hU]; exact h, va_K.moved hW.alike C.2.2.2.2.2.1, pZ_go C hU hW h hS⟩⟩ rfl hn hl.1 hst (lv_room hw) hd hf
variable {av : Array Value}
theorem pw_calli {post : Int32 → PS → Prop} (hr : PRun p l e R s m args below meth c G nL S kc kn mc ms LV pc stk st (va_Qi post (pB G) (pFr G) av)) {kc2 kn2 : Nat} (e1 : kc + mc = kc2) (e2 : kn + ms = kn2) (kk : ∀ (r : Int32) (S' : PS), post r S' → PW p l e R s m args below meth c Q G nL S' kc2 kn2 LV (pc + 3) (.int r :: st)) : PW p l e R s m args below meth c Q G nL S kc kn LV pc stk :=
  fun H locs ls h hS hl => va_calli (hr H locs ls h hS hl) hS (fun _ _ h2 => h2) (fun _ h2 => h2) (fun r u t H1 locs1 ht _ hp hB _ _ hS1 => by subst ht; subst e1; subst e2; exact kk r u hp _ locs1 ls hB hS1 hl)
theorem pw_calll {post : Int64 → PS → Prop} (hr : PRun p l e R s m args below meth c G nL S kc kn mc ms LV pc stk st (va_Ql post (pB G) (pFr G) av)) {kc2 kn2 : Nat} (e1 : kc + mc = kc2) (e2 : kn + ms = kn2) (kk : ∀ (r : Int64) (S' : PS), post r S' → PW p l e R s m args below meth c Q G nL S' kc2 kn2 LV (pc + 3) (.long r :: st)) : PW p l e R s m args below meth c Q G nL S kc kn LV pc stk :=
  fun H locs ls h hS hl => va_calll (hr H locs ls h hS hl) hS (fun _ _ h2 => h2) (fun _ h2 => h2) (fun r u t H1 locs1 ht _ hp hB _ _ hS1 => by subst ht; subst e1; subst e2; exact kk r u hp _ locs1 ls hB hS1 hl)
theorem pw_callv {post : PS → Prop} (hr : PRun p l e R s m args below meth c G nL S kc kn mc ms LV pc stk st (va_Qv post (pB G) (pFr G) av)) {kc2 kn2 : Nat} (e1 : kc + mc = kc2) (e2 : kn + ms = kn2) (kk : ∀ (S' : PS), post S' → PW p l e R s m args below meth c Q G nL S' kc2 kn2 LV (pc + 3) st) : PW p l e R s m args below meth c Q G nL S kc kn LV pc stk :=
  fun H locs ls h hS hl => va_callv (hr H locs ls h hS hl) hS (fun _ _ h2 => h2) (fun _ h2 => h2) (fun u t H1 locs1 ht _ hp hB _ _ hS1 => by subst ht; subst e1; subst e2; exact kk u hp _ locs1 ls hB hS1 hl)
theorem pw_callq {post : Option Nat → PS → Prop} (hr : PRun p l e R s m args below meth c G nL S kc kn mc ms LV pc stk st (va_Qq (pPq G post) (pB G) (pFr G) av)) {kc2 kn2 : Nat} (e1 : kc + mc = kc2) (e2 : kn + ms = kn2) (kk : ∀ (r : Option Nat) (S' : PS), post r S' → PW p l e R s m args below meth c Q G nL S' kc2 kn2 LV (pc + 3) (rf G.2.2 r :: st)) : PW p l e R s m args below meth c Q G nL S kc kn LV pc stk :=
  fun H locs ls h hS hl => va_callq (hr H locs ls h hS hl) hS (fun _ _ h2 => h2) (fun _ h2 => h2) (fun r u t H1 locs1 ht _ hp hB _ _ hS1 => by obtain ⟨o, rfl, ho⟩ := hp; subst ht; subst e1; subst e2; exact kk o u ho _ locs1 ls hB hS1 hl)
theorem pw_iret (C : pCx p s m args meth c G cc nL own Ts) {post : Int32 → PS → Prop} (hr : meth.sig.returnType = some .int) {v : Int32} (hq : post v S) (hd : decode cc pc = .ok (.ireturn, 1)) : PW p l e R s m args below meth c (MQ below (va_Qi post (pB G) (pFr G)) args s kc kn (pFr G)) G nL S kc kn LV pc [.int v] :=
  fun H locs ls h hS hl => W.iret C.1 C.2.1 hr (fun t ht _ => ⟨⟨v, S, rfl, hq, by show pHold G S t.heap; rw [ht]; exact h⟩, hS.F ht⟩) hS.2.2 hd C.2.2.2.2.2.2.1
theorem pw_zret (C : pCx p s m args meth c G cc nL own Ts) {post : Int32 → PS → Prop} (hr : meth.sig.returnType = some .boolean) {v : Int32} (hn : narrow .boolean (.int v) = .int v) (hq : post v S) (hd : decode cc pc = .ok (.ireturn, 1)) : PW p l e R s m args below meth c (MQ below (va_Qi post (pB G) (pFr G)) args s kc kn (pFr G)) G nL S kc kn LV pc [.int v] :=
  fun H locs ls h hS hl => W.zret C.1 C.2.1 hr hn (fun t ht _ => ⟨⟨v, S, rfl, hq, by show pHold G S t.heap; rw [ht]; exact h⟩, hS.F ht⟩) hS.2.2 hd C.2.2.2.2.2.2.1
theorem pw_lret (C : pCx p s m args meth c G cc nL own Ts) {post : Int64 → PS → Prop} (hr : meth.sig.returnType = some .long) {v : Int64} (hq : post v S) (hd : decode cc pc = .ok (.lreturn, 1)) : PW p l e R s m args below meth c (MQ below (va_Ql post (pB G) (pFr G)) args s kc kn (pFr G)) G nL S kc kn LV pc [.long v] :=
  fun H locs ls h hS hl => W.lret C.1 C.2.1 hr (fun t ht _ => ⟨⟨v, S, rfl, hq, by show pHold G S t.heap; rw [ht]; exact h⟩, hS.F ht⟩) hS.2.2 hd C.2.2.2.2.2.2.1
theorem pw_vret (C : pCx p s m args meth c G cc nL own Ts) {post : PS → Prop} (hr : meth.sig.returnType = none) (hq : post S) (hd : decode cc pc = .ok (.return_, 1)) : PW p l e R s m args below meth c (MQ below (va_Qv post (pB G) (pFr G)) args s kc kn (pFr G)) G nL S kc kn LV pc [] :=
  fun H locs ls h hS hl => W.vret C.1 C.2.1 hr (fun t ht _ => ⟨⟨S, rfl, hq, by show pHold G S t.heap; rw [ht]; exact h⟩, hS.F ht⟩) hS.2.2 hd C.2.2.2.2.2.2.1
theorem rf_ok (b : Nat) (o : Option Nat) : rf b o = .null ∨ ∃ a, rf b o = .ref a := by cases o with | none => exact Or.inl rfl | some a => exact Or.inr ⟨_, rfl⟩
theorem pw_aret (C : pCx p s m args meth c G cc nL own Ts) {post : Option Nat → PS → Prop} {C9 : String} (hr : meth.sig.returnType = some (.object C9)) {o : Option Nat} {v : Value} (hv : v = rf G.2.2 o) (hq : post o S) (hd : decode cc pc = .ok (.areturn, 1)) : PW p l e R s m args below meth c (MQ below (va_Qq (pPq G post) (pB G) (pFr G)) args s kc kn (pFr G)) G nL S kc kn LV pc [v] :=
  fun H locs ls h hS hl => W.aret C.1 C.2.1 hr (Or.inl ⟨_, rfl⟩) (by rw [hv]; exact rf_ok _ _) (fun t ht _ => ⟨⟨o.map (fun x => G.2.2 + x), S, by rw [hv]; rfl, ⟨o, rfl, hq⟩, by show pHold G S t.heap; rw [ht]; exact h⟩, hS.F ht⟩) hS.2.2 hd C.2.2.2.2.2.2.1
end PWC
section PWX
variable {p : Program} {l : Launch} {e : Env} {R : Room} {s : State} {m : MethodId} {args : Array Value} {below : List Frame} {meth : Method} {c : Code} {Q : State → Prop} {G : PG} {nL : Nat} {S : PS} {kc kn : Nat} {LV : List (Nat × Value)} {pc : Nat} {st : List Value} {cc : ByteArray} {own : String} {Ts : List Cond}
theorem pw_iincK (C : pCx p s m args meth c G cc nL own Ts) (LV2 : List (Nat × Value)) (q : Nat) {x w : Int32} {i : Nat} {n : Int} (hd : decode cc pc = .ok (.iinc i n, 3)) (hw : Int32.ofInt n = w) (hq : LV[q]? = some (i, .int x)) (hn : i < nL) (he : (i, Value.int (x + w)) :: LV.filter (fun q => !(q.1 == i) && !(q.1 + 1 == i && q.2.category == 2)) = LV2) (k : PW p l e R s m args below meth c Q G nL S kc kn LV2 (pc + 3) st) : PW p l e R s m args below meth c Q G nL S kc kn LV pc st := pw_iinc C LV2 q hd hq (by rw [hw]) hn he k
theorem pw_ldc (C : pCx p s m args meth c G cc nL own Ts) {v : Int32} {index : Nat} (hc : Jvm.Cond.constant own index v ∈ Ts) (hd : decode cc pc = .ok (.ldc index, 2)) (k : PW p l e R s m args below meth c Q G nL S kc kn LV (pc + 2) (.int v :: st)) : PW p l e R s m args below meth c Q G nL S kc kn LV pc st := fun H locs ls h hS hl => lv_ldc C.1 C.2.1 C.2.2.2.1 (C.2.2.2.2.1 _ hc) hd (k H locs ls h hS hl)
theorem pw_ldc2 (C : pCx p s m args meth c G cc nL own Ts) {v : Int64} {index : Nat} (hc : Jvm.Cond.constantLong own index v ∈ Ts) (hd : decode cc pc = .ok (.ldc2_w index, 3)) (k : PW p l e R s m args below meth c Q G nL S kc kn LV (pc + 3) (.long v :: st)) : PW p l e R s m args below meth c Q G nL S kc kn LV pc st := fun H locs ls h hS hl => lv_ldc2 C.1 C.2.1 C.2.2.2.1 (C.2.2.2.2.1 _ hc) hd (k H locs ls h hS hl)
end PWX
theorem nar_bool {v : Int32} (h : v = 0 ∨ v = 1) : narrow .boolean (.int v) = .int v := by rcases h with rfl | rfl <;> rfl
theorem fit_bool {v : Int32} (h : v = 0 ∨ v = 1) : fits .boolean (.int v) = true := by rcases h with rfl | rfl <;> rfl
/-- a switch's default: none of the values -/
theorem sw_out (x : Int32) (lo hi : Int) (h : ∀ j : Int, lo ≤ j → j ≤ hi → ¬ x.toInt = j) : x.toInt < lo ∨ hi < x.toInt := by
  have := h x.toInt
  omega
section PWL
variable {p : Program} {l : Launch} {e : Env} {R : Room} {s : State} {m : MethodId} {args : Array Value} {below : List Frame} {meth : Method} {c : Code} {Q : State → Prop} {G : PG} {nL : Nat} {S : PS} {kc kn : Nat} {LV : List (Nat × Value)} {pc : Nat} {st : List Value} {cc : ByteArray} {own : String} {Ts : List Cond} {a : Nat}
theorem pw_alen (C : pCx p s m args meth c G cc nL own Ts) {κ : Nat} (ha : pK S a = κ) (hk : κ = 12 ∨ κ = 13 ∨ κ = 14 ∨ κ = 15 ∨ κ = 16 ∨ κ = 17) (hd : decode cc pc = .ok (.arraylength, 1)) (kk : PW p l e R s m args below meth c Q G nL S kc kn LV (pc + 1) (.int (nI (pL S a)) :: st)) : PW p l e R s m args below meth c Q G nL S kc kn LV pc (.ref (G.2.2 + a) :: st) := by
  intro H locs ls h hS hl
  obtain ⟨L, k, hP, hD, hi⟩ := pHold_at h (a := a) (by omega)
  rcases hk with rfl | rfl | rfl | rfl | rfl | rfl
  · rw [pE_rowI G S ha (by omega)] at hi
    exact va_alen C.1 C.2.1 C.2.2.2.2.2.1 hP k 0 hi rfl rfl hd (kk H locs ls h hS hl)
  · rw [pE_rowI G S ha (by omega)] at hi
    exact va_alen C.1 C.2.1 C.2.2.2.2.2.1 hP k 1 hi rfl rfl hd (kk H locs ls h hS hl)
  · rw [pE_rowJ G S ha] at hi
    exact va_alen C.1 C.2.1 C.2.2.2.2.2.1 hP k 2 hi rfl rfl hd (kk H locs ls h hS hl)
  · rw [pE_rowI G S ha (by omega)] at hi
    exact va_alen C.1 C.2.1 C.2.2.2.2.2.1 hP k 3 hi rfl rfl hd (kk H locs ls h hS hl)
  · rw [pE_rowR G S ha (by omega)] at hi
    exact va_alen C.1 C.2.1 C.2.2.2.2.2.1 hP k 4 hi rfl rfl hd (kk H locs ls h hS hl)
  · rw [pE_rowR G S ha (by omega)] at hi
    exact va_alen C.1 C.2.1 C.2.2.2.2.2.1 hP k 5 hi rfl rfl hd (kk H locs ls h hS hl)
end PWL
/-! private members of nest mates; Math; what is made -/
section PWN
variable {p : Program} {l : Launch} {e : Env} {R : Room} {s : State} {m : MethodId} {args : Array Value} {below : List Frame} {meth : Method} {c : Code} {Q : State → Prop} {G : PG} {nL : Nat} {S : PS} {kc kn : Nat} {LV : List (Nat × Value)} {pc : Nat} {st : List Value} {cc : ByteArray} {own : String} {Ts : List Cond}
/-- a nest mate's private method can be linked, says Z -/
def ZN (G : PG) (own : String) (index : Nat) (y : MethodName) : Prop := ∀ (U : State) (H : Heap), G.1.2 U H → va_Nw (.methodLinkNest own index y "SupportSolver") U
variable {y : MethodName} {bytes : ByteArray} {maxL n index ci N a mc ms : Nat} {ret : Option FieldType} {ws ws' : List Cond} {rm : Room} {CN : String} {T : u_T} {ty0 : Nat → FieldType} {As stk : List Value} {Qc : Array Value → State → Outcome → State → Prop}
theorem pRunSN (C : pCx p s m args meth c G cc nL own Ts) (hM : Met l y ws rm (pPre G S As) Qc rm.cells rm.slots (pFr G)) (n : Nat) (hG : GoodIn Ts ws) (hws : ws = Cond.code y bytes maxL ret :: ws') (hz : ZN G own index y) (hini : Cond.initialized y.cls ∈ Ts) (hstat : Cond.static y ∈ Ts) (hdd : y.cls ≠ "java/lang/invoke/MethodHandle" ∧ y.cls ≠ "java/lang/invoke/VarHandle" ∧ (parseMethodDescriptor y.desc).map (fun d => d.parameters.length) = some n) (hR : rm.frames + 1 ≤ R.frames ∧ 8 + (maxL + 11) + rm.locals ≤ R.locals) (hn : As.length = n) (hst : stk = As.reverse ++ st) (hw : (st.map fun v => v.category).sum ≤ 8) (hd : decode cc pc = .ok (.invokestatic index, 3)) (hf : kc + rm.cells ≤ R.cells ∧ kn + rm.slots ≤ R.slots) :
    PRun p l e R s m args below meth c G nL S kc kn rm.cells rm.slots LV pc stk st (Qc As.toArray) := by
  intro H locs ls h hS hl
  have hts := C.2.2.2.2.1
  exact va_runSN ⟨C.1, C.2.1, C.2.2.1, C.2.2.2.1, C.2.2.2.2.1⟩ hM ⟨va_cnB n hts hG hws rfl rfl (hz s s.heap C.2.2.2.2.2.2.2.2.1) (hts _ hini) hdd hR, hts _ hstat, trivial⟩ ⟨pPre_blind G S _, fun U hU hW => ⟨rfl, by rw [hU]; exact h, va_K.moved hW.alike C.2.2.2.2.2.1, pZ_go C hU hW h hS⟩⟩ rfl hn hl.1 hst (lv_room hw) hd hf
theorem pRunIN (C : pCx p s m args meth c G cc nL own Ts) (hM : Met l y ws rm (pPre G S (.ref (G.2.2 + a) :: As)) Qc rm.cells rm.slots (pFr G)) (n : Nat) (hG : GoodIn Ts ws) (hws : ws = Cond.code y bytes maxL none :: ws') (hz : ZN G own index y) (hini : Cond.initialized y.cls ∈ Ts) (hy : y.name = "<init>") (hinst : Cond.instanceMethod y ∈ Ts) (hdd : y.cls ≠ "java/lang/invoke/MethodHandle" ∧ y.cls ≠ "java/lang/invoke/VarHandle" ∧ (parseMethodDescriptor y.desc).map (fun d => d.parameters.length) = some n) (hR : rm.frames + 1 ≤ R.frames ∧ 8 + (maxL + 11) + rm.locals ≤ R.locals) (hn : As.length = n) (hst : stk = As.reverse ++ .ref (G.2.2 + a) :: st) (hw : (st.map fun v => v.category).sum ≤ 8) (hd : decode cc pc = .ok (.invokespecial index, 3)) (hf : kc + rm.cells ≤ R.cells ∧ kn + rm.slots ≤ R.slots) :
    PRun p l e R s m args below meth c G nL S kc kn rm.cells rm.slots LV pc stk st (Qc (.ref (G.2.2 + a) :: As).toArray) := by
  intro H locs ls h hS hl
  have hts := C.2.2.2.2.1
  exact va_runIN ⟨C.1, C.2.1, C.2.2.1, C.2.2.2.1, C.2.2.2.2.1⟩ hM ⟨va_cnB n hts hG hws rfl rfl (hz s s.heap C.2.2.2.2.2.2.2.2.1) (hts _ hini) hdd hR, hy, hts _ hinst⟩ ⟨pPre_blind G S _, fun U hU hW => ⟨rfl, by rw [hU]; exact h, va_K.moved hW.alike C.2.2.2.2.2.1, pZ_go C hU hW h hS⟩⟩ rfl hn hl.1 hst (lv_room hw) hd hf
theorem pw_mmax (C : pCx p s m args meth c G cc nL own Ts) (hlink : Cond.methodLink own index Lib.Math.max.name ∈ Ts) (hstat : Cond.static Lib.Math.max.name ∈ Ts) (hini : Cond.initialized "java/lang/Math" ∈ Ts) (hcode : Cond.code Lib.Math.max.name Lib.Math.max.code 2 (some .int) ∈ Ts) (hframes : 1 ≤ R.frames) (hlocals : (st.map fun v => v.category).sum + 13 ≤ R.locals) (hcc : kc ≤ R.cells ∧ kn ≤ R.slots) {x z : Int32} (hd : decode cc pc = .ok (.invokestatic index, 3)) (kk : PW p l e R s m args below meth c Q G nL S kc kn LV (pc + 3) (.int (if x < z then z else x) :: st)) : PW p l e R s m args below meth c Q G nL S kc kn LV pc (.int z :: .int x :: st) :=
  fun H locs ls h hS hl => va_mmax C.1 C.2.1 (C.2.2.1.trans hl.1.symm) C.2.2.2.1 (C.2.2.2.2.1 _ hlink) (C.2.2.2.2.1 _ hstat) (C.2.2.2.2.1 _ hini) (C.2.2.2.2.1 _ hcode) hframes hlocals hcc.1 hcc.2 hd (kk H locs ls h hS hl)
theorem pw_mmin (C : pCx p s m args meth c G cc nL own Ts) (hlink : Cond.methodLink own index Lib.Math.min.name ∈ Ts) (hstat : Cond.static Lib.Math.min.name ∈ Ts) (hini : Cond.initialized "java/lang/Math" ∈ Ts) (hcode : Cond.code Lib.Math.min.name Lib.Math.min.code 2 (some .int) ∈ Ts) (hframes : 1 ≤ R.frames) (hlocals : (st.map fun v => v.category).sum + 13 ≤ R.locals) (hcc : kc ≤ R.cells ∧ kn ≤ R.slots) {x z : Int32} (hd : decode cc pc = .ok (.invokestatic index, 3)) (kk : PW p l e R s m args below meth c Q G nL S kc kn LV (pc + 3) (.int (if z < x then z else x) :: st)) : PW p l e R s m args below meth c Q G nL S kc kn LV pc (.int z :: .int x :: st) :=
  fun H locs ls h hS hl => va_mmin C.1 C.2.1 (C.2.2.1.trans hl.1.symm) C.2.2.2.1 (C.2.2.2.2.1 _ hlink) (C.2.2.2.2.1 _ hstat) (C.2.2.2.2.1 _ hini) (C.2.2.2.2.1 _ hcode) hframes hlocals hcc.1 hcc.2 hd (kk H locs ls h hS hl)
theorem pHold_new_obj {H H1 : Heap} (h : pHold G S H) (hc : pCl ci CN T N ty0) {cC : ClassId} {kC : Class} (hts : ∀ w ∈ Ts, w.before args s = true) (hin : ∀ w ∈ u_ws CN T N, w ∈ Ts) (hK : va_K G.1.1 vwCl (pTy G) s) (hfc : s.vm.findClass CN = some cC) (hkC : s.vm.classes[cC]? = some kC) (e1 : H1[H.size]? = some (blank cC kC)) (z : H1.size = H.size + 1) (oq : ∀ q : Nat, q < H.size → H1[q]? = H[q]?) : pHold G (sNew S (ci + 1) 0) H1 := by
  have hs : H.size = G.2.2 + pN S := by obtain ⟨L, -, -, -, h4⟩ := h; exact h4
  have hKn := hK.1 ci _ hc.1
  have hcC : G.1.1.1 ci = cC := Option.some.inj (hKn.2.1.symm.trans hfc)
  refine pHold_new h ?_ z oq
  rw [hs, pE_obj G (sNew S (ci + 1) 0) (a := pN S) (ci := ci) (by rw [pK_sNew, if_pos rfl]) hc.2.1, ← hs]
  rw [← hcC] at hkC e1
  refine ⟨_, hc.1, (u_born ty0 hts hin hKn hkC e1 hc.2.2.1).to (fun j hj => ?_)⟩
  obtain ⟨t, ht, hd⟩ := hc.2.2.2.2.2 j hj
  rw [hd]
  have := pC_get G.2.2 (sNew S (ci + 1) 0) (pN S) (pT ci) 0 j t ht
  rw [Nat.zero_add] at this
  show _ = (pC G.2.2 (sNew S (ci + 1) 0) (pN S) 0 (pT ci)).getD j .null
  rw [List.getD_eq_getElem?_getD, this]
  show pDf t = pV G.2.2 (sNew S (ci + 1) 0) (pN S) t j
  unfold pDf pV
  rw [pI_sNew, pJ_sNew, pR_sNew, if_pos rfl, if_pos rfl, if_pos rfl]
  match t with
  | 0 => rfl
  | 1 => rfl
  | _ + 2 => rfl
theorem pw_new (C : pCx p s m args meth c G cc nL own Ts) (hc : pCl ci CN T N ty0) (hin : ∀ w ∈ u_ws CN T N, w ∈ Ts) (hcl : Cond.classLink own index CN ∈ Ts) (hinst : Cond.instantiable CN N ∈ Ts) (hini : Cond.initialized CN ∈ Ts) {kc2 kn2 : Nat} (e1 : kc + 1 = kc2) (e2 : kn + N = kn2) (hcells : kc2 ≤ R.cells) (hslots : kn2 ≤ R.slots) (hd : decode cc pc = .ok (.new index, 3))
    (kk : PW p l e R s m args below meth c Q G nL (sNew S (ci + 1) 0) kc2 kn2 LV (pc + 3) (.ref (G.2.2 + pN S) :: st)) : PW p l e R s m args below meth c Q G nL S kc kn LV pc st := by
  intro H locs ls h hS hl
  have hts := C.2.2.2.2.1
  have hs : H.size = G.2.2 + pN S := by obtain ⟨L, -, -, -, h4⟩ := h; exact h4
  have hKn := C.2.2.2.2.2.1.1 ci _ hc.1
  subst e1; subst e2
  refine W.newcK C.1 C.2.1 C.2.2.2.1 (hts _ hcl) (hts _ hinst) (hts _ hini) rfl hd hcells hslots hKn.2.1 rfl fun H1 kC hkC e1 z1 o1 => ?_
  have k1 := kk H1 locs ls (pHold_new_obj h hc hts hin C.2.2.2.2.2.1 hKn.2.1 hkC e1 z1 o1) ⟨Nat.le_trans hS.1 (by omega), fun x h1 h2 => (o1 x (Nat.lt_of_lt_of_le h1 hS.1)).trans (hS.2.1 x h1 h2), hS.2.2⟩ hl
  rw [← hs] at k1
  exact k1
end PWN
section PWU
variable {p : Program} {l : Launch} {e : Env} {R : Room} {s : State} {m : MethodId} {args : Array Value} {below : List Frame} {meth : Method} {c : Code} {Q : State → Prop} {G : PG} {nL : Nat} {S : PS} {kc kn : Nat} {LV : List (Nat × Value)} {pc : Nat} {st : List Value} {cc : ByteArray} {own : String} {Ts : List Cond}
/-- a method is declared (abstract), says Z -/
def ZD (G : PG) (x : MethodName) : Prop := ∀ (U : State) (H : Heap), G.1.2 U H → va_Nw (.declares x) U
variable {x y : MethodName} {bytes : ByteArray} {maxL n index ci N a mc ms : Nat} {ret : Option FieldType} {ws ws' : List Cond} {rm : Room} {CN owner : String} {T : u_T} {ty0 : Nat → FieldType} {As stk : List Value} {Qc : Array Value → State → Outcome → State → Prop}
theorem pRunU (C : pCx p s m args meth c G cc nL own Ts) (hM : Met l y ws rm (pPre G S (.ref (G.2.2 + a) :: As)) Qc rm.cells rm.slots (pFr G)) (cw : va_CU R s args own CN owner index x y bytes maxL ret ws rm rm.cells rm.slots n) (hc : pCl ci CN T N ty0) (ha : pK S a = ci + 1) (hn : As.length = n) (hst : stk = As.reverse ++ .ref (G.2.2 + a) :: st) (hw : (st.map fun v => v.category).sum ≤ 8) (hd : decode cc pc = .ok (.invokevirtual index, 3)) (hf : kc + rm.cells ≤ R.cells ∧ kn + rm.slots ≤ R.slots) :
    PRun p l e R s m args below meth c G nL S kc kn rm.cells rm.slots LV pc stk st (Qc (.ref (G.2.2 + a) :: As).toArray) := by
  intro H locs ls h hS hl
  obtain ⟨L, i, hP, hD, hi⟩ := pHold_at h (a := a) (by omega)
  rw [pE_obj G S ha hc.2.1] at hi
  exact va_runU ⟨C.1, C.2.1, C.2.2.1, C.2.2.2.1, C.2.2.2.2.1⟩ hM cw ⟨pPre_blind G S _, va_recv C.2.2.2.2.2.1 hP hc.1 hi, fun U hU hW => ⟨rfl, by rw [hU]; exact h, va_K.moved hW.alike C.2.2.2.2.2.1, pZ_go C hU hW h hS⟩⟩ rfl hn hl.1 hst (lv_room hw) hd hf
/-- one of the four kinds of constraints -/
def pC4 (S : PS) (a : Nat) : Prop := pK S a = 1 ∨ pK S a = 2 ∨ pK S a = 4 ∨ pK S a = 9
theorem pw_getCI {k : Nat} (C : pCx p s m args meth c G cc nL own Ts) (ha : pC4 S a) (h0 : ∀ w ∈ u_ws RX0 TX0 4, w ∈ Ts) (h2 : ∀ w ∈ u_ws RX2 TX2 7, w ∈ Ts) (h4 : ∀ w ∈ u_ws RX4 TX4 5, w ∈ Ts) (h10 : ∀ w ∈ u_ws RX10 TX10 8, w ∈ Ts) (hk : k = 0 ∨ k = 1 ∨ k = 3) (hlink : Cond.fieldLink own index "SupportSolver$Constraint" (TX0 k).2.1 (TX0 k).2.2.1 ∈ Ts) (hd : decode cc pc = .ok (.getfield index, 3))
    (kk : PW p l e R s m args below meth c Q G nL S kc kn LV (pc + 3) (.int (pI S a k) :: st)) : PW p l e R s m args below meth c Q G nL S kc kn LV pc (.ref (G.2.2 + a) :: st) := by
  rcases hk with rfl | rfl | rfl <;> rcases ha with ha | ha | ha | ha
  · exact pw_getI C pCl0 h0 ha rfl hlink (Or.inl rfl) hd kk
  · exact pw_getI C pCl1 h2 ha rfl hlink (Or.inl rfl) hd kk
  · exact pw_getI C pCl3 h4 ha rfl hlink (Or.inl rfl) hd kk
  · exact pw_getI C pCl8 h10 ha rfl hlink (Or.inl rfl) hd kk
  · exact pw_getI C pCl0 h0 ha rfl hlink (Or.inl rfl) hd kk
  · exact pw_getI C pCl1 h2 ha rfl hlink (Or.inl rfl) hd kk
  · exact pw_getI C pCl3 h4 ha rfl hlink (Or.inl rfl) hd kk
  · exact pw_getI C pCl8 h10 ha rfl hlink (Or.inl rfl) hd kk
  · exact pw_getI C pCl0 h0 ha rfl hlink (Or.inl rfl) hd kk
  · exact pw_getI C pCl1 h2 ha rfl hlink (Or.inl rfl) hd kk
  · exact pw_getI C pCl3 h4 ha rfl hlink (Or.inl rfl) hd kk
  · exact pw_getI C pCl8 h10 ha rfl hlink (Or.inl rfl) hd kk
theorem pw_getCJ {k : Nat} (C : pCx p s m args meth c G cc nL own Ts) (ha : pC4 S a) (h0 : ∀ w ∈ u_ws RX0 TX0 4, w ∈ Ts) (h2 : ∀ w ∈ u_ws RX2 TX2 7, w ∈ Ts) (h4 : ∀ w ∈ u_ws RX4 TX4 5, w ∈ Ts) (h10 : ∀ w ∈ u_ws RX10 TX10 8, w ∈ Ts) (hk : k = 2) (hlink : Cond.fieldLink own index "SupportSolver$Constraint" (TX0 k).2.1 (TX0 k).2.2.1 ∈ Ts) (hd : decode cc pc = .ok (.getfield index, 3))
    (kk : PW p l e R s m args below meth c Q G nL S kc kn LV (pc + 3) (.long (pJ S a k) :: st)) : PW p l e R s m args below meth c Q G nL S kc kn LV pc (.ref (G.2.2 + a) :: st) := by
  subst hk
  rcases ha with ha | ha | ha | ha
  · exact pw_getJ C pCl0 h0 ha rfl hlink (Or.inl rfl) hd kk
  · exact pw_getJ C pCl1 h2 ha rfl hlink (Or.inl rfl) hd kk
  · exact pw_getJ C pCl3 h4 ha rfl hlink (Or.inl rfl) hd kk
  · exact pw_getJ C pCl8 h10 ha rfl hlink (Or.inl rfl) hd kk
theorem pw_putCI {k : Nat} (C : pCx p s m args meth c G cc nL own Ts) (ha : pC4 S a) (h0 : ∀ w ∈ u_ws RX0 TX0 4, w ∈ Ts) (h2 : ∀ w ∈ u_ws RX2 TX2 7, w ∈ Ts) (h4 : ∀ w ∈ u_ws RX4 TX4 5, w ∈ Ts) (h10 : ∀ w ∈ u_ws RX10 TX10 8, w ∈ Ts) (hk : (k = 0 ∧ meth.name = "<init>" ∧ "SupportSolver$Constraint" = own) ∨ k = 1 ∨ k = 3) (hlink : Cond.fieldLink own index "SupportSolver$Constraint" (TX0 k).2.1 (TX0 k).2.2.1 ∈ Ts) {v : Int32} (hd : decode cc pc = .ok (.putfield index, 3))
    (kk : PW p l e R s m args below meth c Q G nL (sI S a k v) kc kn LV (pc + 3) st) : PW p l e R s m args below meth c Q G nL S kc kn LV pc (.int v :: .ref (G.2.2 + a) :: st) := by
  rcases hk with ⟨rfl, hi, ho⟩ | rfl | rfl <;> rcases ha with ha | ha | ha | ha
  · exact pw_putI (k := 0) C pCl0 h0 ha rfl hlink (Or.inl rfl) (Or.inr ⟨rfl, hi, ho, ho⟩) rfl rfl hd kk
  · exact pw_putI (k := 0) C pCl1 h2 ha rfl hlink (Or.inl rfl) (Or.inr ⟨rfl, hi, ho, ho⟩) rfl rfl hd kk
  · exact pw_putI (k := 0) C pCl3 h4 ha rfl hlink (Or.inl rfl) (Or.inr ⟨rfl, hi, ho, ho⟩) rfl rfl hd kk
  · exact pw_putI (k := 0) C pCl8 h10 ha rfl hlink (Or.inl rfl) (Or.inr ⟨rfl, hi, ho, ho⟩) rfl rfl hd kk
  · exact pw_putI C pCl0 h0 ha rfl hlink (Or.inl rfl) (Or.inl rfl) rfl rfl hd kk
  · exact pw_putI C pCl1 h2 ha rfl hlink (Or.inl rfl) (Or.inl rfl) rfl rfl hd kk
  · exact pw_putI C pCl3 h4 ha rfl hlink (Or.inl rfl) (Or.inl rfl) rfl rfl hd kk
  · exact pw_putI C pCl8 h10 ha rfl hlink (Or.inl rfl) (Or.inl rfl) rfl rfl hd kk
  · exact pw_putI C pCl0 h0 ha rfl hlink (Or.inl rfl) (Or.inl rfl) rfl rfl hd kk
  · exact pw_putI C pCl1 h2 ha rfl hlink (Or.inl rfl) (Or.inl rfl) rfl rfl hd kk
  · exact pw_putI C pCl3 h4 ha rfl hlink (Or.inl rfl) (Or.inl rfl) rfl rfl hd kk
  · exact pw_putI C pCl8 h10 ha rfl hlink (Or.inl rfl) (Or.inl rfl) rfl rfl hd kk
theorem pw_putCJ {k : Nat} (C : pCx p s m args meth c G cc nL own Ts) (ha : pC4 S a) (h0 : ∀ w ∈ u_ws RX0 TX0 4, w ∈ Ts) (h2 : ∀ w ∈ u_ws RX2 TX2 7, w ∈ Ts) (h4 : ∀ w ∈ u_ws RX4 TX4 5, w ∈ Ts) (h10 : ∀ w ∈ u_ws RX10 TX10 8, w ∈ Ts) (hk : k = 2) (hlink : Cond.fieldLink own index "SupportSolver$Constraint" (TX0 k).2.1 (TX0 k).2.2.1 ∈ Ts) {v : Int64} (hd : decode cc pc = .ok (.putfield index, 3))
    (kk : PW p l e R s m args below meth c Q G nL (sJ S a k v) kc kn LV (pc + 3) st) : PW p l e R s m args below meth c Q G nL S kc kn LV pc (.long v :: .ref (G.2.2 + a) :: st) := by
  subst hk
  rcases ha with ha | ha | ha | ha
  · exact pw_putJ C pCl0 h0 ha rfl hlink (Or.inl rfl) (Or.inl rfl) rfl rfl hd kk
  · exact pw_putJ C pCl1 h2 ha rfl hlink (Or.inl rfl) (Or.inl rfl) rfl rfl hd kk
  · exact pw_putJ C pCl3 h4 ha rfl hlink (Or.inl rfl) (Or.inl rfl) rfl rfl hd kk
  · exact pw_putJ C pCl8 h10 ha rfl hlink (Or.inl rfl) (Or.inl rfl) rfl rfl hd kk
end PWU
/-! what is made; rows of references; copies; throws -/
/-- a whole row of longs set -/
def sJs (S : PS) (a : Nat) (g : Nat → Int64) : PS := (S.1, S.2.1, S.2.2.1, S.2.2.2.1, fun x j => if x = a then g j else S.2.2.2.2.1 x j, S.2.2.2.2.2)
theorem pI_sJs (S : PS) (a : Nat) (g : Nat → Int64) (x j : Nat) : pI (sJs S a g) x j = pI S x j := rfl
theorem pJ_sJs (S : PS) (a : Nat) (g : Nat → Int64) (x j : Nat) : pJ (sJs S a g) x j = if x = a then g j else pJ S x j := rfl
theorem pR_sJs (S : PS) (a : Nat) (g : Nat → Int64) (x j : Nat) : pR (sJs S a g) x j = pR S x j := rfl
theorem pK_sJs (S : PS) (a : Nat) (g : Nat → Int64) (x : Nat) : pK (sJs S a g) x = pK S x := rfl
theorem pL_sJs (S : PS) (a : Nat) (g : Nat → Int64) (x : Nat) : pL (sJs S a g) x = pL S x := rfl
theorem pN_sJs (S : PS) (a : Nat) (g : Nat → Int64) : pN (sJs S a g) = pN S := rfl
theorem pHold_sz {G : PG} {S : PS} {H : Heap} (h : pHold G S H) : H.size = G.2.2 + pN S := by obtain ⟨L, -, -, -, h4⟩ := h; exact h4
theorem pE_skip (G : PG) (S : PS) (n : Nat) : pE G (sSkip S n) = pE G S := by
  funext q
  have hC : ∀ a k ts, pC G.2.2 (sSkip S n) a k ts = pC G.2.2 S a k ts := fun a k ts => pC_congr _ _ _ _ _ _ (fun t j => by unfold pV; rw [pI_sSkip, pJ_sSkip, pR_sSkip])
  have hA : ∀ a, pA G (sSkip S n) a = pA G S a := fun a => rfl
  unfold pE
  simp only [pK_sSkip, hC, hA]
/-- other cells come behind -/
theorem pHold_skip {G : PG} {S : PS} {H H1 : Heap} (h : pHold G S H) (z : H.size ≤ H1.size) (oq : ∀ q : Nat, q < H.size → H1[q]? = H[q]?) : pHold G (sSkip S (H1.size - H.size)) H1 := by
  obtain ⟨L, hL, hP, hD, hs⟩ := h
  refine ⟨L, hL, ?_, ?_, by rw [pN_sSkip]; omega⟩
  · rw [pE_skip]; exact hP.kept (fun k x hx => oq x.1 ((hP k x hx).lt))
  · rw [pE_skip]; exact hD
theorem pHold_newI {G : PG} {S : PS} {H H1 : Heap} (h : pHold G S H) {κ N : Nat} (hk : κ = 12 ∨ κ = 13 ∨ κ = 15) (e1 : H1[H.size]? = some (arrV (G.2.1 κ) N (fun _ => .int 0))) (z : H1.size = H.size + 1) (oq : ∀ q : Nat, q < H.size → H1[q]? = H[q]?) : pHold G (sNew S κ N) H1 := by
  have hs := pHold_sz h
  refine pHold_new h ?_ z oq
  rw [hs, pE_rowI G (sNew S κ N) (a := pN S) (κ := κ) (by rw [pK_sNew, if_pos rfl]) hk, ← hs]
  show H1[H.size]? = some (vp_cell _ _)
  rw [vp_cell_i, e1, pL_sNew, if_pos rfl]
  congr 2
  funext j
  rw [pI_sNew, if_pos rfl]
theorem pHold_newJ {G : PG} {S : PS} {H H1 : Heap} (h : pHold G S H) {N : Nat} (e1 : H1[H.size]? = some (arrV (G.2.1 14) N (fun _ => .long 0))) (z : H1.size = H.size + 1) (oq : ∀ q : Nat, q < H.size → H1[q]? = H[q]?) : pHold G (sNew S 14 N) H1 := by
  have hs := pHold_sz h
  refine pHold_new h ?_ z oq
  rw [hs, pE_rowJ G (sNew S 14 N) (a := pN S) (by rw [pK_sNew, if_pos rfl]), ← hs]
  show H1[H.size]? = some (vp_cell _ _)
  rw [vp_cell_l, e1, pL_sNew, if_pos rfl]
  congr 2
  funext j
  rw [pJ_sNew, if_pos rfl]
theorem pHold_newR {G : PG} {S : PS} {H H1 : Heap} (h : pHold G S H) {κ N : Nat} (hk : κ = 16 ∨ κ = 17) (e1 : H1[H.size]? = some (arrV (G.2.1 κ) N (fun _ => .null))) (z : H1.size = H.size + 1) (oq : ∀ q : Nat, q < H.size → H1[q]? = H[q]?) : pHold G (sNew S κ N) H1 := by
  have hs := pHold_sz h
  refine pHold_new h ?_ z oq
  rw [hs, pE_rowR G (sNew S κ N) (a := pN S) (κ := κ) (by rw [pK_sNew, if_pos rfl]) hk, ← hs]
  show H1[H.size]? = some (vp_cell _ _)
  rw [vp_cell_q, e1, pL_sNew, if_pos rfl]
  congr 2
  funext j
  rw [pR_sNew, if_pos rfl]
  rfl
section PWM
variable {p : Program} {l : Launch} {e : Env} {R : Room} {s : State} {m : MethodId} {args : Array Value} {below : List Frame} {meth : Method} {c : Code} {Q : State → Prop} {G : PG} {nL : Nat} {S : PS} {kc kn : Nat} {LV : List (Nat × Value)} {pc : Nat} {st : List Value} {cc : ByteArray} {own : String} {Ts : List Cond}
theorem pw_objInit (C : pCx p s m args meth c G cc nL own Ts) {idx x : Nat} (hl : Cond.methodLink own idx Lib.objectInit ∈ Ts) (hi : Cond.instanceMethod Lib.objectInit ∈ Ts) (hc : Cond.code Lib.objectInit ⟨#[0xb1]⟩ 1 none ∈ Ts) (hfr : 1 ≤ R.frames) (hlo : 20 ≤ R.locals) (hw : (st.map fun v => v.category).sum ≤ 8) (hd : decode cc pc = .ok (.invokespecial idx, 3)) (k : PW p l e R s m args below meth c Q G nL S kc kn LV (pc + 3) st) : PW p l e R s m args below meth c Q G nL S kc kn LV pc (.ref x :: st) := by
  intro H locs ls h hS hl'
  have hts := C.2.2.2.2.1
  exact W.objInit C.1 C.2.1 C.2.2.2.1 (hts _ hl) (hts _ hi) (hts _ hc) rfl (hl'.1.trans C.2.2.1.symm) rfl hd hfr (by show 2 * 0 + _ + 12 ≤ _; omega) (k H locs ls h hS hl')
theorem pw_newaI (C : pCx p s m args meth c G cc nL own Ts) {atype : ArrayType} {κ i N : Nat} {n : Int32} (hk : κ = 12 ∨ κ = 13 ∨ κ = 15) (hty : (pTy G)[i]? = some (G.2.1 κ, newarray.typeOf atype)) (hdv : defaultValue (newarray.typeOf atype) = .int 0) (hra : va_RA s (G.2.1 κ) (newarray.typeOf atype) → s.vm.findClass ("[" ++ (newarray.typeOf atype).toString) = some (G.2.1 κ)) (harr : Cond.arrayClass (newarray.typeOf atype) ∈ Ts) (hn : ¬ n < 0) (hN : n.toNatClampNeg = N) (hbytes : N * componentBytes (newarray.typeOf atype) ≤ 536870912) {kc2 kn2 : Nat} (e1 : kc + 1 = kc2) (e2 : kn + N = kn2) (hcells : kc2 ≤ R.cells) (hslots : kn2 ≤ R.slots) (hd : decode cc pc = .ok (.newarray atype, 2))
    (kk : PW p l e R s m args below meth c Q G nL (sNew S κ N) kc2 kn2 LV (pc + 2) (.ref (G.2.2 + pN S) :: st)) : PW p l e R s m args below meth c Q G nL S kc kn LV pc (.int n :: st) := by
  intro H locs ls h hS hl
  subst e1; subst e2
  have hs := pHold_sz h
  refine va_newaK C.1 C.2.1 (C.2.2.2.2.1 _ harr) rfl hd rfl hn hN hbytes hcells hslots hs fun H1 cA f1 z1 o1 hAr hNm => ?_
  have hcA : cA = G.2.1 κ := Option.some.inj (hNm.symm.trans (hra (C.2.2.2.2.2.1.2 i _ hty).2))
  subst hcA
  rw [hdv] at f1
  exact kk H1 locs ls (pHold_newI h hk (by rw [hs]; exact f1) (by rw [z1, hs]) (fun q hq => o1 q (by rw [← hs]; exact hq))) ⟨Nat.le_trans hS.1 (by omega), fun x h1 h2 => (o1 x (by have := hS.1; omega)).trans (hS.2.1 x h1 h2), hS.2.2⟩ hl
theorem pw_newaJ (C : pCx p s m args meth c G cc nL own Ts) {N : Nat} {n : Int32} (harr : Cond.arrayClass (newarray.typeOf .long) ∈ Ts) (hn : ¬ n < 0) (hN : n.toNatClampNeg = N) (hbytes : N * componentBytes (newarray.typeOf .long) ≤ 536870912) {kc2 kn2 : Nat} (e1 : kc + 1 = kc2) (e2 : kn + N = kn2) (hcells : kc2 ≤ R.cells) (hslots : kn2 ≤ R.slots) (hd : decode cc pc = .ok (.newarray .long, 2))
    (kk : PW p l e R s m args below meth c Q G nL (sNew S 14 N) kc2 kn2 LV (pc + 2) (.ref (G.2.2 + pN S) :: st)) : PW p l e R s m args below meth c Q G nL S kc kn LV pc (.int n :: st) := by
  intro H locs ls h hS hl
  subst e1; subst e2
  have hs := pHold_sz h
  refine va_newaK C.1 C.2.1 (C.2.2.2.2.1 _ harr) rfl hd rfl hn hN hbytes hcells hslots hs fun H1 cA f1 z1 o1 hAr hNm => ?_
  have hcA : cA = G.2.1 14 := Option.some.inj (hNm.symm.trans (C.2.2.2.2.2.1.2 2 _ rfl).2)
  subst hcA
  exact kk H1 locs ls (pHold_newJ h (by rw [hs]; exact f1) (by rw [z1, hs]) (fun q hq => o1 q (by rw [← hs]; exact hq))) ⟨Nat.le_trans hS.1 (by omega), fun x h1 h2 => (o1 x (by have := hS.1; omega)).trans (hS.2.1 x h1 h2), hS.2.2⟩ hl
/-- rows over a class can be made, says Z -/
def ZO (G : PG) (CN : String) : Prop := ∀ (U : State) (H : Heap), G.1.2 U H → va_AO CN U
theorem pw_anew (C : pCx p s m args meth c G cc nL own Ts) {CN : String} {κ i N index : Nat} {n : Int32} (hk : κ = 16 ∨ κ = 17) (hty : (pTy G)[i]? = some (G.2.1 κ, .object CN)) (hz : ZO G CN) (hcl : Cond.classLink own index CN ∈ Ts) (hn : ¬ n < 0) (hN : n.toNatClampNeg = N) (hbytes : n.toNatClampNeg * 4 ≤ 536870912) {kc2 kn2 : Nat} (e1 : kc + 1 = kc2) (e2 : kn + N = kn2) (hcells : kc2 ≤ R.cells) (hslots : kn2 ≤ R.slots) (hd : decode cc pc = .ok (.anewarray index, 3))
    (kk : PW p l e R s m args below meth c Q G nL (sNew S κ N) kc2 kn2 LV (pc + 3) (.ref (G.2.2 + pN S) :: st)) : PW p l e R s m args below meth c Q G nL S kc kn LV pc (.int n :: st) := by
  intro H locs ls h hS hl
  subst hN; subst e1; subst e2
  have hs := pHold_sz h
  refine W.anew C.1 C.2.1 C.2.2.2.1 (C.2.2.2.2.1 _ hcl) (va_AO.use (hz s s.heap C.2.2.2.2.2.2.2.2.1)) rfl hd rfl hn hbytes hcells hslots fun cA kA comp f1 f2 f3 f4 => ?_
  obtain ⟨kA', comp', g1, g2, g3, g4⟩ := (C.2.2.2.2.2.1.2 i _ hty).2
  have hcA : cA = G.2.1 κ := Option.some.inj (f1.symm.trans g4)
  subst hcA
  generalize hH1 : H.push ({ cls := G.2.1 κ, slots := Array.replicate n.toNatClampNeg .null, vm := .none } : Cell) = H1
  have z1 : H1.size = H.size + 1 := by rw [← hH1, Array.size_push]
  have e1 : H1[H.size]? = some (arrV (G.2.1 κ) n.toNatClampNeg (fun _ => .null)) := by rw [← hH1, Array.getElem?_push_size, ← arrV_new]
  have o1 : ∀ q : Nat, q < H.size → H1[q]? = H[q]? := fun q hq => by rw [← hH1, Array.getElem?_push, if_neg (Nat.ne_of_lt hq)]
  have k1 := kk H1 locs ls (pHold_newR h hk e1 z1 o1) ⟨Nat.le_trans hS.1 (by omega), fun x h1 h2 => (o1 x (by have := hS.1; omega)).trans (hS.2.1 x h1 h2), hS.2.2⟩ hl
  rw [← hs] at k1
  exact k1
/-- a class's objects may stand in a row, says Z -/
def ZC (G : PG) (CN E : String) : Prop := ∀ (U : State) (H : Heap), G.1.2 U H → va_Nw (.castable CN E) U
theorem pw_aast (C : pCx p s m args meth c G cc nL own Ts) {CN E : String} {T : u_T} {N ci κ i0 a v : Nat} {ty0 : Nat → FieldType} {i : Int32} (hk : κ = 16 ∨ κ = 17) (ha : pK S a = κ) (hty : (pTy G)[i0]? = some (G.2.1 κ, .object E)) (hin : vp_in i (pL S a)) (hc : pCl ci CN T N ty0) (hv : pK S v = ci + 1) (hz : ZC G CN E) (hd : decode cc pc = .ok (.aastore, 1))
    (kk : PW p l e R s m args below meth c Q G nL (sR S a i.toNatClampNeg (some v)) kc kn LV (pc + 1) st) : PW p l e R s m args below meth c Q G nL S kc kn LV pc (.ref (G.2.2 + v) :: .int i :: .ref (G.2.2 + a) :: st) := by
  intro H locs ls h hS hl
  obtain ⟨L, k, hP, hD, hi⟩ := pHold_at h (a := a) (by omega)
  obtain ⟨L2, k2, hP2, hD2, hi2⟩ := pHold_at h (a := v) (by omega)
  rw [pE_rowR G S ha hk] at hi
  rw [pE_obj G S hv hc.2.1] at hi2
  have hlt : i.toNatClampNeg < pL S a := Nat.not_le.mp fun q => hin (Or.inr q)
  have h0 : ¬ i < 0 := fun q => hin (Or.inl q)
  obtain ⟨r', hr', cellV, g1, g2, g3, -⟩ := hP2 k2 _ hi2
  have hcls := (C.2.2.2.2.2.1.1 ci _ hc.1).2
  obtain ⟨kA, comp, k1, k2', k3, -⟩ := (C.2.2.2.2.2.1.2 i0 _ hty).2
  obtain ⟨kE, hkE, -⟩ := Vm.findClass_spec k3
  obtain ⟨c0, t1, f1, f2, f3⟩ := Cond.castable_spec (va_Nw.use (A := args) rfl (hz s s.heap C.2.2.2.2.2.2.2.2.1))
  cases hcls.1.symm.trans f1
  cases k3.symm.trans f2
  obtain ⟨kC, hkC, -⟩ := hcls.2
  refine W.aast C.1 C.2.1 (hP k _ hi) (fun q h => by cases h) (fun h => by cases h) k1 k2' rfl hkE ⟨h0, by show _ < (arrV _ _ _).slots.size; rw [arrV_size]; exact hlt⟩ g1 (fun q h => by rw [g3] at h; cases h) (by rw [g2]; exact hkC) (by rw [g2]; exact f3) rfl rfl hd fun H1 e z oq => ?_
  refine kk H1 _ ls (pHold_set h (a := a) (by omega) rfl (fun _ => rfl) (fun _ _ => rfl) (fun _ _ _ => rfl) (fun _ _ _ => rfl) (fun x j hx => by rw [pR_sR, if_neg (fun q => hx q.1)]) ?_ z oq) (hS.put z oq (by show G.2.2 ≤ G.2.2 + a; omega)) hl
  rw [pE_rowR G (sR S a i.toNatClampNeg (some v)) (a := a) (κ := κ) ha hk]
  show H1[G.2.2 + a]? = some (vp_cell _ _)
  rw [e, vp_cell_q, vp_cell_q, arrV_store]
  show some (arrV _ _ _) = some (arrV _ _ _)
  congr 2
  funext q
  rw [pR_sR]
  by_cases hq : q = i.toNatClampNeg
  · subst hq; simp [updV, va_rf]
  · simp [updV, hq]
theorem pw_aastC (C : pCx p s m args meth c G cc nL own Ts) {a v : Nat} {i : Int32} (ha : pK S a = 16) (hin : vp_in i (pL S a)) (hv : pC4 S v) (hz : ZC G RX0 "SupportSolver$Constraint" ∧ ZC G RX2 "SupportSolver$Constraint" ∧ ZC G RX4 "SupportSolver$Constraint" ∧ ZC G RX10 "SupportSolver$Constraint") (hd : decode cc pc = .ok (.aastore, 1))
    (kk : PW p l e R s m args below meth c Q G nL (sR S a i.toNatClampNeg (some v)) kc kn LV (pc + 1) st) : PW p l e R s m args below meth c Q G nL S kc kn LV pc (.ref (G.2.2 + v) :: .int i :: .ref (G.2.2 + a) :: st) := by
  rcases hv with hv | hv | hv | hv
  · exact pw_aast C (i0 := 4) (Or.inl rfl) ha rfl hin pCl0 hv hz.1 hd kk
  · exact pw_aast C (i0 := 4) (Or.inl rfl) ha rfl hin pCl1 hv hz.2.1 hd kk
  · exact pw_aast C (i0 := 4) (Or.inl rfl) ha rfl hin pCl3 hv hz.2.2.1 hd kk
  · exact pw_aast C (i0 := 4) (Or.inl rfl) ha rfl hin pCl8 hv hz.2.2.2 hd kk
theorem pHold_setP {S' : PS} {H H1 : Heap} {a : Nat} (ha : pK S a ≠ 0) (hsz : H.size = G.2.2 + pN S) (hN : pN S' = pN S) (hK : ∀ x, pK S' x = pK S x) (hL' : ∀ x, x ≠ a → pL S' x = pL S x) (hI : ∀ x j, x ≠ a → pI S' x j = pI S x j) (hJ : ∀ x j, x ≠ a → pJ S' x j = pJ S x j) (hR : ∀ x j, x ≠ a → pR S' x j = pR S x j)
    {L : List Nat} {k : Nat} (hL : ∀ a, pK S a ≠ 0 → G.2.2 + a ∈ L) (hD : va_D (fun q => G.2.2 ≤ q) ([] ++ va_pl L (pE G S))) (hk : ([] ++ va_pl L (pE G S))[k]? = some (G.2.2 + a, pE G S (G.2.2 + a))) (hP1 : va_P G.1.1 vwCl (([] ++ va_pl L (pE G S)).set k (G.2.2 + a, pE G S' (G.2.2 + a))) H1) (z : H.size ≤ H1.size) : pHold G (sSkip S' (H1.size - H.size)) H1 := by
  have hD1 : va_D (fun q => G.2.2 ≤ q) (([] ++ va_pl L (pE G S)).set k (G.2.2 + a, pE G S' (G.2.2 + a))) := hD.set hk
  have e1 : ([] ++ va_pl L (pE G S)).set k (G.2.2 + a, pE G S' (G.2.2 + a)) = [] ++ va_pl L (pE G S') := by
    rw [va_pl_set hD (hL a ha) hk]
    congr 1
    apply va_pl_congr
    intro q
    by_cases hq : q = G.2.2 + a
    · subst hq; rw [va_up_self]
    · rw [va_up_ne _ _ hq]
      exact (pE_far G S S' (fun x _ => hK x) hL' hI hJ hR hq).symm
  rw [e1] at hP1 hD1
  exact ⟨L, fun x hx => hL x (by rw [← hK]; exact hx), by rw [pE_skip]; exact hP1, by rw [pE_skip]; exact hD1, by rw [pN_sSkip]; omega⟩
theorem pw_copyJ (C : pCx p s m args meth c G cc nL own Ts) {index a : Nat} (hlink : Cond.methodLink own index arraycopyName ∈ Ts) (hnat : Cond.native arraycopyName ∈ Ts) (hstat : Cond.static arraycopyName ∈ Ts) (hini : Cond.initialized "java/lang/System" ∈ Ts) (ha : pK S a = 14) {sp dp n : Int32} (h1 : ¬ sp < 0) (h2 : ¬ dp < 0) (h3 : ¬ n < 0) (h4 : sp.toNatClampNeg + n.toNatClampNeg ≤ pL S a) (h5 : dp.toNatClampNeg + n.toNatClampNeg ≤ pL S a) (hframes : 1 ≤ R.frames) (hlocals : (st.map fun v => v.category).sum + (nativeFrameWords "java/lang/System" "arraycopy" 5 + 11) ≤ R.locals) (hd : decode cc pc = .ok (.invokestatic index, 3))
    (kk : ∀ d : Nat, PW p l e R s m args below meth c Q G nL (sSkip (sJs S a (va_cpy (pJ S a) (pJ S a) sp.toNatClampNeg dp.toNatClampNeg n.toNatClampNeg)) d) kc kn LV (pc + 3) st) : PW p l e R s m args below meth c Q G nL S kc kn LV pc (.int n :: .int dp :: .ref (G.2.2 + a) :: .int sp :: .ref (G.2.2 + a) :: st) := by
  intro H locs ls h hS hl
  have hs := pHold_sz h
  obtain ⟨L, hL, hP, hD, -⟩ := h
  obtain ⟨k, hk⟩ := va_pl_get (X := []) (f := pE G S) (hL a (by omega))
  have hk' := hk
  rw [pE_rowJ G S ha] at hk
  have hts := C.2.2.2.2.1
  have hS2 : va_S (fun q => G.2.2 ≤ q) H H locs := ⟨Nat.le_refl _, fun _ _ _ => rfl, hS.2.2⟩
  refine va_copyl C.1 C.2.1 (C.2.2.1.trans hl.1.symm) C.2.2.2.1 (hts _ hlink) (hts _ hnat) (hts _ hstat) (hts _ hini) C.2.2.2.2.2.1 hP hD hS2 k k 2 2 hk hk rfl rfl rfl h1 h2 h3 h4 h5 (fun _ _ => rfl) hframes hlocals hd fun H1 locs1 hP1 hD1 hS1 => ?_
  refine kk (H1.size - H.size) H1 locs1 ls (pHold_setP (G := G) (S := S) (S' := sJs S a (va_cpy (pJ S a) (pJ S a) sp.toNatClampNeg dp.toNatClampNeg n.toNatClampNeg)) (a := a) (by omega) hs rfl (fun _ => rfl) (fun _ _ => rfl) (fun _ _ _ => rfl) (fun x j hx => by rw [pJ_sJs, if_neg hx]) (fun _ _ _ => rfl) hL hD hk' ?_ hS1.1) ⟨Nat.le_trans hS.1 hS1.1, fun q q1 q2 => (hS1.2.1 q (Nat.lt_of_lt_of_le q1 hS.1) q2).trans (hS.2.1 q q1 q2), hS1.2.2⟩ hl
  rw [pE_rowJ G (sJs S a (va_cpy (pJ S a) (pJ S a) sp.toNatClampNeg dp.toNatClampNeg n.toNatClampNeg)) (a := a) ha]
  have e9 : pJ (sJs S a (va_cpy (pJ S a) (pJ S a) sp.toNatClampNeg dp.toNatClampNeg n.toNatClampNeg)) a = va_cpy (pJ S a) (pJ S a) sp.toNatClampNeg dp.toNatClampNeg n.toNatClampNeg := funext fun j => by rw [pJ_sJs, if_pos rfl]
  rw [e9]
  exact hP1
end PWM
/-! throws -/
/-- a throw's words and things, says Z -/
def ZT (G : PG) (own : String) (ik is ic : Nat) (cls text : String) (names : List String) : Prop := ∀ (U : State) (H : Heap), G.1.2 U H → (∀ a : Array Value, ∀ w ∈ Cond.classLink own ik cls :: Cond.initialized cls :: vx_atS own ic cls names, w.before a U = true) ∧ (∃ sa : Nat, vk_R own is text sa U) ∧ vx_Zq Bundle.tN "UNASSIGNED_STACK" Bundle.steD (pFr G) U H ∧ vx_Zq Bundle.tN "SUPPRESSED_SENTINEL" Bundle.listD (pFr G) U H
def pXC (G : PG) (px : String → PS → Prop) : String → State → State → Prop := vx_X (fun _ : PS => True) (fun E u t => px E u ∧ pB G u t) (pFr G)
def mXI (l : Launch) (y : MethodName) (ws : List Cond) (rm : Room) (G : PG) (S : PS) (av : List Value) (post : Int32 → PS → Prop) (px : String → PS → Prop) : Prop := vx_Met l y ws rm (pPre G S av) (va_Qi post (pB G) (pFr G)) (pXC G px) rm.cells rm.slots (pFr G)
section PWT
variable {p : Program} {l : Launch} {e : Env} {R : Room} {s : State} {m : MethodId} {args : Array Value} {below : List Frame} {meth : Method} {c : Code} {Q : State → Prop} {G : PG} {nL : Nat} {S : PS} {kc kn : Nat} {LV : List (Nat × Value)} {pc : Nat} {st : List Value} {cc : ByteArray} {own : String} {Ts : List Cond}
variable {cls text : String} {names : List String} {ik is ic mc ms : Nat} {Qc : Array Value → State → Outcome → State → Prop} {px : String → PS → Prop}
theorem pw_throwS (C : pCx p s m args meth c G cc nL own Ts) (hl : l.stackTraces = false) (hZ : ZT G own ik is ic cls text names) (hcls : Bundle.fit cls = true) (hnames : ∀ n ∈ names, Bundle.fit n = true) (hgood : ∀ w ∈ Cond.classLink own ik cls :: Cond.initialized cls :: vx_atS own ic cls names, vx_ot w = true) (hout : ∀ x ∈ c.exceptionTable.toList, False)
    (d0 : decode cc pc = .ok (.new ik, 3)) (d3 : decode cc (pc + 3) = .ok (.dup, 1)) (d4 : decode cc (pc + 4) = .ok (.ldc is, 2)) (d6 : decode cc (pc + 6) = .ok (.invokespecial ic, 3)) (d9 : decode cc (pc + 9) = .ok (.athrow, 1))
    (hfr : names.length + 3 < R.frames) (hlo : (st.map fun v => v.category).sum + (13 * (names.length + 1) + 43) ≤ R.locals) (hcells : kc + 1 ≤ R.cells) (hslots : kn + 6 ≤ R.slots) (hc : kc + 1 ≤ mc) (hs : kn + 6 ≤ ms) (h : ∀ n, px cls (sSkip S n)) :
    PW p l e R s m args below meth c (vx_MQ below Qc (pXC G px) args s mc ms (pFr G)) G nL S kc kn LV pc st := by
  intro H locs ls hh hS hl'
  obtain ⟨z1, ⟨sa, z2⟩, z3, z4⟩ := hZ s s.heap C.2.2.2.2.2.2.2.2.1
  exact vx_throwS C.1 C.2.1 hl C.2.2.2.1 hcls hnames (z1 args _ List.mem_cons_self) (z1 args _ (List.mem_cons_of_mem _ List.mem_cons_self)) z2 (fun w hw => z1 args w (List.mem_cons_of_mem _ (List.mem_cons_of_mem _ hw))) hgood z3 z4 hS (hl'.1.trans C.2.2.1.symm) d0 d3 d4 d6 d9 (fun x hx => (hout x hx).elim) hfr hlo hcells hslots C.2.2.2.2.2.2.1
    (fun t _ h1 h2 => ⟨sSkip S (t.heap.size - H.size), trivial, ⟨h _, pHold_skip hh h1 h2⟩, ⟨Nat.le_trans hS.1 h1, fun q hq hA => (h2 q (Nat.lt_of_lt_of_le hq hS.1)).trans (hS.2.1 q hq hA)⟩⟩) hS.2.2 hc hs
theorem pw_throwSW (C : pCx p s m args meth c G cc nL own Ts) (hl : l.stackTraces = false) (hZ : ZT G own ik is ic cls text names) (hcls : Bundle.fit cls = true) (hnames : ∀ n ∈ names, Bundle.fit n = true) (hgood : ∀ w ∈ Cond.classLink own ik cls :: Cond.initialized cls :: vx_atS own ic cls names, vx_ot w = true) (hout : ∀ x ∈ c.exceptionTable.toList, False)
    (d0 : decode cc pc = .ok (.new ik, 3)) (d3 : decode cc (pc + 3) = .ok (.dup, 1)) (d4 : decode cc (pc + 4) = .ok (.ldc_w is, 3)) (d7 : decode cc (pc + 7) = .ok (.invokespecial ic, 3)) (d10 : decode cc (pc + 10) = .ok (.athrow, 1))
    (hfr : names.length + 3 < R.frames) (hlo : (st.map fun v => v.category).sum + (13 * (names.length + 1) + 43) ≤ R.locals) (hcells : kc + 1 ≤ R.cells) (hslots : kn + 6 ≤ R.slots) (hc : kc + 1 ≤ mc) (hs : kn + 6 ≤ ms) (h : ∀ n, px cls (sSkip S n)) :
    PW p l e R s m args below meth c (vx_MQ below Qc (pXC G px) args s mc ms (pFr G)) G nL S kc kn LV pc st := by
  intro H locs ls hh hS hl'
  obtain ⟨z1, ⟨sa, z2⟩, z3, z4⟩ := hZ s s.heap C.2.2.2.2.2.2.2.2.1
  exact vx_throwSW C.1 C.2.1 hl C.2.2.2.1 hcls hnames (z1 args _ List.mem_cons_self) (z1 args _ (List.mem_cons_of_mem _ List.mem_cons_self)) z2 (fun w hw => z1 args w (List.mem_cons_of_mem _ (List.mem_cons_of_mem _ hw))) hgood z3 z4 hS (hl'.1.trans C.2.2.1.symm) d0 d3 d4 d7 d10 (fun x hx => (hout x hx).elim) hfr hlo hcells hslots C.2.2.2.2.2.2.1
    (fun t _ h1 h2 => ⟨sSkip S (t.heap.size - H.size), trivial, ⟨h _, pHold_skip hh h1 h2⟩, ⟨Nat.le_trans hS.1 h1, fun q hq hA => (h2 q (Nat.lt_of_lt_of_le hq hS.1)).trans (hS.2.1 q hq hA)⟩⟩) hS.2.2 hc hs
theorem pw_xret {XC : String → State → State → Prop} (k : PW p l e R s m args below meth c (MQ below Qc args s mc ms (pFr G)) G nL S kc kn LV pc st) : PW p l e R s m args below meth c (vx_MQ below Qc XC args s mc ms (pFr G)) G nL S kc kn LV pc st := fun H locs ls h hS hl => vx_ret (k H locs ls h hS hl)
end PWT
theorem met_ofX {l : Launch} {y : MethodName} {ws ws' : List Cond} {rm : Room} {G : PG} {S : PS} {av : List Value} {Qc : Array Value → State → Outcome → State → Prop} {XC : String → State → State → Prop} {cc : ByteArray} {maxL : Nat} {ret : Option FieldType} (hy : plainName y.cls = true) (hw : ws = Cond.code y cc maxL ret :: ws') (hlen : (lg_sl av).length ≤ maxL)
    (body : ∀ (p : Program) (e : Env) (s : State) (m : MethodId) (args : Array Value) (below : List Frame) (meth : Method) (c : Code), pCx p s m args meth c G cc maxL y.cls ws → (∀ x ∈ c.exceptionTable.toList, False) → meth.sig.returnType = ret → meth.name = y.name → PW p l e rm s m args below meth c (vx_MQ below Qc XC args s rm.cells rm.slots (pFr G)) G maxL S 0 0 (lv_args 0 av) 0 []) :
    vx_Met l y ws rm (pPre G S av) Qc XC rm.cells rm.slots (pFr G) := by
  refine vx_ofW hy hw ?_
  intro p e s m args below meth c s₁ B hml hout hv
  obtain ⟨rfl, hP, hK, hZ, hZk⟩ := hv
  have hts := atoms_spec (ws := ws) B.pre
  rw [lg_entry_eq]
  exact body p e s m _ below meth c ⟨B.exec, B.bytes, hml, findClass_of_methodNamed B.named, hts, hK, B.notSynchronized, pHold_base hP, hZ, hZk⟩ hout B.returns (name_of_methodNamed B.named B.method).1 s.heap [] _ hP va_S.rf (lv_entry av hlen)
/-! a static method called by the name of a class that inherits it (after the library's laws of 'invokestatic' and of 'invokevirtualUp') -/
section QST
variable {Q : Unit → Pre} {E : CtlPost} {e : Env} {d : Bool} {acts : List Action} {s s₀ : State} {f : JFrame}
theorem q_wpStaticUp {index ci n c : Nat} {m : MethodId} {dk ck : Class} {cf : ClassFile} {name desc : String} {via : Bool} (hs : s.topJava?.isSome) (hp : e.platform.polymorphicOnlyByInvokevirtual = true)
    (hW : s₀.WarmedH s.vm) (hE : s₀.MethodEntryUp e s.vm f.method.cls index c m ci) (h1 : s₀.vm.classes[f.method.cls]? = some dk) (h2 : dk.cf = some cf)
    (h3 : cf.constantPool[index]? = some (if via then .interfaceMethodref ci n else .methodref ci n)) (h4 : cf.constantPool.nameAndType? n = some (name, desc))
    (hck : s₀.vm.classes[c]? = some ck) (hnone : (ck.methods.any fun x => x.name == name && !x.isStatic && signaturePolymorphic ck x) = false) :
    wp (Op.invokestatic.sem index) Q E e d acts (s.setTop f) ↔ wp (Op.invokestatic.sem index) Q E e d acts ((s.setVm (s.vm.calledUp f.method.cls ci index c m)).setTop f) := by
  obtain ⟨hgc, hrc, hW₁, hgm⟩ := hE.classFirst
  obtain ⟨k₀, hk₀, he₀⟩ := hW.alike.2.2 _ _ h1
  obtain ⟨k₂, hk₂, he₂⟩ := hE.warmed.alike.2.2 _ _ h1
  obtain ⟨c₁, hc₁, hec₁⟩ := hW₁.alike.2.2 _ _ hck
  obtain ⟨c₂, hc₂, hec₂⟩ := hE.warmed.alike.2.2 _ _ hck
  have hb₀ := memberRef_ask_via (e := e) hk₀ (by rw [he₀]; exact h2) h3 h4
  have hb₂ := memberRef_ask_via (e := e) hk₂ (by rw [he₂]; exact h2) h3 h4
  have hn₁ : (c₁.methods.any fun x => x.name == name && !x.isStatic && signaturePolymorphic c₁ x) = false := by rw [hec₁]; exact hnone
  have hn₂ : (c₂.methods.any fun x => x.name == name && !x.isStatic && signaturePolymorphic c₂ x) = false := by rw [hec₂]; exact hnone
  have hs₁ : (s.setVm (s.vm.noted f.method.cls ci (.cls c))).topJava?.isSome := hs
  have hs₂ : (s.setVm (s.vm.calledUp f.method.cls ci index c m)).topJava?.isSome := hs
  have hL : ∀ {Q' : ClassId → Pre} {d' : Bool} {acts' : List Action}, wp (Jvm.resolveClassAt ci) Q' E e d' acts' (s.setTop f) ↔ Q' c d' acts' ((s.setVm (s.vm.noted f.method.cls ci (.cls c))).setTop f) :=
    W.resolveClassAt_links (t := s.setTop f) (State.method?_setTop f hs) hgc
  have hM : ∀ {Q' : MethodId → Pre} {d' : Bool} {acts' : List Action}, wp (Jvm.resolveMethodAt index) Q' E e d' acts' ((s.setVm (s.vm.noted f.method.cls ci (.cls c))).setTop f) ↔ Q' m d' acts' ((s.setVm (s.vm.calledUp f.method.cls ci index c m)).setTop f) :=
    W.resolveMethodAt_links (t := (s.setVm (s.vm.noted f.method.cls ci (.cls c))).setTop f) (State.method?_setTop f hs₁) hgm
  simp [Op.invokestatic.sem, hp, Seam.memberRefOf, State.method?_setTop f hs, State.method?_setTop f hs₂, hb₀, hb₂, hL, W.resolveClassAt_ready (s := (s.setVm (s.vm.calledUp f.method.cls ci index c m)).setTop f) (State.method?_setTop f hs₂) hE.classReady,
    hc₁, hc₂, hn₁, hn₂, hM, W.resolveMethodAt_ready (s := (s.setVm (s.vm.calledUp f.method.cls ci index c m)).setTop f) (State.method?_setTop f hs₂) hE.ready, -Array.any_eq_true]
end QST
section QSU
variable {p : Program} {l : Launch} {e : Env} {R : Room} {s : State} {m : MethodId} {args : Array Value} {below : List Frame} {meth : Method} {c : Code} {T : State} {locs : List Loc} {cells slots : Nat}
theorem q_staticUp (X : Stand p l e R s m args below meth c T locs cells slots) (hexec : p.tables.exec = Jvm.exec)
    {own owner : String} {index : Nat} {x : MethodName} (hown : s.vm.findClass own = some m.cls) (hlink : (Cond.methodLink own index x).before args s = true)
    (hsame : (Cond.sameMethod x.cls owner x.name x.desc).before args s = true) (howner : owner ≠ "java/lang/invoke/MethodHandle" ∧ owner ≠ "java/lang/invoke/VarHandle")
    {m' : MethodId} {meth' : Method} {k' : Class} (hn : s.methodNamed? ⟨owner, x.name, x.desc⟩ = some m') (hm' : s.vm.method? m' = some meth') (hstatic : meth'.isStatic = true)
    (hk' : s.vm.classes[m'.cls]? = some k') (hinit : k'.init = .initialized)
    {g : JFrame} (hg : g.method = m) {argsL rest : List Value} (hlen : argsL.length = meth'.sig.parameters.length) (hstack : g.stack = argsL.reverse ++ rest)
    (hdg : decode c.code g.pc = .ok (.invokestatic index, 3)) :
    ∃ vm', Stand p l e R s m args below meth c (T.setVm vm') locs cells slots ∧
      ∀ target, (∀ acts, Steps p.tables e below (doInvoke e ((T.setVm vm').setTop { g with stack := rest }) acts m' argsL.toArray).1 target) → Steps p.tables e below (T.setTop g) target := by
  subst hg
  have hpl : e.platform.magicAccessors = ({} : Platform).magicAccessors := by rw [X.admits.platform]
  have hpv : e.platform.polymorphicOnlyByInvokevirtual = true := by rw [X.admits.platform]
  obtain ⟨cn, ck, r1, hcn, hck, hni, hf, hn1⟩ := Cond.sameMethod_found hsame
  cases hn.symm.trans hn1
  obtain ⟨ci, hl, hright⟩ := Cond.methodLink_specUp hown hcn hck hni hf hlink e.platform hpl (by rw [X.admits.platform])
  have hE : s.MethodEntryUp e T.vm g.method.cls index cn m' ci := State.methodEntryUp X.warmed hl hright
  obtain ⟨kr, hkr, hnr⟩ := className_of_methodNamed hn
  cases hk'.symm.trans hkr
  obtain ⟨dk, cf9, nt, nm9, ds9, ck9, -, -, hd, hcf, hcp, hnt, -, -, hck9, -, hpol, -⟩ := hl.here
  cases hck.symm.trans hck9
  have al := hE.warmed.alike
  obtain ⟨d2, hd2, ed2⟩ := al.2.2 _ _ hd
  obtain ⟨k2, hk2, ek2⟩ := al.2.2 _ _ hk'
  obtain ⟨c2, hc2, ec2⟩ := al.2.2 _ _ hck
  have hno : (ck.methods.any fun y => y.name == nm9 && !y.isStatic && signaturePolymorphic ck y) = false := by simp [hpol]
  have hno2 : (c2.methods.any fun y => y.name == nm9 && !y.isStatic && signaturePolymorphic c2 y) = false := by rw [ec2]; exact hno
  have hsp : signaturePolymorphic k' meth' = false := by simp [signaturePolymorphic, hnr, howner.1, howner.2]
  have hcp2 : cf9.constantPool[index]? = some (if false then .interfaceMethodref ci nt else .methodref ci nt) := hcp
  refine ⟨T.vm.calledUp g.method.cls ci index cn m', X.noted hE.warmed, fun target hrest => ?_⟩
  jvm_step X.here [hexec, hdg, q_wpStaticUp (e := e) (s := T) (s₀ := s) (f := g) X.here.top hpv X.warmed hE hd hcf hcp2 hnt hck hno,
    Op.invokestatic.wp_ready (e := e) (s := T.setVm (T.vm.calledUp g.method.cls ci index cn m')) (k := k2) (meth := meth') (m := m') (args := argsL) (rest := rest) (f := g)
      X.here.top ⟨ci, nm9, ds9, false, cn, c2, memberRef_ask_via (e := e) hd2 (by rw [ed2]; exact hcf) hcp2 hnt, hE.classReady, hc2, hno2⟩ hE.ready hk2
      (by show (T.vm.calledUp g.method.cls ci index cn m').method? m' = some meth'; rw [al.method?]; exact hm') (by rw [ek2]; exact hsp) hstatic (by rw [ek2]; exact hinit) hlen hstack]
  exact fun acts => hrest _
/-- the words of such a call: link, who declares, static, initialised, and the callee's own -/
def q_SU (s : State) (args : Array Value) (own owner : String) (index : Nat) (nm ds : String) (ws : List Cond) : Prop :=
  (Cond.methodLink own index ⟨own, nm, ds⟩).before args s = true ∧ (Cond.sameMethod own owner nm ds).before args s = true ∧ (Cond.static ⟨owner, nm, ds⟩).before args s = true ∧ (Cond.initialized owner).before args s = true ∧
  ∀ w ∈ ws, ∀ (a' : Array Value) (U : State), s.WarmedH U.vm → w.before a' U = true
theorem q_runSU {nm ds own owner : String} {bytes cc : ByteArray} {maxL nL mc ms n index : Nat} {ret : Option FieldType} {ws : List Cond} {rm : Room} {Pc : Array Value → State → Prop} {Qc : Array Value → State → Outcome → State → Prop} {free : Addr → Prop} {Ts : List Cond} {As rest : List Value} {g : JFrame} {H : Heap}
    (S : CallFix p m c cc nL s args Ts own) (hM : Met l ⟨owner, nm, ds⟩ ws rm Pc Qc mc ms free) (hz : q_SU s args own owner index nm ds ws) (hrc : rm.cells = mc) (hrs : rm.slots = ms) (hcw : Cond.code ⟨owner, nm, ds⟩ bytes maxL ret ∈ ws)
    (howner : owner ≠ "java/lang/invoke/MethodHandle" ∧ owner ≠ "java/lang/invoke/VarHandle") (hdd : (parseMethodDescriptor ds).map (fun d => d.parameters.length) = some n) (hR : rm.frames + 1 ≤ R.frames ∧ 8 + (maxL + 11) + rm.locals ≤ R.locals) (hp : PreS s H Pc As)
    (hg : g.method = m) (hn : As.length = n) (hsize : g.locals.size = nL) (hstack : g.stack = As.reverse ++ rest) (hW : 2 * g.monitorRoom + (rest.map fun v => v.category).sum ≤ 8) (hdg : decode cc g.pc = .ok (.invokestatic index, 3)) (hf : cells + mc ≤ R.cells ∧ slots + ms ≤ R.slots) :
    va_Run p l e R s m args below meth c H locs cells slots mc ms g rest (Qc As.toArray) (free) := by
  obtain ⟨hl, hsame, hstt, hini, hws⟩ := hz
  have hK : Back l R p e below s args ⟨owner, nm, ds⟩ 3 8 (PreOf R mc ms Pc) (PostOf Qc mc ms free) := back_of (bytes := bytes) (maxL := maxL) (ret := ret) hM hp.1 hrc hrs hR.1 hR.2 hws hcw (fun a' U hW => word_at hW (Or.inl (by first | rfl | simp [Cond.onTables, Cond.keeps, Cond.steady])) hini)
  obtain ⟨hx, hb, hml, ho, -⟩ := S
  have hcode : (Cond.code ⟨owner, nm, ds⟩ bytes maxL ret).before args s = true := hws _ hcw args s (State.WarmedH.refl s)
  obtain ⟨mk, hnamed⟩ := Cond.code_named hcode
  obtain ⟨methM, cM, hmethM, -, -, -, -, -, -, hsigM⟩ := Cond.code_spec hnamed hcode
  have hstatic : methM.isStatic = true := Cond.static_spec hnamed hmethM hstt
  obtain ⟨kP, hkP, -⟩ := className_of_methodNamed hnamed
  have hinitP : kP.init = .initialized := Cond.initialized_spec (findClass_of_methodNamed hnamed) hkP hini
  intro T hT X
  have hlen : As.length = methM.sig.parameters.length := by
    have h2 := hdd
    have h3 : parseMethodDescriptor ds = some methM.sig := hsigM
    rw [h3] at h2
    exact hn.trans (Option.some.inj h2).symm
  obtain ⟨vm₁, X₁, hstep₁⟩ := q_staticUp X hx (x := ⟨own, nm, ds⟩) (owner := owner) ho hl hsame howner hnamed hmethM hstatic hkP hinitP (g := g) hg (argsL := As) (rest := rest) hlen hstack (by rw [hb]; exact hdg)
  obtain ⟨v, ⟨U', l2, c2, s2⟩, X', hpost, hsteps⟩ := hK m meth c ⟨T.setVm vm₁, locs, cells, slots⟩ { g with stack := rest } (.invokestatic index) mk As.toArray X₁ hg (hsize.trans hml.symm) (by rw [hb]; exact hdg) hW (X₁.named hnamed) ⟨hf.1, hf.2, hp.2 (T.setVm vm₁) hT X₁.warmed⟩
  obtain ⟨g', mk', t, L, e1, e2, hq, h1, hL, h2, h3⟩ := hpost
  dsimp only [Pt.U, Pt.locs, Pt.cells, Pt.slots] at X' e1 e2 h1 h2 h3 hsteps
  subst h1; subst h2; subst h3
  exact ⟨v, (T.setVm vm₁).calling g' mk' As.toArray, t, U', L, hT, X', hL, e1, e2, hq, fun target h => hstep₁ _ fun acts => by rw [doInvoke_state]; exact hsteps.trans h⟩
end QSU
section PWSU
variable {p : Program} {l : Launch} {e : Env} {R : Room} {s : State} {m : MethodId} {args : Array Value} {below : List Frame} {meth : Method} {c : Code} {Q : State → Prop} {G : PG} {nL : Nat} {S : PS} {kc kn : Nat} {LV : List (Nat × Value)} {pc : Nat} {st : List Value} {cc : ByteArray} {own : String} {Ts : List Cond}
/-- an inherited static method can be called, says Z -/
def ZU (G : PG) (own owner : String) (index : Nat) (nm ds : String) (ws : List Cond) : Prop := ∀ (U : State) (H : Heap), G.1.2 U H → ∀ a : Array Value, q_SU U a own owner index nm ds ws
variable {owner nm ds : String} {bytes : ByteArray} {maxL n index : Nat} {ret : Option FieldType} {ws : List Cond} {rm : Room} {As stk : List Value} {Qc : Array Value → State → Outcome → State → Prop}
theorem pRunSU (C : pCx p s m args meth c G cc nL own Ts) (hM : Met l ⟨owner, nm, ds⟩ ws rm (pPre G S As) Qc rm.cells rm.slots (pFr G)) (hz : ZU G own owner index nm ds ws) (hcw : Cond.code ⟨owner, nm, ds⟩ bytes maxL ret ∈ ws) (howner : owner ≠ "java/lang/invoke/MethodHandle" ∧ owner ≠ "java/lang/invoke/VarHandle") (hdd : (parseMethodDescriptor ds).map (fun d => d.parameters.length) = some n) (hR : rm.frames + 1 ≤ R.frames ∧ 8 + (maxL + 11) + rm.locals ≤ R.locals) (hn : As.length = n) (hst : stk = As.reverse ++ st) (hw : (st.map fun v => v.category).sum ≤ 8) (hd : decode cc pc = .ok (.invokestatic index, 3)) (hf : kc + rm.cells ≤ R.cells ∧ kn + rm.slots ≤ R.slots) :
    PRun p l e R s m args below meth c G nL S kc kn rm.cells rm.slots LV pc stk st (Qc As.toArray) := by
  intro H locs ls h hS hl
  exact q_runSU ⟨C.1, C.2.1, C.2.2.1, C.2.2.2.1, C.2.2.2.2.1⟩ hM (hz s s.heap C.2.2.2.2.2.2.2.2.1 args) rfl rfl hcw howner hdd hR ⟨pPre_blind G S _, fun U hU hW => ⟨rfl, by rw [hU]; exact h, va_K.moved hW.alike C.2.2.2.2.2.1, pZ_go C hU hW h hS⟩⟩ rfl hn hl.1 hst (lv_room hw) hd hf
end PWSU
/-! doubles -/
def mD (l : Launch) (y : MethodName) (ws : List Cond) (rm : Room) (G : PG) (S : PS) (av : List Value) (post : UInt64 → PS → Prop) : Prop := Met l y ws rm (pPre G S av) (va_Qd post (pB G) (pFr G)) rm.cells rm.slots (pFr G)
def mXD (l : Launch) (y : MethodName) (ws : List Cond) (rm : Room) (G : PG) (S : PS) (av : List Value) (post : UInt64 → PS → Prop) (px : String → PS → Prop) : Prop := vx_Met l y ws rm (pPre G S av) (va_Qd post (pB G) (pFr G)) (pXC G px) rm.cells rm.slots (pFr G)
section PWD
variable {p : Program} {l : Launch} {e : Env} {R : Room} {s : State} {m : MethodId} {args : Array Value} {below : List Frame} {meth : Method} {c : Code} {Q : State → Prop} {G : PG} {nL : Nat} {S : PS} {kc kn : Nat} {LV : List (Nat × Value)} {pc : Nat} {st : List Value} {cc : ByteArray} {own : String} {Ts : List Cond}
theorem pw_i2d (C : pCx p s m args meth c G cc nL own Ts) {x : Int32} (hd : decode cc pc = .ok (.i2d, 1)) (k : PW p l e R s m args below meth c Q G nL S kc kn LV (pc + 1) (.double (FP.i2d x) :: st)) : PW p l e R s m args below meth c Q G nL S kc kn LV pc (.int x :: st) := fun H locs ls h hS hl => lv_i2d C.1 C.2.1 hd (k H locs ls h hS hl)
theorem pw_ddiv (C : pCx p s m args meth c G cc nL own Ts) {x y : UInt64} (hd : decode cc pc = .ok (.ddiv, 1)) (hn : vf_n64 (FP.ddiv x y)) (k : PW p l e R s m args below meth c Q G nL S kc kn LV (pc + 1) (.double (FP.ddiv x y) :: st)) : PW p l e R s m args below meth c Q G nL S kc kn LV pc (.double y :: .double x :: st) := fun H locs ls h hS hl => lv_ddiv C.1 C.2.1 hd hn (k H locs ls h hS hl)
theorem pw_dconst0 (C : pCx p s m args meth c G cc nL own Ts) (hd : decode cc pc = .ok (.dconst 0, 1)) (k : PW p l e R s m args below meth c Q G nL S kc kn LV (pc + 1) (.double FP.dconst0 :: st)) : PW p l e R s m args below meth c Q G nL S kc kn LV pc st := fun H locs ls h hS hl => lv_dconst0 C.1 C.2.1 hd (k H locs ls h hS hl)
theorem pw_dret (C : pCx p s m args meth c G cc nL own Ts) {post : UInt64 → PS → Prop} (hr : meth.sig.returnType = some .double) {v : UInt64} (hq : post v S) (hd : decode cc pc = .ok (.dreturn, 1)) : PW p l e R s m args below meth c (MQ below (va_Qd post (pB G) (pFr G)) args s kc kn (pFr G)) G nL S kc kn LV pc [.double v] :=
  fun H locs ls h hS hl => W.dret C.1 C.2.1 hr (fun t ht _ => ⟨⟨v, S, rfl, hq, by show pHold G S t.heap; rw [ht]; exact h⟩, hS.F ht⟩) hS.2.2 hd C.2.2.2.2.2.2.1
theorem pw_ldc_w (C : pCx p s m args meth c G cc nL own Ts) {v : Int32} {index : Nat} (hc : Jvm.Cond.constant own index v ∈ Ts) (hd : decode cc pc = .ok (.ldc_w index, 3)) (k : PW p l e R s m args below meth c Q G nL S kc kn LV (pc + 3) (.int v :: st)) : PW p l e R s m args below meth c Q G nL S kc kn LV pc st := fun H locs ls h hS hl => lv_ldcw C.1 C.2.1 C.2.2.2.1 (C.2.2.2.2.1 _ hc) hd (k H locs ls h hS hl)
end PWD
/-! the law's own: rows of doubles, the script, calls that throw and their catching -/
section PWLaw
variable {p : Program} {l : Launch} {e : Env} {R : Room} {s : State} {m : MethodId} {args : Array Value} {below : List Frame} {meth : Method} {c : Code} {Q : State → Prop} {G : PG} {nL : Nat} {S : PS} {kc kn : Nat} {LV : List (Nat × Value)} {pc : Nat} {st : List Value} {cc : ByteArray} {own : String} {Ts : List Cond} {a : Nat} {i : Int32}
theorem pw_dald (C : pCx p s m args meth c G cc nL own Ts) (ha : pK S a = 18) (hin : vp_in i (pL S a)) (hd : decode cc pc = .ok (.daload, 1)) (kk : PW p l e R s m args below meth c Q G nL S kc kn LV (pc + 1) (.double (pJ S a i.toNatClampNeg).toUInt64 :: st)) : PW p l e R s m args below meth c Q G nL S kc kn LV pc (.int i :: .ref (G.2.2 + a) :: st) := by
  intro H locs ls h hS hl
  obtain ⟨L, k, hP, hD, hk⟩ := pHold_at h (a := a) (by omega)
  rw [pE_rowD G S ha] at hk
  exact va_dald C.1 C.2.1 C.2.2.2.2.2.1 hP k 6 hk rfl hin hd (kk H locs ls h hS hl)
theorem pw_dast (C : pCx p s m args meth c G cc nL own Ts) (ha : pK S a = 18) (hin : vp_in i (pL S a)) {x : UInt64} (hd : decode cc pc = .ok (.dastore, 1)) (kk : PW p l e R s m args below meth c Q G nL (sJ S a i.toNatClampNeg x.toInt64) kc kn LV (pc + 1) st) : PW p l e R s m args below meth c Q G nL S kc kn LV pc (.double x :: .int i :: .ref (G.2.2 + a) :: st) := by
  intro H locs ls h hS hl
  obtain ⟨L, k, hP, hD, hk⟩ := pHold_at h (a := a) (by omega)
  rw [pE_rowD G S ha] at hk
  refine W.dast C.1 C.2.1 (hP k _ hk) ((C.2.2.2.2.2.1.2 6 _ rfl).1 _ _) (fun q => by cases q) (by show ¬ (i < 0 ∨ (arrV _ _ _).slots.size ≤ _); rw [arrV_size]; exact hin) rfl rfl hd fun H1 e z oq => ?_
  refine kk H1 _ ls (pHold_set h (by omega) rfl (fun _ => rfl) (fun _ _ => rfl) (fun _ _ _ => rfl) (fun x j hx => by rw [pJ_sJ, if_neg (fun q => hx q.1)]) (fun _ _ _ => rfl) ?_ z oq) (hS.put z oq (by show G.2.2 ≤ G.2.2 + a; omega)) hl
  rw [pE_rowD G (sJ S a i.toNatClampNeg x.toInt64) (a := a) ha]
  show H1[G.2.2 + a]? = some (vp_cell _ _)
  rw [e, vp_cell_d, vp_cell_d, arrV_store]
  show some (arrV _ _ _) = some (arrV _ _ _)
  congr 2
  funext q
  rw [pJ_sJ]
  by_cases hq : q = i.toNatClampNeg
  · subst hq; simp [updV]
  · simp [updV, hq]
theorem pHold_newD {H H1 : Heap} (h : pHold G S H) {N : Nat} (e1 : H1[H.size]? = some (arrV (G.2.1 18) N (fun _ => .double 0))) (z : H1.size = H.size + 1) (oq : ∀ q : Nat, q < H.size → H1[q]? = H[q]?) : pHold G (sNew S 18 N) H1 := by
  have hs := pHold_sz h
  refine pHold_new h ?_ z oq
  rw [hs, pE_rowD G (sNew S 18 N) (a := pN S) (by rw [pK_sNew, if_pos rfl]), ← hs]
  show H1[H.size]? = some (vp_cell _ _)
  rw [vp_cell_d, e1, pL_sNew, if_pos rfl]
  congr 2
  funext j
  rw [pJ_sNew, if_pos rfl]
  rfl
theorem pw_newaD (C : pCx p s m args meth c G cc nL own Ts) {N : Nat} {n : Int32} (harr : Cond.arrayClass (newarray.typeOf .double) ∈ Ts) (hn : ¬ n < 0) (hN : n.toNatClampNeg = N) (hbytes : N * componentBytes (newarray.typeOf .double) ≤ 536870912) {kc2 kn2 : Nat} (e1 : kc + 1 = kc2) (e2 : kn + N = kn2) (hcells : kc2 ≤ R.cells) (hslots : kn2 ≤ R.slots) (hd : decode cc pc = .ok (.newarray .double, 2))
    (kk : PW p l e R s m args below meth c Q G nL (sNew S 18 N) kc2 kn2 LV (pc + 2) (.ref (G.2.2 + pN S) :: st)) : PW p l e R s m args below meth c Q G nL S kc kn LV pc (.int n :: st) := by
  intro H locs ls h hS hl
  subst e1; subst e2
  have hs := pHold_sz h
  refine va_newaK C.1 C.2.1 (C.2.2.2.2.1 _ harr) rfl hd rfl hn hN hbytes hcells hslots hs fun H1 cA f1 z1 o1 hAr hNm => ?_
  have hcA : cA = G.2.1 18 := Option.some.inj (hNm.symm.trans (C.2.2.2.2.2.1.2 6 _ rfl).2)
  subst hcA
  exact kk H1 locs ls (pHold_newD h (by rw [hs]; exact f1) (by rw [z1, hs]) (fun q hq => o1 q (by rw [← hs]; exact hq))) ⟨Nat.le_trans hS.1 (by omega), fun x h1 h2 => (o1 x (by have := hS.1; omega)).trans (hS.2.1 x h1 h2), hS.2.2⟩ hl
theorem pw_sld (C : pCx p s m args meth c G cc nL own Ts) {b L : Nat} {xs : Nat → Int32} (hX : va_X b L xs s s.heap) (hb : b < s.heap.size) (hbG : b < G.2.2) (hin : vp_in i L) (hd : decode cc pc = .ok (.iaload, 1)) (kk : PW p l e R s m args below meth c Q G nL S kc kn LV (pc + 1) (.int (xs i.toNatClampNeg) :: st)) : PW p l e R s m args below meth c Q G nL S kc kn LV pc (.int i :: .ref b :: st) := fun H locs ls h hS hl => va_sld C.1 C.2.1 hX hb (by show ¬ G.2.2 ≤ b; omega) hS hin hd (kk H locs ls h hS hl)
theorem pw_slenX (C : pCx p s m args meth c G cc nL own Ts) {b L : Nat} {xs : Nat → Int32} (hX : va_X b L xs s s.heap) (hb : b < s.heap.size) (hbG : b < G.2.2) (hd : decode cc pc = .ok (.arraylength, 1)) (kk : PW p l e R s m args below meth c Q G nL S kc kn LV (pc + 1) (.int (Int32.ofNat L) :: st)) : PW p l e R s m args below meth c Q G nL S kc kn LV pc (.ref b :: st) := fun H locs ls h hS hl => va_slen C.1 C.2.1 hX hb (by show ¬ G.2.2 ≤ b; omega) hS hd (kk H locs ls h hS hl)
/-- a call of a method that may throw, over every heap that holds S -/
def PRunX (p : Program) (l : Launch) (e : Env) (R : Room) (s : State) (m : MethodId) (args : Array Value) (below : List Frame) (meth : Method) (c : Code) (G : PG) (nL : Nat) (S : PS) (kc kn mc ms : Nat) (LV : List (Nat × Value)) (pc : Nat) (stk st : List Value) (Qa : State → Outcome → State → Prop) (XC : String → State → State → Prop) : Prop :=
  ∀ (H : Heap) (locs : List Loc) (ls : Array Slot), pHold G S H → va_S (fun q => G.2.2 ≤ q) s.heap H locs → lv_has ls nL LV → vx_Run p l e R s m args below meth c H locs kc kn mc ms (F0 m pc ls stk) st Qa XC (pFr G)
/-- an exception of a class flies -/
def PX (p : Program) (l : Launch) (e : Env) (R : Room) (s : State) (m : MethodId) (args : Array Value) (below : List Frame) (meth : Method) (c : Code) (Q : State → Prop) (G : PG) (nL : Nat) (E : String) (S : PS) (kc kn : Nat) (LV : List (Nat × Value)) (pc : Nat) (st : List Value) : Prop :=
  ∀ (H : Heap) (locs : List Loc) (ls : Array Slot) (q : Addr) (ce : Cell), pHold G S H → va_S (fun q => G.2.2 ≤ q) s.heap H locs → lv_has ls nL LV → H[q]? = some ce → ce.vm = .none → s.vm.findClass E = some ce.cls → vx_W p l e R s m args below meth c H locs kc kn Q (F0 m pc ls st) q
variable {y : MethodName} {bytes : ByteArray} {maxL n index ci N mc ms : Nat} {ret : Option FieldType} {ws : List Cond} {rm : Room} {CN : String} {T : u_T} {ty0 : Nat → FieldType} {As stk : List Value} {Qc : Array Value → State → Outcome → State → Prop} {XC : String → State → State → Prop}
theorem pRunXV (C : pCx p s m args meth c G cc nL own Ts) (hM : vx_Met l y ws rm (pPre G S (.ref (G.2.2 + a) :: As)) Qc XC rm.cells rm.slots (pFr G)) (cw : CallW R s args own CN index y bytes maxL ret ws rm rm.cells rm.slots n) (hc : pCl ci CN T N ty0) (ha : pK S a = ci + 1) (hn : As.length = n) (hst : stk = As.reverse ++ .ref (G.2.2 + a) :: st) (hw : (st.map fun v => v.category).sum ≤ 8) (hd : decode cc pc = .ok (.invokevirtual index, 3)) (hf : kc + rm.cells ≤ R.cells ∧ kn + rm.slots ≤ R.slots) :
    PRunX p l e R s m args below meth c G nL S kc kn rm.cells rm.slots LV pc stk st (Qc (.ref (G.2.2 + a) :: As).toArray) XC := by
  intro H locs ls h hS hl
  obtain ⟨L, i, hP, hD, hi⟩ := pHold_at h (a := a) (by omega)
  rw [pE_obj G S ha hc.2.1] at hi
  exact vx_runV ⟨C.1, C.2.1, C.2.2.1, C.2.2.2.1, C.2.2.2.2.1⟩ hM cw ⟨pPre_blind G S _, va_recv C.2.2.2.2.2.1 hP hc.1 hi, fun U hU hW => ⟨rfl, by rw [hU]; exact h, va_K.moved hW.alike C.2.2.2.2.2.1, pZ_go C hU hW h hS⟩⟩ rfl hn hl.1 hst (lv_room hw) hd hf
variable {av : Array Value} {px : String → PS → Prop}
theorem pw_callxi {post : Int32 → PS → Prop} (hr : PRunX p l e R s m args below meth c G nL S kc kn mc ms LV pc stk st (va_Qi post (pB G) (pFr G) av) (pXC G px)) {kc2 kn2 : Nat} (e1 : kc + mc = kc2) (e2 : kn + ms = kn2) (kx : ∀ (E : String) (S' : PS), px E S' → PX p l e R s m args below meth c Q G nL E S' kc2 kn2 LV pc st) (kk : ∀ (r : Int32) (S' : PS), post r S' → PW p l e R s m args below meth c Q G nL S' kc2 kn2 LV (pc + 3) (.int r :: st)) : PW p l e R s m args below meth c Q G nL S kc kn LV pc stk :=
  fun H locs ls h hS hl => vx_calli (hr H locs ls h hS hl) hS (fun _ _ h2 => h2) (fun _ h2 => h2) (fun _ _ h2 => h2)
    (fun E ce q9 u t H1 locs1 ht _ _ hB _ _ hS1 hc hv hcl => by subst ht; subst e1; subst e2; exact kx E u hB.1 _ locs1 ls q9 ce hB.2 hS1 hl hc hv hcl)
    (fun r u t H1 locs1 ht _ hp hB _ _ hS1 => by subst ht; subst e1; subst e2; exact kk r u hp _ locs1 ls hB hS1 hl)
theorem pw_callxd {post : UInt64 → PS → Prop} (hr : PRunX p l e R s m args below meth c G nL S kc kn mc ms LV pc stk st (va_Qd post (pB G) (pFr G) av) (pXC G px)) {kc2 kn2 : Nat} (e1 : kc + mc = kc2) (e2 : kn + ms = kn2) (kx : ∀ (E : String) (S' : PS), px E S' → PX p l e R s m args below meth c Q G nL E S' kc2 kn2 LV pc st) (kk : ∀ (r : UInt64) (S' : PS), post r S' → PW p l e R s m args below meth c Q G nL S' kc2 kn2 LV (pc + 3) (.double r :: st)) : PW p l e R s m args below meth c Q G nL S kc kn LV pc stk :=
  fun H locs ls h hS hl => vx_calld (hr H locs ls h hS hl) hS (fun _ _ h2 => h2) (fun _ h2 => h2) (fun _ _ h2 => h2)
    (fun E ce q9 u t H1 locs1 ht _ _ hB _ _ hS1 hc hv hcl => by subst ht; subst e1; subst e2; exact kx E u hB.1 _ locs1 ls q9 ce hB.2 hS1 hl hc hv hcl)
    (fun r u t H1 locs1 ht _ hp hB _ _ hS1 => by subst ht; subst e1; subst e2; exact kk r u hp _ locs1 ls hB hS1 hl)
theorem pw_calld {post : UInt64 → PS → Prop} (hr : PRun p l e R s m args below meth c G nL S kc kn mc ms LV pc stk st (va_Qd post (pB G) (pFr G) av)) {kc2 kn2 : Nat} (e1 : kc + mc = kc2) (e2 : kn + ms = kn2) (kk : ∀ (r : UInt64) (S' : PS), post r S' → PW p l e R s m args below meth c Q G nL S' kc2 kn2 LV (pc + 3) (.double r :: st)) : PW p l e R s m args below meth c Q G nL S kc kn LV pc stk :=
  fun H locs ls h hS hl => va_calld (hr H locs ls h hS hl) hS (fun _ _ h2 => h2) (fun _ h2 => h2) (fun r u t H1 locs1 ht _ hp hB _ _ hS1 => by subst ht; subst e1; subst e2; exact kk r u hp _ locs1 ls hB hS1 hl)
theorem px_catch (C : pCx p s m args meth c G cc nL own Ts) {E name : String} (pre : List ExceptionTableEntry) (x : ExceptionTableEntry) (suf : List ExceptionTableEntry) (hsplit : c.exceptionTable.toList = pre ++ x :: suf) (hpass : ∀ z ∈ pre, covers z pc = false ∨ (z.catchType ≠ 0 ∧ ∃ nm : String, (Cond.classLink own z.catchType nm).before args s = true ∧ va_Nc E nm s)) (hx : covers x pc = true) (h0 : x.catchType ≠ 0) (hlink : Cond.classLink own x.catchType name ∈ Ts) (hcast : va_Nw (.castable E name) s)
    (kk : ∀ q : Nat, PW p l e R s m args below meth c Q G nL S kc kn LV x.handlerPc [.ref q]) : PX p l e R s m args below meth c Q G nL E S kc kn LV pc st :=
  fun H locs ls q ce h hS hl hc hv hcl => vx_catch C.2.2.2.1 pre x suf hsplit hpass hx h0 (C.2.2.2.2.1 _ hlink) (va_Nw.use rfl hcast) hc hv hcl (kk q H locs ls h hS hl)
end PWLaw
theorem met_of_vx {l : Launch} {y : MethodName} {ws : List Cond} {rm : Room} {Pc : Array Value → State → Prop} {Qc : Array Value → State → Outcome → State → Prop} {mc ms : Nat} {free : Addr → Prop} (h : vx_Met l y ws rm Pc Qc (fun _ _ _ => False) mc ms free) : Met l y ws rm Pc Qc mc ms free := by
  intro p e h1 h2 h3 s m args below h4 h5 h6 h7
  obtain ⟨n, o, q1, q2, q3, q4⟩ := h p e h1 h2 h3 s m args below h4 h5 h6 h7
  refine ⟨n, o, q1, q2, q3, ?_⟩
  rcases q4 with q4 | ⟨q, -, E, ce, L, hF, -⟩
  · exact q4
  · exact hF.elim
theorem met_ofH {l : Launch} {y : MethodName} {ws ws' : List Cond} {rm : Room} {G : PG} {S : PS} {av : List Value} {Qc : Array Value → State → Outcome → State → Prop} {cc : ByteArray} {maxL : Nat} {ret : Option FieldType} {hh : List (Nat × Nat × Nat × Nat)} (hy : plainName y.cls = true) (hw : ws = Cond.codeWith y cc maxL ret hh :: ws') (hlen : (lg_sl av).length ≤ maxL)
    (body : ∀ (p : Program) (e : Env) (s : State) (m : MethodId) (args : Array Value) (below : List Frame) (meth : Method) (c : Code), pCx p s m args meth c G cc maxL y.cls ws → c.exceptionTable.toList = tableOf hh → meth.sig.returnType = ret → meth.name = y.name → PW p l e rm s m args below meth c (vx_MQ below Qc (fun _ _ _ => False) args s rm.cells rm.slots (pFr G)) G maxL S 0 0 (lv_args 0 av) 0 []) :
    Met l y ws rm (pPre G S av) Qc rm.cells rm.slots (pFr G) := by
  refine met_of_vx (vx_ofWH hy hw ?_)
  intro p e s m args below meth c s₁ B hml hv
  obtain ⟨rfl, hP, hK, hZ, hZk⟩ := hv
  have hts := atoms_spec (ws := ws) B.pre
  have hT := vx_table (x := y) B (hts _ (by rw [hw]; exact List.mem_cons_self))
  rw [lg_entry_eq]
  exact body p e s m _ below meth c ⟨B.exec, B.bytes, hml, findClass_of_methodNamed B.named, hts, hK, B.notSynchronized, pHold_base hP, hZ, hZk⟩ hT B.returns (name_of_methodNamed B.named B.method).1 s.heap [] _ hP va_S.rf (lv_entry av hlen)
/-- which exceptions are which, says Z -/
def ZE (G : PG) : Prop := ∀ (U : State) (H : Heap), G.1.2 U H → (va_Nw (.castable "java/lang/IllegalStateException" "java/lang/IllegalStateException") U ∧ va_Nw (.castable "java/lang/IndexOutOfBoundsException" "java/lang/IndexOutOfBoundsException") U ∧ va_Nw (.castable "java/lang/IllegalArgumentException" "java/lang/IllegalArgumentException") U ∧ va_Nw (.castable "java/util/NoSuchElementException" "java/util/NoSuchElementException") U) ∧ va_Nc "java/lang/IllegalArgumentException" "java/lang/IndexOutOfBoundsException" U ∧ va_Nc "java/util/NoSuchElementException" "java/lang/IndexOutOfBoundsException" U ∧ va_Nc "java/util/NoSuchElementException" "java/lang/IllegalArgumentException" U ∧ va_Nc "java/lang/IllegalStateException" "java/lang/IndexOutOfBoundsException" U ∧ va_Nc "java/lang/IllegalStateException" "java/lang/IllegalArgumentException" U
section PWLw
variable {p : Program} {l : Launch} {e : Env} {R : Room} {s : State} {m : MethodId} {args : Array Value} {below : List Frame} {meth : Method} {c : Code} {Q : State → Prop} {G : PG} {nL : Nat} {S : PS} {kc kn : Nat} {LV : List (Nat × Value)} {pc : Nat} {st : List Value} {cc : ByteArray} {own : String} {Ts : List Cond}
variable {y : MethodName} {bytes : ByteArray} {maxL n index : Nat} {ret : Option FieldType} {ws : List Cond} {rm : Room} {hh : List (Nat × Nat × Nat × Nat)} {As stk : List Value} {Qc : Array Value → State → Outcome → State → Prop}
theorem pRunSW (C : pCx p s m args meth c G cc nL own Ts) (hM : Met l y ws rm (pPre G S As) Qc rm.cells rm.slots (pFr G)) (cw : vx_CSW R s args own index y bytes maxL ret hh ws rm rm.cells rm.slots n) (hn : As.length = n) (hst : stk = As.reverse ++ st) (hw : (st.map fun v => v.category).sum ≤ 8) (hd : decode cc pc = .ok (.invokestatic index, 3)) (hf : kc + rm.cells ≤ R.cells ∧ kn + rm.slots ≤ R.slots) :
    PRun p l e R s m args below meth c G nL S kc kn rm.cells rm.slots LV pc stk st (Qc As.toArray) := by
  intro H locs ls h hS hl
  exact vx_runSW ⟨C.1, C.2.1, C.2.2.1, C.2.2.2.1, C.2.2.2.2.1⟩ hM cw ⟨pPre_blind G S _, fun U hU hW => ⟨rfl, by rw [hU]; exact h, va_K.moved hW.alike C.2.2.2.2.2.1, pZ_go C hU hW h hS⟩⟩ rfl hn hl.1 hst (lv_room hw) hd hf
theorem pw_dload (C : pCx p s m args meth c G cc nL own Ts) (q : Nat) {x : UInt64} {i : Nat} (hd : decode cc pc = .ok (.dload i, 2)) (hq : LV[q]? = some (i, .double x)) (k : PW p l e R s m args below meth c Q G nL S kc kn LV (pc + 2) (.double x :: st)) : PW p l e R s m args below meth c Q G nL S kc kn LV pc st := fun H locs ls h hS hl => lv_dload C.1 C.2.1 hd (lv_at hl q hq) (k H locs ls h hS hl)
theorem pw_dstore (C : pCx p s m args meth c G cc nL own Ts) (LV2 : List (Nat × Value)) {x : UInt64} {i : Nat} (hd : decode cc pc = .ok (.dstore i, 2)) (hn : i + 1 < nL) (he : (i, Value.double x) :: LV.filter (fun q => !(q.1 == i) && (!(q.1 == i + 1) && !(q.1 + 1 == i && q.2.category == 2))) = LV2) (k : PW p l e R s m args below meth c Q G nL S kc kn LV2 (pc + 2) st) : PW p l e R s m args below meth c Q G nL S kc kn LV pc (.double x :: st) := fun H locs ls h hS hl => lv_dstore C.1 C.2.1 hd hl hn he (fun ls' hl' => k H locs ls' h hS hl')
theorem pw_dcmp (C : pCx p s m args meth c G cc nL own Ts) {x y : UInt64} {op : CmpOp} (hd : decode cc pc = .ok (.dcmp op, 1)) (k : PW p l e R s m args below meth c Q G nL S kc kn LV (pc + 1) (.int (Op.cmpValue (FP.dcmp x y) op) :: st)) : PW p l e R s m args below meth c Q G nL S kc kn LV pc (.double y :: .double x :: st) := fun H locs ls h hS hl => lv_dcmp C.1 C.2.1 hd (k H locs ls h hS hl)
end PWLw
/-! a throw of an exception whose constructor hands its text on by another entry than the others do (NoSuchElementException): after the library's laws for the chains of one entry -/
def q_chain (X Y : String) (r : List String) (ix : Nat) (rx : ByteArray) : List Cond := Bundle.passSAtoms X Y ix rx ++ Bundle.chainSAtoms Y r
def q_atoms (own : String) (ic : Nat) (X Y : String) (r : List String) (ix : Nat) (rx : ByteArray) : List Cond :=
  Bundle.throwableAtoms ++ Bundle.throwableSAtoms ++ q_chain X Y r ix rx ++
  [.methodLink own ic (Bundle.initS X), .instantiable X 6, .castable X X, .selects X Bundle.tFill0 Bundle.tFill0, .selects X Bundle.tFill Bundle.tFill,
   .lays X Bundle.tN "cause" "Ljava/lang/Throwable;", .lays X Bundle.tN "stackTrace" Bundle.steD, .lays X Bundle.tN "suppressedExceptions" Bundle.listD, .lays X Bundle.tN "detailMessage" "Ljava/lang/String;",
   .isRef (.static Bundle.tN "UNASSIGNED_STACK" Bundle.steD), .isRef (.static Bundle.tN "SUPPRESSED_SENTINEL" Bundle.listD),
   .fieldLink Bundle.tN 198 Bundle.tN "backtrace" "Ljava/lang/Object;", .lays Bundle.tN Bundle.tN "backtrace" "Ljava/lang/Object;", .lays X Bundle.tN "backtrace" "Ljava/lang/Object;"]
def q_atS (own : String) (ic : Nat) (X Y : String) (r : List String) (ix : Nat) (rx : ByteArray) : List Cond := (q_atoms own ic X Y r ix rx).filter vx_no
section QTH
variable {p : Program} {l : Launch} {e : Env} {R : Room} {s : State} {m₀ : MethodId} {args : Array Value} {below : List Frame} {meth : Method} {c : Code} {W0 : State} {locs : List Loc} {cells slots : Nat}
set_option maxHeartbeats 2000000 in
theorem q_ctorX (X : Stand p l e R s m₀ args below meth c W0 locs cells slots) (hexec : p.tables.exec = Jvm.exec) (htr : e.platform.stackTraces = false) {own cls Y1 : String} {r1 : List String} {ic ix : Nat} {rx : ByteArray}
    (x0 : decode rx 0 = .ok (.aload_n 0, 1)) (x1 : decode rx 1 = .ok (.aload_n 1, 1)) (x2 : decode rx 2 = .ok (.invokespecial ix, 3)) (x5 : decode rx 5 = .ok (.return_, 1))
    (hown : s.vm.findClass own = some m₀.cls) (hcls : Bundle.fit cls = true) (hY1 : Bundle.fit Y1 = true) (hnames : ∀ n ∈ r1, Bundle.fit n = true)
    (h : ∀ a ∈ q_atoms own ic cls Y1 r1 ix rx, a.before args s = true)
    (hlocs : ∀ x ∈ locs, ∀ cell, s.heap[x.base]? = some cell → cell.vm.isStatics = false)
    {a : Addr} {cX : ClassId} {kX : Class} (hfoundX : s.vm.findClass cls = some cX) (hkX : s.vm.classes[cX]? = some kX) (hcell : W0.heap[a]? = some (freshCell cX kX)) (hnew : s.heap.size ≤ a)
    {msg : Value} (hmsg : msg.isRef = true)
    {g : JFrame} (hg : g.method = m₀) (hsize : g.locals.size = c.maxLocals) (hlocked : g.locked = none) (hentered : g.entered = []) {rest : List Value} (hstack : g.stack = msg :: .ref a :: .ref a :: rest)
    (hd6 : decode c.code g.pc = .ok (.invokespecial ic, 3)) (hd9 : decode c.code (g.pc + 3) = .ok (.athrow, 1)) (hout : ∀ x ∈ c.exceptionTable.toList, covers x (g.pc + 3) = false)
    (hRframes : (Y1 :: r1).length + 3 < R.frames) (hRlocals : 2 * g.monitorRoom + ((Value.ref a :: rest).map fun v => v.category).sum + (13 * ((Y1 :: r1).length + 1) + 42) ≤ R.locals) (hlocks : meth.locks = false) :
    ∃ U : State, Steps p.tables e below (W0.setTop g) U ∧ U.status = .running ∧ Ended U below (.threw a) ∧ s.WarmedH U.vm ∧ s.sameButNew ({ U with vm := s.vm } : State) locs cells slots ∧
      ∃ ce, U.heap[a]? = some ce ∧ s.vm.findClass cls = some ce.cls ∧ ce.vm = .none := by
  have howns : e.platform.frameOwnsMonitors = true := by rw [X.admits.platform]
  have hfin : e.platform.finalization = false := by rw [X.admits.platform]
  have hpl : e.platform.magicAccessors = ({} : Platform).magicAccessors := by rw [X.admits.platform]
  have a' : ∀ x, x ∈ q_atoms own ic cls Y1 r1 ix rx → x.holds args s none s [] = true := fun x hx => h x hx
  obtain ⟨T, Z0, L, -, Y⟩ := ThrowableC.of_atoms (args := args) howns hfin hpl (fun x hx => h x (by simp [q_atoms, hx]))
  obtain ⟨Z, M, LZ, LM, hnZ⟩ := Init0T.ofS_atoms (args := args) hpl L Y (fun x hx => h x (by simp [q_atoms, hx]))
  obtain ⟨P1, L1, hP1m, hs1⟩ := PassC.ofS_atoms (args := args) (s := s) hpl (X := cls) (Y := Y1) (Bundle.fit_spec hcls).1 (Bundle.fit_spec hY1).2 x0 x1 x2 x5 (fun x hx => h x (by simp [q_atoms, q_chain, hx]))
  obtain ⟨P2, Ps, hlen, L2, hL, hP2m, hlink1, hlink⟩ := Bundle.chainS (args := args) hpl hnZ r1 Y1 hY1 hnames (fun x hx => h x (by simp [q_atoms, q_chain, hx]))
  have hsup : P1.sup = P2.m := Option.some.inj (hs1.symm.trans hP2m)
  have hfound : s.vm.findClass cls = some P1.m.cls := findClass_of_methodNamed hP1m
  cases Option.some.inj (hfoundX.symm.trans hfound)
  obtain ⟨c1, kX', hc1, hk, hord, -, -, hn6⟩ := Cond.instantiable_spec (a' (.instantiable cls 6) (by simp [q_atoms]))
  cases Option.some.inj (hc1.symm.trans hfound)
  cases Option.some.inj (hkX.symm.trans hk)
  have hsel0 : selectMethod e.platform s.vm P1.m.cls T.fill0 = .method T.fill0 := by
    obtain ⟨c2, r2, m2, q1, q2, q3, q4, -⟩ := Cond.selects_spec (a' (.selects cls Bundle.tFill0 Bundle.tFill0) (by simp [q_atoms]))
    cases Option.some.inj (q1.symm.trans hfound)
    cases Option.some.inj (q2.symm.trans (State.methodFound?_of_named Y.fill0 (by decide)))
    cases Option.some.inj (q3.symm.trans Y.fill0)
    rw [Launch.admits_selectMethod X.admits]; exact q4
  have hselF : selectMethod e.platform s.vm P1.m.cls T.fill = .method T.fill := by
    obtain ⟨c2, r2, m2, q1, q2, q3, q4, -⟩ := Cond.selects_spec (a' (.selects cls Bundle.tFill Bundle.tFill) (by simp [q_atoms]))
    cases Option.some.inj (q1.symm.trans hfound)
    cases Option.some.inj (q2.symm.trans (State.methodFound?_of_named Y.fill (by decide)))
    cases Option.some.inj (q3.symm.trans Y.fill)
    rw [Launch.admits_selectMethod X.admits]; exact q4
  obtain ⟨cellS0, hcS0, hiss⟩ := Y.statics
  obtain ⟨u0, hu0⟩ := Cond.staticRefV Y.unassigned L.unassignedStatic L.statics hcS0 hiss (a' (.isRef (.static Bundle.tN "UNASSIGNED_STACK" Bundle.steD)) (by simp [q_atoms]))
  obtain ⟨sen, hsen⟩ := Cond.staticRefV Y.sentinel L.sentinelStatic L.statics hcS0 hiss (a' (.isRef (.static Bundle.tN "SUPPRESSED_SENTINEL" Bundle.listD)) (by simp [q_atoms]))
  obtain ⟨ci198, i198, fB, hk198, hg198, ha198, hsB, -, hnB, htB, hffB⟩ := Cond.ownField (t := .object "java/lang/Object") Y.found L.cls (by decide +kernel) (a' (.fieldLink Bundle.tN 198 Bundle.tN "backtrace" "Ljava/lang/Object;") (by simp [q_atoms])) (a' (.lays Bundle.tN Bundle.tN "backtrace" "Ljava/lang/Object;") (by simp [q_atoms])) e.platform hpl
  obtain ⟨cellS, hcS', heS, -, hkeep⟩ := X.same.2.2.2.2.2 T.aS cellS0 hcS0
  have hcellS : W0.heap[T.aS]? = some cellS := hcS'
  have hout' : ∀ i, (⟨T.aS, i⟩ : Loc) ∉ locs := fun i hmem => by
    have := hlocs _ hmem cellS0 hcS0
    rw [hiss] at this; cases this
  have hknownS : cellS.vm ≠ .unknown := by
    rw [heS]; intro hu
    rw [show cellS0.vm = .unknown from hu] at hiss
    cases hiss
  have hneS : T.aS ≠ a := Nat.ne_of_lt (Nat.lt_of_lt_of_le (Array.getElem?_eq_some_iff.mp hcS0).1 hnew)
  obtain ⟨iM, hffM⟩ := Y.msg
  obtain ⟨tyC, dC, hdC, hdnC⟩ := Cond.laysAt hfound hk Y.cause (a' (.lays cls Bundle.tN "cause" "Ljava/lang/Throwable;") (by simp [q_atoms]))
  obtain ⟨tyS, dS, hdS, hdnS⟩ := Cond.laysAt hfound hk Y.stack (a' (.lays cls Bundle.tN "stackTrace" Bundle.steD) (by simp [q_atoms]))
  obtain ⟨tyP, dP, hdP, hdnP⟩ := Cond.laysAt hfound hk Y.supp (a' (.lays cls Bundle.tN "suppressedExceptions" Bundle.listD) (by simp [q_atoms]))
  obtain ⟨tyM, dM, hdM, hdnM⟩ := Cond.laysAt hfound hk hffM (a' (.lays cls Bundle.tN "detailMessage" "Ljava/lang/String;") (by simp [q_atoms]))
  obtain ⟨tyB, dB, hdB, hdnB⟩ := Cond.laysAt hfound hk hffB (a' (.lays cls Bundle.tN "backtrace" "Ljava/lang/Object;") (by simp [q_atoms]))
  have bC := Cond.laysApart hdB hdC hdnB hdnC (by rw [hnB, Y.causeName]; decide)
  have bS := Cond.laysApart hdB hdS hdnB hdnS (by rw [hnB, Y.stackName]; decide)
  have bP := Cond.laysApart hdB hdP hdnB hdnP (by rw [hnB, Y.suppName]; decide)
  have hskip : SkipFacts T e.platform s (fun u => u) u0 ((preparedCellV T.toThrowableT (freshCell P1.m.cls kX) a u0 sen).withEntry W0.cur) :=
    ⟨{ ci198 := ci198, i198 := i198, fBack := fB }, ⟨hk198, hg198, ha198, hsB⟩, by
      have := fresh_default (c := P1.m.cls) tyB
      rw [htB] at this
      simpa [preparedCellV, Cell.setSlot, Cell.withEntry, Array.getElem?_setIfInBounds, bC, bS, bP, bC.symm, bS.symm, bP.symm, defaultValue] using this, fun _ _ => rfl⟩
  obtain ⟨tm, methC, cdC, kC, vm₁, hnC, -, -, -, -, -, -, -, hW₁, st1⟩ := Steps.initColdS (tb := p.tables) (e := e) (below := below) (s := s) (U := W0) X.here hexec X.warmed hpl hown (t := Bundle.initS cls) rfl rfl (Bundle.fit_spec hcls).2
    (a' (.methodLink own ic (Bundle.initS cls)) (by simp [q_atoms])) (h (.instanceMethod (Bundle.initS cls)) (by simp [q_atoms, q_chain, Bundle.passSAtoms])) (bytes := rx) (maxL := 2) (h (.code (Bundle.initS cls) rx 2 none) (by simp [q_atoms, q_chain, Bundle.passSAtoms]))
    (f := g) hg (a := a) (msg := msg) (rest := .ref a :: rest) hstack hd6
  cases Option.some.inj (hnC.symm.trans hP1m)
  have X₁ := X.noted hW₁
  obtain ⟨vm₂, X₂, st2⟩ := X₁.ctorMessageOffV hexec (g := { g with stack := .ref a :: rest }) hg hsize T L Z LZ M LM (P1 :: P2 :: Ps)
    (fun P hP => by
      rcases List.mem_cons.mp hP with rfl | hP
      · exact L1
      · rcases List.mem_cons.mp hP with rfl | hP
        · exact L2
        · exact hL P hP) ⟨hsup, hlink1, hlink⟩ (u0 := u0) (sen := sen) (self := a) hmsg (cell := freshCell P1.m.cls kX) (cellS := cellS)
    hcell (fun _ => by simp) (by simp) rfl rfl hsel0 hselF hcellS hneS hknownS (by rw [hkeep _ (hout' _)]; exact hu0) (by rw [hkeep _ (hout' _)]; exact hsen)
    (Takes.of_laid hk hord tyC (by rw [Y.causeType]; rfl)) (Takes.of_laid hk hord tyS (by rw [Y.stackType]; exact fits_refV_array _ u0)) (Takes.of_laid hk hord tyP (by rw [Y.suppType]; exact fits_refV_object _ sen))
    (Takes.of_laid hk hord tyM (by rw [Y.msgType]; exact fits_refV_object _ ⟨msg, hmsg⟩)) Y.objLocals hskip htr [] hd6
    (by simp only [List.length_cons, hlen] at hRframes ⊢; omega) (by simp only [List.length_cons, hlen] at hRlocals ⊢; exact hRlocals)
  obtain ⟨hwalk, hrun, hended, hWU, hsame⟩ := X₂.athrowLeaves hexec (g := { g with stack := .ref a :: rest, pc := g.pc + 3 }) hg hlocked hentered hout (a := a) (rest := rest) rfl hd9
  have hlt : a < ((W0.setVm vm₁).setVm vm₂).heap.size := (Array.getElem?_eq_some_iff.mp hcell).1
  have hU := heapAt_setCell_self (s := (W0.setVm vm₁).setVm vm₂) (plainBareV T.toThrowableT (freshCell P1.m.cls kX) a u0 sen msg) hlt
  refine ⟨_, st1 _ (fun acts => ?_), hrun, hended, hWU, hsame.weaken (fun y hy hlt' => ?_) (Nat.le_refl _) (Nat.le_refl _), _, hU, hfound, rfl⟩
  · rw [doInvoke_state]
    exact st2 _ hwalk
  · rcases List.mem_append.mp hy with h1 | h1
    · exact h1
    · exfalso
      have hb : y.base = a := by
        simp only [List.mem_cons, List.not_mem_nil, or_false] at h1
        rcases h1 with rfl | rfl | rfl | rfl | rfl <;> rfl
      rw [hb] at hlt'
      exact Nat.not_lt.mpr hnew hlt'
end QTH
section QTE
variable {p : Program} {l : Launch} {e : Env} {R : Room} {s : State} {m : MethodId} {args : Array Value} {below : List Frame} {meth : Method} {c : Code} {H : Heap} {locs : List Loc} {cells slots : Nat}
variable {free : Addr → Prop} {ls : Array Slot} {rest : List Value} {Qc : Array Value → State → Outcome → State → Prop} {XC : String → State → State → Prop}
/-- 'throw new E("text")' of such a class; n: the bytes of ldc or ldc_w -/
theorem q_throwX {cc : ByteArray} {pc : Nat} (hexec : p.tables.exec = Jvm.exec) (hb : c.code = cc) (hl : l.stackTraces = false) {own cls Y1 text : String} {r1 : List String} {rx : ByteArray} {ik is ic ix mc ms sa : Nat} {A : Nat → Prop}
    (x0 : decode rx 0 = .ok (.aload_n 0, 1)) (x1 : decode rx 1 = .ok (.aload_n 1, 1)) (x2 : decode rx 2 = .ok (.invokespecial ix, 3)) (x5 : decode rx 5 = .ok (.return_, 1))
    (hown : s.vm.findClass own = some m.cls) (hcls : Bundle.fit cls = true) (hY1 : Bundle.fit Y1 = true) (hnames : ∀ n ∈ r1, Bundle.fit n = true)
    (hk : (Cond.classLink own ik cls).before args s = true) (hini : (Cond.initialized cls).before args s = true) (hstr : vk_R own is text sa s) (hat : ∀ w ∈ q_atS own ic cls Y1 r1 ix rx, w.before args s = true)
    (hgood : ∀ w ∈ Cond.classLink own ik cls :: Cond.initialized cls :: q_atS own ic cls Y1 r1 ix rx, vx_ot w = true)
    (hU : vx_Zq Bundle.tN "UNASSIGNED_STACK" Bundle.steD A s s.heap) (hN : vx_Zq Bundle.tN "SUPPRESSED_SENTINEL" Bundle.listD A s s.heap) (hS : va_S A s.heap H locs) (hsize : ls.size = c.maxLocals) {n : Nat}
    (d0 : decode cc pc = .ok (.new ik, 3)) (d3 : decode cc (pc + 3) = .ok (.dup, 1)) (d4 : (decode cc (pc + 4) = .ok (.ldc is, 2) ∧ n = 2) ∨ (decode cc (pc + 4) = .ok (.ldc_w is, 3) ∧ n = 3)) (d6 : decode cc (pc + 4 + n) = .ok (.invokespecial ic, 3)) (d9 : decode cc (pc + 4 + n + 3) = .ok (.athrow, 1))
    (hout : ∀ x ∈ c.exceptionTable.toList, False)
    (hRframes : (Y1 :: r1).length + 3 < R.frames) (hRlocals : (rest.map fun v => v.category).sum + (13 * ((Y1 :: r1).length + 1) + 43) ≤ R.locals) (hRcells : cells + 1 ≤ R.cells) (hRslots : slots + 6 ≤ R.slots) (hlocks : meth.locks = false)
    (hx : ∀ t : State, s.vm.Alike t.vm → H.size ≤ t.heap.size → (∀ q : Nat, q < H.size → t.heap[q]? = H[q]?) → XC cls s t)
    (hf : ∀ z ∈ locs, free z.base) (hc : cells + 1 ≤ mc) (hs : slots + 6 ≤ ms) :
    W p l e R s m args below meth c H locs cells slots (vx_MQ below Qc XC args s mc ms free) (F0 m pc ls rest) := by
  intro T hT X
  have htr : e.platform.stackTraces = false := (show e.platform.stackTraces = l.stackTraces by rw [X.admits.platform]).trans hl
  have Y := vx_rebase X (R' := { frames := R.frames, locals := R.locals, cells := 1, slots := 6 }) (Nat.le_refl _) (Nat.le_refl _) hRcells hRslots
  obtain ⟨s', hA⟩ : ∃ z, z = (T.setVm s.vm).setFrames (.invoking m args :: below) := ⟨_, rfl⟩
  rw [← hA] at Y
  have hvm : s'.vm = s.vm := by rw [hA]; rfl
  have hhp : s'.heap = H := by rw [hA]; exact hT
  have hW0 : s.WarmedH s'.vm := by rw [hvm]; exact State.WarmedH.refl s
  have hat' : ∀ w ∈ q_atS own ic cls Y1 r1 ix rx, w.before args s' = true := fun w hw => vx_ot_at hW0 hvm.symm (hgood w (List.mem_cons_of_mem _ (List.mem_cons_of_mem _ hw))) (hat w hw)
  have hk' : (Cond.classLink own ik cls).before args s' = true := vx_ot_at hW0 hvm.symm (hgood _ List.mem_cons_self) hk
  have hini' : (Cond.initialized cls).before args s' = true := vx_ot_at hW0 hvm.symm (hgood _ (List.mem_cons_of_mem _ List.mem_cons_self)) hini
  have hU' : vx_Zq Bundle.tN "UNASSIGNED_STACK" Bundle.steD A s' s'.heap := by rw [hhp]; exact vx_Zq.moved hW0.alike (hU.kept hS.2.1)
  have hN' : vx_Zq Bundle.tN "SUPPRESSED_SENTINEL" Bundle.listD A s' s'.heap := by rw [hhp]; exact vx_Zq.moved hW0.alike (hN.kept hS.2.1)
  have h : ∀ w ∈ q_atoms own ic cls Y1 r1 ix rx, w.before args s' = true := vx_own hat' (vx_isRefq hU'.1) (vx_isRefq hN'.1) hU'.2.word hN'.2.word
  have hown' : s'.vm.findClass own = some m.cls := by rw [hvm]; exact hown
  have hins : (Cond.instantiable cls 6).before args s' = true := h _ (by simp [q_atoms])
  obtain ⟨vm₁, cX, kX, hfX, hkX, -, -, X₁, st1⟩ := Y.newCold hexec (own := own) (C := cls) (index := ik) (n := 6) hown' hk' hins hini'
    (g := F0 m pc ls rest) rfl (by rw [hb]; exact d0) (Nat.le_refl _) (Nat.le_refl _)
  generalize hT1 : (T.setVm vm₁).pushCell { cls := cX, slots := kX.instanceTypes.map defaultValue, vm := .none } = T1 at X₁ st1
  have hcat : (Value.ref T.heap.size).category = 1 := rfl
  have hcellA : T1.heap[T.heap.size]? = some (freshCell cX kX) := by rw [← hT1]; exact State.heap_pushCell_size _ _
  have d3' : decode c.code (pc + 3) = .ok (.dup, 1) := by rw [hb]; exact d3
  have hstr' : vk_R own is text sa s' := vk_R.warm hW0 hstr
  obtain ⟨U, hsteps, hrun, hend, hW, hsame, ce, hce, hO, hOv⟩ := q_ctorX X₁ hexec htr (own := own) (cls := cls) (Y1 := Y1) (r1 := r1) (ic := ic) x0 x1 x2 x5 hown' hcls hY1 hnames h (fun x hx => nomatch hx) hfX hkX hcellA (by rw [hhp, hT]; exact Nat.le_refl _) (msg := .ref sa) rfl
    (g := { method := m, pc := pc + 4 + n, locals := ls, stack := .ref sa :: .ref T.heap.size :: .ref T.heap.size :: rest, locked := none }) rfl hsize rfl rfl (rest := rest) rfl
    (by rw [hb]; exact d6) (by rw [hb]; exact d9) (fun x hx => (hout x hx).elim) hRframes (by simp only [List.map_cons, List.sum_cons, hcat]; show 2 * 0 + _ + _ ≤ _; omega) hlocks
  obtain ⟨f1, f2⟩ := vx_frame hsame
  rw [hhp] at f1 f2
  have hWs : s.WarmedH U.vm := State.WarmedH.trans hW0 hW
  have hcl : s.vm.findClass cls = some ce.cls := by
    have h9 := hO
    rw [hvm] at h9
    exact h9
  have hall : s.sameButNew ({ U with vm := s.vm } : State) locs mc ms := by
    subst hA
    obtain ⟨e1, e2⟩ := hsame
    rw [State.setFrames_setFrames] at e1
    have h2 : (T.setVm s.vm).sameButNew ({ U with vm := s.vm } : State) [] (0 + 1) (0 + 6) := ⟨e1, e2⟩
    have h3 := X.same.trans h2
    rw [List.append_nil] at h3
    exact h3.mono hc hs
  refine ⟨U, ?_, .threw T.heap.size, hrun, hend, Or.inr ⟨T.heap.size, rfl, cls, ce, locs, hx U hWs.alike f1 (fun q hq => f2 q hq (fun z hz => nomatch hz)), hce, hOv, hcl, hWs, hall, hf⟩⟩
  refine st1 _ ?_
  show Steps p.tables e below (T1.setTop { method := m, pc := pc + 3, locals := ls, stack := .ref T.heap.size :: rest, locked := none }) _
  jvm_step X₁.here [X₁.here.top, hexec, d3', Value.category]
  rcases d4 with ⟨d4, rfl⟩ | ⟨d4, rfl⟩
  · have d4' : decode c.code (pc + 4) = .ok (.ldc is, 2) := by rw [hb]; exact d4
    exact X₁.ldcString hexec (own := own) (text := text) (index := is) (a := sa) hown' hstr'.1 hstr'.2
      (g := { method := m, pc := pc + 4, locals := ls, stack := .ref T.heap.size :: .ref T.heap.size :: rest, locked := none }) rfl d4' _ hsteps
  · have d4' : decode c.code (pc + 4) = .ok (.ldc_w is, 3) := by rw [hb]; exact d4
    exact X₁.ldcStringW hexec (own := own) (text := text) (index := is) (a := sa) hown' hstr'.1 hstr'.2
      (g := { method := m, pc := pc + 4, locals := ls, stack := .ref T.heap.size :: .ref T.heap.size :: rest, locked := none }) rfl d4' _ hsteps
end QTE
def q_rx : ByteArray := ⟨#[0x2a, 0x2b, 0xb7, 0x00, 0x0d, 0xb1]⟩
/-- a throw's words and things for NoSuchElementException, says Z -/
def ZX (G : PG) (own : String) (ik is ic : Nat) (text : String) : Prop := ∀ (U : State) (H : Heap), G.1.2 U H → (∀ a : Array Value, ∀ w ∈ Cond.classLink own ik "java/util/NoSuchElementException" :: Cond.initialized "java/util/NoSuchElementException" :: q_atS own ic "java/util/NoSuchElementException" "java/lang/RuntimeException" ["java/lang/Exception"] 13 q_rx, w.before a U = true) ∧ (∃ sa : Nat, vk_R own is text sa U) ∧ vx_Zq Bundle.tN "UNASSIGNED_STACK" Bundle.steD (pFr G) U H ∧ vx_Zq Bundle.tN "SUPPRESSED_SENTINEL" Bundle.listD (pFr G) U H
section PWTX
variable {p : Program} {l : Launch} {e : Env} {R : Room} {s : State} {m : MethodId} {args : Array Value} {below : List Frame} {meth : Method} {c : Code} {G : PG} {nL : Nat} {S : PS} {kc kn : Nat} {LV : List (Nat × Value)} {pc : Nat} {st : List Value} {cc : ByteArray} {own : String} {Ts : List Cond}
variable {text : String} {ik is ic mc ms : Nat} {Qc : Array Value → State → Outcome → State → Prop} {px : String → PS → Prop}
theorem pw_throwX (C : pCx p s m args meth c G cc nL own Ts) (hl : l.stackTraces = false) (hZ : ZX G own ik is ic text) (hgood : ∀ w ∈ Cond.classLink own ik "java/util/NoSuchElementException" :: Cond.initialized "java/util/NoSuchElementException" :: q_atS own ic "java/util/NoSuchElementException" "java/lang/RuntimeException" ["java/lang/Exception"] 13 q_rx, vx_ot w = true) (hout : ∀ x ∈ c.exceptionTable.toList, False) {n : Nat}
    (d0 : decode cc pc = .ok (.new ik, 3)) (d3 : decode cc (pc + 3) = .ok (.dup, 1)) (d4 : (decode cc (pc + 4) = .ok (.ldc is, 2) ∧ n = 2) ∨ (decode cc (pc + 4) = .ok (.ldc_w is, 3) ∧ n = 3)) (d6 : decode cc (pc + 4 + n) = .ok (.invokespecial ic, 3)) (d9 : decode cc (pc + 4 + n + 3) = .ok (.athrow, 1))
    (hfr : 5 < R.frames) (hlo : (st.map fun v => v.category).sum + 82 ≤ R.locals) (hcells : kc + 1 ≤ R.cells) (hslots : kn + 6 ≤ R.slots) (hc : kc + 1 ≤ mc) (hs : kn + 6 ≤ ms) (h : ∀ n, px "java/util/NoSuchElementException" (sSkip S n)) :
    PW p l e R s m args below meth c (vx_MQ below Qc (pXC G px) args s mc ms (pFr G)) G nL S kc kn LV pc st := by
  intro H locs ls hh hS hl'
  obtain ⟨z1, ⟨sa, z2⟩, z3, z4⟩ := hZ s s.heap C.2.2.2.2.2.2.2.2.1
  exact q_throwX C.1 C.2.1 hl (rx := q_rx) (ix := 13) (by decide +kernel) (by decide +kernel) (by decide +kernel) (by decide +kernel) C.2.2.2.1 (by decide +kernel) (by decide +kernel) (by decide +kernel) (z1 args _ List.mem_cons_self) (z1 args _ (List.mem_cons_of_mem _ List.mem_cons_self)) z2 (fun w hw => z1 args w (List.mem_cons_of_mem _ (List.mem_cons_of_mem _ hw))) hgood z3 z4 hS (hl'.1.trans C.2.2.1.symm) d0 d3 d4 d6 d9 hout hfr hlo hcells hslots C.2.2.2.2.2.2.1
    (fun t _ h1 h2 => ⟨sSkip S (t.heap.size - H.size), trivial, ⟨h _, pHold_skip hh h1 h2⟩, ⟨Nat.le_trans hS.1 h1, fun q hq hA => (h2 q (Nat.lt_of_lt_of_le hq hS.1)).trans (hS.2.1 q hq hA)⟩⟩) hS.2.2 hc hs
end PWTX

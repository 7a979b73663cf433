/-! ===== the judgement Sim and its rows ===== -/
def QR (D : va_G) (cy : ClassId) (ad : Nat → Nat) (sh : List Sh) (A : Nat → Prop) (rt : Option FieldType) (r : Int32) (x' : Mem) : Array Value → State → Outcome → State → Prop := fun _ st oc t =>
  oc = .returned (match rt with | none => none | some _ => some (.int r)) ∧ va_P D vwCl (pic cy ad x' 0 sh) t.heap ∧ va_F A st t
def Cx (p : Program) (s : State) (m : MethodId) (args : Array Value) (meth : Method) (c : Code) (own : String) (cc : ByteArray) (nL : Nat) (rt : Option FieldType) (D : va_G) (cy : ClassId) (ad : Nat → Nat) (sh : List Sh) (A : Nat → Prop) : Prop :=
  CallFix p m c cc nL s args tg own ∧ meth.sig.returnType = rt ∧ meth.locks = false ∧ KK D cy s ∧ (∀ x : Mem, va_D A (pic cy ad x 0 sh)) ∧ ∀ q, s.heap.size ≤ q → A q
def Sim (p : Program) (l : Launch) (e : Env) (Rm : Room) (s : State) (m : MethodId) (args : Array Value) (below : List Frame) (meth : Method) (c : Code) (nL : Nat) (rt : Option FieldType) (D : va_G) (cy : ClassId) (ad : Nat → Nat) (sh : List Sh) (A : Nat → Prop) (pc : Nat) (lv : List (Option Value)) (st : List Value) (x : Mem) (M : Res) : Prop :=
  ∀ (r : Int32) (x' : Mem), M = some (r, x') → ∀ (H : Heap) (locs : List Loc) (ls : Array Slot), LVh ls nL lv → va_P D vwCl (pic cy ad x 0 sh) H → va_S A s.heap H locs →
    W p l e Rm s m args below meth c H locs 0 0 (MQ below (QR D cy ad sh A rt r x') args s 0 0 A) (F0 m pc ls st)
def chk {α : Type} (i : Int32) (n : Nat) (M : Option α) : Option α := if i < 0 ∨ n ≤ i.toNatClampNeg then none else M
def nz {α : Type} (y : Int32) (M : Option α) : Option α := if y = 0 then none else M
def letv {α : Type} (v : Int32) (K : Int32 → Option α) : Option α := K v
def clp {α : Type} (M : Option Int32) (K : Int32 → Option α) : Option α := match M with
  | none => none
  | some r => K r
def jn {κ α : Type} (body : κ → Option α) (K : κ) : Option α := body K
def pr (o : Option Int32) (x : Mem) : Res := match o with
  | none => none
  | some v => some (v, x)
def retzp (v : Int32) : Option Int32 := if v = 0 ∨ v = 1 then some v else none
def letm (x : Mem) (K : Mem → Res) : Res := K x
def cl (M : Res) (K : Int32 → Mem → Res) : Res := match M with
  | none => none
  | some q => K q.1 q.2
def retz (v : Int32) (x : Mem) : Res := if v = 0 ∨ v = 1 then some (v, x) else none
section SIM
variable {p : Program} {l : Launch} {e : Env} {Rm : Room} {s : State} {m : MethodId} {args : Array Value} {below : List Frame} {meth : Method} {c : Code} {own : String} {cc : ByteArray} {nL : Nat} {rt : Option FieldType} {D : va_G} {cy : ClassId} {ad : Nat → Nat} {sh : List Sh} {A : Nat → Prop}
variable {pc : Nat} {lv : List (Option Value)} {st : List Value} {x : Mem} {M M1 M2 : Res}
theorem s_none : Sim p l e Rm s m args below meth c nL rt D cy ad sh A pc lv st x none := fun _ _ h => nomatch h
theorem s_letv {v : Int32} {K : Int32 → Res} (k : ∀ w, Sim p l e Rm s m args below meth c nL rt D cy ad sh A pc lv (.int w :: st) x (K w)) : Sim p l e Rm s m args below meth c nL rt D cy ad sh A pc lv (.int v :: st) x (letv v K) := k v
theorem s_letm {K : Mem → Res} (k : ∀ y, Sim p l e Rm s m args below meth c nL rt D cy ad sh A pc lv st y (K y)) : Sim p l e Rm s m args below meth c nL rt D cy ad sh A pc lv st x (letm x K) := k x
theorem s_mask (bs : List Bool) (k : Sim p l e Rm s m args below meth c nL rt D cy ad sh A pc (maskL bs lv) st x M) : Sim p l e Rm s m args below meth c nL rt D cy ad sh A pc lv st x M :=
  fun r x' hM H locs ls hl hP hS => k r x' hM H locs ls (hl.mask bs) hP hS
theorem s_iconst (X : Cx p s m args meth c own cc nL rt D cy ad sh A) {n : Int} {v : Int32} (hv : Int32.ofInt n = v) (hd : decode cc pc = .ok (.iconst n, 1))
    (k : Sim p l e Rm s m args below meth c nL rt D cy ad sh A (pc + 1) lv (.int v :: st) x M) : Sim p l e Rm s m args below meth c nL rt D cy ad sh A pc lv st x M :=
  fun r x' hM H locs ls hl hP hS => lv_iconst X.1.1 X.1.2.1 hd hv (k r x' hM H locs ls hl hP hS)
theorem s_bipush (X : Cx p s m args meth c own cc nL rt D cy ad sh A) {n : Int} {v : Int32} (hv : (Int8.ofInt n).toInt32 = v) (hd : decode cc pc = .ok (.bipush n, 2))
    (k : Sim p l e Rm s m args below meth c nL rt D cy ad sh A (pc + 2) lv (.int v :: st) x M) : Sim p l e Rm s m args below meth c nL rt D cy ad sh A pc lv st x M :=
  fun r x' hM H locs ls hl hP hS => lv_bipush X.1.1 X.1.2.1 hd hv (k r x' hM H locs ls hl hP hS)
theorem s_sipush (X : Cx p s m args meth c own cc nL rt D cy ad sh A) {n : Int} {v : Int32} (hv : (Int16.ofInt n).toInt32 = v) (hd : decode cc pc = .ok (.sipush n, 3))
    (k : Sim p l e Rm s m args below meth c nL rt D cy ad sh A (pc + 3) lv (.int v :: st) x M) : Sim p l e Rm s m args below meth c nL rt D cy ad sh A pc lv st x M :=
  fun r x' hM H locs ls hl hP hS => lv_sipush X.1.1 X.1.2.1 hd hv (k r x' hM H locs ls hl hP hS)
theorem s_ldc (X : Cx p s m args meth c own cc nL rt D cy ad sh A) {idx : Nat} {v : Int32} (hv : Cond.constant own idx v ∈ tg) (hd : decode cc pc = .ok (.ldc idx, 2))
    (k : Sim p l e Rm s m args below meth c nL rt D cy ad sh A (pc + 2) lv (.int v :: st) x M) : Sim p l e Rm s m args below meth c nL rt D cy ad sh A pc lv st x M :=
  fun r x' hM H locs ls hl hP hS => lv_ldc X.1.1 X.1.2.1 X.1.2.2.2.1 (X.1.2.2.2.2 _ hv) hd (k r x' hM H locs ls hl hP hS)
theorem s_ldcw (X : Cx p s m args meth c own cc nL rt D cy ad sh A) {idx : Nat} {v : Int32} (hv : Cond.constant own idx v ∈ tg) (hd : decode cc pc = .ok (.ldc_w idx, 3))
    (k : Sim p l e Rm s m args below meth c nL rt D cy ad sh A (pc + 3) lv (.int v :: st) x M) : Sim p l e Rm s m args below meth c nL rt D cy ad sh A pc lv st x M :=
  fun r x' hM H locs ls hl hP hS => lv_ldcw X.1.1 X.1.2.1 X.1.2.2.2.1 (X.1.2.2.2.2 _ hv) hd (k r x' hM H locs ls hl hP hS)
theorem s_iload_n (X : Cx p s m args meth c own cc nL rt D cy ad sh A) {k : Fin 4} {v : Int32} (hl : lv[(k : Nat)]? = some (some (.int v))) (hd : decode cc pc = .ok (.iload_n k, 1))
    (kk : Sim p l e Rm s m args below meth c nL rt D cy ad sh A (pc + 1) lv (.int v :: st) x M) : Sim p l e Rm s m args below meth c nL rt D cy ad sh A pc lv st x M :=
  fun r x' hM H locs ls hL hP hS => lv_iload_n X.1.1 X.1.2.1 hd rfl (hL.at hl) (kk r x' hM H locs ls hL hP hS)
theorem s_iload (X : Cx p s m args meth c own cc nL rt D cy ad sh A) {k : Nat} {v : Int32} (hl : lv[k]? = some (some (.int v))) (hd : decode cc pc = .ok (.iload k, 2))
    (kk : Sim p l e Rm s m args below meth c nL rt D cy ad sh A (pc + 2) lv (.int v :: st) x M) : Sim p l e Rm s m args below meth c nL rt D cy ad sh A pc lv st x M :=
  fun r x' hM H locs ls hL hP hS => lv_iload X.1.1 X.1.2.1 hd (hL.at hl) (kk r x' hM H locs ls hL hP hS)
theorem s_aload_n (X : Cx p s m args meth c own cc nL rt D cy ad sh A) {k : Fin 4} {v : Nat} (hl : lv[(k : Nat)]? = some (some (.ref v))) (hd : decode cc pc = .ok (.aload_n k, 1))
    (kk : Sim p l e Rm s m args below meth c nL rt D cy ad sh A (pc + 1) lv (.ref v :: st) x M) : Sim p l e Rm s m args below meth c nL rt D cy ad sh A pc lv st x M :=
  fun r x' hM H locs ls hL hP hS => lv_aload_n X.1.1 X.1.2.1 hd rfl (hL.at hl) (kk r x' hM H locs ls hL hP hS)
theorem s_aload (X : Cx p s m args meth c own cc nL rt D cy ad sh A) {k v : Nat} (hl : lv[k]? = some (some (.ref v))) (hd : decode cc pc = .ok (.aload k, 2))
    (kk : Sim p l e Rm s m args below meth c nL rt D cy ad sh A (pc + 2) lv (.ref v :: st) x M) : Sim p l e Rm s m args below meth c nL rt D cy ad sh A pc lv st x M :=
  fun r x' hM H locs ls hL hP hS => lv_aload X.1.1 X.1.2.1 hd (hL.at hl) (kk r x' hM H locs ls hL hP hS)
theorem s_istore_n (X : Cx p s m args meth c own cc nL rt D cy ad sh A) {k : Fin 4} {v : Int32} (lv' : List (Option Value)) (hlv : lv.set (k : Nat) (some (.int v)) = lv') (hn : (k : Nat) < nL) (hd : decode cc pc = .ok (.istore_n k, 1))
    (kk : Sim p l e Rm s m args below meth c nL rt D cy ad sh A (pc + 1) lv' st x M) : Sim p l e Rm s m args below meth c nL rt D cy ad sh A pc lv (.int v :: st) x M :=
  fun r x' hM H locs ls hL hP hS => lv_istore_n X.1.1 X.1.2.1 hd rfl hL.1 hn rfl (fun ls' h' => kk r x' hM H locs ls' (hlv ▸ LVh.set rfl hL h') hP hS)
theorem s_istore (X : Cx p s m args meth c own cc nL rt D cy ad sh A) {k : Nat} {v : Int32} (lv' : List (Option Value)) (hlv : lv.set k (some (.int v)) = lv') (hn : k < nL) (hd : decode cc pc = .ok (.istore k, 2))
    (kk : Sim p l e Rm s m args below meth c nL rt D cy ad sh A (pc + 2) lv' st x M) : Sim p l e Rm s m args below meth c nL rt D cy ad sh A pc lv (.int v :: st) x M :=
  fun r x' hM H locs ls hL hP hS => lv_istore X.1.1 X.1.2.1 hd hL.1 hn rfl (fun ls' h' => kk r x' hM H locs ls' (hlv ▸ LVh.set rfl hL h') hP hS)
theorem s_astore (X : Cx p s m args meth c own cc nL rt D cy ad sh A) {k v : Nat} (lv' : List (Option Value)) (hlv : lv.set k (some (.ref v)) = lv') (hn : k < nL) (hd : decode cc pc = .ok (.astore k, 2))
    (kk : Sim p l e Rm s m args below meth c nL rt D cy ad sh A (pc + 2) lv' st x M) : Sim p l e Rm s m args below meth c nL rt D cy ad sh A pc lv (.ref v :: st) x M :=
  fun r x' hM H locs ls hL hP hS => lv_astore X.1.1 X.1.2.1 hd hL.1 hn rfl (fun ls' h' => kk r x' hM H locs ls' (hlv ▸ LVh.set rfl hL h') hP hS)
theorem s_iinc (X : Cx p s m args meth c own cc nL rt D cy ad sh A) {k : Nat} {n : Int} {v w : Int32} (lv' : List (Option Value)) (hlv : lv.set k (some (.int (v + w))) = lv') (hn : k < nL) (hl : lv[k]? = some (some (.int v))) (hw : Int32.ofInt n = w) (hd : decode cc pc = .ok (.iinc k n, 3))
    (kk : Sim p l e Rm s m args below meth c nL rt D cy ad sh A (pc + 3) lv' st x M) : Sim p l e Rm s m args below meth c nL rt D cy ad sh A pc lv st x M :=
  fun r x' hM H locs ls hL hP hS => by
    obtain ⟨j, hj⟩ := List.getElem?_of_mem ((toA_mem lv 0 (k, Value.int v)).mpr ⟨k, hl, (Nat.zero_add k).symm⟩)
    exact lv_iinc X.1.1 X.1.2.1 hd hL.1 hj (by rw [hw]) hn rfl (fun ls' h' => kk r x' hM H locs ls' (hlv ▸ LVh.set rfl hL h') hP hS)
theorem s_iadd (X : Cx p s m args meth c own cc nL rt D cy ad sh A) {a b : Int32} (hd : decode cc pc = .ok (.iadd, 1))
    (k : Sim p l e Rm s m args below meth c nL rt D cy ad sh A (pc + 1) lv (.int (a + b) :: st) x M) : Sim p l e Rm s m args below meth c nL rt D cy ad sh A pc lv (.int b :: .int a :: st) x M :=
  fun r x' hM H locs ls hl hP hS => lv_iadd X.1.1 X.1.2.1 hd (k r x' hM H locs ls hl hP hS)
theorem s_isub (X : Cx p s m args meth c own cc nL rt D cy ad sh A) {a b : Int32} (hd : decode cc pc = .ok (.isub, 1))
    (k : Sim p l e Rm s m args below meth c nL rt D cy ad sh A (pc + 1) lv (.int (a - b) :: st) x M) : Sim p l e Rm s m args below meth c nL rt D cy ad sh A pc lv (.int b :: .int a :: st) x M :=
  fun r x' hM H locs ls hl hP hS => lv_isub X.1.1 X.1.2.1 hd (k r x' hM H locs ls hl hP hS)
theorem s_imul (X : Cx p s m args meth c own cc nL rt D cy ad sh A) {a b : Int32} (hd : decode cc pc = .ok (.imul, 1))
    (k : Sim p l e Rm s m args below meth c nL rt D cy ad sh A (pc + 1) lv (.int (a * b) :: st) x M) : Sim p l e Rm s m args below meth c nL rt D cy ad sh A pc lv (.int b :: .int a :: st) x M :=
  fun r x' hM H locs ls hl hP hS => lv_imul X.1.1 X.1.2.1 hd (k r x' hM H locs ls hl hP hS)
theorem s_iand (X : Cx p s m args meth c own cc nL rt D cy ad sh A) {a b : Int32} (hd : decode cc pc = .ok (.iand, 1))
    (k : Sim p l e Rm s m args below meth c nL rt D cy ad sh A (pc + 1) lv (.int (a &&& b) :: st) x M) : Sim p l e Rm s m args below meth c nL rt D cy ad sh A pc lv (.int b :: .int a :: st) x M :=
  fun r x' hM H locs ls hl hP hS => lv_iand X.1.1 X.1.2.1 hd (k r x' hM H locs ls hl hP hS)
theorem s_ior (X : Cx p s m args meth c own cc nL rt D cy ad sh A) {a b : Int32} (hd : decode cc pc = .ok (.ior, 1))
    (k : Sim p l e Rm s m args below meth c nL rt D cy ad sh A (pc + 1) lv (.int (a ||| b) :: st) x M) : Sim p l e Rm s m args below meth c nL rt D cy ad sh A pc lv (.int b :: .int a :: st) x M :=
  fun r x' hM H locs ls hl hP hS => lv_ior X.1.1 X.1.2.1 hd (k r x' hM H locs ls hl hP hS)
theorem s_ixor (X : Cx p s m args meth c own cc nL rt D cy ad sh A) {a b : Int32} (hd : decode cc pc = .ok (.ixor, 1))
    (k : Sim p l e Rm s m args below meth c nL rt D cy ad sh A (pc + 1) lv (.int (a ^^^ b) :: st) x M) : Sim p l e Rm s m args below meth c nL rt D cy ad sh A pc lv (.int b :: .int a :: st) x M :=
  fun r x' hM H locs ls hl hP hS => lv_ixor X.1.1 X.1.2.1 hd (k r x' hM H locs ls hl hP hS)
theorem s_ishl (X : Cx p s m args meth c own cc nL rt D cy ad sh A) {a b : Int32} (hd : decode cc pc = .ok (.ishl, 1))
    (k : Sim p l e Rm s m args below meth c nL rt D cy ad sh A (pc + 1) lv (.int (a <<< (b &&& 31)) :: st) x M) : Sim p l e Rm s m args below meth c nL rt D cy ad sh A pc lv (.int b :: .int a :: st) x M :=
  fun r x' hM H locs ls hl hP hS => lv_ishl X.1.1 X.1.2.1 hd (k r x' hM H locs ls hl hP hS)
theorem s_ishr (X : Cx p s m args meth c own cc nL rt D cy ad sh A) {a b : Int32} (hd : decode cc pc = .ok (.ishr, 1))
    (k : Sim p l e Rm s m args below meth c nL rt D cy ad sh A (pc + 1) lv (.int (a >>> (b &&& 31)) :: st) x M) : Sim p l e Rm s m args below meth c nL rt D cy ad sh A pc lv (.int b :: .int a :: st) x M :=
  fun r x' hM H locs ls hl hP hS => lv_ishr X.1.1 X.1.2.1 hd (k r x' hM H locs ls hl hP hS)
theorem s_iushr (X : Cx p s m args meth c own cc nL rt D cy ad sh A) {a b : Int32} (hd : decode cc pc = .ok (.iushr, 1))
    (k : Sim p l e Rm s m args below meth c nL rt D cy ad sh A (pc + 1) lv (.int ((a.toUInt32 >>> (b.toUInt32 &&& Int32.toUInt32 31)).toInt32) :: st) x M) : Sim p l e Rm s m args below meth c nL rt D cy ad sh A pc lv (.int b :: .int a :: st) x M :=
  fun r x' hM H locs ls hl hP hS => lv_iushr X.1.1 X.1.2.1 hd rfl (k r x' hM H locs ls hl hP hS)
theorem s_ineg (X : Cx p s m args meth c own cc nL rt D cy ad sh A) {a : Int32} (hd : decode cc pc = .ok (.ineg, 1))
    (k : Sim p l e Rm s m args below meth c nL rt D cy ad sh A (pc + 1) lv (.int (-a) :: st) x M) : Sim p l e Rm s m args below meth c nL rt D cy ad sh A pc lv (.int a :: st) x M :=
  fun r x' hM H locs ls hl hP hS => lv_ineg X.1.1 X.1.2.1 hd (k r x' hM H locs ls hl hP hS)
theorem s_idiv (X : Cx p s m args meth c own cc nL rt D cy ad sh A) {a b : Int32} (hd : decode cc pc = .ok (.idiv, 1))
    (k : Sim p l e Rm s m args below meth c nL rt D cy ad sh A (pc + 1) lv (.int (a / b) :: st) x M) : Sim p l e Rm s m args below meth c nL rt D cy ad sh A pc lv (.int b :: .int a :: st) x (nz b M) :=
  fun r x' hM H locs ls hl hP hS => by
    unfold nz at hM
    by_cases hb : b = 0
    · rw [if_pos hb] at hM; cases hM
    · rw [if_neg hb] at hM; exact lv_idiv X.1.1 X.1.2.1 hd hb (k r x' hM H locs ls hl hP hS)
theorem s_irem (X : Cx p s m args meth c own cc nL rt D cy ad sh A) {a b : Int32} (hd : decode cc pc = .ok (.irem, 1))
    (k : Sim p l e Rm s m args below meth c nL rt D cy ad sh A (pc + 1) lv (.int (a - a / b * b) :: st) x M) : Sim p l e Rm s m args below meth c nL rt D cy ad sh A pc lv (.int b :: .int a :: st) x (nz b M) :=
  fun r x' hM H locs ls hl hP hS => by
    unfold nz at hM
    by_cases hb : b = 0
    · rw [if_pos hb] at hM; cases hM
    · rw [if_neg hb] at hM; exact lv_irem X.1.1 X.1.2.1 hd hb (k r x' hM H locs ls hl hP hS)
theorem s_dup (X : Cx p s m args meth c own cc nL rt D cy ad sh A) {a : Value} (ha : a.category = 1) (hd : decode cc pc = .ok (.dup, 1))
    (k : Sim p l e Rm s m args below meth c nL rt D cy ad sh A (pc + 1) lv (a :: a :: st) x M) : Sim p l e Rm s m args below meth c nL rt D cy ad sh A pc lv (a :: st) x M :=
  fun r x' hM H locs ls hl hP hS => lv_dup X.1.1 X.1.2.1 hd ha (k r x' hM H locs ls hl hP hS)
theorem s_dup2 (X : Cx p s m args meth c own cc nL rt D cy ad sh A) {a b : Value} (ha : a.category = 1) (hb : b.category = 1) (hd : decode cc pc = .ok (.dup2, 1))
    (k : Sim p l e Rm s m args below meth c nL rt D cy ad sh A (pc + 1) lv (a :: b :: a :: b :: st) x M) : Sim p l e Rm s m args below meth c nL rt D cy ad sh A pc lv (a :: b :: st) x M :=
  fun r x' hM H locs ls hl hP hS => lv_dup2_11 X.1.1 X.1.2.1 hd ha hb (k r x' hM H locs ls hl hP hS)
theorem s_goto (X : Cx p s m args meth c own cc nL rt D cy ad sh A) {off : Int} (tgt : Nat) (ht : (pc : Int) + off = (tgt : Int)) (hd : decode cc pc = .ok (.goto off, 3))
    (k : Sim p l e Rm s m args below meth c nL rt D cy ad sh A tgt lv st x M) : Sim p l e Rm s m args below meth c nL rt D cy ad sh A pc lv st x M :=
  fun r x' hM H locs ls hl hP hS => lv_goto X.1.1 X.1.2.1 hd ht (k r x' hM H locs ls hl hP hS)
theorem s_if_eq (X : Cx p s m args meth c own cc nL rt D cy ad sh A) {a : Int32} {i : Decidable (a = 0)} {off : Int} (tgt : Nat) (ht : (pc : Int) + off = (tgt : Int)) (hd : decode cc pc = .ok (.ifCond .eq off, 3))
    (k1 : Sim p l e Rm s m args below meth c nL rt D cy ad sh A tgt lv st x M1) (k2 : Sim p l e Rm s m args below meth c nL rt D cy ad sh A (pc + 3) lv st x M2) : Sim p l e Rm s m args below meth c nL rt D cy ad sh A pc lv (.int a :: st) x (@ite _ (a = 0) i M1 M2) :=
  fun r x' hM H locs ls hl hP hS => lv_if_eq X.1.1 X.1.2.1 hd ht (fun h => k1 r x' (by rw [if_pos h] at hM; exact hM) H locs ls hl hP hS) (fun h => k2 r x' (by rw [if_neg h] at hM; exact hM) H locs ls hl hP hS)
theorem s_if_ne (X : Cx p s m args meth c own cc nL rt D cy ad sh A) {a : Int32} {i : Decidable (a = 0)} {off : Int} (tgt : Nat) (ht : (pc : Int) + off = (tgt : Int)) (hd : decode cc pc = .ok (.ifCond .ne off, 3))
    (k1 : Sim p l e Rm s m args below meth c nL rt D cy ad sh A tgt lv st x M1) (k2 : Sim p l e Rm s m args below meth c nL rt D cy ad sh A (pc + 3) lv st x M2) : Sim p l e Rm s m args below meth c nL rt D cy ad sh A pc lv (.int a :: st) x (@ite _ (a = 0) i M2 M1) :=
  fun r x' hM H locs ls hl hP hS => lv_if_ne X.1.1 X.1.2.1 hd ht (fun h => k1 r x' (by rw [if_neg h] at hM; exact hM) H locs ls hl hP hS) (fun h => k2 r x' (by rw [if_pos h] at hM; exact hM) H locs ls hl hP hS)
theorem s_if_lt (X : Cx p s m args meth c own cc nL rt D cy ad sh A) {a : Int32} {i : Decidable (a < 0)} {off : Int} (tgt : Nat) (ht : (pc : Int) + off = (tgt : Int)) (hd : decode cc pc = .ok (.ifCond .lt off, 3))
    (k1 : Sim p l e Rm s m args below meth c nL rt D cy ad sh A tgt lv st x M1) (k2 : Sim p l e Rm s m args below meth c nL rt D cy ad sh A (pc + 3) lv st x M2) : Sim p l e Rm s m args below meth c nL rt D cy ad sh A pc lv (.int a :: st) x (@ite _ (a < 0) i M1 M2) :=
  fun r x' hM H locs ls hl hP hS => lv_if_lt X.1.1 X.1.2.1 hd ht (fun h => k1 r x' (by rw [if_pos h] at hM; exact hM) H locs ls hl hP hS) (fun h => k2 r x' (by rw [if_neg h] at hM; exact hM) H locs ls hl hP hS)
theorem s_if_ge (X : Cx p s m args meth c own cc nL rt D cy ad sh A) {a : Int32} {i : Decidable (0 ≤ a)} {off : Int} (tgt : Nat) (ht : (pc : Int) + off = (tgt : Int)) (hd : decode cc pc = .ok (.ifCond .ge off, 3))
    (k1 : Sim p l e Rm s m args below meth c nL rt D cy ad sh A tgt lv st x M1) (k2 : Sim p l e Rm s m args below meth c nL rt D cy ad sh A (pc + 3) lv st x M2) : Sim p l e Rm s m args below meth c nL rt D cy ad sh A pc lv (.int a :: st) x (@ite _ (0 ≤ a) i M1 M2) :=
  fun r x' hM H locs ls hl hP hS => lv_if_ge X.1.1 X.1.2.1 hd ht (fun h => k1 r x' (by rw [if_pos h] at hM; exact hM) H locs ls hl hP hS) (fun h => k2 r x' (by rw [if_neg h] at hM; exact hM) H locs ls hl hP hS)
theorem s_if_gt (X : Cx p s m args meth c own cc nL rt D cy ad sh A) {a : Int32} {i : Decidable (0 < a)} {off : Int} (tgt : Nat) (ht : (pc : Int) + off = (tgt : Int)) (hd : decode cc pc = .ok (.ifCond .gt off, 3))
    (k1 : Sim p l e Rm s m args below meth c nL rt D cy ad sh A tgt lv st x M1) (k2 : Sim p l e Rm s m args below meth c nL rt D cy ad sh A (pc + 3) lv st x M2) : Sim p l e Rm s m args below meth c nL rt D cy ad sh A pc lv (.int a :: st) x (@ite _ (0 < a) i M1 M2) :=
  fun r x' hM H locs ls hl hP hS => lv_if_gt X.1.1 X.1.2.1 hd ht (fun h => k1 r x' (by rw [if_pos h] at hM; exact hM) H locs ls hl hP hS) (fun h => k2 r x' (by rw [if_neg h] at hM; exact hM) H locs ls hl hP hS)
theorem s_if_le (X : Cx p s m args meth c own cc nL rt D cy ad sh A) {a : Int32} {i : Decidable (a ≤ 0)} {off : Int} (tgt : Nat) (ht : (pc : Int) + off = (tgt : Int)) (hd : decode cc pc = .ok (.ifCond .le off, 3))
    (k1 : Sim p l e Rm s m args below meth c nL rt D cy ad sh A tgt lv st x M1) (k2 : Sim p l e Rm s m args below meth c nL rt D cy ad sh A (pc + 3) lv st x M2) : Sim p l e Rm s m args below meth c nL rt D cy ad sh A pc lv (.int a :: st) x (@ite _ (a ≤ 0) i M1 M2) :=
  fun r x' hM H locs ls hl hP hS => lv_if_le X.1.1 X.1.2.1 hd ht (fun h => k1 r x' (by rw [if_pos h] at hM; exact hM) H locs ls hl hP hS) (fun h => k2 r x' (by rw [if_neg h] at hM; exact hM) H locs ls hl hP hS)
theorem s_icmp_eq (X : Cx p s m args meth c own cc nL rt D cy ad sh A) {a b : Int32} {i : Decidable (a = b)} {off : Int} (tgt : Nat) (ht : (pc : Int) + off = (tgt : Int)) (hd : decode cc pc = .ok (.if_icmp .eq off, 3))
    (k1 : Sim p l e Rm s m args below meth c nL rt D cy ad sh A tgt lv st x M1) (k2 : Sim p l e Rm s m args below meth c nL rt D cy ad sh A (pc + 3) lv st x M2) : Sim p l e Rm s m args below meth c nL rt D cy ad sh A pc lv (.int b :: .int a :: st) x (@ite _ (a = b) i M1 M2) :=
  fun r x' hM H locs ls hl hP hS => lv_icmp_eq X.1.1 X.1.2.1 hd ht (fun h => k1 r x' (by rw [if_pos h] at hM; exact hM) H locs ls hl hP hS) (fun h => k2 r x' (by rw [if_neg h] at hM; exact hM) H locs ls hl hP hS)
theorem s_icmp_ne (X : Cx p s m args meth c own cc nL rt D cy ad sh A) {a b : Int32} {i : Decidable (a = b)} {off : Int} (tgt : Nat) (ht : (pc : Int) + off = (tgt : Int)) (hd : decode cc pc = .ok (.if_icmp .ne off, 3))
    (k1 : Sim p l e Rm s m args below meth c nL rt D cy ad sh A tgt lv st x M1) (k2 : Sim p l e Rm s m args below meth c nL rt D cy ad sh A (pc + 3) lv st x M2) : Sim p l e Rm s m args below meth c nL rt D cy ad sh A pc lv (.int b :: .int a :: st) x (@ite _ (a = b) i M2 M1) :=
  fun r x' hM H locs ls hl hP hS => lv_icmp_ne X.1.1 X.1.2.1 hd ht (fun h => k1 r x' (by rw [if_neg h] at hM; exact hM) H locs ls hl hP hS) (fun h => k2 r x' (by rw [if_pos h] at hM; exact hM) H locs ls hl hP hS)
theorem s_icmp_lt (X : Cx p s m args meth c own cc nL rt D cy ad sh A) {a b : Int32} {i : Decidable (a < b)} {off : Int} (tgt : Nat) (ht : (pc : Int) + off = (tgt : Int)) (hd : decode cc pc = .ok (.if_icmp .lt off, 3))
    (k1 : Sim p l e Rm s m args below meth c nL rt D cy ad sh A tgt lv st x M1) (k2 : Sim p l e Rm s m args below meth c nL rt D cy ad sh A (pc + 3) lv st x M2) : Sim p l e Rm s m args below meth c nL rt D cy ad sh A pc lv (.int b :: .int a :: st) x (@ite _ (a < b) i M1 M2) :=
  fun r x' hM H locs ls hl hP hS => lv_icmp_lt X.1.1 X.1.2.1 hd ht (fun h => k1 r x' (by rw [if_pos h] at hM; exact hM) H locs ls hl hP hS) (fun h => k2 r x' (by rw [if_neg h] at hM; exact hM) H locs ls hl hP hS)
theorem s_icmp_ge (X : Cx p s m args meth c own cc nL rt D cy ad sh A) {a b : Int32} {i : Decidable (b ≤ a)} {off : Int} (tgt : Nat) (ht : (pc : Int) + off = (tgt : Int)) (hd : decode cc pc = .ok (.if_icmp .ge off, 3))
    (k1 : Sim p l e Rm s m args below meth c nL rt D cy ad sh A tgt lv st x M1) (k2 : Sim p l e Rm s m args below meth c nL rt D cy ad sh A (pc + 3) lv st x M2) : Sim p l e Rm s m args below meth c nL rt D cy ad sh A pc lv (.int b :: .int a :: st) x (@ite _ (b ≤ a) i M1 M2) :=
  fun r x' hM H locs ls hl hP hS => lv_icmp_ge X.1.1 X.1.2.1 hd ht (fun h => k1 r x' (by rw [if_pos h] at hM; exact hM) H locs ls hl hP hS) (fun h => k2 r x' (by rw [if_neg h] at hM; exact hM) H locs ls hl hP hS)
theorem s_icmp_gt (X : Cx p s m args meth c own cc nL rt D cy ad sh A) {a b : Int32} {i : Decidable (b < a)} {off : Int} (tgt : Nat) (ht : (pc : Int) + off = (tgt : Int)) (hd : decode cc pc = .ok (.if_icmp .gt off, 3))
    (k1 : Sim p l e Rm s m args below meth c nL rt D cy ad sh A tgt lv st x M1) (k2 : Sim p l e Rm s m args below meth c nL rt D cy ad sh A (pc + 3) lv st x M2) : Sim p l e Rm s m args below meth c nL rt D cy ad sh A pc lv (.int b :: .int a :: st) x (@ite _ (b < a) i M1 M2) :=
  fun r x' hM H locs ls hl hP hS => lv_icmp_gt X.1.1 X.1.2.1 hd ht (fun h => k1 r x' (by rw [if_pos h] at hM; exact hM) H locs ls hl hP hS) (fun h => k2 r x' (by rw [if_neg h] at hM; exact hM) H locs ls hl hP hS)
theorem s_icmp_le (X : Cx p s m args meth c own cc nL rt D cy ad sh A) {a b : Int32} {i : Decidable (a ≤ b)} {off : Int} (tgt : Nat) (ht : (pc : Int) + off = (tgt : Int)) (hd : decode cc pc = .ok (.if_icmp .le off, 3))
    (k1 : Sim p l e Rm s m args below meth c nL rt D cy ad sh A tgt lv st x M1) (k2 : Sim p l e Rm s m args below meth c nL rt D cy ad sh A (pc + 3) lv st x M2) : Sim p l e Rm s m args below meth c nL rt D cy ad sh A pc lv (.int b :: .int a :: st) x (@ite _ (a ≤ b) i M1 M2) :=
  fun r x' hM H locs ls hl hP hS => lv_icmp_le X.1.1 X.1.2.1 hd ht (fun h => k1 r x' (by rw [if_pos h] at hM; exact hM) H locs ls hl hP hS) (fun h => k2 r x' (by rw [if_neg h] at hM; exact hM) H locs ls hl hP hS)
theorem s_iald (X : Cx p s m args meth c own cc nL rt D cy ad sh A) {k n : Nat} {i : Int32} (hs : sh[k]? = some (.inl n)) (hd : decode cc pc = .ok (.iaload, 1))
    (kk : Sim p l e Rm s m args below meth c nL rt D cy ad sh A (pc + 1) lv (.int (x k i.toNatClampNeg) :: st) x M) : Sim p l e Rm s m args below meth c nL rt D cy ad sh A pc lv (.int i :: .ref (ad k) :: st) x (chk i n M) :=
  fun r x' hM H locs ls hl hP hS => by
    unfold chk at hM
    by_cases hb : i < 0 ∨ n ≤ i.toNatClampNeg
    · rw [if_pos hb] at hM; cases hM
    · rw [if_neg hb] at hM
      have hg := pic_get cy ad x sh 0 k _ hs
      rw [Nat.zero_add] at hg
      exact va_iald X.1.1 X.1.2.1 X.2.2.2.1.1 hP k 0 hg rfl hb hd (kk r x' hM H locs ls hl hP hS)
theorem s_iast (X : Cx p s m args meth c own cc nL rt D cy ad sh A) {k n : Nat} {i v : Int32} (hs : sh[k]? = some (.inl n)) (hd : decode cc pc = .ok (.iastore, 1))
    (kk : Sim p l e Rm s m args below meth c nL rt D cy ad sh A (pc + 1) lv st (wr x k i.toNatClampNeg v) M) : Sim p l e Rm s m args below meth c nL rt D cy ad sh A pc lv (.int v :: .int i :: .ref (ad k) :: st) x (chk i n M) :=
  fun r x' hM H locs ls hl hP hS => by
    unfold chk at hM
    by_cases hb : i < 0 ∨ n ≤ i.toNatClampNeg
    · rw [if_pos hb] at hM; cases hM
    · rw [if_neg hb] at hM
      have hg := pic_get cy ad x sh 0 k _ hs
      rw [Nat.zero_add] at hg
      refine va_iast X.1.1 X.1.2.1 X.2.2.2.1.1 hP (X.2.2.2.2.1 x) hS k 0 hg rfl hb hd (fun H1 locs1 hP1 _ hS1 => kk r x' hM H1 locs1 ls hl ?_ hS1)
      have e := pic_set cy ad x (wr x k i.toNatClampNeg v) sh 0 k _ (.inl (cy, n, .inl (upd (x k) i.toNatClampNeg v))) hs (by rw [Nat.zero_add, wr_self]; rfl) (by rw [Nat.zero_add]; exact wr_other)
      rw [Nat.zero_add] at e
      rw [← e]
      exact hP1
theorem s_getI (X : Cx p s m args meth c own cc nL rt D cy ad sh A) {k j ci idx : Nat} {fs : List (Option Nat)} (hs : sh[k]? = some (.inr (ci, fs))) (hj : fs[j]? = some none) (L : FL own idx ci j) (hd : decode cc pc = .ok (.getfield idx, 3))
    (kk : Sim p l e Rm s m args below meth c nL rt D cy ad sh A (pc + 3) lv (.int (x k j) :: st) x M) : Sim p l e Rm s m args below meth c nL rt D cy ad sh A pc lv (.ref (ad k) :: st) x M :=
  fun r x' hM H locs ls hl hP hS => by
    obtain ⟨C, T, N, h1, h2, h3, h4⟩ := L
    have hg := pic_get cy ad x sh 0 k _ hs
    rw [Nat.zero_add] at hg
    have hf := fvs_get ad (x k) fs 0 j hj
    rw [Nat.zero_add] at hf
    exact va_get X.1.1 X.1.2.1 X.1.2.2.2.2 h4 X.1.2.2.2.1 X.2.2.2.1.1 hP k hg h1 j h2 (X.1.2.2.2.2 _ h3) (fun _ h => h) hf hd (kk r x' hM H locs ls hl hP hS)
theorem s_getR (X : Cx p s m args meth c own cc nL rt D cy ad sh A) {k j t ci idx : Nat} {fs : List (Option Nat)} (hs : sh[k]? = some (.inr (ci, fs))) (hj : fs[j]? = some (some t)) (L : FL own idx ci j) (hd : decode cc pc = .ok (.getfield idx, 3))
    (kk : Sim p l e Rm s m args below meth c nL rt D cy ad sh A (pc + 3) lv (.ref (ad t) :: st) x M) : Sim p l e Rm s m args below meth c nL rt D cy ad sh A pc lv (.ref (ad k) :: st) x M :=
  fun r x' hM H locs ls hl hP hS => by
    obtain ⟨C, T, N, h1, h2, h3, h4⟩ := L
    have hg := pic_get cy ad x sh 0 k _ hs
    rw [Nat.zero_add] at hg
    have hf := fvs_ref ad (x k) fs 0 j t hj
    exact va_get X.1.1 X.1.2.1 X.1.2.2.2.2 h4 X.1.2.2.2.1 X.2.2.2.1.1 hP k hg h1 j h2 (X.1.2.2.2.2 _ h3) (fun _ h => h) hf hd (kk r x' hM H locs ls hl hP hS)
theorem fvs_len (ad : Nat → Nat) (f : Nat → Int32) : ∀ (fs : List (Option Nat)) (k : Nat), (fvs ad f k fs).length = fs.length := by
  intro fs
  induction fs with
  | nil => intro k; rfl
  | cons a r ih => intro k; cases a <;> simp [fvs, ih]
theorem s_put (X : Cx p s m args meth c own cc nL rt D cy ad sh A) {k j ci idx : Nat} {v : Int32} {fs : List (Option Nat)} (hs : sh[k]? = some (.inr (ci, fs))) (hj : fs[j]? = some none) (L : FP own idx ci j) (hd : decode cc pc = .ok (.putfield idx, 3))
    (kk : Sim p l e Rm s m args below meth c nL rt D cy ad sh A (pc + 3) lv st (wr x k j v) M) : Sim p l e Rm s m args below meth c nL rt D cy ad sh A pc lv (.int v :: .ref (ad k) :: st) x M :=
  fun r x' hM H locs ls hl hP hS => by
    obtain ⟨C, T, N, ty0, h1, h2, h3, h4, h5, h6, h7, h8⟩ := L
    have hg := pic_get cy ad x sh 0 k _ hs
    rw [Nat.zero_add] at hg
    have hlen : j < (fvs ad (x k) 0 fs).length := by rw [fvs_len]; exact (List.getElem?_eq_some_iff.mp hj).1
    refine va_put (v := .int v) X.1.1 X.1.2.1 X.1.2.2.2.2 h4 ty0 h5 h6 X.1.2.2.2.1 X.2.2.2.1.1 hP (X.2.2.2.2.1 x) hS k hg h1 j h2 (X.1.2.2.2.2 _ h3) (fun _ h => h) h7 h8 rfl rfl hlen hd (fun H1 locs1 hP1 _ hS1 => kk r x' hM H1 locs1 ls hl ?_ hS1)
    have hf := fvs_set ad (x k) v fs 0 j hj
    rw [Nat.zero_add] at hf
    have e := pic_set cy ad x (wr x k j v) sh 0 k _ (.inr (ci, fvs ad (upd (x k) j v) 0 fs)) hs (by rw [Nat.zero_add, wr_self]; rfl) (by rw [Nat.zero_add]; exact wr_other)
    rw [Nat.zero_add] at e
    rw [← e, ← hf]
    exact hP1
theorem s_iret (X : Cx p s m args meth c own cc nL (some .int) D cy ad sh A) {v : Int32} (hd : decode cc pc = .ok (.ireturn, 1)) : Sim p l e Rm s m args below meth c nL (some .int) D cy ad sh A pc lv [.int v] x (some (v, x)) :=
  fun r x' hM H locs ls hl hP hS => by
    cases hM
    exact W.iret X.1.1 X.1.2.1 X.2.1 (fun t ht hW => ⟨rfl, by rw [ht]; exact hP, hS.F ht⟩) hS.2.2 hd X.2.2.1
theorem s_zret (X : Cx p s m args meth c own cc nL (some .boolean) D cy ad sh A) {v : Int32} (hd : decode cc pc = .ok (.ireturn, 1)) : Sim p l e Rm s m args below meth c nL (some .boolean) D cy ad sh A pc lv [.int v] x (retz v x) :=
  fun r x' hM H locs ls hl hP hS => by
    unfold retz at hM
    by_cases hv : v = 0 ∨ v = 1
    · rw [if_pos hv] at hM
      cases hM
      exact W.zret X.1.1 X.1.2.1 X.2.1 (by rcases hv with rfl | rfl <;> rfl) (fun t ht hW => ⟨rfl, by rw [ht]; exact hP, hS.F ht⟩) hS.2.2 hd X.2.2.1
    · rw [if_neg hv] at hM; cases hM
theorem s_vret (X : Cx p s m args meth c own cc nL none D cy ad sh A) (hd : decode cc pc = .ok (.return_, 1)) : Sim p l e Rm s m args below meth c nL none D cy ad sh A pc lv [] x (some (0, x)) :=
  fun r x' hM H locs ls hl hP hS => by
    cases hM
    exact W.vret X.1.1 X.1.2.1 X.2.1 (fun t ht hW => ⟨rfl, by rw [ht]; exact hP, hS.F ht⟩) hS.2.2 hd X.2.2.1
theorem s_tabI (X : Cx p s m args meth c own cc nL rt D cy ad sh A) {dflt lo hi : Int} {offs : Array Int} {len : Nat} {v : Int32} {off : Int} (tgt : Nat) (h1 : ¬ v.toInt < lo) (h2 : ¬ hi < v.toInt) (ho : offs[(v.toInt - lo).toNat]? = some off) (ht : (pc : Int) + off = (tgt : Int)) (hd : decode cc pc = .ok (.tableswitch dflt lo hi offs, len))
    (k : Sim p l e Rm s m args below meth c nL rt D cy ad sh A tgt lv st x M) : Sim p l e Rm s m args below meth c nL rt D cy ad sh A pc lv (.int v :: st) x M :=
  fun r x' hM H locs ls hl hP hS => lv_tableIn X.1.1 X.1.2.1 hd h1 h2 ho ht (k r x' hM H locs ls hl hP hS)
theorem s_tabO (X : Cx p s m args meth c own cc nL rt D cy ad sh A) {dflt lo hi : Int} {offs : Array Int} {len : Nat} {v : Int32} (tgt : Nat) (h : v.toInt < lo ∨ hi < v.toInt) (ht : (pc : Int) + dflt = (tgt : Int)) (hd : decode cc pc = .ok (.tableswitch dflt lo hi offs, len))
    (k : Sim p l e Rm s m args below meth c nL rt D cy ad sh A tgt lv st x M) : Sim p l e Rm s m args below meth c nL rt D cy ad sh A pc lv (.int v :: st) x M :=
  fun r x' hM H locs ls hl hP hS => lv_tableOut X.1.1 X.1.2.1 hd h ht (k r x' hM H locs ls hl hP hS)
theorem s_ite {P : Prop} {i : Decidable P} (k1 : P → Sim p l e Rm s m args below meth c nL rt D cy ad sh A pc lv st x M1) (k2 : ¬ P → Sim p l e Rm s m args below meth c nL rt D cy ad sh A pc lv st x M2) : Sim p l e Rm s m args below meth c nL rt D cy ad sh A pc lv st x (@ite _ P i M1 M2) :=
  fun r x' hM => by
    by_cases h : P
    · rw [if_pos h] at hM; exact k1 h r x' hM
    · rw [if_neg h] at hM; exact k2 h r x' hM
theorem pr_ite {P : Prop} {i : Decidable P} (a b : Option Int32) (x : Mem) : pr (@ite _ P i a b) x = @ite _ P i (pr a x) (pr b x) := by
  by_cases h : P
  · rw [if_pos h, if_pos h]
  · rw [if_neg h, if_neg h]
theorem pr_chk (i : Int32) (n : Nat) (a : Option Int32) (x : Mem) : pr (chk i n a) x = chk i n (pr a x) := by
  unfold chk
  rw [pr_ite]
  rfl
theorem pr_nz (y : Int32) (a : Option Int32) (x : Mem) : pr (nz y a) x = nz y (pr a x) := by
  unfold nz
  rw [pr_ite]
  rfl
theorem pr_clp (o : Option Int32) (K : Int32 → Option Int32) (x : Mem) : pr (clp o K) x = clp o (fun r => pr (K r) x) := by
  cases o <;> rfl
section PURE
variable {T T1 T2 : Option Int32}
theorem p_none : Sim p l e Rm s m args below meth c nL rt D cy ad sh A pc lv st x (pr none x) := s_none
theorem p_letv {v : Int32} {K : Int32 → Option Int32} (k : ∀ w, Sim p l e Rm s m args below meth c nL rt D cy ad sh A pc lv (.int w :: st) x (pr (K w) x)) : Sim p l e Rm s m args below meth c nL rt D cy ad sh A pc lv (.int v :: st) x (pr (letv v K) x) := k v
theorem s_jn {κ : Type} {body : κ → Res} {K : κ} (J : κ → Prop) (h1 : J K) (h2 : ∀ K', J K' → Sim p l e Rm s m args below meth c nL rt D cy ad sh A pc lv st x (body K')) : Sim p l e Rm s m args below meth c nL rt D cy ad sh A pc lv st x (jn body K) := h2 K h1
theorem p_jn {κ : Type} {body : κ → Option Int32} {K : κ} (J : κ → Prop) (h1 : J K) (h2 : ∀ K', J K' → Sim p l e Rm s m args below meth c nL rt D cy ad sh A pc lv st x (pr (body K') x)) : Sim p l e Rm s m args below meth c nL rt D cy ad sh A pc lv st x (pr (jn body K) x) := h2 K h1
theorem p_if_eq (X : Cx p s m args meth c own cc nL rt D cy ad sh A) {a : Int32} {i : Decidable (a = 0)} {off : Int} (tgt : Nat) (ht : (pc : Int) + off = (tgt : Int)) (hd : decode cc pc = .ok (.ifCond .eq off, 3))
    (k1 : Sim p l e Rm s m args below meth c nL rt D cy ad sh A tgt lv st x (pr T1 x)) (k2 : Sim p l e Rm s m args below meth c nL rt D cy ad sh A (pc + 3) lv st x (pr T2 x)) : Sim p l e Rm s m args below meth c nL rt D cy ad sh A pc lv (.int a :: st) x (pr (@ite _ (a = 0) i T1 T2) x) := by rw [pr_ite]; exact s_if_eq X tgt ht hd k1 k2
theorem p_if_ne (X : Cx p s m args meth c own cc nL rt D cy ad sh A) {a : Int32} {i : Decidable (a = 0)} {off : Int} (tgt : Nat) (ht : (pc : Int) + off = (tgt : Int)) (hd : decode cc pc = .ok (.ifCond .ne off, 3))
    (k1 : Sim p l e Rm s m args below meth c nL rt D cy ad sh A tgt lv st x (pr T1 x)) (k2 : Sim p l e Rm s m args below meth c nL rt D cy ad sh A (pc + 3) lv st x (pr T2 x)) : Sim p l e Rm s m args below meth c nL rt D cy ad sh A pc lv (.int a :: st) x (pr (@ite _ (a = 0) i T2 T1) x) := by rw [pr_ite]; exact s_if_ne X tgt ht hd k1 k2
theorem p_if_lt (X : Cx p s m args meth c own cc nL rt D cy ad sh A) {a : Int32} {i : Decidable (a < 0)} {off : Int} (tgt : Nat) (ht : (pc : Int) + off = (tgt : Int)) (hd : decode cc pc = .ok (.ifCond .lt off, 3))
    (k1 : Sim p l e Rm s m args below meth c nL rt D cy ad sh A tgt lv st x (pr T1 x)) (k2 : Sim p l e Rm s m args below meth c nL rt D cy ad sh A (pc + 3) lv st x (pr T2 x)) : Sim p l e Rm s m args below meth c nL rt D cy ad sh A pc lv (.int a :: st) x (pr (@ite _ (a < 0) i T1 T2) x) := by rw [pr_ite]; exact s_if_lt X tgt ht hd k1 k2
theorem p_if_ge (X : Cx p s m args meth c own cc nL rt D cy ad sh A) {a : Int32} {i : Decidable (0 ≤ a)} {off : Int} (tgt : Nat) (ht : (pc : Int) + off = (tgt : Int)) (hd : decode cc pc = .ok (.ifCond .ge off, 3))
    (k1 : Sim p l e Rm s m args below meth c nL rt D cy ad sh A tgt lv st x (pr T1 x)) (k2 : Sim p l e Rm s m args below meth c nL rt D cy ad sh A (pc + 3) lv st x (pr T2 x)) : Sim p l e Rm s m args below meth c nL rt D cy ad sh A pc lv (.int a :: st) x (pr (@ite _ (0 ≤ a) i T1 T2) x) := by rw [pr_ite]; exact s_if_ge X tgt ht hd k1 k2
theorem p_if_gt (X : Cx p s m args meth c own cc nL rt D cy ad sh A) {a : Int32} {i : Decidable (0 < a)} {off : Int} (tgt : Nat) (ht : (pc : Int) + off = (tgt : Int)) (hd : decode cc pc = .ok (.ifCond .gt off, 3))
    (k1 : Sim p l e Rm s m args below meth c nL rt D cy ad sh A tgt lv st x (pr T1 x)) (k2 : Sim p l e Rm s m args below meth c nL rt D cy ad sh A (pc + 3) lv st x (pr T2 x)) : Sim p l e Rm s m args below meth c nL rt D cy ad sh A pc lv (.int a :: st) x (pr (@ite _ (0 < a) i T1 T2) x) := by rw [pr_ite]; exact s_if_gt X tgt ht hd k1 k2
theorem p_if_le (X : Cx p s m args meth c own cc nL rt D cy ad sh A) {a : Int32} {i : Decidable (a ≤ 0)} {off : Int} (tgt : Nat) (ht : (pc : Int) + off = (tgt : Int)) (hd : decode cc pc = .ok (.ifCond .le off, 3))
    (k1 : Sim p l e Rm s m args below meth c nL rt D cy ad sh A tgt lv st x (pr T1 x)) (k2 : Sim p l e Rm s m args below meth c nL rt D cy ad sh A (pc + 3) lv st x (pr T2 x)) : Sim p l e Rm s m args below meth c nL rt D cy ad sh A pc lv (.int a :: st) x (pr (@ite _ (a ≤ 0) i T1 T2) x) := by rw [pr_ite]; exact s_if_le X tgt ht hd k1 k2
theorem p_icmp_eq (X : Cx p s m args meth c own cc nL rt D cy ad sh A) {a b : Int32} {i : Decidable (a = b)} {off : Int} (tgt : Nat) (ht : (pc : Int) + off = (tgt : Int)) (hd : decode cc pc = .ok (.if_icmp .eq off, 3))
    (k1 : Sim p l e Rm s m args below meth c nL rt D cy ad sh A tgt lv st x (pr T1 x)) (k2 : Sim p l e Rm s m args below meth c nL rt D cy ad sh A (pc + 3) lv st x (pr T2 x)) : Sim p l e Rm s m args below meth c nL rt D cy ad sh A pc lv (.int b :: .int a :: st) x (pr (@ite _ (a = b) i T1 T2) x) := by rw [pr_ite]; exact s_icmp_eq X tgt ht hd k1 k2
theorem p_icmp_ne (X : Cx p s m args meth c own cc nL rt D cy ad sh A) {a b : Int32} {i : Decidable (a = b)} {off : Int} (tgt : Nat) (ht : (pc : Int) + off = (tgt : Int)) (hd : decode cc pc = .ok (.if_icmp .ne off, 3))
    (k1 : Sim p l e Rm s m args below meth c nL rt D cy ad sh A tgt lv st x (pr T1 x)) (k2 : Sim p l e Rm s m args below meth c nL rt D cy ad sh A (pc + 3) lv st x (pr T2 x)) : Sim p l e Rm s m args below meth c nL rt D cy ad sh A pc lv (.int b :: .int a :: st) x (pr (@ite _ (a = b) i T2 T1) x) := by rw [pr_ite]; exact s_icmp_ne X tgt ht hd k1 k2
theorem p_icmp_lt (X : Cx p s m args meth c own cc nL rt D cy ad sh A) {a b : Int32} {i : Decidable (a < b)} {off : Int} (tgt : Nat) (ht : (pc : Int) + off = (tgt : Int)) (hd : decode cc pc = .ok (.if_icmp .lt off, 3))
    (k1 : Sim p l e Rm s m args below meth c nL rt D cy ad sh A tgt lv st x (pr T1 x)) (k2 : Sim p l e Rm s m args below meth c nL rt D cy ad sh A (pc + 3) lv st x (pr T2 x)) : Sim p l e Rm s m args below meth c nL rt D cy ad sh A pc lv (.int b :: .int a :: st) x (pr (@ite _ (a < b) i T1 T2) x) := by rw [pr_ite]; exact s_icmp_lt X tgt ht hd k1 k2
theorem p_icmp_ge (X : Cx p s m args meth c own cc nL rt D cy ad sh A) {a b : Int32} {i : Decidable (b ≤ a)} {off : Int} (tgt : Nat) (ht : (pc : Int) + off = (tgt : Int)) (hd : decode cc pc = .ok (.if_icmp .ge off, 3))
    (k1 : Sim p l e Rm s m args below meth c nL rt D cy ad sh A tgt lv st x (pr T1 x)) (k2 : Sim p l e Rm s m args below meth c nL rt D cy ad sh A (pc + 3) lv st x (pr T2 x)) : Sim p l e Rm s m args below meth c nL rt D cy ad sh A pc lv (.int b :: .int a :: st) x (pr (@ite _ (b ≤ a) i T1 T2) x) := by rw [pr_ite]; exact s_icmp_ge X tgt ht hd k1 k2
theorem p_icmp_gt (X : Cx p s m args meth c own cc nL rt D cy ad sh A) {a b : Int32} {i : Decidable (b < a)} {off : Int} (tgt : Nat) (ht : (pc : Int) + off = (tgt : Int)) (hd : decode cc pc = .ok (.if_icmp .gt off, 3))
    (k1 : Sim p l e Rm s m args below meth c nL rt D cy ad sh A tgt lv st x (pr T1 x)) (k2 : Sim p l e Rm s m args below meth c nL rt D cy ad sh A (pc + 3) lv st x (pr T2 x)) : Sim p l e Rm s m args below meth c nL rt D cy ad sh A pc lv (.int b :: .int a :: st) x (pr (@ite _ (b < a) i T1 T2) x) := by rw [pr_ite]; exact s_icmp_gt X tgt ht hd k1 k2
theorem p_icmp_le (X : Cx p s m args meth c own cc nL rt D cy ad sh A) {a b : Int32} {i : Decidable (a ≤ b)} {off : Int} (tgt : Nat) (ht : (pc : Int) + off = (tgt : Int)) (hd : decode cc pc = .ok (.if_icmp .le off, 3))
    (k1 : Sim p l e Rm s m args below meth c nL rt D cy ad sh A tgt lv st x (pr T1 x)) (k2 : Sim p l e Rm s m args below meth c nL rt D cy ad sh A (pc + 3) lv st x (pr T2 x)) : Sim p l e Rm s m args below meth c nL rt D cy ad sh A pc lv (.int b :: .int a :: st) x (pr (@ite _ (a ≤ b) i T1 T2) x) := by rw [pr_ite]; exact s_icmp_le X tgt ht hd k1 k2
theorem p_iald (X : Cx p s m args meth c own cc nL rt D cy ad sh A) {k n : Nat} {i : Int32} (hs : sh[k]? = some (.inl n)) (hd : decode cc pc = .ok (.iaload, 1))
    (kk : Sim p l e Rm s m args below meth c nL rt D cy ad sh A (pc + 1) lv (.int (x k i.toNatClampNeg) :: st) x (pr T x)) : Sim p l e Rm s m args below meth c nL rt D cy ad sh A pc lv (.int i :: .ref (ad k) :: st) x (pr (chk i n T) x) := by rw [pr_chk]; exact s_iald X hs hd kk
theorem p_idiv (X : Cx p s m args meth c own cc nL rt D cy ad sh A) {a b : Int32} (hd : decode cc pc = .ok (.idiv, 1))
    (k : Sim p l e Rm s m args below meth c nL rt D cy ad sh A (pc + 1) lv (.int (a / b) :: st) x (pr T x)) : Sim p l e Rm s m args below meth c nL rt D cy ad sh A pc lv (.int b :: .int a :: st) x (pr (nz b T) x) := by rw [pr_nz]; exact s_idiv X hd k
theorem p_irem (X : Cx p s m args meth c own cc nL rt D cy ad sh A) {a b : Int32} (hd : decode cc pc = .ok (.irem, 1))
    (k : Sim p l e Rm s m args below meth c nL rt D cy ad sh A (pc + 1) lv (.int (a - a / b * b) :: st) x (pr T x)) : Sim p l e Rm s m args below meth c nL rt D cy ad sh A pc lv (.int b :: .int a :: st) x (pr (nz b T) x) := by rw [pr_nz]; exact s_irem X hd k
theorem p_iret (X : Cx p s m args meth c own cc nL (some .int) D cy ad sh A) {v : Int32} (hd : decode cc pc = .ok (.ireturn, 1)) : Sim p l e Rm s m args below meth c nL (some .int) D cy ad sh A pc lv [.int v] x (pr (some v) x) := s_iret X hd
theorem p_zret (X : Cx p s m args meth c own cc nL (some .boolean) D cy ad sh A) {v : Int32} (hd : decode cc pc = .ok (.ireturn, 1)) : Sim p l e Rm s m args below meth c nL (some .boolean) D cy ad sh A pc lv [.int v] x (pr (retzp v) x) := by
  have h : pr (retzp v) x = retz v x := by unfold retzp retz; rw [pr_ite]; rfl
  rw [h]
  exact s_zret X hd
theorem p_ite {P : Prop} {i : Decidable P} (k1 : P → Sim p l e Rm s m args below meth c nL rt D cy ad sh A pc lv st x (pr T1 x)) (k2 : ¬ P → Sim p l e Rm s m args below meth c nL rt D cy ad sh A pc lv st x (pr T2 x)) : Sim p l e Rm s m args below meth c nL rt D cy ad sh A pc lv st x (pr (@ite _ P i T1 T2) x) := by rw [pr_ite]; exact s_ite k1 k2
end PURE
end SIM
theorem tabO (v : Int32) (N : Nat) (hN : N < 2 ^ 31) (h : ∀ k, k < N + 1 → ¬ v = nI k) : v.toInt < 0 ∨ (N : Int) < v.toInt := by
  by_cases h0 : v < 0
  · left
    rw [Int32.lt_iff_toInt_lt] at h0
    simpa using h0
  · obtain ⟨j, hj, rfl⟩ := nI_of h0
    right
    rw [nI_toInt hj]
    by_cases hjN : j < N + 1
    · exact absurd rfl (h j hjN)
    · omega

/-! ===== constructors: a judgement over explicit worlds ===== -/
def Cn (p : Program) (l : Launch) (e : Env) (Rm : Room) (s : State) (m : MethodId) (args : Array Value) (below : List Frame) (meth : Method) (c : Code) (nL : Nat) (D : va_G) (A : Nat → Prop) (Q : State → Prop) (pc : Nat) (lv : List (Option Value)) (st : List Value) (ws : va_W) (nc ns : Nat) : Prop :=
  ∀ (H : Heap) (locs : List Loc) (ls : Array Slot), LVh ls nL lv → va_P D vwCl ws H → va_D A ws → va_S A s.heap H locs → W p l e Rm s m args below meth c H locs nc ns Q (F0 m pc ls st)
def CX (p : Program) (s : State) (m : MethodId) (args : Array Value) (meth : Method) (c : Code) (own : String) (cc : ByteArray) (nL : Nat) (D : va_G) (cy : ClassId) (A : Nat → Prop) : Prop :=
  CallFix p m c cc nL s args tg own ∧ KK D cy s ∧ ∀ q, s.heap.size ≤ q → A q
def FF (own : String) (idx ci k : Nat) (ty : FieldType) : Prop := ∃ (C : String) (T : u_T) (N : Nat) (ty0 : Nat → FieldType), vwCl[ci]? = some (C, T, N) ∧ k < N ∧ Cond.fieldLink own idx (T k).1 (T k).2.1 (T k).2.2.1 ∈ tg ∧ (∀ w ∈ u_ws C T N, w ∈ tg) ∧ (∀ k, k < N → parseFieldDescriptor (T k).2.2.1 = some (ty0 k)) ∧ (∀ a, a < N → ∀ b, b < N → a ≠ b → (T a).2.1 ≠ (T b).2.1) ∧ (T k).2.2.2 = true ∧ (T k).1 = own ∧ parseFieldDescriptor (T k).2.2.1 = some ty
section CTOR
variable {p : Program} {l : Launch} {e : Env} {Rm : Room} {s : State} {m : MethodId} {args : Array Value} {below : List Frame} {meth : Method} {c : Code} {own : String} {cc : ByteArray} {nL : Nat} {D : va_G} {cy : ClassId} {A : Nat → Prop} {Q : State → Prop}
variable {pc : Nat} {lv : List (Option Value)} {st : List Value} {ws : va_W} {nc ns : Nat}
theorem n_aload_n (X : CX p s m args meth c own cc nL D cy A) {k : Fin 4} {v : Nat} (hl : lv[(k : Nat)]? = some (some (.ref v))) (hd : decode cc pc = .ok (.aload_n k, 1))
    (kk : Cn p l e Rm s m args below meth c nL D A Q (pc + 1) lv (.ref v :: st) ws nc ns) : Cn p l e Rm s m args below meth c nL D A Q pc lv st ws nc ns :=
  fun H locs ls hL hP hD hS => lv_aload_n X.1.1 X.1.2.1 hd rfl (hL.at hl) (kk H locs ls hL hP hD hS)
theorem n_iload_n (X : CX p s m args meth c own cc nL D cy A) {k : Fin 4} {v : Int32} (hl : lv[(k : Nat)]? = some (some (.int v))) (hd : decode cc pc = .ok (.iload_n k, 1))
    (kk : Cn p l e Rm s m args below meth c nL D A Q (pc + 1) lv (.int v :: st) ws nc ns) : Cn p l e Rm s m args below meth c nL D A Q pc lv st ws nc ns :=
  fun H locs ls hL hP hD hS => lv_iload_n X.1.1 X.1.2.1 hd rfl (hL.at hl) (kk H locs ls hL hP hD hS)
theorem n_iconst (X : CX p s m args meth c own cc nL D cy A) {n : Int} {v : Int32} (hv : Int32.ofInt n = v) (hd : decode cc pc = .ok (.iconst n, 1))
    (k : Cn p l e Rm s m args below meth c nL D A Q (pc + 1) lv (.int v :: st) ws nc ns) : Cn p l e Rm s m args below meth c nL D A Q pc lv st ws nc ns :=
  fun H locs ls hL hP hD hS => lv_iconst X.1.1 X.1.2.1 hd hv (k H locs ls hL hP hD hS)
theorem n_bipush (X : CX p s m args meth c own cc nL D cy A) {n : Int} {v : Int32} (hv : (Int8.ofInt n).toInt32 = v) (hd : decode cc pc = .ok (.bipush n, 2))
    (k : Cn p l e Rm s m args below meth c nL D A Q (pc + 2) lv (.int v :: st) ws nc ns) : Cn p l e Rm s m args below meth c nL D A Q pc lv st ws nc ns :=
  fun H locs ls hL hP hD hS => lv_bipush X.1.1 X.1.2.1 hd hv (k H locs ls hL hP hD hS)
theorem n_sipush (X : CX p s m args meth c own cc nL D cy A) {n : Int} {v : Int32} (hv : (Int16.ofInt n).toInt32 = v) (hd : decode cc pc = .ok (.sipush n, 3))
    (k : Cn p l e Rm s m args below meth c nL D A Q (pc + 3) lv (.int v :: st) ws nc ns) : Cn p l e Rm s m args below meth c nL D A Q pc lv st ws nc ns :=
  fun H locs ls hL hP hD hS => lv_sipush X.1.1 X.1.2.1 hd hv (k H locs ls hL hP hD hS)
theorem n_dup (X : CX p s m args meth c own cc nL D cy A) {a : Value} (ha : a.category = 1) (hd : decode cc pc = .ok (.dup, 1))
    (k : Cn p l e Rm s m args below meth c nL D A Q (pc + 1) lv (a :: a :: st) ws nc ns) : Cn p l e Rm s m args below meth c nL D A Q pc lv (a :: st) ws nc ns :=
  fun H locs ls hL hP hD hS => lv_dup X.1.1 X.1.2.1 hd ha (k H locs ls hL hP hD hS)
theorem n_goto (X : CX p s m args meth c own cc nL D cy A) {off : Int} (tgt : Nat) (ht : (pc : Int) + off = (tgt : Int)) (hd : decode cc pc = .ok (.goto off, 3))
    (k : Cn p l e Rm s m args below meth c nL D A Q tgt lv st ws nc ns) : Cn p l e Rm s m args below meth c nL D A Q pc lv st ws nc ns :=
  fun H locs ls hL hP hD hS => lv_goto X.1.1 X.1.2.1 hd ht (k H locs ls hL hP hD hS)
theorem n_icmp_ge_t (X : CX p s m args meth c own cc nL D cy A) {a b : Int32} {off : Int} (tgt : Nat) (ht : (pc : Int) + off = (tgt : Int)) (h : b ≤ a) (hd : decode cc pc = .ok (.if_icmp .ge off, 3))
    (k : Cn p l e Rm s m args below meth c nL D A Q tgt lv st ws nc ns) : Cn p l e Rm s m args below meth c nL D A Q pc lv (.int b :: .int a :: st) ws nc ns :=
  fun H locs ls hL hP hD hS => lv_icmp_ge X.1.1 X.1.2.1 hd ht (fun _ => k H locs ls hL hP hD hS) (fun h2 => absurd h h2)
theorem n_icmp_ge_f (X : CX p s m args meth c own cc nL D cy A) {a b : Int32} {off : Int} (tgt : Nat) (ht : (pc : Int) + off = (tgt : Int)) (h : ¬ b ≤ a) (hd : decode cc pc = .ok (.if_icmp .ge off, 3))
    (k : Cn p l e Rm s m args below meth c nL D A Q (pc + 3) lv st ws nc ns) : Cn p l e Rm s m args below meth c nL D A Q pc lv (.int b :: .int a :: st) ws nc ns :=
  fun H locs ls hL hP hD hS => lv_icmp_ge X.1.1 X.1.2.1 hd ht (fun h2 => absurd h2 h) (fun _ => k H locs ls hL hP hD hS)
theorem n_istore_n (X : CX p s m args meth c own cc nL D cy A) {k : Fin 4} {v : Int32} (lv' : List (Option Value)) (hlv : lv.set (k : Nat) (some (.int v)) = lv') (hn : (k : Nat) < nL) (hd : decode cc pc = .ok (.istore_n k, 1))
    (kk : Cn p l e Rm s m args below meth c nL D A Q (pc + 1) lv' st ws nc ns) : Cn p l e Rm s m args below meth c nL D A Q pc lv (.int v :: st) ws nc ns :=
  fun H locs ls hL hP hD hS => lv_istore_n X.1.1 X.1.2.1 hd rfl hL.1 hn rfl (fun ls' h' => kk H locs ls' (hlv ▸ LVh.set rfl hL h') hP hD hS)
theorem n_iinc (X : CX p s m args meth c own cc nL D cy A) {k : Nat} {n : Int} {v : Int32} (w : Int32) (lv' : List (Option Value)) (hlv : lv.set k (some (.int w)) = lv') (hn : k < nL) (hl : lv[k]? = some (some (.int v))) (hw : v + Int32.ofInt n = w) (hd : decode cc pc = .ok (.iinc k n, 3))
    (kk : Cn p l e Rm s m args below meth c nL D A Q (pc + 3) lv' st ws nc ns) : Cn p l e Rm s m args below meth c nL D A Q pc lv st ws nc ns :=
  fun H locs ls hL hP hD hS => by
    obtain ⟨j, hj⟩ := List.getElem?_of_mem ((toA_mem lv 0 (k, Value.int v)).mpr ⟨k, hl, (Nat.zero_add k).symm⟩)
    exact lv_iinc X.1.1 X.1.2.1 hd hL.1 hj hw hn rfl (fun ls' h' => kk H locs ls' (hlv ▸ LVh.set rfl hL h') hP hD hS)
theorem n_get (X : CX p s m args meth c own cc nL D cy A) {a ci idx j : Nat} {fs : List Value} {v : Value} (q0 : Nat) (he : ws[q0]? = some (a, .inr (ci, fs))) (hv : fs[j]? = some v) (L : FL own idx ci j) (hd : decode cc pc = .ok (.getfield idx, 3))
    (kk : Cn p l e Rm s m args below meth c nL D A Q (pc + 3) lv (v :: st) ws nc ns) : Cn p l e Rm s m args below meth c nL D A Q pc lv (.ref a :: st) ws nc ns :=
  fun H locs ls hL hP hD hS => by
    obtain ⟨C, T, N, h1, h2, h3, h4⟩ := L
    exact va_get X.1.1 X.1.2.1 X.1.2.2.2.2 h4 X.1.2.2.2.1 X.2.1.1 hP q0 he h1 j h2 (X.1.2.2.2.2 _ h3) (fun _ h => h) hv hd (kk H locs ls hL hP hD hS)
theorem n_putF (X : CX p s m args meth c own cc nL D cy A) (hin : meth.name = "<init>") {a ci idx j r : Nat} {fs : List Value} {ty : FieldType} (q0 : Nat) (ws' : va_W) (he : ws[q0]? = some (a, .inr (ci, fs))) (hws : ws.set q0 (a, .inr (ci, fs.set j (.ref r))) = ws') (L : FF own idx ci j ty) (hn : narrow ty (.ref r) = .ref r) (hf : fits ty (.ref r) = true) (hlen : j < fs.length) (hd : decode cc pc = .ok (.putfield idx, 3))
    (kk : Cn p l e Rm s m args below meth c nL D A Q (pc + 3) lv st ws' nc ns) : Cn p l e Rm s m args below meth c nL D A Q pc lv (.ref r :: .ref a :: st) ws nc ns :=
  fun H locs ls hL hP hD hS => by
    obtain ⟨C, T, N, ty0, h1, h2, h3, h4, h5, h6, h7, h8, h9⟩ := L
    subst hws
    exact va_putF (v := .ref r) X.1.1 X.1.2.1 X.1.2.2.2.2 h4 ty0 h5 h6 X.1.2.2.2.1 X.2.1.1 hP hD hS q0 he h1 j h2 (X.1.2.2.2.2 _ h3) (fun _ h => h) h7 hin h8 h9 hn hf hlen hd (fun H1 locs1 hP1 hD1 hS1 => kk H1 locs1 ls hL hP1 hD1 hS1)
theorem n_iast (X : CX p s m args meth c own cc nL D cy A) {a n : Nat} {f : Nat → Int32} {i v : Int32} (q0 k : Nat) (ws' : va_W) (he : ws[q0]? = some (a, .inl (cy, n, .inl f))) (hk : i.toNatClampNeg = k) (hws : ws.set q0 (a, .inl (cy, n, .inl (upd f k v))) = ws') (hin : ¬ (i < 0 ∨ n ≤ i.toNatClampNeg)) (hd : decode cc pc = .ok (.iastore, 1))
    (kk : Cn p l e Rm s m args below meth c nL D A Q (pc + 1) lv st ws' nc ns) : Cn p l e Rm s m args below meth c nL D A Q pc lv (.int v :: .int i :: .ref a :: st) ws nc ns :=
  fun H locs ls hL hP hD hS => by
    subst hws
    subst hk
    exact va_iast X.1.1 X.1.2.1 X.2.1.1 hP hD hS q0 0 he rfl hin hd (fun H1 locs1 hP1 hD1 hS1 => kk H1 locs1 ls hL hP1 hD1 hS1)
theorem n_obj (X : CX p s m args meth c own cc nL D cy A) {a idx : Nat} (h1 : Cond.methodLink own idx Lib.objectInit ∈ tg) (h2 : Cond.instanceMethod Lib.objectInit ∈ tg) (h3 : Cond.code Lib.objectInit ⟨#[0xb1]⟩ 1 none ∈ tg) (hfr : 1 ≤ Rm.frames) (hlo : (st.map fun v => v.category).sum + 12 ≤ Rm.locals) (hd : decode cc pc = .ok (.invokespecial idx, 3))
    (kk : Cn p l e Rm s m args below meth c nL D A Q (pc + 3) lv st ws nc ns) : Cn p l e Rm s m args below meth c nL D A Q pc lv (.ref a :: st) ws nc ns :=
  fun H locs ls hL hP hD hS => W.objInit X.1.1 X.1.2.1 X.1.2.2.2.1 (X.1.2.2.2.2 _ h1) (X.1.2.2.2.2 _ h2) (X.1.2.2.2.2 _ h3) rfl (by rw [X.1.2.2.1]; exact hL.1.1) rfl hd hfr (by show 2 * 0 + _ + 12 ≤ _; omega) (kk H locs ls hL hP hD hS)
theorem n_newa (X : CX p s m args meth c own cc nL D cy A) {n : Int32} (N' : Nat) (harr : Cond.arrayClass .int ∈ tg) (hn : ¬ n < 0) (hN : n.toNatClampNeg = N') (hbytes : N' * componentBytes .int ≤ 536870912) (hcells : nc + 1 ≤ Rm.cells) (hslots : ns + N' ≤ Rm.slots) (hd : decode cc pc = .ok (.newarray .int, 2))
    (kk : ∀ q, Cn p l e Rm s m args below meth c nL D A Q (pc + 2) lv (.ref q :: st) (ws ++ [(q, .inl (cy, N', .inl (fun _ => 0)))]) (nc + 1) (ns + N')) : Cn p l e Rm s m args below meth c nL D A Q pc lv (.int n :: st) ws nc ns :=
  fun H locs ls hL hP hD hS => by
    refine va_newa (atype := .int) (ty := .int) X.1.1 X.1.2.1 (X.1.2.2.2.2 (Cond.arrayClass .int) harr) rfl X.2.1.1 hP hD hS X.2.2 (a0 := (N', .inl (fun _ => 0))) (fun cA => rfl) hn hN hbytes hcells hslots hd (fun q cA H1 hK1 hP1 hD1 hS1 => ?_)
    have e1 : s.vm.findClass ("[" ++ FieldType.int.toString) = some cA := (hK1.2 1 _ rfl).2
    have e0 : s.vm.findClass ("[" ++ FieldType.int.toString) = some cy := (X.2.1.1.2 0 _ rfl).2
    have e2 : cA = cy := Option.some.inj (e1.symm.trans e0)
    subst e2
    exact kk q H1 locs ls hL hP1 hD1 hS1
def NW (own : String) (idx ci : Nat) (fs : List Value) : Prop := ∃ (C : String) (T : u_T) (N : Nat) (ty : Nat → FieldType), vwCl[ci]? = some (C, T, N) ∧ (∀ w ∈ u_ws C T N, w ∈ tg) ∧ (∀ k, k < N → parseFieldDescriptor (T k).2.2.1 = some (ty k)) ∧ Cond.classLink own idx C ∈ tg ∧ Cond.instantiable C N ∈ tg ∧ Cond.initialized C ∈ tg ∧ (∀ j, j < N → defaultValue (ty j) = vp_V fs j) ∧ N = fs.length
theorem n_new (X : CX p s m args meth c own cc nL D cy A) {idx ci : Nat} {fs : List Value} (L : NW own idx ci fs) (hcells : nc + 1 ≤ Rm.cells) (hslots : ns + fs.length ≤ Rm.slots) (hd : decode cc pc = .ok (.new idx, 3))
    (kk : ∀ q, Cn p l e Rm s m args below meth c nL D A Q (pc + 3) lv (.ref q :: st) (ws ++ [(q, .inr (ci, fs))]) (nc + 1) (ns + fs.length)) : Cn p l e Rm s m args below meth c nL D A Q pc lv st ws nc ns :=
  fun H locs ls hL hP hD hS => by
    obtain ⟨C, T, N, ty, h1, h2, h3, h4, h5, h6, h7, h8⟩ := L
    subst h8
    exact va_new X.1.1 X.1.2.1 X.1.2.2.2.2 h2 ty h3 X.1.2.2.2.1 (X.1.2.2.2.2 _ h4) (X.1.2.2.2.2 _ h5) (X.1.2.2.2.2 _ h6) X.2.1.1 hP hD hS X.2.2 h1 h7 hcells hslots hd (fun q H1 hP1 hD1 hS1 => kk q H1 locs ls hL hP1 hD1 hS1)
/-- a constructor's contract: the cells wc (the new object alone) become wf q, q the new addresses -/
def CtI (l : Launch) (D : va_G) (cy : ClassId) (y : MethodName) (bc : ByteArray) (mL fr lo mc ms : Nat) (vs : List Value) (wc : va_W) (wf : (Nat → Nat) → va_W) : Prop :=
  ∀ sz : Nat, Met l y (Cond.code y bc mL none :: tg) ({ frames := fr, cells := mc, slots := ms, locals := lo }) (va_Pc vs (fun U => U.heap.size = sz ∧ va_P D vwCl wc U.heap ∧ KK D cy U ∧ va_D (fun _ => True) wc)) (va_Qv (fun _ : Nat → Nat => True) (fun q t => va_P D vwCl (wf q) t.heap ∧ va_D (va_A wc sz) (wf q)) (va_A wc sz)) mc ms (va_A wc sz)
theorem preI_blind {wc : va_W} {sz : Nat} {vs : List Value} : FrameBlind (va_Pc vs (fun U => U.heap.size = sz ∧ va_P D vwCl wc U.heap ∧ KK D cy U ∧ va_D (fun _ => True) wc)) := by
  intro a U g mk q
  obtain ⟨q0, q1, qP, qK, qD⟩ := q
  exact ⟨q0, q1, qP, qK.call, qD⟩
theorem ctI_of {y : MethodName} {bc : ByteArray} {mL fr lo mc ms : Nat} {vs : List Value} {wc : va_W} {wf : (Nat → Nat) → va_W} (lv : List (Option Value)) (hy : plainName y.cls = true) (hnm : y.name = "<init>") (hlen : (lg_sl vs).length ≤ mL) (hlv : lv_args 0 vs = toA 0 lv) (hcat : (toA 0 lv).all (fun q => q.2.category == 1) = true)
    (body : ∀ (p : Program) (e : Env) (s : State) (m : MethodId) (args : Array Value) (below : List Frame) (meth : Method) (c : Code) (A : Nat → Prop) (Q : State → Prop), CX p s m args meth c y.cls bc mL D cy A → meth.name = "<init>" →
      (∀ (pc : Nat) (q : Nat → Nat) (lv : List (Option Value)), decode bc pc = .ok (.return_, 1) → Cn p l e ({ frames := fr, cells := mc, slots := ms, locals := lo }) s m args below meth c mL D A Q pc lv [] (wf q) mc ms) →
      Cn p l e ({ frames := fr, cells := mc, slots := ms, locals := lo }) s m args below meth c mL D A Q 0 lv [] wc 0 0) : CtI l D cy y bc mL fr lo mc ms vs wc wf := by
  intro sz
  refine Met.ofW (cc := bc) (maxL := mL) (ret := none) hy rfl ?_
  intro p e s m args below meth c s₁ B hml hv
  obtain ⟨rfl, hsz, hP, hK, hD0⟩ := hv
  have hts := atoms_spec (ws := Cond.code y bc mL none :: tg) B.pre
  have hown : s.vm.findClass y.cls = some m.cls := findClass_of_methodNamed B.named
  have hin : meth.name = "<init>" := (name_of_methodNamed B.named B.method).1.trans hnm
  subst hsz
  have hD := hD0.self (sz := s.heap.size)
  have X : CX p s m vs.toArray meth c y.cls bc mL D cy (va_A wc s.heap.size) := ⟨⟨B.exec, B.bytes, hml, hown, fun w hw => hts w (List.mem_cons_of_mem _ hw)⟩, hK, fun q h => Or.inr h⟩
  have hl := lv_entry vs (n := mL) hlen
  rw [lg_entry_eq]
  rw [hlv] at hl
  have hL : LVh ((lg_sl vs ++ List.replicate (mL - (lg_sl vs).length) Slot.unset).toArray) mL lv := by
    refine ⟨hl, fun k v hk => ?_⟩
    have h1 := List.all_eq_true.mp hcat (k, v) ((toA_mem lv 0 (k, v)).mpr ⟨k, hk, (Nat.zero_add k).symm⟩)
    simpa using h1
  refine body p e s m vs.toArray below meth c _ (MQ below (va_Qv (fun _ : Nat → Nat => True) (fun q t => va_P D vwCl (wf q) t.heap ∧ va_D (va_A wc s.heap.size) (wf q)) (va_A wc s.heap.size)) vs.toArray s mc ms (va_A wc s.heap.size)) X hin ?_ s.heap [] _ hL hP hD va_S.rf
  intro pc q lv2 hd H locs ls hL2 hP2 hD2 hS2
  exact W.vret X.1.1 X.1.2.1 B.returns (fun t ht hW => ⟨⟨q, rfl, trivial, by rw [ht]; exact hP2, hD2⟩, hS2.F ht⟩) hS2.2.2 hd B.notSynchronized
theorem fm_of {ws ws' : va_W} {is : List Nat} (h : is.map (fun i => ws[i]?) = ws'.map some) : is.filterMap (fun i => ws[i]?) = ws' := by
  have h1 : (is.map (fun i => ws[i]?)).filterMap id = (ws'.map some).filterMap id := by rw [h]
  simpa [List.filterMap_map, Function.comp_def] using h1
theorem n_fin {ws' : va_W} (is : List Nat) (h1 : is.map (fun i => ws[i]?) = ws'.map some) (hn : va_nd is = true) (kk : Cn p l e Rm s m args below meth c nL D A Q pc lv st ws' nc ns) : Cn p l e Rm s m args below meth c nL D A Q pc lv st ws nc ns :=
  fun H locs ls hL hP hD hS => kk H locs ls hL (hP.sub is (fm_of h1)) (hD.sub is hn h1) hS
theorem n_runI {mc ms a : Nat} {As : List Value} {stk : List Value} {wc wr : va_W} {wf : (Nat → Nat) → va_W} (X : CX p s m args meth c own cc nL D cy A)
    (hrun : ∀ (H : Heap) (locs : List Loc) (ls : Array Slot), LVh ls nL lv → va_P D vwCl wc H → va_D A wc → va_Run p l e Rm s m args below meth c H locs nc ns mc ms (F0 m pc ls stk) st (va_Qv (fun _ : Nat → Nat => True) (fun q t => va_P D vwCl (wf q) t.heap ∧ va_D (va_A wc H.size) (wf q)) (va_A wc H.size) (Value.ref a :: As).toArray) (va_A wc H.size))
    (isC isR : List Nat) (hC : isC.map (fun i => ws[i]?) = wc.map some) (hR : isR.map (fun i => ws[i]?) = wr.map some) (hnC : va_nd isC = true) (hnR : va_nd isR = true) (hdis : ∀ i ∈ isR, i ∉ isC)
    (kk : ∀ q : Nat → Nat, Cn p l e Rm s m args below meth c nL D A Q (pc + 3) lv st (wr ++ wf q) (nc + mc) (ns + ms)) : Cn p l e Rm s m args below meth c nL D A Q pc lv stk ws nc ns :=
  fun H locs ls hL hP hD hS => by
    have hPc := hP.sub isC (fm_of hC)
    have hDc := hD.sub isC hnC hC
    have hFc := va_free (wc := wc) hD hS X.2.2 isC hC
    refine va_callv (hrun H locs ls hL hPc hDc) hS (fun q _ h => hFc q h) hFc (fun u t H1 locs1 ht hvm hw hB hz1 hk1 hS1 => ?_)
    obtain ⟨hP1, hD1⟩ := hB
    rw [ht] at hP1
    obtain ⟨hP2, hD2⟩ := va_join (wr := wr) (w1 := wf u) hP hD isC isR hC hR hnR hdis hk1 hFc hP1 hD1
    exact kk u H1 locs1 ls hL hP2 hD2 hS1
def LkI (own : String) (idx : Nat) (y : MethodName) (bc : ByteArray) (mL n : Nat) : Prop := Cond.methodLink own idx y ∈ tg ∧ Cond.instanceMethod y ∈ tg ∧ Cond.initialized y.cls ∈ tg ∧ Cond.code y bc mL none ∈ tg ∧ y.name = "<init>" ∧ y.cls ≠ "java/lang/invoke/MethodHandle" ∧ y.cls ≠ "java/lang/invoke/VarHandle" ∧ (parseMethodDescriptor y.desc).map (fun d => d.parameters.length) = some n
def LkIN (own : String) (idx : Nat) (y : MethodName) (host : String) (bc : ByteArray) (mL n : Nat) : Prop := Cond.methodLinkNest own idx y host ∈ nestW ∧ Cond.instanceMethod y ∈ tg ∧ Cond.initialized y.cls ∈ tg ∧ Cond.code y bc mL none ∈ tg ∧ y.name = "<init>" ∧ y.cls ≠ "java/lang/invoke/MethodHandle" ∧ y.cls ≠ "java/lang/invoke/VarHandle" ∧ (parseMethodDescriptor y.desc).map (fun d => d.parameters.length) = some n
theorem n_callI {y : MethodName} {bc : ByteArray} {mL fr lo mc ms idx a n : Nat} {As : List Value} {stk : List Value} {wc wr : va_W} {wf : (Nat → Nat) → va_W} (X : CX p s m args meth c own cc nL D cy A) (L : LkI own idx y bc mL n) (C : CtI l D cy y bc mL fr lo mc ms (.ref a :: As) wc wf) (hn : As.length = n) (hstk : stk = As.reverse ++ .ref a :: st)
    (hroom : fr + 1 ≤ Rm.frames ∧ 8 + (mL + 11) + lo ≤ Rm.locals) (hcs : nc + mc ≤ Rm.cells ∧ ns + ms ≤ Rm.slots) (hw : (st.map fun v => v.category).sum ≤ 8) (hd : decode cc pc = .ok (.invokespecial idx, 3))
    (isC isR : List Nat) (hC : isC.map (fun i => ws[i]?) = wc.map some) (hR : isR.map (fun i => ws[i]?) = wr.map some) (hnC : va_nd isC = true) (hnR : va_nd isR = true) (hdis : ∀ i ∈ isR, i ∉ isC)
    (kk : ∀ q : Nat → Nat, Cn p l e Rm s m args below meth c nL D A Q (pc + 3) lv st (wr ++ wf q) (nc + mc) (ns + ms)) : Cn p l e Rm s m args below meth c nL D A Q pc lv stk ws nc ns := by
  refine n_runI (As := As) (a := a) X (fun H locs ls hL hPc hDc => ?_) isC isR hC hR hnC hnR hdis kk
  exact va_runI (e := e) (below := below) (meth := meth) (locs := locs) (As := As) (rest := st) (g := F0 m pc ls stk) X.1 (C H.size) (cwI n X.1.2.2.2.2 (good_tg L.2.2.2.1) rfl rfl rfl (X.1.2.2.2.2 _ L.2.2.1) (X.1.2.2.2.2 _ L.1) (X.1.2.2.2.2 _ L.2.1) L.2.2.2.2.1 L.2.2.2.2.2 hroom) ⟨preI_blind, fun U hU hW => ⟨rfl, by rw [hU], by rw [hU]; exact hPc, X.2.1.warm hW, hDc.weaken (fun _ _ _ _ => trivial)⟩⟩ rfl hn hL.1.1 hstk (lv_room hw) hd hcs
theorem n_callIN {y : MethodName} {host : String} {bc : ByteArray} {mL fr lo mc ms idx a n : Nat} {As : List Value} {stk : List Value} {wc wr : va_W} {wf : (Nat → Nat) → va_W} (X : CX p s m args meth c own cc nL D cy A) (L : LkIN own idx y host bc mL n) (C : CtI l D cy y bc mL fr lo mc ms (.ref a :: As) wc wf) (hn : As.length = n) (hstk : stk = As.reverse ++ .ref a :: st)
    (hroom : fr + 1 ≤ Rm.frames ∧ 8 + (mL + 11) + lo ≤ Rm.locals) (hcs : nc + mc ≤ Rm.cells ∧ ns + ms ≤ Rm.slots) (hw : (st.map fun v => v.category).sum ≤ 8) (hd : decode cc pc = .ok (.invokespecial idx, 3))
    (isC isR : List Nat) (hC : isC.map (fun i => ws[i]?) = wc.map some) (hR : isR.map (fun i => ws[i]?) = wr.map some) (hnC : va_nd isC = true) (hnR : va_nd isR = true) (hdis : ∀ i ∈ isR, i ∉ isC)
    (kk : ∀ q : Nat → Nat, Cn p l e Rm s m args below meth c nL D A Q (pc + 3) lv st (wr ++ wf q) (nc + mc) (ns + ms)) : Cn p l e Rm s m args below meth c nL D A Q pc lv stk ws nc ns := by
  refine n_runI (As := As) (a := a) X (fun H locs ls hL hPc hDc => ?_) isC isR hC hR hnC hnR hdis kk
  exact va_runIN (e := e) (below := below) (meth := meth) (locs := locs) (As := As) (rest := st) (g := F0 m pc ls stk) X.1 (C H.size) ⟨va_cnB n X.1.2.2.2.2 (good_tg L.2.2.2.1) rfl rfl rfl (X.2.1.2 _ L.1) (X.1.2.2.2.2 _ L.2.2.1) L.2.2.2.2.2 hroom, L.2.2.2.2.1, X.1.2.2.2.2 _ L.2.1⟩ ⟨preI_blind, fun U hU hW => ⟨rfl, by rw [hU], by rw [hU]; exact hPc, X.2.1.warm hW, hDc.weaken (fun _ _ _ _ => trivial)⟩⟩ rfl hn hL.1.1 hstk (lv_room hw) hd hcs
/-- a method called in a constructor, over a picture that is the whole world there -/
theorem n_callV0 {ad : Nat → Nat} {sh : List Sh} {x x' : Mem} {r : Int32} {M : Res} {y : MethodName} {bc : ByteArray} {mL n fr lo idx k ci : Nat} {As stk : List Value} {fs : List (Option Nat)} {q : vw_C} (X : CX p s m args meth c own cc nL D cy A) (L : LkV own idx y bc mL none n) (C : Ct l D cy ad sh y bc mL none fr lo (.ref (ad k) :: As) x M) (hM : M = some (r, x')) (hs : sh[k]? = some (.inr (ci, fs))) (hc : vwCl[ci]? = some q) (hq : q.1 = y.cls) (hn : As.length = n) (hstk : stk = As.reverse ++ .ref (ad k) :: st)
    (hroom : fr + 1 ≤ Rm.frames ∧ 8 + (mL + 11) + lo ≤ Rm.locals) (hcs : nc + 0 ≤ Rm.cells ∧ ns + 0 ≤ Rm.slots) (hw : (st.map fun v => v.category).sum ≤ 8) (hd : decode cc pc = .ok (.invokevirtual idx, 3)) (hws : ws = pic cy ad x 0 sh)
    (kk : Cn p l e Rm s m args below meth c nL D A Q (pc + 3) lv st (pic cy ad x' 0 sh) nc ns) : Cn p l e Rm s m args below meth c nL D A Q pc lv stk ws nc ns :=
  fun H locs ls hL hP hD hS => by
    subst hws
    have hg := pic_get cy ad x sh 0 k _ hs
    rw [Nat.zero_add] at hg
    have hrecv := va_recv X.2.1.1 hP hc hg
    rw [hq] at hrecv
    have hrun := va_runV (e := e) (below := below) (meth := meth) (locs := locs) (cells := nc) (slots := ns) (As := As) (rest := st) (g := F0 m pc ls stk) X.1 (C r x' hM H.size) ⟨callB_of n X.1.2.2.2.2 (good_tg L.2.2.2.2.1) rfl rfl rfl (X.1.2.2.2.2 _ L.2.2.2.1) (X.1.2.2.2.2 _ L.1) L.2.2.2.2.2 hroom, X.1.2.2.2.2 _ L.2.1, X.1.2.2.2.2 _ L.2.2.1⟩ ⟨pre_blind, hrecv, fun U hU hW => ⟨rfl, by rw [hU], by rw [hU]; exact hP, X.2.1.warm hW, hD.weaken (fun _ _ _ _ => trivial)⟩⟩ rfl hn hL.1.1 hstk (lv_room hw) hd hcs
    have hA : ∀ q, va_A (pic cy ad x 0 sh) H.size q → A q := by
      intro q hq
      rcases hq with ⟨k, e, hk⟩ | hq
      · exact hD.2 k _ hk
      · exact X.2.2 q (Nat.le_trans hS.1 hq)
    intro T hT Y
    obtain ⟨v, st₀, t, T', L2, h0, Y', hL2, e1, e2, ⟨hv, hp, hz, hk⟩, stp⟩ := hrun T hT Y
    cases hv
    rw [h0] at hz hk
    obtain ⟨t2, a1, b1⟩ := kk T'.heap (locs ++ L2) ls hL (by rw [e1]; exact hp) (pic_D x x' hD)
      ⟨Nat.le_trans hS.1 (by rw [e1]; exact hz), fun q h1 h2 => by rw [e1, hk q (Nat.lt_of_lt_of_le h1 hS.1) (fun z => h2 (hA q z))]; exact hS.2.1 q h1 h2, fun q hq => by
        rcases List.mem_append.mp hq with h | h
        · exact hS.2.2 q h
        · exact hA _ (hL2 q h)⟩ T' rfl Y'
    exact ⟨t2, stp t2 a1, b1⟩
theorem n_astore_n (X : CX p s m args meth c own cc nL D cy A) {k : Fin 4} {v : Nat} (lv' : List (Option Value)) (hlv : lv.set (k : Nat) (some (.ref v)) = lv') (hn : (k : Nat) < nL) (hd : decode cc pc = .ok (.astore_n k, 1))
    (kk : Cn p l e Rm s m args below meth c nL D A Q (pc + 1) lv' st ws nc ns) : Cn p l e Rm s m args below meth c nL D A Q pc lv (.ref v :: st) ws nc ns :=
  fun H locs ls hL hP hD hS => lv_astore_n X.1.1 X.1.2.1 hd rfl hL.1 hn rfl (fun ls' h' => kk H locs ls' (hlv ▸ LVh.set rfl hL h') hP hD hS)
end CTOR

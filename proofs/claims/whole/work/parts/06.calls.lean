/-! ===== calls, and a contract out of a walk ===== -/
/-- the contract: called with the values vs over the memory x, the method does what M says -/
def Ct (l : Launch) (D : va_G) (cy : ClassId) (ad : Nat → Nat) (sh : List Sh) (y : MethodName) (bc : ByteArray) (mL : Nat) (rt : Option FieldType) (fr lo : Nat) (vs : List Value) (x : Mem) (M : Res) : Prop :=
  ∀ (r : Int32) (x' : Mem), M = some (r, x') → ∀ sz : Nat, Met l y (Cond.code y bc mL rt :: tg) ({ frames := fr, cells := 0, slots := 0, locals := lo }) (va_Pc vs (fun U => U.heap.size = sz ∧ va_P D vwCl (pic cy ad x 0 sh) U.heap ∧ KK D cy U ∧ va_D (fun _ => True) (pic cy ad x 0 sh))) (QR D cy ad sh (va_A (pic cy ad x 0 sh) sz) rt r x') 0 0 (va_A (pic cy ad x 0 sh) sz)
theorem pre_blind {D : va_G} {cy : ClassId} {ad : Nat → Nat} {sh : List Sh} {x : Mem} {sz : Nat} {vs : List Value} : FrameBlind (va_Pc vs (fun U => U.heap.size = sz ∧ va_P D vwCl (pic cy ad x 0 sh) U.heap ∧ KK D cy U ∧ va_D (fun _ => True) (pic cy ad x 0 sh))) := by
  intro a U g mk q
  obtain ⟨q0, q1, qP, qK, qD⟩ := q
  exact ⟨q0, q1, qP, qK.call, qD⟩
theorem ct_of {l : Launch} {D : va_G} {cy : ClassId} {ad : Nat → Nat} {sh : List Sh} {y : MethodName} {bc : ByteArray} {mL : Nat} {rt : Option FieldType} {fr lo : Nat} {vs : List Value} {x : Mem} {M : Res} (lv : List (Option Value)) (hy : plainName y.cls = true) (hlen : (lg_sl vs).length ≤ mL) (hlv : lv_args 0 vs = toA 0 lv) (hcat : (toA 0 lv).all (fun q => q.2.category == 1) = true)
    (body : ∀ (p : Program) (e : Env) (s : State) (m : MethodId) (args : Array Value) (below : List Frame) (meth : Method) (c : Code) (A : Nat → Prop), Cx p s m args meth c y.cls bc mL rt D cy ad sh A →
      Sim p l e ({ frames := fr, cells := 0, slots := 0, locals := lo }) s m args below meth c mL rt D cy ad sh A 0 lv [] x M) : Ct l D cy ad sh y bc mL rt fr lo vs x M := by
  intro r x' hM sz
  refine Met.ofW (cc := bc) (maxL := mL) (ret := rt) hy rfl ?_
  intro p e s m args below meth c s₁ B hml hv
  obtain ⟨rfl, hsz, hP, hK, hD0⟩ := hv
  have hts := atoms_spec (ws := Cond.code y bc mL rt :: tg) B.pre
  have hown : s.vm.findClass y.cls = some m.cls := findClass_of_methodNamed B.named
  subst hsz
  have hD := hD0.self (sz := s.heap.size)
  have X : Cx p s m vs.toArray meth c y.cls bc mL rt D cy ad sh (va_A (pic cy ad x 0 sh) s.heap.size) := ⟨⟨B.exec, B.bytes, hml, hown, fun w hw => hts w (List.mem_cons_of_mem _ hw)⟩, B.returns, B.notSynchronized, hK, fun z => pic_D x z hD, fun q h => Or.inr h⟩
  have hl := lv_entry vs (n := mL) hlen
  rw [lg_entry_eq]
  rw [hlv] at hl
  have hL : LVh ((lg_sl vs ++ List.replicate (mL - (lg_sl vs).length) Slot.unset).toArray) mL lv := by
    refine ⟨hl, fun k v hk => ?_⟩
    have h1 := List.all_eq_true.mp hcat (k, v) ((toA_mem lv 0 (k, v)).mpr ⟨k, hk, (Nat.zero_add k).symm⟩)
    simpa using h1
  exact body p e s m vs.toArray below meth c _ X r x' hM s.heap [] _ hL hP va_S.rf
section CALLS
variable {p : Program} {l : Launch} {e : Env} {Rm : Room} {s : State} {m : MethodId} {args : Array Value} {below : List Frame} {meth : Method} {c : Code} {own : String} {cc : ByteArray} {nL : Nat} {rt : Option FieldType} {D : va_G} {cy : ClassId} {ad : Nat → Nat} {sh : List Sh} {A : Nat → Prop}
variable {pc : Nat} {lv : List (Option Value)} {st stk : List Value} {x : Mem} {M : Res} {K : Int32 → Mem → Res}
theorem A_sub (X : Cx p s m args meth c own cc nL rt D cy ad sh A) {H : Heap} {locs : List Loc} (hS : va_S A s.heap H locs) (x : Mem) : ∀ q, va_A (pic cy ad x 0 sh) H.size q → A q := by
  intro q hq
  rcases hq with ⟨k, e, hk⟩ | hq
  · exact (X.2.2.2.2.1 x).2 k _ hk
  · exact X.2.2.2.2.2 q (Nat.le_trans hS.1 hq)
theorem run_int {ty : FieldType} {st0 : List Value} {H : Heap} {locs : List Loc} {ls : Array Slot} {a : Array Value} {Q : State → Prop} {A1 : Nat → Prop} {r1 : Int32} {x1 : Mem} (hr : va_Run p l e Rm s m args below meth c H locs 0 0 0 0 (F0 m pc ls st0) st (QR D cy ad sh A1 (some ty) r1 x1 a) A1) (hS : va_S A s.heap H locs) (hA : ∀ q, A1 q → A q)
    (kk : ∀ (H1 : Heap) (locs1 : List Loc), va_P D vwCl (pic cy ad x1 0 sh) H1 → va_S A s.heap H1 locs1 → W p l e Rm s m args below meth c H1 locs1 0 0 Q (F0 m (pc + 3) ls (.int r1 :: st))) : W p l e Rm s m args below meth c H locs 0 0 Q (F0 m pc ls st0) := by
  intro T hT X
  obtain ⟨v, st₀, t, T', L, h0, X', hL, e1, e2, ⟨hv, hp, hz, hk⟩, stp⟩ := hr T hT X
  cases hv
  rw [h0] at hz hk
  obtain ⟨t2, a1, b1⟩ := kk T'.heap (locs ++ L) (by rw [e1]; exact hp)
    ⟨Nat.le_trans hS.1 (by rw [e1]; exact hz), fun q h1 h2 => by rw [e1, hk q (Nat.lt_of_lt_of_le h1 hS.1) (fun z => h2 (hA q z))]; exact hS.2.1 q h1 h2, fun q hq => by
      rcases List.mem_append.mp hq with h | h
      · exact hS.2.2 q h
      · exact hA _ (hL q h)⟩ T' rfl X'
  exact ⟨t2, stp t2 a1, b1⟩
theorem run_void {st0 : List Value} {H : Heap} {locs : List Loc} {ls : Array Slot} {a : Array Value} {Q : State → Prop} {A1 : Nat → Prop} {r1 : Int32} {x1 : Mem} (hr : va_Run p l e Rm s m args below meth c H locs 0 0 0 0 (F0 m pc ls st0) st (QR D cy ad sh A1 none r1 x1 a) A1) (hS : va_S A s.heap H locs) (hA : ∀ q, A1 q → A q)
    (kk : ∀ (H1 : Heap) (locs1 : List Loc), va_P D vwCl (pic cy ad x1 0 sh) H1 → va_S A s.heap H1 locs1 → W p l e Rm s m args below meth c H1 locs1 0 0 Q (F0 m (pc + 3) ls st)) : W p l e Rm s m args below meth c H locs 0 0 Q (F0 m pc ls st0) := by
  intro T hT X
  obtain ⟨v, st₀, t, T', L, h0, X', hL, e1, e2, ⟨hv, hp, hz, hk⟩, stp⟩ := hr T hT X
  cases hv
  rw [h0] at hz hk
  obtain ⟨t2, a1, b1⟩ := kk T'.heap (locs ++ L) (by rw [e1]; exact hp)
    ⟨Nat.le_trans hS.1 (by rw [e1]; exact hz), fun q h1 h2 => by rw [e1, hk q (Nat.lt_of_lt_of_le h1 hS.1) (fun z => h2 (hA q z))]; exact hS.2.1 q h1 h2, fun q hq => by
      rcases List.mem_append.mp hq with h | h
      · exact hS.2.2 q h
      · exact hA _ (hL q h)⟩ T' rfl X'
  exact ⟨t2, stp t2 a1, b1⟩
theorem cl_some {r : Int32} {x' : Mem} (h : cl M K = some (r, x')) : ∃ r1 x1, M = some (r1, x1) ∧ K r1 x1 = some (r, x') := by
  unfold cl at h
  cases M with
  | none => cases h
  | some q => exact ⟨q.1, q.2, rfl, h⟩
variable {y : MethodName} {bc : ByteArray} {mL n fr lo idx : Nat} {ty : FieldType} {As : List Value}
theorem lkV_cw {own2 : String} {rt2 : Option FieldType} (X : Cx p s m args meth c own2 cc nL rt D cy ad sh A) (L : LkV own2 idx y bc mL rt2 n) (hroom : fr + 1 ≤ Rm.frames ∧ 8 + (mL + 11) + lo ≤ Rm.locals) : CallW Rm s args own2 y.cls idx y bc mL rt2 (Cond.code y bc mL rt2 :: tg) ({ frames := fr, cells := 0, slots := 0, locals := lo }) 0 0 n :=
  ⟨callB_of n X.1.2.2.2.2 (good_tg L.2.2.2.2.1) rfl rfl rfl (X.1.2.2.2.2 _ L.2.2.2.1) (X.1.2.2.2.2 _ L.1) L.2.2.2.2.2 hroom, X.1.2.2.2.2 _ L.2.1, X.1.2.2.2.2 _ L.2.2.1⟩
theorem lkS_cw {own2 : String} {rt2 : Option FieldType} (X : Cx p s m args meth c own2 cc nL rt D cy ad sh A) (L : LkS own2 idx y bc mL rt2 n) (hroom : fr + 1 ≤ Rm.frames ∧ 8 + (mL + 11) + lo ≤ Rm.locals) : CallB Rm s args own2 idx y bc mL rt2 (Cond.code y bc mL rt2 :: tg) ({ frames := fr, cells := 0, slots := 0, locals := lo }) 0 0 n ∧ (Cond.static y).before args s = true :=
  ⟨callB_of n X.1.2.2.2.2 (good_tg L.2.2.2.1) rfl rfl rfl (X.1.2.2.2.2 _ L.2.2.1) (X.1.2.2.2.2 _ L.1) L.2.2.2.2 hroom, X.1.2.2.2.2 _ L.2.1⟩
theorem lkN_cw {own2 host : String} {rt2 : Option FieldType} (X : Cx p s m args meth c own2 cc nL rt D cy ad sh A) (L : LkN nestW own2 idx y host bc mL rt2 n) (hroom : fr + 1 ≤ Rm.frames ∧ 8 + (mL + 11) + lo ≤ Rm.locals) : va_CN Rm s args own2 idx y host bc mL rt2 (Cond.code y bc mL rt2 :: tg) ({ frames := fr, cells := 0, slots := 0, locals := lo }) 0 0 n ∧ (Cond.static y).before args s = true ∧ True :=
  ⟨va_cnB n X.1.2.2.2.2 (good_tg L.2.2.2.1) rfl rfl rfl (X.2.2.2.1.2 _ L.1) (X.1.2.2.2.2 _ L.2.2.1) L.2.2.2.2 hroom, X.1.2.2.2.2 _ L.2.1, trivial⟩
theorem s_callVe (X : Cx p s m args meth c own cc nL rt D cy ad sh A) {k ci : Nat} {fs : List (Option Nat)} {q : vw_C} (L : LkV own idx y bc mL (some ty) n) (C : Ct l D cy ad sh y bc mL (some ty) fr lo (.ref (ad k) :: As) x M) (hs : sh[k]? = some (.inr (ci, fs))) (hc : vwCl[ci]? = some q) (hq : q.1 = y.cls) (hn : As.length = n) (hstk : stk = As.reverse ++ .ref (ad k) :: st)
    (hroom : fr + 1 ≤ Rm.frames ∧ 8 + (mL + 11) + lo ≤ Rm.locals) (hw : (st.map fun v => v.category).sum ≤ 8) (hd : decode cc pc = .ok (.invokevirtual idx, 3))
    (kk : ∀ r y, M = some (r, y) → Sim p l e Rm s m args below meth c nL rt D cy ad sh A (pc + 3) lv (.int r :: st) y (K r y)) : Sim p l e Rm s m args below meth c nL rt D cy ad sh A pc lv stk x (cl M K) :=
  fun r x' hM H locs ls hl hP hS => by
    obtain ⟨r1, x1, hM1, hK1⟩ := cl_some hM
    have hg := pic_get cy ad x sh 0 k _ hs
    rw [Nat.zero_add] at hg
    have hrecv := va_recv X.2.2.2.1.1 hP hc hg
    rw [hq] at hrecv
    have hrun := va_runV (e := e) (below := below) (meth := meth) (locs := locs) (cells := 0) (slots := 0) (As := As) (rest := st) (g := F0 m pc ls stk) X.1 (C r1 x1 hM1 H.size) (lkV_cw X L hroom) ⟨pre_blind, hrecv, fun U hU hW => ⟨rfl, by rw [hU], by rw [hU]; exact hP, X.2.2.2.1.warm hW, (X.2.2.2.2.1 x).weaken (fun _ _ _ _ => trivial)⟩⟩ rfl hn hl.1.1 hstk (lv_room hw) hd ⟨Nat.zero_le _, Nat.zero_le _⟩
    exact run_int hrun hS (A_sub X hS x) (fun H1 locs1 hP1 hS1 => kk r1 x1 hM1 r x' hK1 H1 locs1 ls hl hP1 hS1)
theorem s_callV (X : Cx p s m args meth c own cc nL rt D cy ad sh A) {k ci : Nat} {fs : List (Option Nat)} {q : vw_C} (L : LkV own idx y bc mL (some ty) n) (C : Ct l D cy ad sh y bc mL (some ty) fr lo (.ref (ad k) :: As) x M) (hs : sh[k]? = some (.inr (ci, fs))) (hc : vwCl[ci]? = some q) (hq : q.1 = y.cls) (hn : As.length = n) (hstk : stk = As.reverse ++ .ref (ad k) :: st)
    (hroom : fr + 1 ≤ Rm.frames ∧ 8 + (mL + 11) + lo ≤ Rm.locals) (hw : (st.map fun v => v.category).sum ≤ 8) (hd : decode cc pc = .ok (.invokevirtual idx, 3))
    (kk : ∀ r y, Sim p l e Rm s m args below meth c nL rt D cy ad sh A (pc + 3) lv (.int r :: st) y (K r y)) : Sim p l e Rm s m args below meth c nL rt D cy ad sh A pc lv stk x (cl M K) := s_callVe X L C hs hc hq hn hstk hroom hw hd (fun r y _ => kk r y)
theorem s_callV0e (X : Cx p s m args meth c own cc nL rt D cy ad sh A) {k ci : Nat} {fs : List (Option Nat)} {q : vw_C} (L : LkV own idx y bc mL none n) (C : Ct l D cy ad sh y bc mL none fr lo (.ref (ad k) :: As) x M) (hs : sh[k]? = some (.inr (ci, fs))) (hc : vwCl[ci]? = some q) (hq : q.1 = y.cls) (hn : As.length = n) (hstk : stk = As.reverse ++ .ref (ad k) :: st)
    (hroom : fr + 1 ≤ Rm.frames ∧ 8 + (mL + 11) + lo ≤ Rm.locals) (hw : (st.map fun v => v.category).sum ≤ 8) (hd : decode cc pc = .ok (.invokevirtual idx, 3))
    (kk : ∀ r y, M = some (r, y) → Sim p l e Rm s m args below meth c nL rt D cy ad sh A (pc + 3) lv st y (K r y)) : Sim p l e Rm s m args below meth c nL rt D cy ad sh A pc lv stk x (cl M K) :=
  fun r x' hM H locs ls hl hP hS => by
    obtain ⟨r1, x1, hM1, hK1⟩ := cl_some hM
    have hg := pic_get cy ad x sh 0 k _ hs
    rw [Nat.zero_add] at hg
    have hrecv := va_recv X.2.2.2.1.1 hP hc hg
    rw [hq] at hrecv
    have hrun := va_runV (e := e) (below := below) (meth := meth) (locs := locs) (cells := 0) (slots := 0) (As := As) (rest := st) (g := F0 m pc ls stk) X.1 (C r1 x1 hM1 H.size) (lkV_cw X L hroom) ⟨pre_blind, hrecv, fun U hU hW => ⟨rfl, by rw [hU], by rw [hU]; exact hP, X.2.2.2.1.warm hW, (X.2.2.2.2.1 x).weaken (fun _ _ _ _ => trivial)⟩⟩ rfl hn hl.1.1 hstk (lv_room hw) hd ⟨Nat.zero_le _, Nat.zero_le _⟩
    exact run_void hrun hS (A_sub X hS x) (fun H1 locs1 hP1 hS1 => kk r1 x1 hM1 r x' hK1 H1 locs1 ls hl hP1 hS1)
theorem s_callV0 (X : Cx p s m args meth c own cc nL rt D cy ad sh A) {k ci : Nat} {fs : List (Option Nat)} {q : vw_C} (L : LkV own idx y bc mL none n) (C : Ct l D cy ad sh y bc mL none fr lo (.ref (ad k) :: As) x M) (hs : sh[k]? = some (.inr (ci, fs))) (hc : vwCl[ci]? = some q) (hq : q.1 = y.cls) (hn : As.length = n) (hstk : stk = As.reverse ++ .ref (ad k) :: st)
    (hroom : fr + 1 ≤ Rm.frames ∧ 8 + (mL + 11) + lo ≤ Rm.locals) (hw : (st.map fun v => v.category).sum ≤ 8) (hd : decode cc pc = .ok (.invokevirtual idx, 3))
    (kk : ∀ r y, Sim p l e Rm s m args below meth c nL rt D cy ad sh A (pc + 3) lv st y (K r y)) : Sim p l e Rm s m args below meth c nL rt D cy ad sh A pc lv stk x (cl M K) := s_callV0e X L C hs hc hq hn hstk hroom hw hd (fun r y _ => kk r y)
theorem s_callSe (X : Cx p s m args meth c own cc nL rt D cy ad sh A) (L : LkS own idx y bc mL (some ty) n) (C : Ct l D cy ad sh y bc mL (some ty) fr lo As x M) (hn : As.length = n) (hstk : stk = As.reverse ++ st)
    (hroom : fr + 1 ≤ Rm.frames ∧ 8 + (mL + 11) + lo ≤ Rm.locals) (hw : (st.map fun v => v.category).sum ≤ 8) (hd : decode cc pc = .ok (.invokestatic idx, 3))
    (kk : ∀ r y, M = some (r, y) → Sim p l e Rm s m args below meth c nL rt D cy ad sh A (pc + 3) lv (.int r :: st) y (K r y)) : Sim p l e Rm s m args below meth c nL rt D cy ad sh A pc lv stk x (cl M K) :=
  fun r x' hM H locs ls hl hP hS => by
    obtain ⟨r1, x1, hM1, hK1⟩ := cl_some hM
    have hrun := va_runS (e := e) (below := below) (meth := meth) (locs := locs) (cells := 0) (slots := 0) (As := As) (rest := st) (g := F0 m pc ls stk) X.1 (C r1 x1 hM1 H.size) (lkS_cw X L hroom) ⟨pre_blind, fun U hU hW => ⟨rfl, by rw [hU], by rw [hU]; exact hP, X.2.2.2.1.warm hW, (X.2.2.2.2.1 x).weaken (fun _ _ _ _ => trivial)⟩⟩ rfl hn hl.1.1 hstk (lv_room hw) hd ⟨Nat.zero_le _, Nat.zero_le _⟩
    exact run_int hrun hS (A_sub X hS x) (fun H1 locs1 hP1 hS1 => kk r1 x1 hM1 r x' hK1 H1 locs1 ls hl hP1 hS1)
theorem s_callS (X : Cx p s m args meth c own cc nL rt D cy ad sh A) (L : LkS own idx y bc mL (some ty) n) (C : Ct l D cy ad sh y bc mL (some ty) fr lo As x M) (hn : As.length = n) (hstk : stk = As.reverse ++ st)
    (hroom : fr + 1 ≤ Rm.frames ∧ 8 + (mL + 11) + lo ≤ Rm.locals) (hw : (st.map fun v => v.category).sum ≤ 8) (hd : decode cc pc = .ok (.invokestatic idx, 3))
    (kk : ∀ r y, Sim p l e Rm s m args below meth c nL rt D cy ad sh A (pc + 3) lv (.int r :: st) y (K r y)) : Sim p l e Rm s m args below meth c nL rt D cy ad sh A pc lv stk x (cl M K) := s_callSe X L C hn hstk hroom hw hd (fun r y _ => kk r y)
theorem s_callS0e (X : Cx p s m args meth c own cc nL rt D cy ad sh A) (L : LkS own idx y bc mL none n) (C : Ct l D cy ad sh y bc mL none fr lo As x M) (hn : As.length = n) (hstk : stk = As.reverse ++ st)
    (hroom : fr + 1 ≤ Rm.frames ∧ 8 + (mL + 11) + lo ≤ Rm.locals) (hw : (st.map fun v => v.category).sum ≤ 8) (hd : decode cc pc = .ok (.invokestatic idx, 3))
    (kk : ∀ r y, M = some (r, y) → Sim p l e Rm s m args below meth c nL rt D cy ad sh A (pc + 3) lv st y (K r y)) : Sim p l e Rm s m args below meth c nL rt D cy ad sh A pc lv stk x (cl M K) :=
  fun r x' hM H locs ls hl hP hS => by
    obtain ⟨r1, x1, hM1, hK1⟩ := cl_some hM
    have hrun := va_runS (e := e) (below := below) (meth := meth) (locs := locs) (cells := 0) (slots := 0) (As := As) (rest := st) (g := F0 m pc ls stk) X.1 (C r1 x1 hM1 H.size) (lkS_cw X L hroom) ⟨pre_blind, fun U hU hW => ⟨rfl, by rw [hU], by rw [hU]; exact hP, X.2.2.2.1.warm hW, (X.2.2.2.2.1 x).weaken (fun _ _ _ _ => trivial)⟩⟩ rfl hn hl.1.1 hstk (lv_room hw) hd ⟨Nat.zero_le _, Nat.zero_le _⟩
    exact run_void hrun hS (A_sub X hS x) (fun H1 locs1 hP1 hS1 => kk r1 x1 hM1 r x' hK1 H1 locs1 ls hl hP1 hS1)
theorem s_callS0 (X : Cx p s m args meth c own cc nL rt D cy ad sh A) (L : LkS own idx y bc mL none n) (C : Ct l D cy ad sh y bc mL none fr lo As x M) (hn : As.length = n) (hstk : stk = As.reverse ++ st)
    (hroom : fr + 1 ≤ Rm.frames ∧ 8 + (mL + 11) + lo ≤ Rm.locals) (hw : (st.map fun v => v.category).sum ≤ 8) (hd : decode cc pc = .ok (.invokestatic idx, 3))
    (kk : ∀ r y, Sim p l e Rm s m args below meth c nL rt D cy ad sh A (pc + 3) lv st y (K r y)) : Sim p l e Rm s m args below meth c nL rt D cy ad sh A pc lv stk x (cl M K) := s_callS0e X L C hn hstk hroom hw hd (fun r y _ => kk r y)
theorem s_callNe (X : Cx p s m args meth c own cc nL rt D cy ad sh A) {host : String} (L : LkN nestW own idx y host bc mL (some ty) n) (C : Ct l D cy ad sh y bc mL (some ty) fr lo As x M) (hn : As.length = n) (hstk : stk = As.reverse ++ st)
    (hroom : fr + 1 ≤ Rm.frames ∧ 8 + (mL + 11) + lo ≤ Rm.locals) (hw : (st.map fun v => v.category).sum ≤ 8) (hd : decode cc pc = .ok (.invokestatic idx, 3))
    (kk : ∀ r y, M = some (r, y) → Sim p l e Rm s m args below meth c nL rt D cy ad sh A (pc + 3) lv (.int r :: st) y (K r y)) : Sim p l e Rm s m args below meth c nL rt D cy ad sh A pc lv stk x (cl M K) :=
  fun r x' hM H locs ls hl hP hS => by
    obtain ⟨r1, x1, hM1, hK1⟩ := cl_some hM
    have hrun := va_runSN (e := e) (below := below) (meth := meth) (locs := locs) (cells := 0) (slots := 0) (As := As) (rest := st) (g := F0 m pc ls stk) X.1 (C r1 x1 hM1 H.size) (lkN_cw X L hroom) ⟨pre_blind, fun U hU hW => ⟨rfl, by rw [hU], by rw [hU]; exact hP, X.2.2.2.1.warm hW, (X.2.2.2.2.1 x).weaken (fun _ _ _ _ => trivial)⟩⟩ rfl hn hl.1.1 hstk (lv_room hw) hd ⟨Nat.zero_le _, Nat.zero_le _⟩
    exact run_int hrun hS (A_sub X hS x) (fun H1 locs1 hP1 hS1 => kk r1 x1 hM1 r x' hK1 H1 locs1 ls hl hP1 hS1)
theorem s_callN (X : Cx p s m args meth c own cc nL rt D cy ad sh A) {host : String} (L : LkN nestW own idx y host bc mL (some ty) n) (C : Ct l D cy ad sh y bc mL (some ty) fr lo As x M) (hn : As.length = n) (hstk : stk = As.reverse ++ st)
    (hroom : fr + 1 ≤ Rm.frames ∧ 8 + (mL + 11) + lo ≤ Rm.locals) (hw : (st.map fun v => v.category).sum ≤ 8) (hd : decode cc pc = .ok (.invokestatic idx, 3))
    (kk : ∀ r y, Sim p l e Rm s m args below meth c nL rt D cy ad sh A (pc + 3) lv (.int r :: st) y (K r y)) : Sim p l e Rm s m args below meth c nL rt D cy ad sh A pc lv stk x (cl M K) := s_callNe X L C hn hstk hroom hw hd (fun r y _ => kk r y)
variable {o : Option Int32} {Kp : Int32 → Res} {Kq : Int32 → Option Int32}
theorem cl_pr : cl (pr o x) (fun r _ => Kp r) = clp o Kp := by cases o <;> rfl
theorem pr_some {r : Int32} {y : Mem} (h : pr o x = some (r, y)) : y = x := by
  cases o with
  | none => cases h
  | some v => cases h; rfl
theorem s_callVp (X : Cx p s m args meth c own cc nL rt D cy ad sh A) {k ci : Nat} {fs : List (Option Nat)} {q : vw_C} (L : LkV own idx y bc mL (some ty) n) (C : Ct l D cy ad sh y bc mL (some ty) fr lo (.ref (ad k) :: As) x (pr o x)) (hs : sh[k]? = some (.inr (ci, fs))) (hc : vwCl[ci]? = some q) (hq : q.1 = y.cls) (hn : As.length = n) (hstk : stk = As.reverse ++ .ref (ad k) :: st)
    (hroom : fr + 1 ≤ Rm.frames ∧ 8 + (mL + 11) + lo ≤ Rm.locals) (hw : (st.map fun v => v.category).sum ≤ 8) (hd : decode cc pc = .ok (.invokevirtual idx, 3))
    (kk : ∀ r, Sim p l e Rm s m args below meth c nL rt D cy ad sh A (pc + 3) lv (.int r :: st) x (Kp r)) : Sim p l e Rm s m args below meth c nL rt D cy ad sh A pc lv stk x (clp o Kp) := by
  rw [← cl_pr (x := x)]
  exact s_callVe X L C hs hc hq hn hstk hroom hw hd (fun r y h => by rw [pr_some h]; exact kk r)
theorem p_callV (X : Cx p s m args meth c own cc nL rt D cy ad sh A) {k ci : Nat} {fs : List (Option Nat)} {q : vw_C} (L : LkV own idx y bc mL (some ty) n) (C : Ct l D cy ad sh y bc mL (some ty) fr lo (.ref (ad k) :: As) x (pr o x)) (hs : sh[k]? = some (.inr (ci, fs))) (hc : vwCl[ci]? = some q) (hq : q.1 = y.cls) (hn : As.length = n) (hstk : stk = As.reverse ++ .ref (ad k) :: st)
    (hroom : fr + 1 ≤ Rm.frames ∧ 8 + (mL + 11) + lo ≤ Rm.locals) (hw : (st.map fun v => v.category).sum ≤ 8) (hd : decode cc pc = .ok (.invokevirtual idx, 3))
    (kk : ∀ r, Sim p l e Rm s m args below meth c nL rt D cy ad sh A (pc + 3) lv (.int r :: st) x (pr (Kq r) x)) : Sim p l e Rm s m args below meth c nL rt D cy ad sh A pc lv stk x (pr (clp o Kq) x) := by
  rw [pr_clp]
  exact s_callVp X L C hs hc hq hn hstk hroom hw hd kk
theorem s_callSp (X : Cx p s m args meth c own cc nL rt D cy ad sh A) (L : LkS own idx y bc mL (some ty) n) (C : Ct l D cy ad sh y bc mL (some ty) fr lo As x (pr o x)) (hn : As.length = n) (hstk : stk = As.reverse ++ st)
    (hroom : fr + 1 ≤ Rm.frames ∧ 8 + (mL + 11) + lo ≤ Rm.locals) (hw : (st.map fun v => v.category).sum ≤ 8) (hd : decode cc pc = .ok (.invokestatic idx, 3))
    (kk : ∀ r, Sim p l e Rm s m args below meth c nL rt D cy ad sh A (pc + 3) lv (.int r :: st) x (Kp r)) : Sim p l e Rm s m args below meth c nL rt D cy ad sh A pc lv stk x (clp o Kp) := by
  rw [← cl_pr (x := x)]
  exact s_callSe X L C hn hstk hroom hw hd (fun r y h => by rw [pr_some h]; exact kk r)
theorem p_callS (X : Cx p s m args meth c own cc nL rt D cy ad sh A) (L : LkS own idx y bc mL (some ty) n) (C : Ct l D cy ad sh y bc mL (some ty) fr lo As x (pr o x)) (hn : As.length = n) (hstk : stk = As.reverse ++ st)
    (hroom : fr + 1 ≤ Rm.frames ∧ 8 + (mL + 11) + lo ≤ Rm.locals) (hw : (st.map fun v => v.category).sum ≤ 8) (hd : decode cc pc = .ok (.invokestatic idx, 3))
    (kk : ∀ r, Sim p l e Rm s m args below meth c nL rt D cy ad sh A (pc + 3) lv (.int r :: st) x (pr (Kq r) x)) : Sim p l e Rm s m args below meth c nL rt D cy ad sh A pc lv stk x (pr (clp o Kq) x) := by
  rw [pr_clp]
  exact s_callSp X L C hn hstk hroom hw hd kk
theorem s_callNp (X : Cx p s m args meth c own cc nL rt D cy ad sh A) {host : String} (L : LkN nestW own idx y host bc mL (some ty) n) (C : Ct l D cy ad sh y bc mL (some ty) fr lo As x (pr o x)) (hn : As.length = n) (hstk : stk = As.reverse ++ st)
    (hroom : fr + 1 ≤ Rm.frames ∧ 8 + (mL + 11) + lo ≤ Rm.locals) (hw : (st.map fun v => v.category).sum ≤ 8) (hd : decode cc pc = .ok (.invokestatic idx, 3))
    (kk : ∀ r, Sim p l e Rm s m args below meth c nL rt D cy ad sh A (pc + 3) lv (.int r :: st) x (Kp r)) : Sim p l e Rm s m args below meth c nL rt D cy ad sh A pc lv stk x (clp o Kp) := by
  rw [← cl_pr (x := x)]
  exact s_callNe X L C hn hstk hroom hw hd (fun r y h => by rw [pr_some h]; exact kk r)
theorem p_callN (X : Cx p s m args meth c own cc nL rt D cy ad sh A) {host : String} (L : LkN nestW own idx y host bc mL (some ty) n) (C : Ct l D cy ad sh y bc mL (some ty) fr lo As x (pr o x)) (hn : As.length = n) (hstk : stk = As.reverse ++ st)
    (hroom : fr + 1 ≤ Rm.frames ∧ 8 + (mL + 11) + lo ≤ Rm.locals) (hw : (st.map fun v => v.category).sum ≤ 8) (hd : decode cc pc = .ok (.invokestatic idx, 3))
    (kk : ∀ r, Sim p l e Rm s m args below meth c nL rt D cy ad sh A (pc + 3) lv (.int r :: st) x (pr (Kq r) x)) : Sim p l e Rm s m args below meth c nL rt D cy ad sh A pc lv stk x (pr (clp o Kq) x) := by
  rw [pr_clp]
  exact s_callNp X L C hn hstk hroom hw hd kk
def imax (a b : Int32) : Int32 := if a < b then b else a
def imin (a b : Int32) : Int32 := if b < a then b else a
def iabs (a : Int32) : Int32 := if 0 ≤ a then a else 0 - a
theorem s_mmax (X : Cx p s m args meth c own cc nL rt D cy ad sh A) {a b : Int32} (h1 : Cond.methodLink own idx Lib.Math.max.name ∈ tg) (h2 : Cond.static Lib.Math.max.name ∈ tg) (h3 : Cond.initialized "java/lang/Math" ∈ tg) (h4 : Cond.code Lib.Math.max.name Lib.Math.max.code 2 (some .int) ∈ tg) (hfr : 1 ≤ Rm.frames) (hlo : (st.map fun v => v.category).sum + 13 ≤ Rm.locals) (hd : decode cc pc = .ok (.invokestatic idx, 3))
    (k : Sim p l e Rm s m args below meth c nL rt D cy ad sh A (pc + 3) lv (.int (imax a b) :: st) x M) : Sim p l e Rm s m args below meth c nL rt D cy ad sh A pc lv (.int b :: .int a :: st) x M :=
  fun r x' hM H locs ls hl hP hS => va_mmax X.1.1 X.1.2.1 (X.1.2.2.1.trans hl.1.1.symm) X.1.2.2.2.1 (X.1.2.2.2.2 _ h1) (X.1.2.2.2.2 _ h2) (X.1.2.2.2.2 _ h3) (X.1.2.2.2.2 _ h4) hfr hlo (Nat.zero_le _) (Nat.zero_le _) hd (k r x' hM H locs ls hl hP hS)
theorem s_mmin (X : Cx p s m args meth c own cc nL rt D cy ad sh A) {a b : Int32} (h1 : Cond.methodLink own idx Lib.Math.min.name ∈ tg) (h2 : Cond.static Lib.Math.min.name ∈ tg) (h3 : Cond.initialized "java/lang/Math" ∈ tg) (h4 : Cond.code Lib.Math.min.name Lib.Math.min.code 2 (some .int) ∈ tg) (hfr : 1 ≤ Rm.frames) (hlo : (st.map fun v => v.category).sum + 13 ≤ Rm.locals) (hd : decode cc pc = .ok (.invokestatic idx, 3))
    (k : Sim p l e Rm s m args below meth c nL rt D cy ad sh A (pc + 3) lv (.int (imin a b) :: st) x M) : Sim p l e Rm s m args below meth c nL rt D cy ad sh A pc lv (.int b :: .int a :: st) x M :=
  fun r x' hM H locs ls hl hP hS => va_mmin X.1.1 X.1.2.1 (X.1.2.2.1.trans hl.1.1.symm) X.1.2.2.2.1 (X.1.2.2.2.2 _ h1) (X.1.2.2.2.2 _ h2) (X.1.2.2.2.2 _ h3) (X.1.2.2.2.2 _ h4) hfr hlo (Nat.zero_le _) (Nat.zero_le _) hd (k r x' hM H locs ls hl hP hS)
theorem s_mabs (X : Cx p s m args meth c own cc nL rt D cy ad sh A) {a : Int32} (h1 : Cond.methodLink own idx Lib.Math.abs.name ∈ tg) (h2 : Cond.static Lib.Math.abs.name ∈ tg) (h3 : Cond.initialized "java/lang/Math" ∈ tg) (h4 : Cond.code Lib.Math.abs.name Lib.Math.abs.code 1 (some .int) ∈ tg) (hfr : 1 ≤ Rm.frames) (hlo : (st.map fun v => v.category).sum + 13 ≤ Rm.locals) (hd : decode cc pc = .ok (.invokestatic idx, 3))
    (k : Sim p l e Rm s m args below meth c nL rt D cy ad sh A (pc + 3) lv (.int (iabs a) :: st) x M) : Sim p l e Rm s m args below meth c nL rt D cy ad sh A pc lv (.int a :: st) x M :=
  fun r x' hM H locs ls hl hP hS => va_mabs X.1.1 X.1.2.1 (X.1.2.2.1.trans hl.1.1.symm) X.1.2.2.2.1 (X.1.2.2.2.2 _ h1) (X.1.2.2.2.2 _ h2) (X.1.2.2.2.2 _ h3) (X.1.2.2.2.2 _ h4) hfr hlo (Nat.zero_le _) (Nat.zero_le _) hd (k r x' hM H locs ls hl hP hS)
end CALLS

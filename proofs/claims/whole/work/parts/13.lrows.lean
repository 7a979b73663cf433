/-! ===== the law's rows: two pictures, the script ===== -/
def lA (s : State) : Nat → Prop := fun q => s.heap.size ≤ q
def LX (p : Program) (s : State) (m : MethodId) (meth : Method) (c : Code) (D : va_G) (cy : ClassId) (adX adM : Nat → Nat) (b L : Nat) (xs : Nat → Int32) (nc ns : Nat) : Prop :=
  CallFix p m c code 4 s #[.ref b] tg RL ∧ meth.sig.returnType = ret ∧ meth.locks = false ∧ KK D cy s ∧ (∀ x : Mem, va_D (lA s) (pic cy adX x 0 shX)) ∧ (∀ x : Mem, va_D (lA s) (pic cy adM x 0 shM)) ∧ (∀ i j, i < shX.length → j < shM.length → adX i ≠ adM j) ∧ va_X b L xs s s.heap ∧ b < s.heap.size ∧ nc ≤ 600000 ∧ ns ≤ 7302250
def LSm (p : Program) (l : Launch) (e : Env) (s : State) (m : MethodId) (below : List Frame) (meth : Method) (c : Code) (D : va_G) (cy : ClassId) (adX adM : Nat → Nat) (b : Nat) (nc ns : Nat) (pc : Nat) (lv : List (Option Value)) (st : List Value) (x y : Mem) : Prop :=
  ∀ (H : Heap) (locs : List Loc) (ls : Array Slot), LVh ls 4 lv → va_P D vwCl (pic cy adX x 0 shX) H → va_P D vwCl (pic cy adM y 0 shM) H → va_S (lA s) s.heap H locs → W p l e room_1 s m #[.ref b] below meth c H locs nc ns (lw_Z below #[.ref b] s) (F0 m pc ls st)
section LAW
variable {p : Program} {l : Launch} {e : Env} {s : State} {m : MethodId} {below : List Frame} {meth : Method} {c : Code} {D : va_G} {cy : ClassId} {adX adM : Nat → Nat} {b L : Nat} {xs : Nat → Int32} {nc ns : Nat}
variable {pc : Nat} {lv : List (Option Value)} {st : List Value} {x y : Mem}
theorem l_aload_n (X : LX p s m meth c D cy adX adM b L xs nc ns) {k : Fin 4} {v : Nat} (hl : lv[(k : Nat)]? = some (some (.ref v))) (hd : decode code pc = .ok (.aload_n k, 1))
    (kk : LSm p l e s m below meth c D cy adX adM b nc ns (pc + 1) lv (.ref v :: st) x y) : LSm p l e s m below meth c D cy adX adM b nc ns pc lv st x y :=
  fun H locs ls hL hP hM hS => lv_aload_n X.1.1 X.1.2.1 hd rfl (hL.at hl) (kk H locs ls hL hP hM hS)
theorem l_iload_n (X : LX p s m meth c D cy adX adM b L xs nc ns) {k : Fin 4} {v : Int32} (hl : lv[(k : Nat)]? = some (some (.int v))) (hd : decode code pc = .ok (.iload_n k, 1))
    (kk : LSm p l e s m below meth c D cy adX adM b nc ns (pc + 1) lv (.int v :: st) x y) : LSm p l e s m below meth c D cy adX adM b nc ns pc lv st x y :=
  fun H locs ls hL hP hM hS => lv_iload_n X.1.1 X.1.2.1 hd rfl (hL.at hl) (kk H locs ls hL hP hM hS)
theorem l_iconst (X : LX p s m meth c D cy adX adM b L xs nc ns) {n : Int} {v : Int32} (hv : Int32.ofInt n = v) (hd : decode code pc = .ok (.iconst n, 1))
    (k : LSm p l e s m below meth c D cy adX adM b nc ns (pc + 1) lv (.int v :: st) x y) : LSm p l e s m below meth c D cy adX adM b nc ns pc lv st x y :=
  fun H locs ls hL hP hM hS => lv_iconst X.1.1 X.1.2.1 hd hv (k H locs ls hL hP hM hS)
theorem l_bipush (X : LX p s m meth c D cy adX adM b L xs nc ns) {n : Int} {v : Int32} (hv : (Int8.ofInt n).toInt32 = v) (hd : decode code pc = .ok (.bipush n, 2))
    (k : LSm p l e s m below meth c D cy adX adM b nc ns (pc + 2) lv (.int v :: st) x y) : LSm p l e s m below meth c D cy adX adM b nc ns pc lv st x y :=
  fun H locs ls hL hP hM hS => lv_bipush X.1.1 X.1.2.1 hd hv (k H locs ls hL hP hM hS)
theorem l_iadd (X : LX p s m meth c D cy adX adM b L xs nc ns) {a d : Int32} (hd : decode code pc = .ok (.iadd, 1))
    (k : LSm p l e s m below meth c D cy adX adM b nc ns (pc + 1) lv (.int (a + d) :: st) x y) : LSm p l e s m below meth c D cy adX adM b nc ns pc lv (.int d :: .int a :: st) x y :=
  fun H locs ls hL hP hM hS => lv_iadd X.1.1 X.1.2.1 hd (k H locs ls hL hP hM hS)
theorem l_isub (X : LX p s m meth c D cy adX adM b L xs nc ns) {a d : Int32} (hd : decode code pc = .ok (.isub, 1))
    (k : LSm p l e s m below meth c D cy adX adM b nc ns (pc + 1) lv (.int (a - d) :: st) x y) : LSm p l e s m below meth c D cy adX adM b nc ns pc lv (.int d :: .int a :: st) x y :=
  fun H locs ls hL hP hM hS => lv_isub X.1.1 X.1.2.1 hd (k H locs ls hL hP hM hS)
theorem l_iand (X : LX p s m meth c D cy adX adM b L xs nc ns) {a d : Int32} (hd : decode code pc = .ok (.iand, 1))
    (k : LSm p l e s m below meth c D cy adX adM b nc ns (pc + 1) lv (.int (a &&& d) :: st) x y) : LSm p l e s m below meth c D cy adX adM b nc ns pc lv (.int d :: .int a :: st) x y :=
  fun H locs ls hL hP hM hS => lv_iand X.1.1 X.1.2.1 hd (k H locs ls hL hP hM hS)
theorem l_istore_n (X : LX p s m meth c D cy adX adM b L xs nc ns) {k : Fin 4} {v : Int32} (lv' : List (Option Value)) (hlv : lv.set (k : Nat) (some (.int v)) = lv') (hn : (k : Nat) < 4) (hd : decode code pc = .ok (.istore_n k, 1))
    (kk : LSm p l e s m below meth c D cy adX adM b nc ns (pc + 1) lv' st x y) : LSm p l e s m below meth c D cy adX adM b nc ns pc lv (.int v :: st) x y :=
  fun H locs ls hL hP hM hS => lv_istore_n X.1.1 X.1.2.1 hd rfl hL.1 hn rfl (fun ls' h' => kk H locs ls' (hlv ▸ LVh.set rfl hL h') hP hM hS)
theorem l_iinc (X : LX p s m meth c D cy adX adM b L xs nc ns) {k : Nat} {n : Int} {v w : Int32} (lv' : List (Option Value)) (hlv : lv.set k (some (.int (v + w))) = lv') (hn : k < 4) (hl : lv[k]? = some (some (.int v))) (hw : Int32.ofInt n = w) (hd : decode code pc = .ok (.iinc k n, 3))
    (kk : LSm p l e s m below meth c D cy adX adM b nc ns (pc + 3) lv' st x y) : LSm p l e s m below meth c D cy adX adM b nc ns pc lv st x y :=
  fun H locs ls hL hP hM hS => by
    obtain ⟨j, hj⟩ := List.getElem?_of_mem ((toA_mem lv 0 (k, Value.int v)).mpr ⟨k, hl, (Nat.zero_add k).symm⟩)
    exact lv_iinc X.1.1 X.1.2.1 hd hL.1 hj (by rw [hw]) hn rfl (fun ls' h' => kk H locs ls' (hlv ▸ LVh.set rfl hL h') hP hM hS)
theorem l_goto (X : LX p s m meth c D cy adX adM b L xs nc ns) {off : Int} (tgt : Nat) (ht : (pc : Int) + off = (tgt : Int)) (hd : decode code pc = .ok (.goto off, 3))
    (k : LSm p l e s m below meth c D cy adX adM b nc ns tgt lv st x y) : LSm p l e s m below meth c D cy adX adM b nc ns pc lv st x y :=
  fun H locs ls hL hP hM hS => lv_goto X.1.1 X.1.2.1 hd ht (k H locs ls hL hP hM hS)
theorem l_alen (X : LX p s m meth c D cy adX adM b L xs nc ns) (hd : decode code pc = .ok (.arraylength, 1))
    (k : LSm p l e s m below meth c D cy adX adM b nc ns (pc + 1) lv (.int (nI L) :: st) x y) : LSm p l e s m below meth c D cy adX adM b nc ns pc lv (.ref b :: st) x y :=
  fun H locs ls hL hP hM hS => va_slen X.1.1 X.1.2.1 X.2.2.2.2.2.2.2.1 X.2.2.2.2.2.2.2.2.1 (Nat.not_le.mpr X.2.2.2.2.2.2.2.2.1) hS hd (k H locs ls hL hP hM hS)
theorem l_sld (X : LX p s m meth c D cy adX adM b L xs nc ns) {i : Int32} (hin : vp_in i L) (hd : decode code pc = .ok (.iaload, 1))
    (k : LSm p l e s m below meth c D cy adX adM b nc ns (pc + 1) lv (.int (xs i.toNatClampNeg) :: st) x y) : LSm p l e s m below meth c D cy adX adM b nc ns pc lv (.int i :: .ref b :: st) x y :=
  fun H locs ls hL hP hM hS => va_sld X.1.1 X.1.2.1 X.2.2.2.2.2.2.2.1 X.2.2.2.2.2.2.2.2.1 (Nat.not_le.mpr X.2.2.2.2.2.2.2.2.1) hS hin hd (k H locs ls hL hP hM hS)
theorem l_icmp_gt (X : LX p s m meth c D cy adX adM b L xs nc ns) {a d : Int32} {off : Int} (tgt : Nat) (ht : (pc : Int) + off = (tgt : Int)) (hd : decode code pc = .ok (.if_icmp .gt off, 3))
    (k1 : d < a → LSm p l e s m below meth c D cy adX adM b nc ns tgt lv st x y) (k2 : ¬ d < a → LSm p l e s m below meth c D cy adX adM b nc ns (pc + 3) lv st x y) : LSm p l e s m below meth c D cy adX adM b nc ns pc lv (.int d :: .int a :: st) x y :=
  fun H locs ls hL hP hM hS => lv_icmp_gt X.1.1 X.1.2.1 hd ht (fun h => k1 h H locs ls hL hP hM hS) (fun h => k2 h H locs ls hL hP hM hS)
theorem l_icmp_eq (X : LX p s m meth c D cy adX adM b L xs nc ns) {a : Int32} {off : Int} (tgt : Nat) (ht : (pc : Int) + off = (tgt : Int)) (hd : decode code pc = .ok (.if_icmp .eq off, 3))
    (k1 : LSm p l e s m below meth c D cy adX adM b nc ns tgt lv st x y) : LSm p l e s m below meth c D cy adX adM b nc ns pc lv (.int a :: .int a :: st) x y :=
  fun H locs ls hL hP hM hS => lv_icmp_eq X.1.1 X.1.2.1 hd ht (fun _ => k1 H locs ls hL hP hM hS) (fun h => absurd rfl h)
theorem l_tabI (X : LX p s m meth c D cy adX adM b L xs nc ns) {dflt lo hi : Int} {offs : Array Int} {len : Nat} {v : Int32} {off : Int} (tgt : Nat) (h1 : ¬ v.toInt < lo) (h2 : ¬ hi < v.toInt) (ho : offs[(v.toInt - lo).toNat]? = some off) (ht : (pc : Int) + off = (tgt : Int)) (hd : decode code pc = .ok (.tableswitch dflt lo hi offs, len))
    (k : LSm p l e s m below meth c D cy adX adM b nc ns tgt lv st x y) : LSm p l e s m below meth c D cy adX adM b nc ns pc lv (.int v :: st) x y :=
  fun H locs ls hL hP hM hS => lv_tableIn X.1.1 X.1.2.1 hd h1 h2 ho ht (k H locs ls hL hP hM hS)
theorem l_tabO (X : LX p s m meth c D cy adX adM b L xs nc ns) {dflt lo hi : Int} {offs : Array Int} {len : Nat} {v : Int32} (tgt : Nat) (h : v.toInt < lo ∨ hi < v.toInt) (ht : (pc : Int) + dflt = (tgt : Int)) (hd : decode code pc = .ok (.tableswitch dflt lo hi offs, len))
    (k : LSm p l e s m below meth c D cy adX adM b nc ns tgt lv st x y) : LSm p l e s m below meth c D cy adX adM b nc ns pc lv (.int v :: st) x y :=
  fun H locs ls hL hP hM hS => lv_tableOut X.1.1 X.1.2.1 hd h ht (k H locs ls hL hP hM hS)
theorem l_ret (X : LX p s m meth c D cy adX adM b L xs nc ns) (hd : decode code pc = .ok (.ireturn, 1)) : LSm p l e s m below meth c D cy adX adM b nc ns pc lv [.int 1] x y :=
  fun H locs ls hL hP hM hS => va_forget (fun q hq => hS.2.2 q hq) (W.widen (k := 600000) (n := 7302250) X.2.2.2.2.2.2.2.2.2.1 X.2.2.2.2.2.2.2.2.2.2 (lw_ret X.1.1 X.1.2.1 X.2.1 X.2.2.1 hd))
/-- cells of one picture stay while the other's method runs -/
theorem pic_stays {sh1 sh2 : List Sh} {ad1 ad2 : Nat → Nat} {x1 y1 : Mem} {H H1 : Heap} (hap : ∀ i j, i < sh1.length → j < sh2.length → ad1 i ≠ ad2 j) (hM : va_P D vwCl (pic cy ad2 y1 0 sh2) H) (hk : ∀ q : Nat, q < H.size → ¬ va_A (pic cy ad1 x1 0 sh1) H.size q → H1[q]? = H[q]?) : va_P D vwCl (pic cy ad2 y1 0 sh2) H1 := by
  intro k q hq
  have h1 := hM k q hq
  refine h1.kept (hk q.1 h1.lt ?_)
  rintro (⟨i, e2, hi⟩ | h2)
  · obtain ⟨s1, hs1, he1⟩ := pic_inv cy ad1 x1 sh1 0 i _ hi
    obtain ⟨s2, hs2, he2⟩ := pic_inv cy ad2 y1 sh2 0 k _ hq
    have e3 : q.1 = ad1 (0 + i) := congrArg Prod.fst he1
    have e4 : q.1 = ad2 (0 + k) := congrArg Prod.fst he2
    rw [Nat.zero_add] at e3 e4
    exact hap i k (List.getElem?_eq_some_iff.mp hs1).1 (List.getElem?_eq_some_iff.mp hs2).1 (e3.symm.trans e4)
  · exact absurd h1.lt (Nat.not_lt.mpr h2)
theorem l_run {sh : List Sh} {ad : Nat → Nat} {ty : FieldType} {st0 : List Value} {H : Heap} {locs : List Loc} {ls : Array Slot} {a : Array Value} {Q : State → Prop} {r1 : Int32} {x0 x1 : Mem} (hr : va_Run p l e room_1 s m #[.ref b] below meth c H locs nc ns 0 0 (F0 m pc ls st0) st (QR D cy ad sh (va_A (pic cy ad x0 0 sh) H.size) (some ty) r1 x1 a) (va_A (pic cy ad x0 0 sh) H.size)) (hS : va_S (lA s) s.heap H locs) (hD : va_D (lA s) (pic cy ad x0 0 sh))
    (kk : ∀ (H1 : Heap) (locs1 : List Loc), va_P D vwCl (pic cy ad x1 0 sh) H1 → (∀ q : Nat, q < H.size → ¬ va_A (pic cy ad x0 0 sh) H.size q → H1[q]? = H[q]?) → va_S (lA s) s.heap H1 locs1 → W p l e room_1 s m #[.ref b] below meth c H1 locs1 nc ns Q (F0 m (pc + 3) ls (.int r1 :: st))) : W p l e room_1 s m #[.ref b] below meth c H locs nc ns Q (F0 m pc ls st0) := by
  have hA : ∀ q, va_A (pic cy ad x0 0 sh) H.size q → lA s q := by
    intro q hq
    rcases hq with ⟨k, e, hk⟩ | hq
    · exact hD.2 k _ hk
    · exact Nat.le_trans hS.1 hq
  intro T hT X
  obtain ⟨v, st₀, t, T', L, h0, X', hL, e1, e2, ⟨hv, hp, hz, hk⟩, stp⟩ := hr T hT X
  cases hv
  rw [h0] at hz hk
  obtain ⟨t2, a1, b1⟩ := kk T'.heap (locs ++ L) (by rw [e1]; exact hp) (fun q h1 h2 => by rw [e1]; exact hk q h1 h2)
    ⟨Nat.le_trans hS.1 (by rw [e1]; exact hz), fun q h1 h2 => by rw [e1, hk q (Nat.lt_of_lt_of_le h1 hS.1) (fun z => h2 (hA q z))]; exact hS.2.1 q h1 h2, fun q hq => by
      rcases List.mem_append.mp hq with h | h
      · exact hS.2.2 q h
      · exact hA _ (hL q h)⟩ T' rfl X'
  exact ⟨t2, stp t2 a1, b1⟩
variable {ym : MethodName} {bc : ByteArray} {mL n fr lo idx : Nat} {ty : FieldType} {As stk : List Value} {M : Res} {r : Int32} {x' : Mem}
theorem l_callX (X : LX p s m meth c D cy adX adM b L xs nc ns) (L0 : LkV RL idx ym bc mL (some ty) n) (C : Ct l D cy adX shX ym bc mL (some ty) fr lo (.ref (adX 0) :: As) x M) (hM : M = some (r, x')) (hq : RX9 = ym.cls) (hn : As.length = n) (hstk : stk = As.reverse ++ .ref (adX 0) :: st) (hroom : fr + 1 ≤ 2048 ∧ 8 + (mL + 11) + lo ≤ 84000) (hw : (st.map fun v => v.category).sum ≤ 8) (hd : decode code pc = .ok (.invokevirtual idx, 3))
    (kk : LSm p l e s m below meth c D cy adX adM b nc ns (pc + 3) lv (.int r :: st) x' y) : LSm p l e s m below meth c D cy adX adM b nc ns pc lv stk x y :=
  fun H locs ls hL hP hY hS => by
    have hg := pic_get cy adX x shX 0 0 _ shX_0
    have hrecv := va_recv (q := (RX9, TX9, 9)) X.2.2.2.1.1 hP rfl hg
    rw [hq] at hrecv
    have hrun := va_runV (e := e) (R := room_1) (below := below) (meth := meth) (locs := locs) (cells := nc) (slots := ns) (As := As) (rest := st) (g := F0 m pc ls stk) X.1 (C r x' hM H.size) ⟨callB_of n X.1.2.2.2.2 (good_tg L0.2.2.2.2.1) rfl rfl rfl (X.1.2.2.2.2 _ L0.2.2.2.1) (X.1.2.2.2.2 _ L0.1) L0.2.2.2.2.2 hroom, X.1.2.2.2.2 _ L0.2.1, X.1.2.2.2.2 _ L0.2.2.1⟩ ⟨pre_blind, hrecv, fun U hU hW => ⟨rfl, by rw [hU], by rw [hU]; exact hP, X.2.2.2.1.warm hW, (X.2.2.2.2.1 x).weaken (fun _ _ _ _ => trivial)⟩⟩ rfl hn hL.1.1 hstk (lv_room hw) hd ⟨X.2.2.2.2.2.2.2.2.2.1, X.2.2.2.2.2.2.2.2.2.2⟩
    exact l_run hrun hS (X.2.2.2.2.1 x) (fun H1 locs1 hP1 hk hS1 => kk H1 locs1 ls hL hP1 (pic_stays X.2.2.2.2.2.2.1 hY hk) hS1)
theorem l_callM {y' : Mem} (X : LX p s m meth c D cy adX adM b L xs nc ns) (L0 : LkV RL idx ym bc mL (some ty) n) (C : Ct l D cy adM shM ym bc mL (some ty) fr lo (.ref (adM 0) :: As) y M) (hM : M = some (r, y')) (hq : RX10 = ym.cls) (hn : As.length = n) (hstk : stk = As.reverse ++ .ref (adM 0) :: st) (hroom : fr + 1 ≤ 2048 ∧ 8 + (mL + 11) + lo ≤ 84000) (hw : (st.map fun v => v.category).sum ≤ 8) (hd : decode code pc = .ok (.invokevirtual idx, 3))
    (kk : LSm p l e s m below meth c D cy adX adM b nc ns (pc + 3) lv (.int r :: st) x y') : LSm p l e s m below meth c D cy adX adM b nc ns pc lv stk x y :=
  fun H locs ls hL hP hY hS => by
    have hg := pic_get cy adM y shM 0 0 _ shM_0
    have hrecv := va_recv (q := (RX10, TX10, 37)) X.2.2.2.1.1 hY rfl hg
    rw [hq] at hrecv
    have hrun := va_runV (e := e) (R := room_1) (below := below) (meth := meth) (locs := locs) (cells := nc) (slots := ns) (As := As) (rest := st) (g := F0 m pc ls stk) X.1 (C r y' hM H.size) ⟨callB_of n X.1.2.2.2.2 (good_tg L0.2.2.2.2.1) rfl rfl rfl (X.1.2.2.2.2 _ L0.2.2.2.1) (X.1.2.2.2.2 _ L0.1) L0.2.2.2.2.2 hroom, X.1.2.2.2.2 _ L0.2.1, X.1.2.2.2.2 _ L0.2.2.1⟩ ⟨pre_blind, hrecv, fun U hU hW => ⟨rfl, by rw [hU], by rw [hU]; exact hY, X.2.2.2.1.warm hW, (X.2.2.2.2.2.1 y).weaken (fun _ _ _ _ => trivial)⟩⟩ rfl hn hL.1.1 hstk (lv_room hw) hd ⟨X.2.2.2.2.2.2.2.2.2.1, X.2.2.2.2.2.2.2.2.2.2⟩
    exact l_run hrun hS (X.2.2.2.2.2.1 y) (fun H1 locs1 hP1 hk hS1 => kk H1 locs1 ls hL (pic_stays (fun i j hi hj h => X.2.2.2.2.2.2.1 j i hj hi h.symm) hP hk) hP1 hS1)
/-- one of the script's ints is put on the stack -/
theorem l_arg (X : LX p s m meth c D cy adX adM b L xs nc ns) {i v : Int32} {n : Int} {v1 v2 : Nat} (hv : Int32.ofInt n = v) (hin : vp_in (i + v) L) (h0 : decode code pc = .ok (.aload_n 0, 1)) (h1 : decode code (pc + 1) = .ok (.iload_n 3, 1)) (h2 : decode code (pc + 2) = .ok (.iconst n, 1)) (h3 : decode code (pc + 3) = .ok (.iadd, 1)) (h4 : decode code (pc + 4) = .ok (.iaload, 1))
    (k : LSm p l e s m below meth c D cy adX adM b nc ns (pc + 5) [some (.ref b), some (.ref v1), some (.ref v2), some (.int i)] (.int (xs (i + v).toNatClampNeg) :: st) x y) : LSm p l e s m below meth c D cy adX adM b nc ns pc [some (.ref b), some (.ref v1), some (.ref v2), some (.int i)] st x y :=
  l_aload_n X rfl h0 (l_iload_n (pc := pc + 1) X rfl h1 (l_iconst (pc := pc + 2) X hv h2 (l_iadd (pc := pc + 3) X h3 (l_sld (pc := pc + 4) X hin h4 k))))
end LAW

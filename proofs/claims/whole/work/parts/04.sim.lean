/-! ===== a memory of ints by cells, its picture, and the judgement 'the machine does what the computation M says' ===== -/
abbrev Mem : Type := Nat → Nat → Int32
abbrev Sh : Type := Nat ⊕ (Nat × List (Option Nat))
abbrev Res : Type := Option (Int32 × Mem)
def wr (x : Mem) (a j : Nat) (v : Int32) : Mem := fun b => if b = a then upd (x a) j v else x b
def fvs (ad : Nat → Nat) (f : Nat → Int32) : Nat → List (Option Nat) → List Value
  | _, [] => []
  | k, none :: r => .int (f k) :: fvs ad f (k + 1) r
  | k, some j :: r => .ref (ad j) :: fvs ad f (k + 1) r
def ce (cy : ClassId) (ad : Nat → Nat) (f : Nat → Int32) (s : Sh) : va_E := match s with
  | .inl n => .inl (cy, n, .inl f)
  | .inr (ci, fs) => .inr (ci, fvs ad f 0 fs)
def pic (cy : ClassId) (ad : Nat → Nat) (x : Mem) : Nat → List Sh → va_W
  | _, [] => []
  | i, s :: r => (ad i, ce cy ad (x i) s) :: pic cy ad x (i + 1) r
theorem fvs_get (ad : Nat → Nat) (f : Nat → Int32) : ∀ (fs : List (Option Nat)) (k j : Nat), fs[j]? = some none → (fvs ad f k fs)[j]? = some (.int (f (k + j))) := by
  intro fs
  induction fs with
  | nil => intro k j h; simp at h
  | cons a r ih =>
    intro k j h
    cases j with
    | zero =>
      simp only [List.getElem?_cons_zero, Option.some.injEq] at h
      subst h
      rfl
    | succ j =>
      simp only [List.getElem?_cons_succ] at h
      have e := ih (k + 1) j h
      have e2 : k + 1 + j = k + (j + 1) := by omega
      rw [e2] at e
      cases a <;> exact e
theorem fvs_ref (ad : Nat → Nat) (f : Nat → Int32) : ∀ (fs : List (Option Nat)) (k j t : Nat), fs[j]? = some (some t) → (fvs ad f k fs)[j]? = some (.ref (ad t)) := by
  intro fs
  induction fs with
  | nil => intro k j t h; simp at h
  | cons a r ih =>
    intro k j t h
    cases j with
    | zero =>
      simp only [List.getElem?_cons_zero, Option.some.injEq] at h
      subst h
      rfl
    | succ j =>
      simp only [List.getElem?_cons_succ] at h
      have e := ih (k + 1) j t h
      cases a <;> exact e
theorem fvs_set (ad : Nat → Nat) (f : Nat → Int32) (v : Int32) : ∀ (fs : List (Option Nat)) (k j : Nat), fs[j]? = some none → (fvs ad f k fs).set j (.int v) = fvs ad (upd f (k + j) v) k fs := by
  intro fs
  induction fs with
  | nil => intro k j h; simp at h
  | cons a r ih =>
    intro k j h
    cases j with
    | zero =>
      simp only [List.getElem?_cons_zero, Option.some.injEq] at h
      subst h
      have e : ∀ (r : List (Option Nat)) (q : Nat), k < q → fvs ad (upd f k v) q r = fvs ad f q r := by
        intro r
        induction r with
        | nil => intro q _; rfl
        | cons b r ih2 =>
          intro q hq
          cases b with
          | none => show Value.int (upd f k v q) :: fvs ad (upd f k v) (q + 1) r = _; rw [ih2 (q + 1) (by omega)]; simp [upd, fvs, Nat.ne_of_gt hq]
          | some t => show Value.ref (ad t) :: fvs ad (upd f k v) (q + 1) r = _; rw [ih2 (q + 1) (by omega)]; rfl
      show Value.int v :: fvs ad f (k + 1) r = Value.int (upd f k v k) :: fvs ad (upd f k v) (k + 1) r
      rw [e r (k + 1) (by omega)]
      simp [upd]
    | succ j =>
      simp only [List.getElem?_cons_succ] at h
      have e := ih (k + 1) j h
      have e2 : k + 1 + j = k + (j + 1) := by omega
      rw [e2] at e
      cases a with
      | none =>
        show Value.int (f k) :: (fvs ad f (k + 1) r).set j (.int v) = Value.int (upd f (k + (j + 1)) v k) :: fvs ad (upd f (k + (j + 1)) v) (k + 1) r
        rw [e]
        simp [upd]
      | some t =>
        show Value.ref (ad t) :: (fvs ad f (k + 1) r).set j (.int v) = Value.ref (ad t) :: fvs ad (upd f (k + (j + 1)) v) (k + 1) r
        rw [e]
theorem pic_get (cy : ClassId) (ad : Nat → Nat) (x : Mem) : ∀ (sh : List Sh) (i k : Nat) (s : Sh), sh[k]? = some s → (pic cy ad x i sh)[k]? = some (ad (i + k), ce cy ad (x (i + k)) s) := by
  intro sh
  induction sh with
  | nil => intro i k s h; simp at h
  | cons a r ih =>
    intro i k s h
    cases k with
    | zero =>
      simp only [List.getElem?_cons_zero, Option.some.injEq] at h
      subst h
      rfl
    | succ k =>
      simp only [List.getElem?_cons_succ] at h
      have e := ih (i + 1) k s h
      have e2 : i + 1 + k = i + (k + 1) := by omega
      rw [e2] at e
      exact e
theorem pic_inv (cy : ClassId) (ad : Nat → Nat) (x : Mem) : ∀ (sh : List Sh) (i k : Nat) (q : Nat × va_E), (pic cy ad x i sh)[k]? = some q → ∃ s, sh[k]? = some s ∧ q = (ad (i + k), ce cy ad (x (i + k)) s) := by
  intro sh
  induction sh with
  | nil => intro i k q h; simp [pic] at h
  | cons a r ih =>
    intro i k q h
    cases k with
    | zero =>
      simp only [pic, List.getElem?_cons_zero, Option.some.injEq] at h
      exact ⟨a, rfl, h.symm⟩
    | succ k =>
      simp only [pic, List.getElem?_cons_succ] at h
      obtain ⟨s, h1, h2⟩ := ih (i + 1) k q h
      have e2 : i + 1 + k = i + (k + 1) := by omega
      rw [e2] at h2
      exact ⟨s, h1, h2⟩
theorem pic_D {cy : ClassId} {ad : Nat → Nat} {sh : List Sh} {i : Nat} {A : Nat → Prop} (x y : Mem) (h : va_D A (pic cy ad x i sh)) : va_D A (pic cy ad y i sh) := by
  refine ⟨fun a b p q ha hb hpq => ?_, fun k q hk => ?_⟩
  · obtain ⟨s, h1, rfl⟩ := pic_inv cy ad y sh i a p ha
    obtain ⟨t, h2, rfl⟩ := pic_inv cy ad y sh i b q hb
    exact h.1 a b _ _ (pic_get cy ad x sh i a s h1) (pic_get cy ad x sh i b t h2) hpq
  · obtain ⟨s, h1, rfl⟩ := pic_inv cy ad y sh i k q hk
    exact h.2 k (ad (i + k), ce cy ad (x (i + k)) s) (pic_get cy ad x sh i k s h1)
theorem pic_A {cy : ClassId} {ad : Nat → Nat} {sh : List Sh} {i sz : Nat} (x y : Mem) : va_A (pic cy ad x i sh) sz = va_A (pic cy ad y i sh) sz := by
  have h : ∀ (x y : Mem) (q : Nat), va_A (pic cy ad x i sh) sz q → va_A (pic cy ad y i sh) sz q := by
    intro x y q hq
    rcases hq with ⟨k, e, hk⟩ | hq
    · obtain ⟨s, h1, h2⟩ := pic_inv cy ad x sh i k _ hk
      have h3 := pic_get cy ad y sh i k s h1
      have h4 : q = ad (i + k) := congrArg Prod.fst h2
      rw [← h4] at h3
      exact Or.inl ⟨k, _, h3⟩
    · exact Or.inr hq
  funext q
  exact propext ⟨h x y q, h y x q⟩
theorem pic_set (cy : ClassId) (ad : Nat → Nat) (x y : Mem) : ∀ (sh : List Sh) (i k : Nat) (s : Sh) (e : va_E), sh[k]? = some s → e = ce cy ad (y (i + k)) s → (∀ j, j ≠ i + k → y j = x j) → (pic cy ad x i sh).set k (ad (i + k), e) = pic cy ad y i sh := by
  intro sh
  induction sh with
  | nil => intro i k s e h; simp at h
  | cons a r ih =>
    intro i k s e h he hy
    cases k with
    | zero =>
      simp only [List.getElem?_cons_zero, Option.some.injEq] at h
      subst h
      have e2 : ∀ (r : List Sh) (q : Nat), i < q → pic cy ad x q r = pic cy ad y q r := by
        intro r
        induction r with
        | nil => intro q _; rfl
        | cons b r ih2 =>
          intro q hq
          show (ad q, ce cy ad (x q) b) :: pic cy ad x (q + 1) r = (ad q, ce cy ad (y q) b) :: pic cy ad y (q + 1) r
          rw [ih2 (q + 1) (by omega), hy q (by omega)]
      show (ad (i + 0), e) :: pic cy ad x (i + 1) r = (ad i, ce cy ad (y i) a) :: pic cy ad y (i + 1) r
      rw [e2 r (i + 1) (by omega), he]
      rfl
    | succ k =>
      simp only [List.getElem?_cons_succ] at h
      have e2 : i + 1 + k = i + (k + 1) := by omega
      have e3 := ih (i + 1) k s e h (by rw [e2]; exact he) (by rw [e2]; exact hy)
      rw [e2] at e3
      show (ad i, ce cy ad (x i) a) :: (pic cy ad x (i + 1) r).set k (ad (i + (k + 1)), e) = (ad i, ce cy ad (y i) a) :: pic cy ad y (i + 1) r
      rw [e3, hy i (by omega)]
theorem wr_other {x : Mem} {a j : Nat} {v : Int32} : ∀ b, b ≠ a → wr x a j v b = x b := fun b h => by simp [wr, h]
theorem wr_self {x : Mem} {a j : Nat} {v : Int32} : wr x a j v a = upd (x a) j v := by simp [wr]
-- words
def tg : List Cond := lw_tbl.filter goodWord
theorem mem_tg {w : Cond} (i : Nat) (h : lw_tbl[i]? = some w) (g : goodWord w = true) : w ∈ tg := List.mem_filter.mpr ⟨List.mem_of_getElem? h, g⟩
theorem good_tg {y : MethodName} {bc : ByteArray} {mL : Nat} {rt : Option FieldType} (h : Cond.code y bc mL rt ∈ tg) : GoodIn tg (Cond.code y bc mL rt :: tg) := by
  intro w hw
  have h1 : w ∈ tg := by
    rcases List.mem_cons.mp hw with rfl | h2
    · exact h
    · exact h2
  exact ⟨h1, good_of_word (List.mem_filter.mp h1).2⟩
def FL (own : String) (idx ci k : Nat) : Prop := ∃ (C : String) (T : u_T) (N : Nat), vwCl[ci]? = some (C, T, N) ∧ k < N ∧ Cond.fieldLink own idx (T k).1 (T k).2.1 (T k).2.2.1 ∈ tg ∧ ∀ w ∈ u_ws C T N, w ∈ tg
def FP (own : String) (idx ci k : Nat) : Prop := ∃ (C : String) (T : u_T) (N : Nat) (ty0 : Nat → FieldType), vwCl[ci]? = some (C, T, N) ∧ k < N ∧ Cond.fieldLink own idx (T k).1 (T k).2.1 (T k).2.2.1 ∈ tg ∧ (∀ w ∈ u_ws C T N, w ∈ tg) ∧ (∀ k, k < N → parseFieldDescriptor (T k).2.2.1 = some (ty0 k)) ∧ (∀ a, a < N → ∀ b, b < N → a ≠ b → (T a).2.1 ≠ (T b).2.1) ∧ (T k).2.2.2 = false ∧ parseFieldDescriptor (T k).2.2.1 = some .int
def LkV (own : String) (idx : Nat) (y : MethodName) (bc : ByteArray) (mL : Nat) (rt : Option FieldType) (n : Nat) : Prop := Cond.methodLink own idx y ∈ tg ∧ Cond.instanceMethod y ∈ tg ∧ Cond.selects y.cls y y ∈ tg ∧ Cond.initialized y.cls ∈ tg ∧ Cond.code y bc mL rt ∈ tg ∧ y.cls ≠ "java/lang/invoke/MethodHandle" ∧ y.cls ≠ "java/lang/invoke/VarHandle" ∧ (parseMethodDescriptor y.desc).map (fun d => d.parameters.length) = some n
def LkS (own : String) (idx : Nat) (y : MethodName) (bc : ByteArray) (mL : Nat) (rt : Option FieldType) (n : Nat) : Prop := Cond.methodLink own idx y ∈ tg ∧ Cond.static y ∈ tg ∧ Cond.initialized y.cls ∈ tg ∧ Cond.code y bc mL rt ∈ tg ∧ y.cls ≠ "java/lang/invoke/MethodHandle" ∧ y.cls ≠ "java/lang/invoke/VarHandle" ∧ (parseMethodDescriptor y.desc).map (fun d => d.parameters.length) = some n
def LkN (nw : List Cond) (own : String) (idx : Nat) (y : MethodName) (host : String) (bc : ByteArray) (mL : Nat) (rt : Option FieldType) (n : Nat) : Prop := Cond.methodLinkNest own idx y host ∈ nw ∧ Cond.static y ∈ tg ∧ Cond.initialized y.cls ∈ tg ∧ Cond.code y bc mL rt ∈ tg ∧ y.cls ≠ "java/lang/invoke/MethodHandle" ∧ y.cls ≠ "java/lang/invoke/VarHandle" ∧ (parseMethodDescriptor y.desc).map (fun d => d.parameters.length) = some n
/-- the nest words of the tables -/
def isNest (w : Cond) : Bool := match w with
  | .methodLinkNest _ _ _ _ => true
  | _ => false
def nestW : List Cond := lw_tbl.filter isNest
theorem nestW_form {w : Cond} (h : w ∈ nestW) : ∃ a i y b, w = .methodLinkNest a i y b := by
  have h2 := (List.mem_filter.mp h).2
  cases w <;> first | exact ⟨_, _, _, _, rfl⟩ | (simp [isNest] at h2)
def KK (D : va_G) (cy : ClassId) (U : State) : Prop := va_K D vwCl [(cy, .int)] U ∧ ∀ w ∈ nestW, va_Nw w U
theorem KK.warm {D : va_G} {cy : ClassId} {s U : State} (hW : s.WarmedH U.vm) (h : KK D cy s) : KK D cy U := by
  refine ⟨va_K.moved hW.alike h.1, fun w hw => ?_⟩
  have h1 := h.2 w hw
  obtain ⟨a, i, y, b, rfl⟩ := nestW_form hw
  exact va_Nw.warmM hW h1
theorem KK.call {D : va_G} {cy : ClassId} {U : State} {g : JFrame} {mk : MethodId} {a : Array Value} (h : KK D cy U) : KK D cy (U.calling g mk a) := by
  refine ⟨va_K.moved (u := U) (U := U.calling g mk a) (Vm.Alike.refl U.vm) h.1, fun w hw => ?_⟩
  have h1 := h.2 w hw
  obtain ⟨b, i, y, d, rfl⟩ := nestW_form hw
  exact va_Nw.same rfl (rfl : U.vm = (U.calling g mk a).vm) h1
-- locals by their places
def toA : Nat → List (Option Value) → List (Nat × Value)
  | _, [] => []
  | i, none :: r => toA (i + 1) r
  | i, some v :: r => (i, v) :: toA (i + 1) r
theorem toA_mem : ∀ (lv : List (Option Value)) (i : Nat) (q : Nat × Value), q ∈ toA i lv ↔ ∃ k, lv[k]? = some (some q.2) ∧ q.1 = i + k := by
  intro lv
  induction lv with
  | nil => intro i q; simp [toA]
  | cons a r ih =>
    intro i q
    cases a with
    | none =>
      simp only [toA, ih]
      constructor
      · rintro ⟨k, h1, h2⟩; exact ⟨k + 1, h1, by omega⟩
      · rintro ⟨k, h1, h2⟩
        cases k with
        | zero => simp at h1
        | succ k => exact ⟨k, h1, by omega⟩
    | some v =>
      simp only [toA, List.mem_cons, ih]
      constructor
      · rintro (rfl | ⟨k, h1, h2⟩)
        · exact ⟨0, rfl, rfl⟩
        · exact ⟨k + 1, h1, by omega⟩
      · rintro ⟨k, h1, h2⟩
        cases k with
        | zero => simp at h1; left; exact Prod.ext (by simpa using h2) h1.symm
        | succ k => right; exact ⟨k, h1, by omega⟩
def LVh (ls : Array Slot) (nL : Nat) (lv : List (Option Value)) : Prop := lv_has ls nL (toA 0 lv) ∧ ∀ (k : Nat) (v : Value), lv[k]? = some (some v) → v.category = 1
theorem LVh.at {ls : Array Slot} {nL : Nat} {lv : List (Option Value)} (h : LVh ls nL lv) {i : Nat} {v : Value} (hi : lv[i]? = some (some v)) : ls[i]? = some (.val v) := h.1.2.2 (i, v) ((toA_mem lv 0 (i, v)).mpr ⟨i, hi, (Nat.zero_add i).symm⟩)
theorem LVh.set {ls ls' : Array Slot} {nL i : Nat} {v : Value} {lv : List (Option Value)} (hv : v.category = 1) (h : LVh ls nL lv) (h' : lv_has ls' nL ((i, v) :: (toA 0 lv).filter (fun q => !(q.1 == i) && !(q.1 + 1 == i && q.2.category == 2)))) : LVh ls' nL (lv.set i (some v)) := by
  refine ⟨⟨h'.1, h'.2.1, fun q hq => ?_⟩, fun k w hk => ?_⟩
  · obtain ⟨k, h1, h2⟩ := (toA_mem _ 0 q).mp hq
    have hk : q.1 = k := by omega
    rw [List.getElem?_set] at h1
    by_cases e : i = k
    · rw [if_pos e] at h1
      split at h1
      · simp only [Option.some.injEq] at h1
        exact h'.2.2 q (List.mem_cons.mpr (Or.inl (Prod.ext (by simp; omega) h1.symm)))
      · cases h1
    · rw [if_neg e] at h1
      refine h'.2.2 q (List.mem_cons.mpr (Or.inr (List.mem_filter.mpr ⟨(toA_mem lv 0 q).mpr ⟨k, h1, h2⟩, ?_⟩)))
      have hc := h.2 k q.2 h1
      simp [hc]
      omega
  · rw [List.getElem?_set] at hk
    by_cases e : i = k
    · rw [if_pos e] at hk
      split at hk
      · simp only [Option.some.injEq] at hk
        rw [← hk]; exact hv
      · cases hk
    · rw [if_neg e] at hk
      exact h.2 k w hk
def maskL : List Bool → List (Option Value) → List (Option Value)
  | b :: bs, v :: r => (if b then v else none) :: maskL bs r
  | _, _ => []
theorem maskL_get : ∀ (bs : List Bool) (lv : List (Option Value)) (k : Nat) (v : Value), (maskL bs lv)[k]? = some (some v) → lv[k]? = some (some v) := by
  intro bs
  induction bs with
  | nil => intro lv k v h; cases lv <;> simp [maskL] at h
  | cons b bs ih =>
    intro lv k v h
    cases lv with
    | nil => simp [maskL] at h
    | cons a r =>
      cases k with
      | zero => cases b <;> simp [maskL] at h ⊢; exact h
      | succ k => simp only [maskL, List.getElem?_cons_succ] at h ⊢; exact ih r k v h
theorem LVh.mask {ls : Array Slot} {nL : Nat} {lv : List (Option Value)} (bs : List Bool) (h : LVh ls nL lv) : LVh ls nL (maskL bs lv) := by
  refine ⟨⟨h.1.1, h.1.2.1, fun q hq => ?_⟩, fun k v hk => h.2 k v (maskL_get bs lv k v hk)⟩
  obtain ⟨k, h1, h2⟩ := (toA_mem _ 0 q).mp hq
  exact h.1.2.2 q ((toA_mem lv 0 q).mpr ⟨k, maskL_get bs lv k _ h1, h2⟩)

/-! ===== nextTest ===== -/
theorem OUTv_3 (v : Int32) : OUTv v = 0 ∨ OUTv v = 1 ∨ OUTv v = 2 := by
  unfold OUTv
  by_cases h : v < 6
  · rw [if_pos h]
    by_cases h2 : v ≤ 0
    · rw [if_pos h2]; exact Or.inl rfl
    · rw [if_neg h2]; exact Or.inr (Or.inl rfl)
  · rw [if_neg h]; exact Or.inr (Or.inr rfl)
theorem OUT_3 (m b h : Int32) (f : Nat) : ∃ v, v < 3 ∧ OUT m b h f = nI v := by
  have H : OUT m b h f = 0 ∨ OUT m b h f = 1 ∨ OUT m b h f = 2 := by
    unfold OUT
    by_cases h1 : f < 16
    · rw [if_pos h1]; exact OUTv_3 _
    · rw [if_neg h1]
      by_cases h2 : f < 160
      · rw [if_pos h2]; exact OUTv_3 _
      · rw [if_neg h2]
        by_cases h3 : b = nI (f - 160)
        · rw [if_pos h3]; exact Or.inl rfl
        · rw [if_neg h3]; exact OUTv_3 _
  rcases H with e | e | e
  · exact ⟨0, by omega, e⟩
  · exact ⟨1, by omega, e⟩
  · exact ⟨2, by omega, e⟩
theorem e_alike (fu p n : Nat) (hp : p < 12) (hn : n ≤ 168) (h m b : Int32) (hm : ∃ c, c < 65536 ∧ m = nI c) (g : Nat → Nat) (gl : ∀ i, i < n → g i < 168) (K : Mem → Res) : ∀ (d i k : Nat) (x : Mem), i + d = n → d < k → x 8 3 = nI n → x 14 p = m → x 13 p = b → (∀ j, j < n → x 33 j = nI (g j)) → (∀ v, v < 3 → x 34 v = nI (cntL (fun j => decide (OUT m b h (g j) = nI v)) i)) → ∃ x' : Mem, L_X2_mostAlike_23 fu (nI p) h k (nI i) x K = K x' ∧ (∀ c, c ≠ 34 → x' c = x c) ∧ ∀ v, v < 3 → x' 34 v = nI (cntL (fun j => decide (OUT m b h (g j) = nI v)) n) := by
  intro d
  induction d with
  | zero =>
    intro i k x hi hk h83 h14 h13 q1 q2
    obtain ⟨k, rfl⟩ : ∃ z, k = z + 1 := ⟨k - 1, by omega⟩
    have : i = n := by omega
    subst this
    refine ⟨x, ?_, fun _ _ => rfl, q2⟩
    rw [L_X2_mostAlike_23, h83, if_pos (nI_le (Nat.le_refl _) (by omega))]
  | succ d ih =>
    intro i k x hi hk h83 h14 h13 q1 q2
    obtain ⟨k, rfl⟩ : ∃ z, k = z + 1 := ⟨k - 1, by omega⟩
    have hgi := q1 i (by omega)
    have ho : F_X2_outcomeWith fu (x 33 i) (nI p) h x = some (OUT m b h (g i)) := by
      rw [hgi, outcome_eq (gl i (by omega)) hp (by rw [h14]; exact hm), h14, h13]
    obtain ⟨w, hw, ew⟩ := OUT_3 m b h (g i)
    obtain ⟨x', r1, r2, r3⟩ := ih (i + 1) k (wr x 34 w (x 34 w + 1)) (by omega) (by omega) h83 h14 h13 q1 (fun v hv => by
      rw [wr_row, cntL_s]
      by_cases e : v = w
      · subst e
        rw [upd_s, q2 v hv, nI_1, if_pos (decide_eq_true ew)]
      · rw [upd_n e, q2 v hv, if_neg (by
          rw [decide_eq_true_iff]
          intro h2
          exact e (nI_inj (by omega) (by omega) (h2.symm.trans ew)))]
        rfl)
    refine ⟨x', ?_, fun c hc => by rw [r2 c hc, wr_ne hc], r3⟩
    rw [L_X2_mostAlike_23, h83, if_neg (nI_ge (by omega) (by omega)), chk_ok (by omega) (by omega), cN (by omega), ho, clp_some, ew, chk_ok hw (by omega), chk_ok hw (by omega), letm_eq, cN (by omega), nI_1, r1]
def mx3 (a b c : Nat) : Nat := max (max a b) c
theorem imax_nI {a b : Nat} (ha : a < 2 ^ 31) (hb : b < 2 ^ 31) : imax (nI a) (nI b) = nI (max a b) := by
  unfold imax
  by_cases h : a < b
  · rw [if_pos (nI_lt h hb)]; congr 1; omega
  · rw [if_neg (nI_nlt (by omega) ha)]; congr 1; omega
/-- the greatest number that come alike -/
def MOST (m b h : Int32) (n : Nat) (g : Nat → Nat) : Nat := mx3 (cntL (fun j => decide (OUT m b h (g j) = nI 0)) n) (cntL (fun j => decide (OUT m b h (g j) = nI 1)) n) (cntL (fun j => decide (OUT m b h (g j) = nI 2)) n)
theorem mostAlike_eq {fu p n : Nat} {h m b : Int32} {g : Nat → Nat} {x : Mem} (hfu : 1000 ≤ fu) (hp : p < 12) (hn : n ≤ 168) (hm : ∃ c, c < 65536 ∧ m = nI c) (gl : ∀ i, i < n → g i < 168) (h83 : x 8 3 = nI n) (h14 : x 14 p = m) (h13 : x 13 p = b) (q1 : ∀ j, j < n → x 33 j = nI (g j)) : ∃ x' : Mem, F_X2_mostAlike fu (nI p) h x = some (nI (MOST m b h n g), x') ∧ ∀ c, c ≠ 34 → x' c = x c := by
  obtain ⟨x', r1, r2, r3⟩ := e_alike fu p n hp hn h m b hm g gl (fun x_6 => (chk 0 3 (chk 1 3 (chk 2 3 (some ((imax (x_6 34 (0 : Int32).toNatClampNeg) (imax (x_6 34 (1 : Int32).toNatClampNeg) (x_6 34 (2 : Int32).toNatClampNeg))), x_6)))))) n 0 fu (wr (wr (wr x 34 0 0) 34 1 0) 34 2 0) (by omega) (by omega) h83 h14 h13 q1 (fun v hv => by
    have e0 : wr (wr (wr x 34 0 0) 34 1 0) 34 2 0 34 v = 0 := by
      rcases (show v = 0 ∨ v = 1 ∨ v = 2 by omega) with rfl | rfl | rfl <;> rfl
    rw [e0]; rfl)
  refine ⟨x', ?_, fun c hc => by rw [r2 c hc, wr_ne hc, wr_ne hc, wr_ne hc]⟩
  have c0 := cntL_le (fun j => decide (OUT m b h (g j) = nI 0)) n
  have c1 := cntL_le (fun j => decide (OUT m b h (g j) = nI 1)) n
  have c2 := cntL_le (fun j => decide (OUT m b h (g j) = nI 2)) n
  unfold F_X2_mostAlike
  have k0 : ∀ M : Res, chk 0 3 M = M := fun M => chk_ok (j := 0) (by omega) (by omega)
  have k1 : ∀ M : Res, chk 1 3 M = M := fun M => chk_ok (j := 1) (by omega) (by omega)
  have k2 : ∀ M : Res, chk 2 3 M = M := fun M => chk_ok (j := 2) (by omega) (by omega)
  have n0 : (0 : Int32).toNatClampNeg = 0 := cN (j := 0) (by omega)
  have n1 : (1 : Int32).toNatClampNeg = 1 := cN (j := 1) (by omega)
  have n2 : (2 : Int32).toNatClampNeg = 2 := cN (j := 2) (by omega)
  simp only [k0, k1, k2, letm_eq, n0, n1, n2] at r1 ⊢
  have r1' : L_X2_mostAlike_23 fu (nI p) h fu 0 (wr (wr (wr x 34 0 0) 34 1 0) 34 2 0) (fun x_6 => some (imax (x_6 34 0) (imax (x_6 34 1) (x_6 34 2)), x_6)) = _ := r1
  rw [r1', r3 0 (by omega), r3 1 (by omega), r3 2 (by omega), imax_nI (by omega) (by omega), imax_nI (by omega) (by omega)]
  unfold MOST mx3
  congr 3
  omega
/-- the counts over all faults are those over the list -/
theorem list_cnt {n : Nat} {g : Nat → Nat} {E : Nat → Prop} (eB : Nat → Bool) (hE : ∀ f, f < 168 → (eB f = true ↔ E f)) (g1 : ∀ i, i < n → E (g i)) (gl : ∀ i, i < n → g i < 168) (g2 : ∀ i j, i < j → j < n → g i < g j) (g3 : ∀ f, f < 168 → E f → ∃ i, i < n ∧ g i = f) (q : Nat → Bool) : cntL (fun f => eB f && q f) 168 = cntL (fun i => q (g i)) n := by
  have H : ∀ f, f ≤ 168 → ∃ c, c ≤ n ∧ (∀ i, i < c → g i < f) ∧ (∀ i, c ≤ i → i < n → f ≤ g i) ∧ cntL (fun f => eB f && q f) f = cntL (fun i => q (g i)) c := by
    intro f
    induction f with
    | zero => intro _; exact ⟨0, by omega, fun i hi => absurd hi (by omega), fun i _ _ => by omega, rfl⟩
    | succ f ih =>
      intro hf
      obtain ⟨c, hc, h1, h2, h3⟩ := ih (by omega)
      obtain ⟨p1, p2⟩ := list_step (f := f) (by omega) g1 g2 g3 hc h1 h2
      rcases Classical.em (E f) with e | e
      · obtain ⟨q0, qg, q1, q2⟩ := p1 e
        refine ⟨c + 1, by omega, q1, q2, ?_⟩
        rw [cntL_s, cntL_s, h3, qg, (hE f (by omega)).mpr e]
        simp
      · obtain ⟨q1, q2⟩ := p2 e
        refine ⟨c, hc, q1, q2, ?_⟩
        have : eB f = false := by
          cases hb : eB f
          · rfl
          · exact absurd ((hE f (by omega)).mp hb) e
        rw [cntL_s, h3, this]
        simp
  obtain ⟨c, hc, h1, h2, h3⟩ := H 168 (Nat.le_refl _)
  have : c = n := by
    rcases Nat.lt_or_ge c n with h | h
    · have h4 := h2 c (Nat.le_refl _) h
      have h5 := gl c h
      omega
    · omega
  subst this
  exact h3
theorem e_next41 (fu T p be : Nat) (hfu : 1000 ≤ fu) (hT : T ≤ 12) (hp : p < 12) (hbe : be ≤ 7) (y : Mem) (ebe : y 7 p = nI be) (hT0 : y 0 28 = nI T) (hr : ∀ k, k < T → (∃ p be, p < 12 ∧ be ≤ 7 ∧ y 22 k = nI p ∧ y 7 p = nI be)) (eB : Nat → Bool) (hE : ∀ f, f < 168 → (eB f = true ↔ EXP T (y 22) (y 23) (y 24) (y 7) (y 8) f)) (l1 l2 : Int32) (K : Int32 → Int32 → Int32 → Option Int32) : ∀ (d f k : Nat), f + d = 168 → d < k → L_X10_nextTest_41 fu l1 l2 (nI p) y k (nI (cntL (fun f => eB f && decide (OUT (y 8 p) (y 7 p) (y 0 3) f = nI 0)) f)) (nI (cntL (fun f => eB f && decide (OUT (y 8 p) (y 7 p) (y 0 3) f = nI 1)) f)) (nI (cntL (fun f => eB f && decide (OUT (y 8 p) (y 7 p) (y 0 3) f = nI 2)) f)) (nI f) K = K (nI (cntL (fun f => eB f && decide (OUT (y 8 p) (y 7 p) (y 0 3) f = nI 0)) 168)) (nI (cntL (fun f => eB f && decide (OUT (y 8 p) (y 7 p) (y 0 3) f = nI 1)) 168)) (nI (cntL (fun f => eB f && decide (OUT (y 8 p) (y 7 p) (y 0 3) f = nI 2)) 168)) := by
  intro d
  induction d with
  | zero =>
    intro f k hf hk
    obtain ⟨k, rfl⟩ : ∃ z, k = z + 1 := ⟨k - 1, by omega⟩
    have : f = 168 := by omega
    subst this
    rw [L_X10_nextTest_41, if_pos (show (168 : Int32) ≤ nI 168 from nI_le (a := 168) (by omega) (by omega))]
  | succ d ih =>
    intro f k hf hk
    obtain ⟨k, rfl⟩ : ∃ z, k = z + 1 := ⟨k - 1, by omega⟩
    obtain ⟨r, r1, r2, r3⟩ := explains_eq (f := f) (show 100 ≤ fu by omega) hT (by omega) hT0 hr
    have hEf := (hE f (by omega)).trans r3.symm
    rw [← ih (f + 1) k (by omega) (by omega), cntL_s, cntL_s, cntL_s, L_X10_nextTest_41, if_neg (show ¬ (168 : Int32) ≤ nI f from nI_ge (b := 168) (by omega) (by omega)), r1, clp_some]
    simp only [jn_eq, ownBy_eq (show 100 ≤ fu by omega) (show f < 168 by omega) hp hbe ebe, clp_some, letv_eq, nI_1]
    rcases r2 with e | e
    · have hb : eB f = false := by
        cases hb : eB f
        · rfl
        · rw [hEf.mp hb] at e; exact absurd e (by decide)
      rw [e, hb]
      simp (config := { decide := true }) only [if_true, if_false, Bool.false_and]
      simp
    · have hb : eB f = true := hEf.mpr e
      rw [e, hb]
      obtain ⟨w, hw, ew⟩ := OUT_3 (y 8 p) (y 7 p) (y 0 3) f
      rw [ew]
      rcases (show w = 0 ∨ w = 1 ∨ w = 2 by omega) with rfl | rfl | rfl
      · simp (config := { decide := true }) only [if_true, if_false, Bool.true_and, nI_1]
        simp
      · simp (config := { decide := true }) only [if_true, if_false, Bool.true_and, nI_1]
        simp
      · simp (config := { decide := true }) only [if_true, if_false, Bool.true_and, nI_1]
        simp
/-- the best so far -/
def BB (M : Nat → Nat) : Nat → Int32 × Nat
  | 0 => (-4, 9999)
  | k + 1 => if (BB M k).2 ≤ M k then BB M k else (nI k, M k)
theorem BB_s (M : Nat → Nat) (k : Nat) : BB M (k + 1) = if (BB M k).2 ≤ M k then BB M k else (nI k, M k) := rfl
theorem BB_inv {M : Nat → Nat} (hM : ∀ k, M k ≤ 168) : ∀ k, 0 < k → (∃ j, j < k ∧ (BB M k).1 = nI j) ∧ (BB M k).2 ≤ 168 := by
  intro k
  induction k with
  | zero => intro h; omega
  | succ k ih =>
    intro _
    rw [BB_s]
    by_cases h : (BB M k).2 ≤ M k
    · rw [if_pos h]
      rcases Nat.eq_zero_or_pos k with e | e
      · subst e
        have h9 : (9999 : Nat) ≤ M 0 := h
        have := hM 0
        omega
      · obtain ⟨⟨j, hj, ej⟩, h2⟩ := ih e
        exact ⟨⟨j, by omega, ej⟩, h2⟩
    · rw [if_neg h]
      exact ⟨⟨k, by omega, rfl⟩, hM k⟩
theorem MOST_le (m b h : Int32) (n : Nat) (g : Nat → Nat) (hn : n ≤ 168) : MOST m b h n g ≤ 168 := by
  have c0 := cntL_le (fun j => decide (OUT m b h (g j) = nI 0)) n
  have c1 := cntL_le (fun j => decide (OUT m b h (g j) = nI 1)) n
  have c2 := cntL_le (fun j => decide (OUT m b h (g j) = nI 2)) n
  unfold MOST mx3
  omega
theorem e_ttpm (fu P n : Nat) (hfu : 1000 ≤ fu) (hP : P ≤ 12) (hn : n ≤ 168) (h : Int32) (mrow brow : Nat → Int32) (hm : ∀ p, p < P → ∃ c, c < 65536 ∧ mrow p = nI c) (g : Nat → Nat) (gl : ∀ i, i < n → g i < 168) (K : Int32 → Mem → Res) : ∀ (d k m : Nat) (x : Mem), k + d = P → d < m → x 1 0 = nI P → x 8 3 = nI n → x 14 = mrow → x 13 = brow → (∀ j, j < n → x 33 j = nI (g j)) → ∃ x' : Mem, L_X2_testThatPartsMost_19 fu h m (BB (fun p => MOST (mrow p) (brow p) h n g) k).1 (if k = 0 then 0 else nI (BB (fun p => MOST (mrow p) (brow p) h n g) k).2) (nI k) x K = K (BB (fun p => MOST (mrow p) (brow p) h n g) P).1 x' ∧ ∀ c, c ≠ 34 → x' c = x c := by
  have hM : ∀ k, (fun p => MOST (mrow p) (brow p) h n g) k ≤ 168 := fun k => MOST_le _ _ _ _ _ hn
  intro d
  induction d with
  | zero =>
    intro k m x hk hm2 h10 h83 h14 h13 q1
    obtain ⟨m, rfl⟩ : ∃ z, m = z + 1 := ⟨m - 1, by omega⟩
    have : k = P := by omega
    subst this
    refine ⟨x, ?_, fun _ _ => rfl⟩
    rw [L_X2_testThatPartsMost_19, h10, if_pos (nI_le (Nat.le_refl _) (by omega))]
  | succ d ih =>
    intro k m x hk hm2 h10 h83 h14 h13 q1
    obtain ⟨m, rfl⟩ : ∃ z, m = z + 1 := ⟨m - 1, by omega⟩
    obtain ⟨x1, a1, a2⟩ := mostAlike_eq (p := k) (h := h) hfu (by omega) hn (hm k (by omega)) gl h83 (by rw [h14]) (by rw [h13]) q1
    obtain ⟨x', r1, r2⟩ := ih (k + 1) m x1 (by omega) (by omega) (by rw [a2 1 (by decide)]; exact h10) (by rw [a2 8 (by decide)]; exact h83) (by rw [a2 14 (by decide)]; exact h14) (by rw [a2 13 (by decide)]; exact h13) (fun j hj => by rw [a2 33 (by decide)]; exact q1 j hj)
    refine ⟨x', ?_, fun c hc => by rw [r2 c hc, a2 c hc]⟩
    rw [if_neg (by omega)] at r1
    rw [← r1, L_X2_testThatPartsMost_19, h10, if_neg (nI_ge (by omega) (by omega)), a1, cl_some', BB_s, nI_1]
    have hMk : MOST (mrow k) (brow k) h n g ≤ 168 := hM k
    rcases Nat.eq_zero_or_pos k with e | e
    · subst e
      rw [if_pos (show (BB (fun p => MOST (mrow p) (brow p) h n g) 0).1 = -4 from rfl)]
      have : ¬ (BB (fun p => MOST (mrow p) (brow p) h n g) 0).2 ≤ (fun p => MOST (mrow p) (brow p) h n g) 0 := by
        show ¬ (9999 : Nat) ≤ MOST (mrow 0) (brow 0) h n g
        omega
      rw [if_neg this]
    · obtain ⟨⟨j, hj, ej⟩, h2⟩ := BB_inv hM k e
      have hne : ¬ (BB (fun p => MOST (mrow p) (brow p) h n g) k).1 = -4 := by
        rw [ej]
        intro h3
        have := nI_pos (n := j) (by omega)
        rw [h3] at this
        exact this (by decide)
      have hk0 : (if k = 0 then (0 : Int32) else nI (BB (fun p => MOST (mrow p) (brow p) h n g) k).2) = nI (BB (fun p => MOST (mrow p) (brow p) h n g) k).2 := if_neg (by omega)
      rw [hk0, if_neg hne]
      by_cases hle : (BB (fun p => MOST (mrow p) (brow p) h n g) k).2 ≤ MOST (mrow k) (brow k) h n g
      · rw [if_pos (show (BB (fun p => MOST (mrow p) (brow p) h n g) k).2 ≤ (fun p => MOST (mrow p) (brow p) h n g) k from hle), if_pos (show nI (BB (fun p => MOST (mrow p) (brow p) h n g) k).2 ≤ nI (MOST (mrow k) (brow k) h n g) from nI_le hle (by omega))]
      · rw [if_neg (show ¬ (BB (fun p => MOST (mrow p) (brow p) h n g) k).2 ≤ (fun p => MOST (mrow p) (brow p) h n g) k from hle), if_neg (show ¬ nI (BB (fun p => MOST (mrow p) (brow p) h n g) k).2 ≤ nI (MOST (mrow k) (brow k) h n g) from nI_ge (by omega) (by omega))]
theorem e_next21 (fu P n T : Nat) (hfu : 1000 ≤ fu) (hP : P ≤ 12) (hn : n ≤ 168) (hT : T ≤ 12) (y : Mem) (hP0 : y 0 4 = nI P) (hT0 : y 0 28 = nI T) (hr : ∀ k, k < T → (∃ p be, p < 12 ∧ be ≤ 7 ∧ y 22 k = nI p ∧ y 7 p = nI be)) (hbell : ∀ p, p < P → ∃ be, be ≤ 7 ∧ y 7 p = nI be) (eB : Nat → Bool) (hE : ∀ f, f < 168 → (eB f = true ↔ EXP T (y 22) (y 23) (y 24) (y 7) (y 8) f)) (g : Nat → Nat) (g1 : ∀ i, i < n → EXP T (y 22) (y 23) (y 24) (y 7) (y 8) (g i)) (gl : ∀ i, i < n → g i < 168) (g2 : ∀ i j, i < j → j < n → g i < g j) (g3 : ∀ f, f < 168 → EXP T (y 22) (y 23) (y 24) (y 7) (y 8) f → ∃ i, i < n ∧ g i = f) (K : Int32 → Option Int32) : ∀ (d k m : Nat), k + d = P → d < m → L_X10_nextTest_21 fu y m (BB (fun p => MOST (y 8 p) (y 7 p) (y 0 3) n g) k).1 (nI (BB (fun p => MOST (y 8 p) (y 7 p) (y 0 3) n g) k).2) (nI k) K = K (BB (fun p => MOST (y 8 p) (y 7 p) (y 0 3) n g) P).1 := by
  have hM : ∀ k, (fun p => MOST (y 8 p) (y 7 p) (y 0 3) n g) k ≤ 168 := fun k => MOST_le _ _ _ _ _ hn
  intro d
  induction d with
  | zero =>
    intro k m hk hm
    obtain ⟨m, rfl⟩ : ∃ z, m = z + 1 := ⟨m - 1, by omega⟩
    have : k = P := by omega
    subst this
    rw [L_X10_nextTest_21, hP0, if_pos (nI_le (Nat.le_refl _) (by omega))]
  | succ d ih =>
    intro k m hk hm
    obtain ⟨m, rfl⟩ : ∃ z, m = z + 1 := ⟨m - 1, by omega⟩
    obtain ⟨be, hbe, ebe⟩ := hbell k (by omega)
    have e41 := fun K => e_next41 fu T k be hfu hT (by omega) hbe y ebe hT0 hr eB hE (BB (fun p => MOST (y 8 p) (y 7 p) (y 0 3) n g) k).1 (nI (BB (fun p => MOST (y 8 p) (y 7 p) (y 0 3) n g) k).2) K 168 0 fu rfl (by omega)
    have e41' : ∀ K, L_X10_nextTest_41 fu (BB (fun p => MOST (y 8 p) (y 7 p) (y 0 3) n g) k).1 (nI (BB (fun p => MOST (y 8 p) (y 7 p) (y 0 3) n g) k).2) (nI k) y fu 0 0 0 0 K = _ := e41
    have c := fun v => list_cnt eB hE g1 gl g2 g3 (fun f => decide (OUT (y 8 k) (y 7 k) (y 0 3) f = nI v))
    have l0 := cntL_le (fun j => decide (OUT (y 8 k) (y 7 k) (y 0 3) (g j) = nI 0)) n
    have l1 := cntL_le (fun j => decide (OUT (y 8 k) (y 7 k) (y 0 3) (g j) = nI 1)) n
    have l2 := cntL_le (fun j => decide (OUT (y 8 k) (y 7 k) (y 0 3) (g j) = nI 2)) n
    have hbb : (BB (fun p => MOST (y 8 p) (y 7 p) (y 0 3) n g) k).2 ≤ 9999 := by
      rcases Nat.eq_zero_or_pos k with e | e
      · subst e; exact Nat.le_refl _
      · have := (BB_inv hM k e).2; omega
    rw [← ih (k + 1) m (by omega) (by omega), BB_s, L_X10_nextTest_21, hP0, if_neg (nI_ge (by omega) (by omega)), e41', c 0, c 1, c 2]
    simp only [jn_eq, nI_1]
    have hMk : MOST (y 8 k) (y 7 k) (y 0 3) n g ≤ 168 := hM k
    have tree : ∀ (F : Int32 → Option Int32), (if nI (cntL (fun j => decide (OUT (y 8 k) (y 7 k) (y 0 3) (g j) = nI 0)) n) ≤ nI (cntL (fun j => decide (OUT (y 8 k) (y 7 k) (y 0 3) (g j) = nI 1)) n) then (if nI (cntL (fun j => decide (OUT (y 8 k) (y 7 k) (y 0 3) (g j) = nI 2)) n) ≤ nI (cntL (fun j => decide (OUT (y 8 k) (y 7 k) (y 0 3) (g j) = nI 1)) n) then F (nI (cntL (fun j => decide (OUT (y 8 k) (y 7 k) (y 0 3) (g j) = nI 1)) n)) else F (nI (cntL (fun j => decide (OUT (y 8 k) (y 7 k) (y 0 3) (g j) = nI 2)) n))) else (if nI (cntL (fun j => decide (OUT (y 8 k) (y 7 k) (y 0 3) (g j) = nI 2)) n) ≤ nI (cntL (fun j => decide (OUT (y 8 k) (y 7 k) (y 0 3) (g j) = nI 0)) n) then F (nI (cntL (fun j => decide (OUT (y 8 k) (y 7 k) (y 0 3) (g j) = nI 0)) n)) else F (nI (cntL (fun j => decide (OUT (y 8 k) (y 7 k) (y 0 3) (g j) = nI 2)) n)))) = F (nI (MOST (y 8 k) (y 7 k) (y 0 3) n g)) := by
      intro F
      unfold MOST mx3
      generalize cntL (fun j => decide (OUT (y 8 k) (y 7 k) (y 0 3) (g j) = nI 0)) n = A at *
      generalize cntL (fun j => decide (OUT (y 8 k) (y 7 k) (y 0 3) (g j) = nI 1)) n = B at *
      generalize cntL (fun j => decide (OUT (y 8 k) (y 7 k) (y 0 3) (g j) = nI 2)) n = C at *
      by_cases h1 : A ≤ B
      · rw [if_pos (nI_le h1 (by omega))]
        by_cases h2 : C ≤ B
        · rw [if_pos (nI_le h2 (by omega))]; congr 2; omega
        · rw [if_neg (nI_ge (by omega) (by omega))]; congr 2; omega
      · rw [if_neg (nI_ge (by omega) (by omega))]
        by_cases h2 : C ≤ A
        · rw [if_pos (nI_le h2 (by omega))]; congr 2; omega
        · rw [if_neg (nI_ge (by omega) (by omega))]; congr 2; omega
    have t := tree (fun v => if nI (BB (fun p => MOST (y 8 p) (y 7 p) (y 0 3) n g) k).2 ≤ v then (if nI (BB (fun p => MOST (y 8 p) (y 7 p) (y 0 3) n g) k).2 ≤ v then L_X10_nextTest_21 fu y m (BB (fun p => MOST (y 8 p) (y 7 p) (y 0 3) n g) k).1 (nI (BB (fun p => MOST (y 8 p) (y 7 p) (y 0 3) n g) k).2) (nI (k + 1)) K else L_X10_nextTest_21 fu y m (BB (fun p => MOST (y 8 p) (y 7 p) (y 0 3) n g) k).1 v (nI (k + 1)) K) else (if nI (BB (fun p => MOST (y 8 p) (y 7 p) (y 0 3) n g) k).2 ≤ v then L_X10_nextTest_21 fu y m (nI k) (nI (BB (fun p => MOST (y 8 p) (y 7 p) (y 0 3) n g) k).2) (nI (k + 1)) K else L_X10_nextTest_21 fu y m (nI k) v (nI (k + 1)) K))
    refine Eq.trans t ?_
    by_cases hle : (BB (fun p => MOST (y 8 p) (y 7 p) (y 0 3) n g) k).2 ≤ MOST (y 8 k) (y 7 k) (y 0 3) n g
    · rw [if_pos (nI_le hle (by omega)), if_pos (nI_le hle (by omega)), if_pos hle]
    · rw [if_neg (nI_ge (by omega) (by omega)), if_neg (nI_ge (by omega) (by omega)), if_neg hle]
theorem S_nextTest (fu : Nat) (hfu : 1000 ≤ fu) : St_nextTest fu Rel := by
  intro x y hR
  obtain ⟨T, n, g, hT, hT0, hn, hn0, hr, g1, g2, g3⟩ := RFa.at hR
  obtain ⟨P, hP, hP0, hPr⟩ := hR.2.2.1
  have s2 : x 3 6 = y 0 3 := hR.1.2.1
  have a4 : x 13 = y 7 := hR.2.1.2.2.2.1
  have a5 : x 14 = y 8 := hR.2.1.2.2.2.2.1
  obtain ⟨eB, hE⟩ : ∃ eB : Nat → Bool, ∀ f, f < 168 → (eB f = true ↔ EXP T (y 22) (y 23) (y 24) (y 7) (y 8) f) :=
    ⟨fun f => @decide (EXP T (y 22) (y 23) (y 24) (y 7) (y 8) f) (Classical.propDecidable _), fun f _ => @decide_eq_true_iff _ (Classical.propDecidable _)⟩
  obtain ⟨-, f2⟩ := e_fault fu T n hfu hT hn y hT0 hr g (fun i hi => (g1 i hi).2.2) g2 g3 (fun i hi => (g1 i hi).2.1) (-1) (fun l2_2 => (if 0 ≤ ((-1) : Int32) then (some (-4)) else (some l2_2))) 168 0 fu 0 rfl (by omega) (by omega) (fun i hi => absurd hi (by omega)) (fun i _ _ => by omega)
  have ef : F_X10_fault fu (-1) y = some (nI n) := by
    unfold F_X10_fault
    have f2' : L_X10_fault_11 fu (-1) y fu 0 0 _ = _ := f2 (fun t ht h => by
      have := nI_pos (n := t) (by omega)
      rw [← h] at this
      exact this (by decide))
    rw [if_pos (by decide), f2', if_neg (by decide)]
  by_cases h2 : 2 ≤ n
  · obtain ⟨x', r1, r2⟩ := e_ttpm fu P n hfu hP hn (y 0 3) (y 8) (y 7) (fun p hp => (hPr p hp).2.2.2.2) g (fun i hi => (g1 i hi).2.1) (fun l2_3 x_4 => (some (l2_3, x_4))) P 0 fu x (by omega) (by omega) (hR.1.1.trans hP0) hn0 a5 a4 (fun j hj => (g1 j hj).1)
    have e21 := e_next21 fu P n T hfu hP hn hT y hP0 hT0 hr (fun p hp => (hPr p hp).2.2.2.1) eB hE g (fun i hi => (g1 i hi).2.2) (fun i hi => (g1 i hi).2.1) g2 g3 (fun l1_24 => (some l1_24)) P 0 fu (by omega) (by omega)
    refine ⟨(BB (fun p => MOST (y 8 p) (y 7 p) (y 0 3) n g) P).1, x', y, ?_, ?_, ?_⟩
    · unfold F_X9_nextTest F_X2_testThatPartsMost
      have r1' : L_X2_testThatPartsMost_19 fu (y 0 3) fu (-4) 0 0 x (fun l2_3 x_4 => (some (l2_3, x_4))) = _ := r1
      rw [s2, hn0, if_pos (show (2 : Int32) ≤ nI n from nI_le (a := 2) h2 (by omega)), r1', cl_some']
    · unfold F_X10_nextTest
      have e21' : L_X10_nextTest_21 fu y fu (-4) 9999 0 (fun l1_24 => (some l1_24)) = _ := e21
      rw [ef, clp_some, if_pos (show (2 : Int32) ≤ nI n from nI_le (a := 2) h2 (by omega)), e21']
      rfl
    · exact Rel_scratch hR (fun b _ _ _ _ h34 _ _ => r2 b h34) (fun b _ _ _ => rfl) (fun i _ _ => rfl)
  · refine ⟨-4, x, y, ?_, ?_, hR⟩
    · unfold F_X9_nextTest F_X2_testThatPartsMost
      rw [hn0, if_neg (show ¬ (2 : Int32) ≤ nI n from nI_ge (b := 2) (by omega) (by omega)), cl_some']
    · unfold F_X10_nextTest
      rw [ef, clp_some, if_neg (show ¬ (2 : Int32) ≤ nI n from nI_ge (b := 2) (by omega) (by omega))]
      rfl

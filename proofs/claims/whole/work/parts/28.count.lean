/-! ===== counts ===== -/
def cntL (f : Nat → Bool) : Nat → Nat
  | 0 => 0
  | k + 1 => cntL f k + (if f k then 1 else 0)
theorem cntL_s (f : Nat → Bool) (k : Nat) : cntL f (k + 1) = cntL f k + (if f k then 1 else 0) := rfl
theorem cntL_le (f : Nat → Bool) : ∀ k, cntL f k ≤ k := by
  intro k
  induction k with
  | zero => exact Nat.le_refl 0
  | succ k ih => rw [cntL_s]; split <;> omega
theorem cntL_congr {f g : Nat → Bool} : ∀ n, (∀ i, i < n → f i = g i) → cntL f n = cntL g n := by
  intro n
  induction n with
  | zero => intro _; rfl
  | succ n ih => intro h; rw [cntL_s, cntL_s, ih (fun i hi => h i (by omega)), h n (by omega)]
theorem cntL_add (f : Nat → Bool) (j : Nat) : ∀ k, cntL f (j + k) = cntL f j + cntL (fun i => f (j + i)) k := by
  intro k
  induction k with
  | zero => rfl
  | succ k ih =>
    show cntL f (j + k) + (if f (j + k) then 1 else 0) = cntL f j + (cntL (fun i => f (j + i)) k + (if f (j + k) then 1 else 0))
    rw [ih, Nat.add_assoc]
theorem cntL_zero {f : Nat → Bool} : ∀ n, (∀ i, i < n → f i = false) → cntL f n = 0 := by
  intro n
  induction n with
  | zero => intro _; rfl
  | succ n ih => intro h; rw [cntL_s, ih (fun i hi => h i (by omega)), h n (by omega)]; rfl
theorem cntL_cut {f : Nat → Bool} {P n : Nat} (hP : P ≤ n) (h : ∀ i, P ≤ i → i < n → f i = false) : cntL f n = cntL f P := by
  obtain ⟨k, rfl⟩ : ∃ k, n = P + k := ⟨n - P, by omega⟩
  rw [cntL_add, cntL_zero k (fun i hi => h (P + i) (by omega) (by omega)), Nat.add_zero]
theorem nI_if (a : Nat) (b : Bool) : nI a + (if b then 1 else 0) = nI (a + (if b then 1 else 0)) := by
  cases b
  · show nI a + 0 = nI (a + 0); simp
  · exact nI_1 a
theorem e_countIn (fu : Nat) (v : Int32) (x : Mem) (K : Int32 → Option Int32) : ∀ (d k n : Nat), k + d = 12 → d < n → L_X1_countIn_4 fu v x n (nI (cntL (fun p => decide (x 25 p = v)) k)) (nI k) K = K (nI (cntL (fun p => decide (x 25 p = v)) 12)) := by
  intro d
  induction d with
  | zero =>
    intro k n hk hn
    obtain ⟨n, rfl⟩ : ∃ m, n = m + 1 := ⟨n - 1, by omega⟩
    have : k = 12 := by omega
    subst this
    rw [L_X1_countIn_4, if_pos (by decide)]
  | succ d ih =>
    intro k n hk hn
    obtain ⟨n, rfl⟩ : ∃ m, n = m + 1 := ⟨n - 1, by omega⟩
    rw [L_X1_countIn_4, if_neg (show ¬ (12 : Int32) ≤ nI k from nI_ge (b := 12) (by omega) (by omega)), chk_ok (by omega) (by omega), cN (by omega), nI_1, nI_1, ← ih (k + 1) n (by omega) (by omega), cntL_s]
    by_cases e : x 25 k = v
    · rw [if_pos e, if_pos (decide_eq_true e)]
    · rw [if_neg e, if_neg (by simp [e])]
      simp
theorem countIn_eq {fu : Nat} {v : Int32} {x : Mem} (hfu : 100 ≤ fu) : F_X1_countIn fu v x = some (nI (cntL (fun p => decide (x 25 p = v)) 12)) := by
  unfold F_X1_countIn
  exact e_countIn fu v x _ 12 0 fu rfl (by omega)
theorem e_waiting (fu P : Nat) (hP : P ≤ 12) (y : Mem) (hP0 : y 0 4 = nI P) (K : Int32 → Option Int32) : ∀ (d k n : Nat), k + d = P → d < n → L_X10_waitingNow_4 fu y n (nI (cntL (fun p => !decide (y 11 p < 0)) k)) (nI k) K = K (nI (cntL (fun p => !decide (y 11 p < 0)) P)) := by
  intro d
  induction d with
  | zero =>
    intro k n hk hn
    obtain ⟨n, rfl⟩ : ∃ m, n = m + 1 := ⟨n - 1, by omega⟩
    have : k = P := by omega
    subst this
    rw [L_X10_waitingNow_4, hP0, if_pos (nI_le (Nat.le_refl _) (by omega))]
  | succ d ih =>
    intro k n hk hn
    obtain ⟨n, rfl⟩ : ∃ m, n = m + 1 := ⟨n - 1, by omega⟩
    rw [L_X10_waitingNow_4, hP0, if_neg (nI_ge (by omega) (by omega)), chk_ok (by omega) (by omega), cN (by omega), ← ih (k + 1) n (by omega) (by omega), cntL_s, jn_eq]
    by_cases e : y 11 k < 0
    · rw [if_pos e]
      dsimp only
      rw [letv_eq, nI_1]
      have : (!decide (y 11 k < 0)) = false := by simp [e]
      rw [this]
      simp
    · rw [if_neg e]
      dsimp only
      rw [letv_eq, nI_1, nI_1]
      have : (!decide (y 11 k < 0)) = true := by simp [e]
      rw [this]
      simp
theorem waiting_eq {fu P : Nat} {y : Mem} (hfu : 100 ≤ fu) (hP : P ≤ 12) (hP0 : y 0 4 = nI P) : F_X10_waitingNow fu y = some (nI (cntL (fun p => !decide (y 11 p < 0)) P)) := by
  unfold F_X10_waitingNow
  exact e_waiting fu P hP y hP0 _ P 0 fu (by omega) (by omega)
/-- how many wait, on both sides -/
theorem waits_both {fu : Nat} {x y : Mem} (hfu : 100 ≤ fu) (hR : Rel x y) : ∃ w, w ≤ 12 ∧ F_X1_countIn fu 1 x = some (nI w) ∧ F_X10_waitingNow fu y = some (nI w) ∧ w = cntL (fun p => decide (x 25 p = 1)) 12 := by
  obtain ⟨P, hP, hP0, -⟩ := hR.2.2.1
  have h10 := hR.2.2.2.2.2.2.2.2.2.2.2.1
  refine ⟨cntL (fun p => decide (x 25 p = 1)) 12, cntL_le _ _, countIn_eq hfu, ?_, rfl⟩
  rw [waiting_eq hfu hP hP0, cntL_cut (P := P) hP (f := fun p => decide (x 25 p = 1))]
  · rw [cntL_congr P (fun i hi => ?_)]
    have c2 := (h10 i (by omega)).2.1
    by_cases e : x 25 i = 1
    · simp [e, c2.mp e]
    · have : y 11 i < 0 := by
        rcases Classical.em (y 11 i < 0) with h | h
        · exact h
        · exact absurd (c2.mpr h) e
      simp [e, this]
  · intro i h1 h2
    have := (h10 i h2).2.2.2.2.2 (by rw [hP0]; exact nI_le h1 (by omega))
    rw [this]; decide
theorem e_count7 (fu P S : Nat) (hfu : 100 ≤ fu) (hP : P ≤ 12) (hS : S ≤ 5) (l1 l3 : Int32) (y : Mem) (hP0 : y 0 4 = nI P) (hS0 : y 0 19 = nI S) (h : Nat → Bool) (hh : ∀ p, p < P → (h p = true ↔ ∃ s, s < S ∧ y 18 s = nI p)) (K : Int32 → Option Int32) : ∀ (d k n : Nat), k + d = P → d < n → L_X10_count_7 fu l1 l3 y n (nI (cntL h k)) (nI k) K = K (nI (cntL h P)) := by
  intro d
  induction d with
  | zero =>
    intro k n hk hn
    obtain ⟨n, rfl⟩ : ∃ m, n = m + 1 := ⟨n - 1, by omega⟩
    have : k = P := by omega
    subst this
    rw [L_X10_count_7, hP0, if_pos (nI_le (Nat.le_refl _) (by omega))]
  | succ d ih =>
    intro k n hk hn
    obtain ⟨n, rfl⟩ : ∃ m, n = m + 1 := ⟨n - 1, by omega⟩
    obtain ⟨r, r1, r2, r3⟩ := onErr fu hfu (nI k) y S hS hS0
    have hk2 := (hh k (by omega)).trans r3.symm
    rw [L_X10_count_7, hP0, if_neg (nI_ge (by omega) (by omega)), r1, clp_some, ← ih (k + 1) n (by omega) (by omega), cntL_s, jn_eq]
    rcases r2 with e | e
    · have : h k = false := by
        cases hb : h k
        · rfl
        · rw [hk2.mp hb] at e; exact absurd e (by decide)
      rw [if_pos e, this]
      dsimp only
      rw [letv_eq, nI_1]
      simp
    · have : h k = true := hk2.mpr e
      rw [if_neg (by rw [e]; decide), this]
      dsimp only
      rw [letv_eq, nI_1, nI_1]
      simp
theorem e_count42 (fu : Nat) (l1 l2 : Int32) (y : Mem) (K : Int32 → Option Int32) : ∀ (d k n : Nat), k + d = 48 → d < n → L_X10_count_42 fu l1 l2 y n (nI (cntL (fun e => decide (y 25 e = 2)) k)) (nI k) K = K (nI (cntL (fun e => decide (y 25 e = 2)) 48)) := by
  intro d
  induction d with
  | zero =>
    intro k n hk hn
    obtain ⟨n, rfl⟩ : ∃ m, n = m + 1 := ⟨n - 1, by omega⟩
    have : k = 48 := by omega
    subst this
    rw [L_X10_count_42, if_pos (by decide)]
  | succ d ih =>
    intro k n hk hn
    obtain ⟨n, rfl⟩ : ∃ m, n = m + 1 := ⟨n - 1, by omega⟩
    rw [L_X10_count_42, if_neg (show ¬ (48 : Int32) ≤ nI k from nI_ge (b := 48) (by omega) (by omega)), chk_ok (by omega) (by omega), cN (by omega), ← ih (k + 1) n (by omega) (by omega), cntL_s, jn_eq]
    by_cases e : y 25 k = 2
    · rw [if_pos e]
      dsimp only
      rw [letv_eq, nI_1, nI_1, if_pos (decide_eq_true e)]
    · rw [if_neg e]
      dsimp only
      rw [letv_eq, nI_1, if_neg (by simp [e])]
      simp
theorem e_cwires (fu : Nat) (x : Mem) (K : Int32 → Option Int32) : ∀ (d k n : Nat), k + d = 24 → d < n → L_X3_countWires_4 fu x n (nI (cntL (fun e => decide (x 35 e = 2)) k + cntL (fun e => decide (x 36 e = 2)) k)) (nI k) K = K (nI (cntL (fun e => decide (x 35 e = 2)) 24 + cntL (fun e => decide (x 36 e = 2)) 24)) := by
  intro d
  induction d with
  | zero =>
    intro k n hk hn
    obtain ⟨n, rfl⟩ : ∃ m, n = m + 1 := ⟨n - 1, by omega⟩
    have : k = 24 := by omega
    subst this
    rw [L_X3_countWires_4, if_pos (by decide)]
  | succ d ih =>
    intro k n hk hn
    obtain ⟨n, rfl⟩ : ∃ m, n = m + 1 := ⟨n - 1, by omega⟩
    have hc : ∀ M : Option Int32, chk (nI k) 24 M = M := fun M => chk_ok (by omega) (by omega)
    rw [L_X3_countWires_4, if_neg (show ¬ (24 : Int32) ≤ nI k from nI_ge (b := 24) (by omega) (by omega)), ← ih (k + 1) n (by omega) (by omega), cntL_s, cntL_s]
    simp only [hc, cN (show k < 2 ^ 31 by omega), jn_eq, nI_1]
    by_cases e : x 35 k = 2 <;> by_cases e2 : x 36 k = 2 <;> simp only [e, e2, if_true, if_false, decide_true, decide_false] <;> (try (congr 2)) <;> (try simp) <;> (try omega)
theorem S_count (fu : Nat) (hfu : 100 ≤ fu) : St_count fu Rel := by
  intro a x y hR
  obtain ⟨hS, hA, h1, h2, h3, h4, h5, h6, h7, h8, h9, h10, h11, h12⟩ := id hR
  obtain ⟨P, hP, hP0, hPr⟩ := id h1
  obtain ⟨s1, s2, s3, s4, s5, s6, s7, s8⟩ := id hS
  obtain ⟨S, hS5, hS0, hv, hfree, huniq⟩ := id h9
  have herr : ∀ p, p < P → (decide (x 25 p = 2) = true ↔ ∃ s, s < S ∧ y 18 s = nI p) := by
    intro p hp
    rw [decide_eq_true_iff, (h10 p (by omega)).2.2.2.1]
    constructor
    · rintro ⟨s, e1, e2, e3⟩
      rw [hS0, nI_ltI (by omega) (by omega)] at e1
      exact ⟨s, e1, e3⟩
    · rintro ⟨s, e1, e3⟩
      exact ⟨s, by rw [hS0]; exact nI_lt e1 (by omega), by omega, e3⟩
  have e7 := fun K => e_count7 fu P S hfu hP hS5 a 0 y hP0 hS0 (fun p => decide (x 25 p = 2)) herr K P 0 fu (by omega) (by omega)
  have e7' : ∀ K, L_X10_count_7 fu a 0 y fu 0 0 K = K (nI (cntL (fun p => decide (x 25 p = 2)) P)) := e7
  have e42 := fun l2 K => e_count42 fu a l2 y K 48 0 fu rfl (by omega)
  have e42' : ∀ l2 K, L_X10_count_42 fu a l2 y fu 0 0 K = K (nI (cntL (fun e => decide (y 25 e = 2)) 48)) := e42
  have ey : F_X10_count fu a y = (if a = 0 then (some (y 0 4)) else (if a = 1 then (some (y 0 19)) else (if a = 2 then (some (y 0 26)) else (if a = 3 then (clp (F_X10_waitingNow fu y) (fun r_11 => (some r_11))) else (if a = 4 then (some (nI (cntL (fun p => decide (x 25 p = 2)) P))) else (if a = 5 then (clp (F_X10_bits fu (y 0 14) y) (fun r_10 => (some r_10))) else (if a = 6 then (some (y 0 28)) else (if a = 7 then (some (nI (cntL (fun e => decide (y 25 e = 2)) 48))) else (if a = 8 then (some (y 0 18)) else (some (-1))))))))))) := by
    unfold F_X10_count
    rw [e7', e42']
  have key : ∃ r, F_X9_count fu a x = some r ∧ F_X10_count fu a y = some r := by
    rw [ey]
    unfold F_X9_count
    by_cases c0 : a = 0
    · exact ⟨y 0 4, by rw [if_pos c0, s1], by rw [if_pos c0]⟩
    by_cases c1 : a = 1
    · exact ⟨y 0 19, by rw [if_neg c0, if_pos c1, s4], by rw [if_neg c0, if_pos c1]⟩
    by_cases c2 : a = 2
    · exact ⟨y 0 26, by rw [if_neg c0, if_neg c1, if_pos c2, s5], by rw [if_neg c0, if_neg c1, if_pos c2]⟩
    by_cases c3 : a = 3
    · obtain ⟨w, -, w1, w2, -⟩ := waits_both hfu hR
      exact ⟨nI w, by rw [if_neg c0, if_neg c1, if_neg c2, if_pos c3, w1]; rfl, by rw [if_neg c0, if_neg c1, if_neg c2, if_pos c3, w2]; rfl⟩
    by_cases c4 : a = 4
    · refine ⟨nI (cntL (fun p => decide (x 25 p = 2)) P), ?_, by rw [if_neg c0, if_neg c1, if_neg c2, if_neg c3, if_pos c4]⟩
      rw [if_neg c0, if_neg c1, if_neg c2, if_neg c3, if_pos c4, countIn_eq hfu, clp_some, cntL_cut (P := P) hP]
      intro i q1 q2
      have := (h10 i q2).2.2.2.2.2 (by rw [hP0]; exact nI_le q1 (by omega))
      rw [this]; decide
    by_cases c5 : a = 5
    · obtain ⟨f, hf, ef⟩ := h8
      exact ⟨popI (y 0 14), by rw [if_neg c0, if_neg c1, if_neg c2, if_neg c3, if_neg c4, if_pos c5, s6, ef, bitCount_eq (by omega)]; rfl, by rw [if_neg c0, if_neg c1, if_neg c2, if_neg c3, if_neg c4, if_pos c5, bits_eq hfu]; rfl⟩
    by_cases c6 : a = 6
    · exact ⟨y 0 28, by rw [if_neg c0, if_neg c1, if_neg c2, if_neg c3, if_neg c4, if_neg c5, if_pos c6, s8], by rw [if_neg c0, if_neg c1, if_neg c2, if_neg c3, if_neg c4, if_neg c5, if_pos c6]⟩
    by_cases c7 : a = 7
    · refine ⟨nI (cntL (fun e => decide (y 25 e = 2)) 48), ?_, by rw [if_neg c0, if_neg c1, if_neg c2, if_neg c3, if_neg c4, if_neg c5, if_neg c6, if_pos c7]⟩
      have ec := e_cwires fu x (fun l1_3 => some l1_3) 24 0 fu rfl (by omega)
      have ec' : L_X3_countWires_4 fu x fu 0 0 (fun l1_3 => some l1_3) = _ := ec
      rw [if_neg c0, if_neg c1, if_neg c2, if_neg c3, if_neg c4, if_neg c5, if_neg c6, if_pos c7]
      unfold F_X3_countWires
      rw [ec', clp_some]
      congr 2
      rw [show (48 : Nat) = 24 + 24 from rfl, cntL_add]
      rw [cntL_congr 24 (f := fun e => decide (x 35 e = 2)) (g := fun e => decide (y 25 e = 2)) (fun i hi => by rw [(h12 i hi).1]), cntL_congr 24 (f := fun e => decide (x 36 e = 2)) (g := fun i => decide (y 25 (24 + i) = 2)) (fun i hi => by rw [(h12 i hi).2.1])]
    by_cases c8 : a = 8
    · exact ⟨y 0 18, by rw [if_neg c0, if_neg c1, if_neg c2, if_neg c3, if_neg c4, if_neg c5, if_neg c6, if_neg c7, if_pos c8, s7], by rw [if_neg c0, if_neg c1, if_neg c2, if_neg c3, if_neg c4, if_neg c5, if_neg c6, if_neg c7, if_pos c8]⟩
    · exact ⟨-1, by rw [if_neg c0, if_neg c1, if_neg c2, if_neg c3, if_neg c4, if_neg c5, if_neg c6, if_neg c7, if_neg c8], by rw [if_neg c0, if_neg c1, if_neg c2, if_neg c3, if_neg c4, if_neg c5, if_neg c6, if_neg c7, if_neg c8]⟩
  obtain ⟨r, r1, r2⟩ := key
  exact ⟨r, x, y, by rw [r1]; rfl, by rw [r2]; rfl, hR⟩

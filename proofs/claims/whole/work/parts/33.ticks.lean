/-! ===== ticks ===== -/
theorem vw {x y : Mem} (hR : Rel x y) : ∃ P S, P ≤ 12 ∧ S ≤ 5 ∧ x 1 0 = nI P ∧ y 0 4 = nI P ∧ x 4 0 = nI S ∧ y 0 19 = nI S := by
  obtain ⟨hS, hA, h1, h2, h3, h4, h5, h6, h7, h8, h9, h10, h11, h12⟩ := hR
  obtain ⟨P, hP, hP0, -⟩ := h1
  obtain ⟨S, hS5, hS0, -⟩ := h9
  exact ⟨P, S, hP, hS5, hS.1.trans hP0, hP0, hS.2.2.2.1.trans hS0, hS0⟩
theorem pl_at {x y : Mem} {P p : Nat} (hR : Rel x y) (hP : P ≤ 12) (hP0 : y 0 4 = nI P) (hp : p < P) : (∃ f, f ≤ 3 ∧ y 4 p = nI f) ∧ (∃ q, q ≤ 30 ∧ y 5 p = nI q) ∧ (∃ r, r ≤ 4 ∧ y 6 p = nI r) := by
  obtain ⟨Q, hQ, hQ0, hr⟩ := hR.2.2.1
  have : Q = P := nI_inj (by omega) (by omega) (hQ0.symm.trans hP0)
  subst this
  obtain ⟨a, b, c, -⟩ := hr p hp
  exact ⟨a, b, c⟩
theorem sv_at {x y : Mem} {P S s : Nat} (hR : Rel x y) (hP : P ≤ 12) (hP0 : y 0 4 = nI P) (hS : S ≤ 5) (hS0 : y 0 19 = nI S) (hs : s < S) : (∃ f, f ≤ 3 ∧ y 15 s = nI f) ∧ (∃ q, q ≤ 30 ∧ y 16 s = nI q) ∧ (∃ t, t < 32 ∧ y 17 s = nI t) ∧ x 22 s = y 18 s ∧ (y 18 s = -4 ∨ ∃ p, p < P ∧ y 18 s = nI p) := by
  obtain ⟨Q, hQ, hQ0, hr, -⟩ := hR.2.2.2.2.2.2.2.2.2.2.1
  have : Q = S := nI_inj (by omega) (by omega) (hQ0.symm.trans hS0)
  subst this
  obtain ⟨a, b, c, d, e⟩ := hr s hs
  refine ⟨a, b, c, d, ?_⟩
  rcases e with e | ⟨p, h1, h2, h3⟩
  · exact Or.inl e
  · rw [hP0] at h1
    exact Or.inr ⟨p, (nI_ltI (by omega) (by omega)).mp h1, h3⟩
theorem m4_neg : ((-4 : Int32)) < 0 := by decide
theorem nI_nm4 {q : Nat} (h : q < 2 ^ 31) : ¬ nI q = -4 := fun e => nI_pos h (by rw [e]; decide)
theorem nI_nm1 {q : Nat} (h : q < 2 ^ 31) : ¬ nI q = -1 := fun e => nI_pos h (by rw [e]; decide)
theorem may_both {fu P S s p : Nat} {x y : Mem} (hR : Rel x y) (hP : P ≤ 12) (hP0 : y 0 4 = nI P) (hS : S ≤ 5) (hS0 : y 0 19 = nI S) (hs : s < S) (hp : p < P) : ∃ r, F_X5_mayGo fu (nI s) (x 12 p) x = some r ∧ F_X10_may fu (nI s) (nI p) y = some r ∧ (r = 0 ∨ r = 1) ∧ (r = 1 → y 18 s = -4) := by
  obtain ⟨-, -, ⟨r, hr, e6⟩⟩ := pl_at hR hP hP0 hp
  obtain ⟨-, -, -, e22, e18⟩ := sv_at hR hP hP0 hS hS0 hs
  have a12 : x 12 = y 6 := hR.2.1.2.2.1
  have a21 : x 21 = y 17 := hR.2.1.2.2.2.2.2.2.2.2.2.2.1
  have hc : ∀ M : Option Int32, chk (nI s) 5 M = M := fun M => chk_ok (by omega) (by omega)
  have hd : ∀ M : Option Int32, chk (nI p) 12 M = M := fun M => chk_ok (by omega) (by omega)
  unfold F_X5_mayGo F_X5_isFree F_X10_may
  simp only [hc, hd, cN (show s < 2 ^ 31 by omega), cN (show p < 2 ^ 31 by omega), e22, a12, a21, e6, bit_0 (show r < 32 by omega)]
  rcases e18 with e | ⟨q, hq, e⟩
  · rw [e]
    cases hb : bt (y 17 s) r
    · exact ⟨0, by simp (config := { decide := true }) [retzp_0, retzp_1, clp_some], by simp (config := { decide := true }) [retzp_0, retzp_1, clp_some], Or.inl rfl, fun _ => rfl⟩
    · exact ⟨1, by simp (config := { decide := true }) [retzp_0, retzp_1, clp_some], by simp (config := { decide := true }) [retzp_0, retzp_1, clp_some], Or.inr rfl, fun _ => rfl⟩
  · rw [e, if_neg (nI_nm4 (by omega)), if_pos (nI_pos' (by omega))]
    exact ⟨0, by simp (config := { decide := true }) [retzp_0, retzp_1, clp_some], by simp (config := { decide := true }) [retzp_0, retzp_1, clp_some], Or.inl rfl, fun h => absurd h (by decide)⟩
theorem way_x {fu P S s p : Nat} {x y : Mem} (hR : Rel x y) (hP : P ≤ 12) (hP0 : y 0 4 = nI P) (hS : S ≤ 5) (hS0 : y 0 19 = nI S) (hs : s < S) (hp : p < P) : F_X5_wayTo fu (nI s) (x 10 p) (x 11 p) x = some (WAY (y 15 s) (y 16 s) (y 4 p) (y 5 p)) := by
  obtain ⟨⟨f, hf, ef⟩, -, -⟩ := pl_at hR hP hP0 hp
  obtain ⟨⟨g, hg, eg⟩, -⟩ := sv_at hR hP hP0 hS hS0 hs
  have a10 : x 10 = y 4 := hR.2.1.1
  have a11 : x 11 = y 5 := hR.2.1.2.1
  have a19 : x 19 = y 15 := hR.2.1.2.2.2.2.2.2.2.2.1
  have a20 : x 20 = y 16 := hR.2.1.2.2.2.2.2.2.2.2.2.1
  rw [a10, a11, ef, wayTo_eq (f := g) (by omega) (by rw [a19]; exact eg) (by omega) (by omega), a19, a20]
theorem e_near {fu P S p : Nat} {x y : Mem} (hR : Rel x y) (hP : P ≤ 12) (hP0 : y 0 4 = nI P) (hS : S ≤ 5) (hS0 : y 0 19 = nI S) (hp : p < P) (K1 K2 : Int32 → Option Int32) : ∀ (d k n m : Nat) (l2 l3 : Int32), k + d = S → d < n → d < m → (l2 = -1 ∨ ∃ j, j < S ∧ l2 = nI j ∧ l3 = WAY (y 15 j) (y 16 j) (y 4 p) (y 5 p) ∧ y 18 j = -4) → ∃ r, L_X6_nearestServant_7 fu (nI p) x n l2 l3 (nI k) K1 = K1 r ∧ L_X10_nearest_4 fu (nI p) y m l2 (nI k) K2 = K2 r ∧ (r = -1 ∨ ∃ j, j < S ∧ r = nI j ∧ y 18 j = -4) := by
  have hx : x 4 0 = nI S := hR.1.2.2.2.1.trans hS0
  intro d
  induction d with
  | zero =>
    intro k n m l2 l3 hk hn hm hl
    obtain ⟨n, rfl⟩ : ∃ z, n = z + 1 := ⟨n - 1, by omega⟩
    obtain ⟨m, rfl⟩ : ∃ z, m = z + 1 := ⟨m - 1, by omega⟩
    have : k = S := by omega
    subst this
    refine ⟨l2, ?_, ?_, ?_⟩
    · rw [L_X6_nearestServant_7, hx, if_pos (nI_le (Nat.le_refl _) (by omega))]
    · rw [L_X10_nearest_4, hS0, if_pos (nI_le (Nat.le_refl _) (by omega))]
    · rcases hl with h | ⟨j, h1, h2, h3, h4⟩
      · exact Or.inl h
      · exact Or.inr ⟨j, h1, h2, h4⟩
  | succ d ih =>
    intro k n m l2 l3 hk hn hm hl
    obtain ⟨n, rfl⟩ : ∃ z, n = z + 1 := ⟨n - 1, by omega⟩
    obtain ⟨m, rfl⟩ : ∃ z, m = z + 1 := ⟨m - 1, by omega⟩
    obtain ⟨r, r1, r2, r3, r4⟩ := may_both (fu := fu) (s := k) hR hP hP0 hS hS0 (by omega) hp
    rw [L_X6_nearestServant_7, hx, if_neg (nI_ge (by omega) (by omega)), chk_ok (by omega) (by omega), cN (by omega), r1, clp_some, L_X10_nearest_4, hS0, if_neg (nI_ge (by omega) (by omega)), r2, clp_some, nI_1]
    rcases r3 with e | e
    · rw [if_pos e, if_pos e]
      exact ih (k + 1) n m l2 l3 (by omega) (by omega) (by omega) hl
    · have e0 : ¬ r = 0 := by rw [e]; decide
      rw [if_neg e0, if_neg e0, chk_ok (by omega) (by omega), chk_ok (by omega) (by omega), way_x hR hP hP0 hS hS0 (by omega) hp, clp_some]
      rcases hl with h | ⟨j, h1, h2, h3, h4⟩
      · rw [h, if_pos rfl, if_pos m1_neg]
        exact ih (k + 1) n m (nI k) _ (by omega) (by omega) (by omega) (Or.inr ⟨k, by omega, rfl, rfl, r4 e⟩)
      · rw [h2, if_neg (nI_nm1 (by omega)), if_neg (nI_pos (by omega)), wayOf_eq (by omega) (by omega), clp_some, wayOf_eq (by omega) (by omega), clp_some, h3]
        by_cases hle : WAY (y 15 j) (y 16 j) (y 4 p) (y 5 p) ≤ WAY (y 15 k) (y 16 k) (y 4 p) (y 5 p)
        · rw [if_pos hle, if_pos hle]
          exact ih (k + 1) n m (nI j) _ (by omega) (by omega) (by omega) (Or.inr ⟨j, h1, rfl, rfl, h4⟩)
        · rw [if_neg hle, if_neg hle]
          exact ih (k + 1) n m (nI k) _ (by omega) (by omega) (by omega) (Or.inr ⟨k, by omega, rfl, rfl, r4 e⟩)
theorem near_both {fu P S p : Nat} {x y : Mem} (hfu : 100 ≤ fu) (hR : Rel x y) (hP : P ≤ 12) (hP0 : y 0 4 = nI P) (hS : S ≤ 5) (hS0 : y 0 19 = nI S) (hp : p < P) : ∃ r, F_X6_nearestServant fu (nI p) x = some r ∧ F_X10_nearest fu (nI p) y = some r ∧ (r = -1 ∨ ∃ j, j < S ∧ r = nI j ∧ y 18 j = -4) :=
  e_near hR hP hP0 hS hS0 hp (fun l2_3 => (some l2_3)) (fun l2_4 => (some l2_4)) S 0 fu fu (-1) 0 (by omega) (by omega) (by omega) (Or.inl rfl)
theorem ahead_both {fu p q : Nat} {x y : Mem} (hR : Rel x y) (hp : p < 12) (hq : q < 12) (wp : x 25 p = 1) (wq : x 25 q = 1) : ∃ r, F_X6_goesBefore fu (nI p) (nI q) x = some r ∧ F_X10_isAhead fu (nI p) (nI q) y = some r := by
  have a12 : x 12 = y 6 := hR.2.1.2.2.1
  have h10 := hR.2.2.2.2.2.2.2.2.2.2.2.1
  have ep := (h10 p hp).2.2.1 wp
  have eq := (h10 q hq).2.2.1 wq
  have hc : ∀ M : Option Int32, chk (nI p) 12 M = M := fun M => chk_ok (by omega) (by omega)
  have hd : ∀ M : Option Int32, chk (nI q) 12 M = M := fun M => chk_ok (by omega) (by omega)
  unfold F_X6_goesBefore F_X10_isAhead
  simp only [hc, hd, cN (show p < 2 ^ 31 by omega), cN (show q < 2 ^ 31 by omega), a12, ep, eq]
  by_cases h1 : y 6 p = y 6 q
  · rw [if_pos h1]
    by_cases h2 : y 11 q ≤ y 11 p
    · rw [if_pos h2]; exact ⟨0, rfl, rfl⟩
    · rw [if_neg h2]; exact ⟨1, rfl, rfl⟩
  · rw [if_neg h1]
    by_cases h2 : y 6 p ≤ y 6 q
    · rw [if_pos h2]; exact ⟨0, rfl, rfl⟩
    · rw [if_neg h2]; exact ⟨1, rfl, rfl⟩
def CanBe (fu P S : Nat) (x y : Mem) (r : Int32) : Prop := ∃ j, j < P ∧ r = nI j ∧ x 25 j = 1 ∧ ∃ s, s < S ∧ F_X6_nearestServant fu (nI j) x = some (nI s) ∧ F_X10_nearest fu (nI j) y = some (nI s) ∧ y 18 s = -4
theorem e_first {fu P S : Nat} {x y : Mem} (hfu : 100 ≤ fu) (hR : Rel x y) (hP : P ≤ 12) (hP0 : y 0 4 = nI P) (hS : S ≤ 5) (hS0 : y 0 19 = nI S) (K1 : Int32 → Option Int32) (K2 : Int32 → Res) : ∀ (d k n m : Nat) (l1 : Int32), k + d = P → d < n → d < m → (l1 = -1 ∨ CanBe fu P S x y l1) → ∃ r, L_X6_firstThatCanBeServed_4 fu x n l1 (nI k) K1 = K1 r ∧ L_X10_passes_10 fu y m l1 (nI k) K2 = K2 r ∧ (r = -1 ∨ CanBe fu P S x y r) := by
  have hx : x 1 0 = nI P := hR.1.1.trans hP0
  have h10 := hR.2.2.2.2.2.2.2.2.2.2.2.1
  intro d
  induction d with
  | zero =>
    intro k n m l1 hk hn hm hl
    obtain ⟨n, rfl⟩ : ∃ z, n = z + 1 := ⟨n - 1, by omega⟩
    obtain ⟨m, rfl⟩ : ∃ z, m = z + 1 := ⟨m - 1, by omega⟩
    have : k = P := by omega
    subst this
    refine ⟨l1, ?_, ?_, hl⟩
    · rw [L_X6_firstThatCanBeServed_4, hx, if_pos (nI_le (Nat.le_refl _) (by omega))]
    · rw [L_X10_passes_10, hP0, if_pos (nI_le (Nat.le_refl _) (by omega))]
  | succ d ih =>
    intro k n m l1 hk hn hm hl
    obtain ⟨n, rfl⟩ : ∃ z, n = z + 1 := ⟨n - 1, by omega⟩
    obtain ⟨m, rfl⟩ : ∃ z, m = z + 1 := ⟨m - 1, by omega⟩
    have skip := ih (k + 1) n m l1 (by omega) (by omega) (by omega) hl
    have hc : ∀ M : Option Int32, chk (nI k) 12 M = M := fun M => chk_ok (by omega) (by omega)
    have hd : ∀ M : Res, chk (nI k) 12 M = M := fun M => chk_ok (by omega) (by omega)
    rw [L_X6_firstThatCanBeServed_4, hx, if_neg (nI_ge (by omega) (by omega)), L_X10_passes_10, hP0, if_neg (nI_ge (by omega) (by omega)), hd, F_X1_isWaiting, hc, cN (by omega), nI_1]
    by_cases hw : x 25 k = 1
    · have hnn := (h10 k (by omega)).2.1.mp hw
      rw [if_pos hw, retzp_1, clp_some, if_neg (by decide), if_neg hnn]
      obtain ⟨r, n1, n2, n3⟩ := near_both (p := k) hfu hR hP hP0 hS hS0 (by omega)
      rw [n2, clp_some]
      have take : ∀ s, s < S → r = nI s → y 18 s = -4 → ∃ q, L_X6_firstThatCanBeServed_4 fu x n (nI k) (nI (k + 1)) K1 = K1 q ∧ L_X10_passes_10 fu y m (nI k) (nI (k + 1)) K2 = K2 q ∧ (q = -1 ∨ CanBe fu P S x y q) := fun s hs e e2 =>
        ih (k + 1) n m (nI k) (by omega) (by omega) (by omega) (Or.inr ⟨k, by omega, rfl, hw, s, hs, by rw [n1, e], by rw [n2, e], e2⟩)
      rcases hl with h | ⟨j, h1, h2, h3, h4⟩
      · rw [h, if_pos rfl, n1, clp_some]
        rw [h] at skip
        rcases n3 with e | ⟨s, hs, e, e2⟩
        · rw [if_pos e, if_pos (by rw [e]; decide)]
          exact skip
        · rw [if_neg (by rw [e]; exact nI_nm1 (by omega)), if_neg (by rw [e]; exact nI_pos (by omega)), if_pos m1_neg]
          exact take s hs e e2
      · obtain ⟨q, q1, q2⟩ := ahead_both (fu := fu) (p := k) (q := j) hR (by omega) (by omega) hw h3
        rw [h2] at skip
        rw [h2, if_neg (nI_nm1 (by omega)), q1, clp_some, n1, clp_some, if_neg (show ¬ nI j < 0 from nI_pos (by omega)), q2, clp_some]
        by_cases hq : q = 0
        · rw [if_pos hq, if_pos hq]
          rcases n3 with e | ⟨s, hs, e, e2⟩
          · rw [if_pos (by rw [e]; decide)]
            exact skip
          · rw [if_neg (by rw [e]; exact nI_pos (by omega))]
            exact skip
        · rw [if_neg hq, if_neg hq]
          rcases n3 with e | ⟨s, hs, e, e2⟩
          · rw [if_pos e, if_pos (by rw [e]; decide)]
            exact skip
          · rw [if_neg (by rw [e]; exact nI_nm1 (by omega)), if_neg (by rw [e]; exact nI_pos (by omega))]
            exact take s hs e e2
    · have hnn : y 11 k < 0 := by
        rcases Classical.em (y 11 k < 0) with h | h
        · exact h
        · exact absurd ((h10 k (by omega)).2.1.mpr h) hw
      rw [if_neg hw, retzp_0, clp_some, if_pos rfl, if_pos hnn]
      exact skip

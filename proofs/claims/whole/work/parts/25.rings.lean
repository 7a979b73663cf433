/-! ===== rings ===== -/
theorem e_joined (fu p o : Nat) (hp : p < 12) (ho : o < 12) (y : Mem) (N : Nat) (hN : N ≤ 4) (h0 : y 0 10 = nI N) (hr : ∀ k, k < N → ∃ a b, a < 16 ∧ b < 16 ∧ y 9 k = nI a ∧ y 10 k = nI b) (K : Int32 → Option Int32) : ∀ (d k n : Nat) (acc : Int32), k + d = N → d < n → (acc = 0 ∨ acc = 1) → ∃ r : Int32, L_X10_areJoined_5 fu (nI p) (nI o) y n acc (nI k) K = K r ∧ (r = 0 ∨ r = 1) ∧ (r = 1 ↔ acc = 1 ∨ ∃ s, k ≤ s ∧ s < N ∧ ((bt (y 8 p) (y 9 s).toNatClampNeg = true ∧ bt (y 8 o) (y 10 s).toNatClampNeg = true) ∨ (bt (y 8 p) (y 10 s).toNatClampNeg = true ∧ bt (y 8 o) (y 9 s).toNatClampNeg = true))) := by
  intro d
  induction d with
  | zero =>
    intro k n acc hk hn ha
    obtain ⟨n, rfl⟩ : ∃ m, n = m + 1 := ⟨n - 1, by omega⟩
    refine ⟨acc, ?_, ha, ?_⟩
    · rw [L_X10_areJoined_5, h0, if_pos (nI_le (by omega) (by omega))]
    · constructor
      · exact Or.inl
      · rintro (h | ⟨s, h1, h2, -⟩)
        · exact h
        · omega
  | succ d ih =>
    intro k n acc hk hn ha
    obtain ⟨n, rfl⟩ : ∃ m, n = m + 1 := ⟨n - 1, by omega⟩
    have hg : ¬ nI N ≤ nI k := nI_ge (by omega) (by omega)
    obtain ⟨a, b, ha16, hb16, ea, eb⟩ := hr k (by omega)
    have hc1 : ∀ M : Option Int32, chk (nI p) 12 M = M := fun M => chk_ok hp (by omega)
    have hc2 : ∀ M : Option Int32, chk (nI o) 12 M = M := fun M => chk_ok ho (by omega)
    have hc3 : ∀ M : Option Int32, chk (nI k) 4 M = M := fun M => chk_ok (by omega) (by omega)
    have n1 : (nI p).toNatClampNeg = p := cN (by omega)
    have n2 : (nI o).toNatClampNeg = o := cN (by omega)
    have n3 : (nI k).toNatClampNeg = k := cN (by omega)
    have step : ∀ acc, (acc = 0 ∨ acc = 1) → L_X10_areJoined_5 fu (nI p) (nI o) y (n + 1) acc (nI k) K = L_X10_areJoined_5 fu (nI p) (nI o) y n (if acc = 1 ∨ (bt (y 8 p) a = true ∧ bt (y 8 o) b = true) ∨ (bt (y 8 p) b = true ∧ bt (y 8 o) a = true) then 1 else 0) (nI (k + 1)) K := by
      intro acc hacc
      rw [L_X10_areJoined_5, h0, if_neg hg]
      simp only [hc1, hc2, hc3, n1, n2, n3, jn_eq, ea, eb, bit_eq1 (show a < 32 by omega), bit_eq1 (show b < 32 by omega), nI_1]
      cases h1 : bt (y 8 p) a <;> cases h2 : bt (y 8 o) b <;> cases h3 : bt (y 8 p) b <;> cases h4 : bt (y 8 o) a <;> rcases hacc with rfl | rfl <;> simp (config := { decide := true })
    by_cases e : (bt (y 8 p) a = true ∧ bt (y 8 o) b = true) ∨ (bt (y 8 p) b = true ∧ bt (y 8 o) a = true)
    · obtain ⟨r, r1, r2, r3⟩ := ih (k + 1) n 1 (by omega) (by omega) (Or.inr rfl)
      refine ⟨r, ?_, r2, r3.trans ⟨fun _ => Or.inr ⟨k, by omega, by omega, ?_⟩, fun _ => Or.inl rfl⟩⟩
      · rw [step acc ha, if_pos (Or.inr e), r1]
      · rw [ea, eb, cN (by omega), cN (by omega)]; exact e
    · obtain ⟨r, r1, r2, r3⟩ := ih (k + 1) n acc (by omega) (by omega) ha
      refine ⟨r, ?_, r2, r3.trans ?_⟩
      · rw [step acc ha]
        rcases ha with rfl | rfl
        · rw [if_neg (by rintro (h | h); exact absurd h (by decide); exact e h), r1]
        · rw [if_pos (Or.inl rfl), r1]
      · constructor
        · rintro (h | ⟨s, h1, h2, h3⟩)
          · exact Or.inl h
          · exact Or.inr ⟨s, by omega, h2, h3⟩
        · rintro (h | ⟨s, h1, h2, h3⟩)
          · exact Or.inl h
          · by_cases e2 : s = k
            · subst e2
              rw [ea, eb, cN (by omega), cN (by omega)] at h3
              exact absurd h3 e
            · exact Or.inr ⟨s, by omega, h2, h3⟩
theorem joined_eq {fu p o N : Nat} {y : Mem} (hfu : 100 ≤ fu) (hp : p < 12) (ho : o < 12) (hN : N ≤ 4) (h0 : y 0 10 = nI N) (hr : ∀ k, k < N → ∃ a b, a < 16 ∧ b < 16 ∧ y 9 k = nI a ∧ y 10 k = nI b) : ∃ r : Int32, F_X10_areJoined fu (nI p) (nI o) y = some r ∧ (r = 0 ∨ r = 1) ∧ (r = 1 ↔ JOIN N (y 9) (y 10) (y 8 p) (y 8 o)) := by
  obtain ⟨r, r1, r2, r3⟩ := e_joined fu p o hp ho y N hN h0 hr (fun l3_5 => retzp l3_5) N 0 fu 0 (by omega) (by omega) (Or.inl rfl)
  refine ⟨r, ?_, r2, r3.trans ?_⟩
  · unfold F_X10_areJoined
    have r1' : L_X10_areJoined_5 fu (nI p) (nI o) y fu 0 0 (fun l3_5 => retzp l3_5) = _ := r1
    rw [r1']
    rcases r2 with rfl | rfl <;> rfl
  · constructor
    · rintro (h | ⟨s, -, h2, h3⟩)
      · exact absurd h (by decide)
      · exact ⟨s, h2, h3⟩
    · rintro ⟨s, h2, h3⟩; exact Or.inr ⟨s, by omega, h2, h3⟩
/-- another pull that is pulled along by p, with bell b -/
def ALONG (P N p b : Nat) (y : Mem) (k : Nat) : Prop := ∃ o, k ≤ o ∧ o < P ∧ o ≠ p ∧ y 7 o = nI b ∧ JOIN N (y 9) (y 10) (y 8 p) (y 8 o) ∧ ¬ DEADp (y 8 o) (y 1)
theorem e_ringsL (fu P N p b : Nat) (hfu : 100 ≤ fu) (hP : P ≤ 12) (hp : p < 12) (y : Mem) (hP0 : y 0 4 = nI P) (hN : N ≤ 4) (hN0 : y 0 10 = nI N) (hr : ∀ k, k < N → ∃ a b, a < 16 ∧ b < 16 ∧ y 9 k = nI a ∧ y 10 k = nI b) (K : Option Int32) : ∀ (d k n : Nat), k + d = P → d < n → (ALONG P N p b y k → L_X10_rings_50 fu (nI p) (nI b) y n (nI k) K = some 1) ∧ (¬ ALONG P N p b y k → L_X10_rings_50 fu (nI p) (nI b) y n (nI k) K = K) := by
  intro d
  induction d with
  | zero =>
    intro k n hk hn
    obtain ⟨n, rfl⟩ : ∃ m, n = m + 1 := ⟨n - 1, by omega⟩
    refine ⟨?_, fun _ => ?_⟩
    · rintro ⟨o, h1, h2, -⟩; omega
    · rw [L_X10_rings_50, hP0, if_pos (nI_le (by omega) (by omega))]
  | succ d ih =>
    intro k n hk hn
    obtain ⟨n, rfl⟩ : ∃ m, n = m + 1 := ⟨n - 1, by omega⟩
    obtain ⟨i1, i2⟩ := ih (k + 1) n (by omega) (by omega)
    obtain ⟨rj, j1, j2, j3⟩ := joined_eq (y := y) hfu hp (show k < 12 by omega) hN hN0 hr
    obtain ⟨rd, d1, d2, d3⟩ := isDead_eq (y := y) hfu (show k < 12 by omega)
    have hkp : nI k = nI p ↔ k = p := nI_eq (by omega) (by omega)
    have hn1 : ∀ v : Int32, (v = 0 ∨ v = 1) → (v = 0 ↔ ¬ v = 1) := by
      intro v hv; rcases hv with rfl | rfl <;> decide
    have step : L_X10_rings_50 fu (nI p) (nI b) y (n + 1) (nI k) K = if k ≠ p ∧ y 7 k = nI b ∧ rj = 1 ∧ rd = 0 then some 1 else L_X10_rings_50 fu (nI p) (nI b) y n (nI (k + 1)) K := by
      rw [L_X10_rings_50, hP0, if_neg (nI_ge (by omega) (by omega)), nI_1]
      by_cases e1 : k = p
      · rw [if_pos (hkp.mpr e1), if_neg (fun h => h.1 e1)]
      · rw [if_neg (fun h => e1 (hkp.mp h)), chk_ok (by omega) (by omega), cN (by omega)]
        by_cases e2 : y 7 k = nI b
        · rw [if_pos e2, j1, clp_some]
          rcases j2 with e3 | e3
          · rw [if_pos e3, if_neg (fun h => by rw [e3] at h; exact absurd h.2.2.1 (by decide))]
          · rw [if_neg (by rw [e3]; decide), d1, clp_some]
            by_cases e4 : rd = 0
            · rw [if_pos e4, if_pos ⟨e1, e2, e3, e4⟩]
            · rw [if_neg e4, if_neg (fun h => e4 h.2.2.2)]
        · rw [if_neg e2, if_neg (fun h => e2 h.2.1)]
    have hit : (k ≠ p ∧ y 7 k = nI b ∧ rj = 1 ∧ rd = 0) ↔ (k ≠ p ∧ y 7 k = nI b ∧ JOIN N (y 9) (y 10) (y 8 p) (y 8 k) ∧ ¬ DEADp (y 8 k) (y 1)) := by
      rw [j3, hn1 rd d2, d3]
    by_cases e : k ≠ p ∧ y 7 k = nI b ∧ rj = 1 ∧ rd = 0
    · refine ⟨fun _ => by rw [step, if_pos e], fun h => ?_⟩
      exact absurd ⟨k, Nat.le_refl _, by omega, hit.mp e⟩ h
    · refine ⟨fun h => ?_, fun h => ?_⟩
      · rw [step, if_neg e]
        refine i1 ?_
        obtain ⟨o, h1, h2, h3⟩ := h
        by_cases eo : o = k
        · subst eo; exact absurd (hit.mpr h3) e
        · exact ⟨o, by omega, h2, h3⟩
      · rw [step, if_neg e]
        refine i2 ?_
        rintro ⟨o, h1, h2, h3⟩
        exact h ⟨o, by omega, h2, h3⟩
theorem e_along (fu P N p : Nat) (R : Int32) (hfu : 100 ≤ fu) (hP : P ≤ 12) (hp : p < 12) (x y : Mem) (hx0 : x 1 0 = nI P) (h13 : x 13 = y 7) (h14 : x 14 = y 8) (h17 : x 17 = y 1) (h2 : RB (x 2 2) (y 3)) (h3 : RC (x 3 4) (y 1)) (hPr : ∀ q, q < P → (∃ b, b ≤ 7 ∧ y 7 q = nI b) ∧ (∃ c, c < 65536 ∧ y 8 q = nI c)) (hJ : ∀ o, o < P → ((y 8 o &&& R) = 0 ↔ ¬ JOIN N (y 9) (y 10) (y 8 p) (y 8 o))) (K : Int32 → Option Int32) : ∀ (d k n : Nat) (a : Int32), k + d = P → d < n → ∃ W : Int32, L_X8_bellsPulledAlong_25 fu (nI p) R x n a (nI k) K = K W ∧ ∀ i, i < 32 → (bt W i = true ↔ bt a i = true ∨ (i < 8 ∧ y 3 i = 0 ∧ ALONG P N p i y k)) := by
  intro d
  induction d with
  | zero =>
    intro k n a hk hn
    obtain ⟨n, rfl⟩ : ∃ m, n = m + 1 := ⟨n - 1, by omega⟩
    refine ⟨a, ?_, fun i hi => ⟨Or.inl, ?_⟩⟩
    · rw [L_X8_bellsPulledAlong_25, hx0, if_pos (nI_le (by omega) (by omega))]
    · rintro (h | ⟨-, -, o, h1, h2, -⟩)
      · exact h
      · omega
  | succ d ih =>
    intro k n a hk hn
    obtain ⟨n, rfl⟩ : ∃ m, n = m + 1 := ⟨n - 1, by omega⟩
    obtain ⟨⟨be, hbe, ebe⟩, hm⟩ := hPr k (by omega)
    obtain ⟨rd, d1, d2, d3⟩ := hasDead_eq (fu := fu) (show k < 12 by omega) h14 h17 hm h3
    obtain ⟨M, m1, m2⟩ := sounding_eq (fu := fu) (show k < 12 by omega) h13 hbe ebe h2
    have hkp : nI k = nI p ↔ k = p := nI_eq (by omega) (by omega)
    have hn1 : ∀ v : Int32, (v = 0 ∨ v = 1) → (v = 0 ↔ ¬ v = 1) := by
      intro v hv; rcases hv with rfl | rfl <;> decide
    have step : L_X8_bellsPulledAlong_25 fu (nI p) R x (n + 1) a (nI k) K = if k ≠ p ∧ ¬ (y 8 k &&& R) = 0 ∧ rd = 0 then L_X8_bellsPulledAlong_25 fu (nI p) R x n (a ||| M) (nI (k + 1)) K else L_X8_bellsPulledAlong_25 fu (nI p) R x n a (nI (k + 1)) K := by
      rw [L_X8_bellsPulledAlong_25, hx0, if_neg (nI_ge (by omega) (by omega)), nI_1]
      by_cases e1 : k = p
      · rw [if_pos (hkp.mpr e1), if_neg (fun h => h.1 e1)]
      · rw [if_neg (fun h => e1 (hkp.mp h)), chk_ok (by omega) (by omega), cN (by omega), h14]
        by_cases e2 : (y 8 k &&& R) = 0
        · rw [if_pos e2, if_neg (fun h => h.2.1 e2)]
        · rw [if_neg e2, d1, clp_some]
          by_cases e4 : rd = 0
          · rw [if_pos e4, if_pos ⟨e1, e2, e4⟩, m1, clp_some, letv_eq]
          · rw [if_neg e4, if_neg (fun h => e4 h.2.2)]
    by_cases e : k ≠ p ∧ ¬ (y 8 k &&& R) = 0 ∧ rd = 0
    · obtain ⟨W, w1, w2⟩ := ih (k + 1) n (a ||| M) (by omega) (by omega)
      refine ⟨W, by rw [step, if_pos e, w1], fun i hi => (w2 i hi).trans ?_⟩
      have hj : JOIN N (y 9) (y 10) (y 8 p) (y 8 k) := by
        rcases Classical.em (JOIN N (y 9) (y 10) (y 8 p) (y 8 k)) with h | h
        · exact h
        · exact absurd ((hJ k (by omega)).mpr h) e.2.1
      have hd : ¬ DEADp (y 8 k) (y 1) := by rw [← d3, ← hn1 rd d2]; exact e.2.2
      rw [b_or, Bool.or_eq_true, m2 i hi]
      constructor
      · rintro ((h | ⟨rfl, h⟩) | ⟨h1, h2, o, h3, h4, h5⟩)
        · exact Or.inl h
        · exact Or.inr ⟨by omega, h, k, Nat.le_refl _, by omega, e.1, ebe, hj, hd⟩
        · exact Or.inr ⟨h1, h2, o, by omega, h4, h5⟩
      · rintro (h | ⟨h1, h2, o, h3, h4, h5⟩)
        · exact Or.inl (Or.inl h)
        · by_cases eo : o = k
          · subst eo
            have : i = be := nI_inj (by omega) (by omega) (h5.2.1.symm.trans ebe)
            subst this
            exact Or.inl (Or.inr ⟨rfl, h2⟩)
          · exact Or.inr ⟨h1, h2, o, by omega, h4, h5⟩
    · obtain ⟨W, w1, w2⟩ := ih (k + 1) n a (by omega) (by omega)
      refine ⟨W, by rw [step, if_neg e, w1], fun i hi => (w2 i hi).trans ?_⟩
      constructor
      · rintro (h | ⟨h1, h2, o, h3, h4, h5⟩)
        · exact Or.inl h
        · exact Or.inr ⟨h1, h2, o, by omega, h4, h5⟩
      · rintro (h | ⟨h1, h2, o, h3, h4, h5⟩)
        · exact Or.inl h
        · by_cases eo : o = k
          · subst eo
            exfalso
            refine e ⟨h5.1, fun h => ?_, ?_⟩
            · exact (hJ o h4).mp h h5.2.2.1
            · rw [hn1 rd d2, d3]; exact h5.2.2.2
          · exact Or.inr ⟨h1, h2, o, by omega, h4, h5⟩
theorem b_shl_test {v : Int32} {b : Nat} (hb : b < 32) : (v &&& ((1 : Int32) <<< (nI b &&& 31))) = 0 ↔ bt v b = false := by
  rw [and_zero_iff]
  constructor
  · intro h
    cases e : bt v b
    · rfl
    · exact absurd ⟨e, by rw [b_one hb hb]; simp⟩ (h b hb)
  · intro h i hi ⟨h1, h2⟩
    rw [b_one hb hi] at h2
    have : i = b := of_decide_eq_true h2
    subst this
    rw [h] at h1
    cases h1
/-- what of the relation the wiring needs -/
def RelW (x y : Mem) : Prop := x 1 0 = y 0 4 ∧ x 3 6 = y 0 3 ∧ x 13 = y 7 ∧ x 14 = y 8 ∧ x 17 = y 1 ∧ RP (y 0 4) (y 4) (y 5) (y 6) (y 7) (y 8) ∧ RB (x 2 2) (y 3) ∧ RC (x 3 4) (y 1) ∧ RX (x 18) (y 0 10) (y 9) (y 10)
theorem Rel.W {x y : Mem} (h : Rel x y) : RelW x y := ⟨h.1.1, h.1.2.1, h.2.1.2.2.2.1, h.2.1.2.2.2.2.1, h.2.1.2.2.2.2.2.2.2.1, h.2.2.1, h.2.2.2.1, h.2.2.2.2.1, h.2.2.2.2.2.2.1⟩
/-- what rings by a pull, on both sides -/
theorem rings_bothW {fu p : Nat} {x y : Mem} (hfu : 100 ≤ fu) (hR : RelW x y) (hpP : nI p < y 0 4) (hp : p < 12) : ∃ Lm Wm : Int32, F_X8_loudBells fu (nI p) x = some Lm ∧ F_X8_weakBells fu (nI p) x = some Wm ∧ (∀ i, 8 ≤ i → i < 32 → bt Lm i = false ∧ bt Wm i = false) ∧ ∀ b, b < 8 → ∃ g : Int32, F_X10_rings fu (nI p) (nI b) y = some g ∧ (g = 0 ∨ g = 1 ∨ g = 2) ∧ (bt Lm b = true ↔ g = 2) ∧ (bt Wm b = true ↔ g = 1) := by
  obtain ⟨s1, s2, a4, a5, a8, h1, h2, h3, h5⟩ := hR
  obtain ⟨P, hP, hP0, hPr⟩ := id h1
  obtain ⟨N, hN, hN0, hr, hb⟩ := h5
  have hpl : p < P := (lt_of_nI hP0 (by omega) (by omega)).mp hpP
  obtain ⟨-, -, -, ⟨be, hbe, ebe⟩, hm⟩ := hPr p hpl
  obtain ⟨F, f1, f2, f3⟩ := force_both hfu hp a5 a8 s2 hm h3
  obtain ⟨M, m1, m2⟩ := sounding_eq (fu := fu) hp a4 hbe ebe h2
  have hx0 : x 1 0 = nI P := s1.trans hP0
  have hown : F_X10_ownBy fu (nI p) (y 0 3) (-1) y = some (if y 3 be = 0 then (if F = 0 then 0 else if F ≤ 5 then 1 else 2) else 0) := by
    unfold F_X10_ownBy F_X10_isWell
    rw [f2, clp_some, chk_ok hp (by omega), cN (by omega), ebe, if_neg (by decide), chk_ok (by omega) (by omega), cN (by omega)]
    by_cases e : y 3 be = 0
    · rw [if_pos e, if_pos e, retzp_1, clp_some, if_neg (by decide)]
      by_cases e1 : F = 0
      · rw [if_pos e1, if_pos e1]
      · rw [if_neg e1, if_neg e1]
        by_cases e2 : F ≤ 5
        · rw [if_pos e2, if_pos e2]
        · rw [if_neg e2, if_neg e2]
    · rw [if_neg e, if_neg e]; rfl
  have le5 : F ≤ 5 ↔ F < 6 := by
    rw [Int32.le_iff_toInt_le, Int32.lt_iff_toInt_lt]
    have e5 : (5 : Int32).toInt = 5 := rfl
    have e6 : (6 : Int32).toInt = 6 := rfl
    omega
  have F0 : F ≤ 0 ↔ F = 0 := by
    constructor
    · intro h
      rw [Int32.le_iff_toInt_le] at h
      rw [Int32.lt_iff_toInt_lt] at f3
      exact Int32.toInt_inj.mp (by omega)
    · intro h; rw [h]; decide
  have hbe8 : ∀ b, b < 8 → (nI be = nI b ↔ b = be) := fun b hb => ⟨fun h => (nI_inj (by omega) (by omega) h).symm, fun h => by rw [h]⟩
  by_cases hl : F < 6
  · -- not loud
    have eL : F_X8_loudBells fu (nI p) x = some 0 := by
      unfold F_X8_loudBells; rw [f1, clp_some, if_pos hl]
    have eW : F_X8_weakBells fu (nI p) x = some (if F ≤ 0 then 0 else M) := by
      unfold F_X8_weakBells
      rw [f1, clp_some, if_pos hl]
      by_cases e : F ≤ 0
      · rw [if_pos e, if_pos e]
      · rw [if_neg e, if_neg e, m1]; rfl
    have hW : ∀ i, i < 32 → (bt (if F ≤ 0 then 0 else M) i = true ↔ (i = be ∧ y 3 be = 0 ∧ ¬ F = 0)) := by
      intro i hi
      by_cases e : F ≤ 0
      · rw [if_pos e, b_0]
        exact ⟨fun h => (by cases h), fun h => absurd (F0.mp e) h.2.2⟩
      · rw [if_neg e, m2 i hi]
        exact ⟨fun h => ⟨h.1, h.2, fun h2 => e (F0.mpr h2)⟩, fun h => ⟨h.1, h.2.1⟩⟩
    refine ⟨0, _, eL, eW, fun i h8 h32 => ⟨b_0 i, ?_⟩, fun b hb8 => ?_⟩
    · cases e : bt (if F ≤ 0 then 0 else M) i
      · rfl
      · have := ((hW i h32).mp e).1; omega
    · by_cases e : b = be
      · subst e
        refine ⟨if y 3 b = 0 then (if F = 0 then 0 else if F ≤ 5 then 1 else 2) else 0, ?_, ?_, ?_, ?_⟩
        · unfold F_X10_rings
          rw [chk_ok hp (by omega), cN (by omega), if_pos ebe, hown]; rfl
        · by_cases e1 : y 3 b = 0
          · rw [if_pos e1]
            by_cases e2 : F = 0
            · rw [if_pos e2]; exact Or.inl rfl
            · rw [if_neg e2, if_pos (le5.mpr hl)]; exact Or.inr (Or.inl rfl)
          · rw [if_neg e1]; exact Or.inl rfl
        · rw [b_0]
          refine ⟨fun h => (by cases h), fun h => ?_⟩
          exfalso
          by_cases e1 : y 3 b = 0
          · rw [if_pos e1] at h
            by_cases e2 : F = 0
            · rw [if_pos e2] at h; exact absurd h (by decide)
            · rw [if_neg e2, if_pos (le5.mpr hl)] at h; exact absurd h (by decide)
          · rw [if_neg e1] at h; exact absurd h (by decide)
        · rw [hW b (by omega)]
          by_cases e1 : y 3 b = 0
          · rw [if_pos e1]
            by_cases e2 : F = 0
            · rw [if_pos e2]; exact ⟨fun h => absurd e2 h.2.2, fun h => absurd h (by decide)⟩
            · rw [if_neg e2, if_pos (le5.mpr hl)]; exact ⟨fun _ => rfl, fun _ => ⟨rfl, e1, e2⟩⟩
          · rw [if_neg e1]; exact ⟨fun h => absurd h.2.1 e1, fun h => absurd h (by decide)⟩
      · refine ⟨0, ?_, Or.inl rfl, ?_, ?_⟩
        · unfold F_X10_rings
          rw [chk_ok hp (by omega), cN (by omega), if_neg (fun h => e ((hbe8 b hb8).mp (ebe.symm.trans h))), f2, clp_some, if_pos hl]
        · rw [b_0]; exact ⟨fun h => (by cases h), fun h => absurd h (by decide)⟩
        · rw [hW b (by omega)]; exact ⟨fun h => absurd h.1 e, fun h => absurd h (by decide)⟩
  · -- loud
    have eL : F_X8_loudBells fu (nI p) x = some M := by
      unfold F_X8_loudBells; rw [f1, clp_some, if_neg hl, m1]; rfl
    have nF0 : ¬ F = 0 := fun h => hl (by rw [h]; decide)
    obtain ⟨R, c1, c2⟩ := ccw_eq (m := y 8 p) (x := x) hfu
    have hJ : ∀ o, o < P → ((y 8 o &&& R) = 0 ↔ ¬ JOIN N (y 9) (y 10) (y 8 p) (y 8 o)) := by
      intro o ho
      obtain ⟨c, hc, ec⟩ := (hPr o ho).2.2.2.2
      exact join_mask hc ec hr hb c2
    obtain ⟨V, v1, v2⟩ := e_along fu P N p R hfu hP hp x y hx0 a4 a5 a8 h2 h3 (fun q hq => ⟨(hPr q hq).2.2.2.1, (hPr q hq).2.2.2.2⟩) hJ (fun l3_5 => chk (nI p) 12 (some (l3_5 &&& (((1 : Int32) <<< ((x 13 (nI p).toNatClampNeg) &&& 31)) ^^^ (-1))))) P 0 fu 0 (by omega) (by omega)
    have hnoR : R = 0 → ∀ o, o < P → ¬ JOIN N (y 9) (y 10) (y 8 p) (y 8 o) := by
      intro h o ho
      refine (hJ o ho).mp ?_
      rw [h]
      apply b_ext
      intro i _
      rw [b_and, b_0]; simp
    have eW : ∃ Wm, F_X8_weakBells fu (nI p) x = some Wm ∧ ∀ i, i < 32 → (bt Wm i = true ↔ i ≠ be ∧ i < 8 ∧ y 3 i = 0 ∧ ALONG P N p i y 0) := by
      by_cases e : R = 0
      · refine ⟨0, ?_, fun i hi => ?_⟩
        · unfold F_X8_weakBells F_X8_bellsPulledAlong
          rw [f1, clp_some, if_neg hl, chk_ok hp (by omega), cN (by omega), a5, c1, clp_some, if_pos e]; rfl
        · rw [b_0]
          refine ⟨fun h => (by cases h), ?_⟩
          rintro ⟨-, -, -, o, -, h2, -, -, h3, -⟩
          exact absurd h3 (hnoR e o h2)
      · refine ⟨V &&& (((1 : Int32) <<< (nI be &&& 31)) ^^^ (-1)), ?_, fun i hi => ?_⟩
        · unfold F_X8_weakBells F_X8_bellsPulledAlong
          have v1' : L_X8_bellsPulledAlong_25 fu (nI p) R x fu 0 0 (fun l3_5 => chk (nI p) 12 (some (l3_5 &&& (((1 : Int32) <<< ((x 13 (nI p).toNatClampNeg) &&& 31)) ^^^ (-1))))) = _ := v1
          have hR14 : F_X8_cranksCrossedWith fu (x 14 (nI p).toNatClampNeg) x = some R := by rw [cN (by omega), a5]; exact c1
          rw [f1, clp_some, if_neg hl, chk_ok hp (by omega), hR14, clp_some, if_neg e, v1', chk_ok hp (by omega), cN (by omega), a4, ebe]; rfl
        · rw [b_and, Bool.and_eq_true, v2 i hi, b_not hi, b_one (by omega) hi, b_0]
          constructor
          · rintro ⟨h | h, h'⟩
            · cases h
            · refine ⟨fun e => ?_, h⟩
              rw [e] at h'; simp at h'
          · rintro ⟨h, h'⟩
            exact ⟨Or.inr h', by simp [h]⟩
    obtain ⟨Wm, w1, w2⟩ := eW
    refine ⟨M, Wm, eL, w1, fun i h8 h32 => ⟨?_, ?_⟩, fun b hb8 => ?_⟩
    · cases e : bt M i
      · rfl
      · have := ((m2 i h32).mp e).1; omega
    · cases e : bt Wm i
      · rfl
      · have := ((w2 i h32).mp e).2.1; omega
    · by_cases e : b = be
      · subst e
        refine ⟨if y 3 b = 0 then 2 else 0, ?_, ?_, ?_, ?_⟩
        · unfold F_X10_rings
          rw [chk_ok hp (by omega), cN (by omega), if_pos ebe, hown, if_neg nF0, if_neg (fun h => hl (le5.mp h))]; rfl
        · by_cases e1 : y 3 b = 0
          · rw [if_pos e1]; exact Or.inr (Or.inr rfl)
          · rw [if_neg e1]; exact Or.inl rfl
        · rw [m2 b (by omega)]
          by_cases e1 : y 3 b = 0
          · rw [if_pos e1]; exact ⟨fun _ => rfl, fun _ => ⟨rfl, e1⟩⟩
          · rw [if_neg e1]; exact ⟨fun h => absurd h.2 e1, fun h => absurd h (by decide)⟩
        · rw [w2 b (by omega)]
          refine ⟨fun h => absurd rfl h.1, fun h => ?_⟩
          exfalso
          by_cases e1 : y 3 b = 0
          · rw [if_pos e1] at h; exact absurd h (by decide)
          · rw [if_neg e1] at h; exact absurd h (by decide)
      · obtain ⟨i1, i2⟩ := e_ringsL fu P N p b hfu hP hp y hP0 hN hN0 hr (some 0) P 0 fu (by omega) (by omega)
        have hbase : F_X10_rings fu (nI p) (nI b) y = if y 3 b = 1 then some 0 else L_X10_rings_50 fu (nI p) (nI b) y fu 0 (some 0) := by
          unfold F_X10_rings
          rw [chk_ok hp (by omega), cN (by omega), if_neg (fun h => e ((hbe8 b hb8).mp (ebe.symm.trans h))), f2, clp_some, if_neg hl, chk_ok hb8 (by omega), cN (by omega)]
        have hMb : bt M b = true ↔ False := by
          rw [m2 b (by omega)]; exact ⟨fun h => e h.1, fun h => h.elim⟩
        rcases (h2 b hb8).1 with e1 | e1
        · by_cases e2 : ALONG P N p b y 0
          · refine ⟨1, ?_, Or.inr (Or.inl rfl), ?_, ?_⟩
            · rw [hbase, if_neg (by rw [e1]; decide)]; exact i1 e2
            · rw [hMb]; exact ⟨fun h => h.elim, fun h => absurd h (by decide)⟩
            · rw [w2 b (by omega)]; exact ⟨fun _ => rfl, fun _ => ⟨e, hb8, e1, e2⟩⟩
          · refine ⟨0, ?_, Or.inl rfl, ?_, ?_⟩
            · rw [hbase, if_neg (by rw [e1]; decide)]; exact i2 e2
            · rw [hMb]; exact ⟨fun h => h.elim, fun h => absurd h (by decide)⟩
            · rw [w2 b (by omega)]; exact ⟨fun h => absurd h.2.2.2 e2, fun h => absurd h (by decide)⟩
        · refine ⟨0, ?_, Or.inl rfl, ?_, ?_⟩
          · rw [hbase, if_pos e1]
          · rw [hMb]; exact ⟨fun h => h.elim, fun h => absurd h (by decide)⟩
          · rw [w2 b (by omega)]; exact ⟨fun h => absurd (e1.symm.trans h.2.2.1) (by decide), fun h => absurd h (by decide)⟩
theorem rings_both {fu p : Nat} {x y : Mem} (hfu : 100 ≤ fu) (hR : Rel x y) (hpP : nI p < y 0 4) (hp : p < 12) : ∃ Lm Wm : Int32, F_X8_loudBells fu (nI p) x = some Lm ∧ F_X8_weakBells fu (nI p) x = some Wm ∧ (∀ i, 8 ≤ i → i < 32 → bt Lm i = false ∧ bt Wm i = false) ∧ ∀ b, b < 8 → ∃ g : Int32, F_X10_rings fu (nI p) (nI b) y = some g ∧ (g = 0 ∨ g = 1 ∨ g = 2) ∧ (bt Lm b = true ↔ g = 2) ∧ (bt Wm b = true ↔ g = 1) := rings_bothW hfu hR.W hpP hp
theorem S_would (fu : Nat) (hfu : 100 ≤ fu) : St_would fu Rel := by
  intro a b x y hR
  obtain ⟨P, hP, hP0, hPr⟩ := hR.2.2.1
  rcases has_of (fu := fu) (v := a) hP (hR.1.1.trans hP0) hP0 with ⟨p, hp, rfl, w1, w2⟩ | ⟨w1, w2, -⟩
  · rcases dom2 b 8 8 7 rfl rfl (by omega) with ⟨j, hj, rfl, u1, u2, -, -, -⟩ | ⟨u1, u2, -⟩
    · obtain ⟨Lm, Wm, l1, l2, -, l4⟩ := rings_both hfu hR (by rw [hP0]; exact nI_lt hp (by omega)) (show p < 12 by omega)
      obtain ⟨g, g1, g2, g3, g4⟩ := l4 j hj
      refine ⟨g, x, y, ?_, ?_, hR⟩
      · unfold F_X9_would
        rw [w1, clp_some, if_neg (by decide), u1 fu x, clp_some, if_neg (by decide), letv_eq, l1, clp_some]
        by_cases e : (Lm &&& ((1 : Int32) <<< (nI j &&& 31))) = 0
        · rw [if_pos e, l2, clp_some]
          have nL : ¬ g = 2 := fun h => by rw [(b_shl_test (by omega)).mp e] at g3; exact absurd (g3.mpr h) (by decide)
          by_cases e2 : (Wm &&& ((1 : Int32) <<< (nI j &&& 31))) = 0
          · have nW : ¬ g = 1 := fun h => by rw [(b_shl_test (by omega)).mp e2] at g4; exact absurd (g4.mpr h) (by decide)
            rw [if_pos e2, (g2.resolve_right (by rintro (h | h); exact nW h; exact nL h))]; rfl
          · have hW : bt Wm j = true := by
              cases h : bt Wm j
              · exact absurd ((b_shl_test (by omega)).mpr h) e2
              · rfl
            rw [if_neg e2, g4.mp hW]; rfl
        · have hL : bt Lm j = true := by
            cases h : bt Lm j
            · exact absurd ((b_shl_test (by omega)).mpr h) e
            · rfl
          rw [if_neg e, g3.mp hL]; rfl
      · unfold F_X10_would
        rw [w2, clp_some, if_neg (by decide), u2 fu y, clp_some, if_neg (by decide), g1]; rfl
    · refine ⟨-1, x, y, ?_, ?_, hR⟩
      · unfold F_X9_would; rw [w1, clp_some, if_neg (by decide), u1 fu x]; rfl
      · unfold F_X10_would; rw [w2, clp_some, if_neg (by decide), u2 fu y]; rfl
  · refine ⟨-1, x, y, ?_, ?_, hR⟩
    · unfold F_X9_would; rw [w1]; rfl
    · unfold F_X10_would; rw [w2]; rfl

/-! ===== force, and which bells ring ===== -/
/-- a crank of the pull with cranks m is dead -/
def DEADp (m : Int32) (y1 : Nat → Int32) : Prop := ∃ c, c < 16 ∧ bt m c = true ∧ y1 c = 10
theorem hasDead_eq {fu p : Nat} {x y : Mem} (hp : p < 12) (h14 : x 14 = y 8) (h17 : x 17 = y 1) (hm : ∃ c, c < 65536 ∧ y 8 p = nI c) (h3 : RC (x 3 4) (y 1)) : ∃ r : Int32, F_X8_hasDead fu (nI p) x = some r ∧ (r = 0 ∨ r = 1) ∧ (r = 1 ↔ DEADp (y 8 p) (y 1)) := by
  have key : (x 14 p &&& x 3 4) = 0 ↔ ¬ DEADp (y 8 p) (y 1) := by
    rw [h14, and_zero_iff]
    obtain ⟨c, hc, ec⟩ := hm
    constructor
    · rintro h ⟨d, hd, h1, h2⟩
      refine h d (by omega) ⟨h1, ?_⟩
      rw [(h3 d hd).2, h2]; rfl
    · intro h i hi ⟨h1, h2⟩
      rcases Nat.lt_or_ge i 16 with h16 | h16
      · refine h ⟨i, h16, h1, ?_⟩
        rw [(h3 i h16).2] at h2
        exact of_decide_eq_true h2
      · rw [ec, bt_hi (n := 16) (by omega) (by omega) h16] at h1
        cases h1
  unfold F_X8_hasDead
  rw [chk_ok hp (by omega), cN (by omega)]
  by_cases h : (x 14 p &&& x 3 4) = 0
  · exact ⟨0, by rw [if_pos h]; rfl, Or.inl rfl, ⟨fun e => absurd e (by decide), fun e => absurd e (key.mp h)⟩⟩
  · refine ⟨1, by rw [if_neg h]; rfl, Or.inr rfl, ⟨fun _ => ?_, fun _ => rfl⟩⟩
    rcases Classical.em (DEADp (y 8 p) (y 1)) with h2 | h2
    · exact h2
    · exact absurd (key.mpr h2) h
theorem crankBy_m1 {fu c : Nat} {y : Mem} (hc : c < 16) : F_X10_crankBy fu (nI c) (-1) y = some (y 1 c) := by
  unfold F_X10_crankBy
  rw [if_neg (by decide), chk_ok hc (by omega), cN (by omega)]
theorem e_isDead (fu p : Nat) (hp : p < 12) (y : Mem) (K : Int32 → Option Int32) : ∀ (d k n : Nat) (acc : Int32), k + d = 16 → d < n → (acc = 0 ∨ acc = 1) → ∃ r : Int32, L_X10_isDead_5 fu (nI p) (-1) y n acc (nI k) K = K r ∧ (r = 0 ∨ r = 1) ∧ (r = 1 ↔ acc = 1 ∨ ∃ c, k ≤ c ∧ c < 16 ∧ bt (y 8 p) c = true ∧ y 1 c = 10) := by
  intro d
  induction d with
  | zero =>
    intro k n acc hk hn ha
    obtain ⟨n, rfl⟩ : ∃ m, n = m + 1 := ⟨n - 1, by omega⟩
    refine ⟨acc, ?_, ha, ?_⟩
    · rw [L_X10_isDead_5, if_pos (show (16 : Int32) ≤ nI k from nI_le (a := 16) (by omega) (by omega))]
    · constructor
      · exact Or.inl
      · rintro (h | ⟨s, h1, h2, -⟩)
        · exact h
        · omega
  | succ d ih =>
    intro k n acc hk hn ha
    obtain ⟨n, rfl⟩ : ∃ m, n = m + 1 := ⟨n - 1, by omega⟩
    have hg : ¬ (16 : Int32) ≤ nI k := nI_ge (b := 16) (by omega) (by omega)
    rcases ha with rfl | rfl
    · by_cases e : bt (y 8 p) k = true ∧ y 1 k = 10
      · obtain ⟨r, r1, r2, r3⟩ := ih (k + 1) n 1 (by omega) (by omega) (Or.inr rfl)
        refine ⟨r, ?_, r2, r3.trans ⟨fun _ => Or.inr ⟨k, by omega, by omega, e⟩, fun _ => Or.inl rfl⟩⟩
        rw [L_X10_isDead_5, if_neg hg, if_pos rfl, chk_ok hp (by omega), cN (by omega), if_pos ((bit_eq1 (by omega)).mpr e.1), crankBy_m1 (by omega), clp_some, if_pos e.2, nI_1, r1]
      · obtain ⟨r, r1, r2, r3⟩ := ih (k + 1) n 0 (by omega) (by omega) (Or.inl rfl)
        refine ⟨r, ?_, r2, r3.trans ?_⟩
        · rw [L_X10_isDead_5, if_neg hg, if_pos rfl, chk_ok hp (by omega), cN (by omega)]
          by_cases e1 : bt (y 8 p) k = true
          · rw [if_pos ((bit_eq1 (by omega)).mpr e1), crankBy_m1 (by omega), clp_some, if_neg (fun h => e ⟨e1, h⟩), nI_1, r1]
          · rw [if_neg (fun h => e1 ((bit_eq1 (by omega)).mp h)), nI_1, r1]
        · constructor
          · rintro (h | ⟨s, h1, h2, h3⟩)
            · exact absurd h (by decide)
            · exact Or.inr ⟨s, by omega, h2, h3⟩
          · rintro (h | ⟨s, h1, h2, h3⟩)
            · exact absurd h (by decide)
            · by_cases e2 : s = k
              · subst e2; exact absurd h3 e
              · exact Or.inr ⟨s, by omega, h2, h3⟩
    · obtain ⟨r, r1, r2, r3⟩ := ih (k + 1) n 1 (by omega) (by omega) (Or.inr rfl)
      refine ⟨r, ?_, r2, r3.trans ⟨fun _ => Or.inl rfl, fun _ => Or.inl rfl⟩⟩
      rw [L_X10_isDead_5, if_neg hg, if_neg (by decide), nI_1, r1]
theorem isDead_eq {fu p : Nat} {y : Mem} (hfu : 100 ≤ fu) (hp : p < 12) : ∃ r : Int32, F_X10_isDead fu (nI p) (-1) y = some r ∧ (r = 0 ∨ r = 1) ∧ (r = 1 ↔ DEADp (y 8 p) (y 1)) := by
  obtain ⟨r, r1, r2, r3⟩ := e_isDead fu p hp y (fun l3_2 => retzp l3_2) 16 0 fu 0 rfl (by omega) (Or.inl rfl)
  refine ⟨r, ?_, r2, r3.trans ?_⟩
  · unfold F_X10_isDead
    have r1' : L_X10_isDead_5 fu (nI p) (-1) y fu 0 0 (fun l3_2 => retzp l3_2) = _ := r1
    rw [r1']
    rcases r2 with rfl | rfl <;> rfl
  · constructor
    · rintro (h | ⟨s, -, h2, h3, h4⟩)
      · exact absurd h (by decide)
      · exact ⟨s, h2, h3, h4⟩
    · rintro ⟨s, h2, h3, h4⟩; exact Or.inr ⟨s, by omega, h2, h3, h4⟩
theorem flag_eq {r s : Int32} {A : Prop} (hr : r = 0 ∨ r = 1) (hs : s = 0 ∨ s = 1) (h1 : r = 1 ↔ A) (h2 : s = 1 ↔ A) : r = s := by
  rcases hr with rfl | rfl <;> rcases hs with rfl | rfl
  · rfl
  · exact absurd (h1.mpr (h2.mp rfl)) (by decide)
  · exact absurd (h2.mpr (h1.mp rfl)) (by decide)
  · rfl
theorem dead_both {fu p : Nat} {x y : Mem} (hfu : 100 ≤ fu) (hp : p < 12) (h14 : x 14 = y 8) (h17 : x 17 = y 1) (hm : ∃ c, c < 65536 ∧ y 8 p = nI c) (h3 : RC (x 3 4) (y 1)) : ∃ r : Int32, F_X8_hasDead fu (nI p) x = some r ∧ F_X10_isDead fu (nI p) (-1) y = some r ∧ (r = 0 ∨ r = 1) ∧ (r = 1 ↔ DEADp (y 8 p) (y 1)) := by
  obtain ⟨r, r1, r2, r3⟩ := hasDead_eq (fu := fu) hp h14 h17 hm h3
  obtain ⟨s, s1, s2, s3⟩ := isDead_eq (y := y) hfu hp
  have e := flag_eq r2 s2 r3 s3
  subst e
  exact ⟨r, r1, s1, r2, r3⟩
/-- slack taken off, crank by crank -/
def sb (m : Int32) (f : Nat → Int32) : Nat → Nat → Int32 → Int32
  | 0, _, a => a
  | d + 1, k, a => sb m f d (k + 1) (if bt m k then a - f k else a)
theorem e_forceOf (fu : Nat) (m : Int32) (x : Mem) (K : Int32 → Option Int32) : ∀ (d k n : Nat) (a : Int32), k + d = 16 → d < n → L_X8_forceOf_36 fu m x n a (nI k) K = K (sb m (x 17) d k a) := by
  intro d
  induction d with
  | zero =>
    intro k n a hk hn
    obtain ⟨n, rfl⟩ : ∃ m, n = m + 1 := ⟨n - 1, by omega⟩
    rw [L_X8_forceOf_36, if_pos (show (16 : Int32) ≤ nI k from nI_le (a := 16) (by omega) (by omega))]
    rfl
  | succ d ih =>
    intro k n a hk hn
    obtain ⟨n, rfl⟩ : ∃ m, n = m + 1 := ⟨n - 1, by omega⟩
    rw [L_X8_forceOf_36, if_neg (show ¬ (16 : Int32) ≤ nI k from nI_ge (b := 16) (by omega) (by omega)), chk_ok (by omega) (by omega), letv_eq, cN (by omega), nI_1, ih (k + 1) n _ (by omega) (by omega), ih (k + 1) n _ (by omega) (by omega)]
    show _ = K (sb m (x 17) d (k + 1) (if bt m k then a - x 17 k else a))
    cases hb : bt m k
    · rw [if_pos ((bit_eq0 (by omega)).mpr hb)]; rfl
    · rw [if_neg (fun h => by rw [(bit_eq0 (by omega)).mp h] at hb; cases hb)]; rfl
theorem e_forceBy (fu p : Nat) (hp : p < 12) (y : Mem) (K : Int32 → Option Int32) : ∀ (d k n : Nat) (a : Int32), k + d = 16 → d < n → L_X10_forceBy_22 fu (nI p) (-1) y n a (nI k) K = K (sb (y 8 p) (y 1) d k a) := by
  intro d
  induction d with
  | zero =>
    intro k n a hk hn
    obtain ⟨n, rfl⟩ : ∃ m, n = m + 1 := ⟨n - 1, by omega⟩
    rw [L_X10_forceBy_22, if_pos (show (16 : Int32) ≤ nI k from nI_le (a := 16) (by omega) (by omega))]
    rfl
  | succ d ih =>
    intro k n a hk hn
    obtain ⟨n, rfl⟩ : ∃ m, n = m + 1 := ⟨n - 1, by omega⟩
    rw [L_X10_forceBy_22, if_neg (show ¬ (16 : Int32) ≤ nI k from nI_ge (b := 16) (by omega) (by omega)), chk_ok hp (by omega), cN (by omega), jn_eq, crankBy_m1 (by omega), clp_some]
    show _ = K (sb (y 8 p) (y 1) d (k + 1) (if bt (y 8 p) k then a - y 1 k else a))
    cases hb : bt (y 8 p) k
    · rw [if_neg (fun h => by rw [(bit_eq1 (by omega)).mp h] at hb; cases hb)]
      dsimp only
      rw [letv_eq, nI_1, ih (k + 1) n _ (by omega) (by omega)]
      simp
    · rw [if_pos ((bit_eq1 (by omega)).mpr hb)]
      dsimp only
      rw [letv_eq, nI_1, ih (k + 1) n _ (by omega) (by omega)]
      rfl
theorem inHeat_eq {fu p : Nat} {x : Mem} {h m : Int32} (hp : p < 12) (hm : x 14 p = m) (hc : ∃ c, c < 65536 ∧ m = nI c) : F_X4_forceInHeat fu (nI p) h x = some (OUTb m h) := by
  obtain ⟨c, hc, rfl⟩ := hc
  unfold F_X4_forceInHeat OUTb
  rw [chk_ok hp (by omega), cN (by omega), hm, bitCount_eq (by omega), clp_some, nz_ok (by decide)]
theorem imax0 (v : Int32) : ¬ imax v 0 < 0 := by
  unfold imax
  by_cases h : v < 0
  · rw [if_pos h]; decide
  · rw [if_neg h]; exact h
/-- both sides' force of a pull -/
theorem force_both {fu p : Nat} {x y : Mem} (hfu : 100 ≤ fu) (hp : p < 12) (h14 : x 14 = y 8) (h17 : x 17 = y 1) (h36 : x 3 6 = y 0 3) (hm : ∃ c, c < 65536 ∧ y 8 p = nI c) (h3 : RC (x 3 4) (y 1)) : ∃ F : Int32, F_X8_forceOf fu (nI p) x = some F ∧ F_X10_forceBy fu (nI p) (y 0 3) (-1) y = some F ∧ ¬ F < 0 := by
  obtain ⟨r, r1, r2, r3, r4⟩ := dead_both hfu hp h14 h17 hm h3
  have ex : F_X8_forceOf fu (nI p) x = some (if r = 0 then imax (sb (y 8 p) (y 1) 16 0 (OUTb (y 8 p) (y 0 3))) 0 else 0) := by
    unfold F_X8_forceOf
    rw [r1, clp_some]
    by_cases e : r = 0
    · have e16 := e_forceOf fu (y 8 p) x (fun l2_5 => some (imax l2_5 0)) 16 0 fu (OUTb (y 8 p) (y 0 3)) rfl (by omega)
      have e16' : L_X8_forceOf_36 fu (y 8 p) x fu (OUTb (y 8 p) (y 0 3)) 0 (fun l2_5 => some (imax l2_5 0)) = _ := e16
      rw [if_pos e, if_pos e, h36, inHeat_eq (m := y 8 p) hp (by rw [h14]) hm, clp_some, chk_ok hp (by omega), letv_eq, cN (by omega), h14, e16', h17]
    · rw [if_neg e, if_neg e]
  have ey : F_X10_forceBy fu (nI p) (y 0 3) (-1) y = some (if r = 0 then imax (sb (y 8 p) (y 1) 16 0 (OUTb (y 8 p) (y 0 3))) 0 else 0) := by
    unfold F_X10_forceBy
    have e16 := fun K => e_forceBy fu p hp y K 16 0 fu (OUTb (y 8 p) (y 0 3)) rfl (by omega)
    have e16' : ∀ K, L_X10_forceBy_22 fu (nI p) (-1) y fu (OUTb (y 8 p) (y 0 3)) 0 K = K (sb (y 8 p) (y 1) 16 0 (OUTb (y 8 p) (y 0 3))) := e16
    rw [chk_ok hp (by omega), cN (by omega), bits_eq hfu, clp_some, nz_ok (by decide), letv_eq]
    show L_X10_forceBy_22 fu (nI p) (-1) y fu (OUTb (y 8 p) (y 0 3)) 0 _ = _
    rw [e16', r2, clp_some]
    unfold imax
    by_cases hv : sb (y 8 p) (y 1) 16 0 (OUTb (y 8 p) (y 0 3)) < 0
    · rw [if_pos hv, if_pos hv]
      by_cases e : r = 0
      · rw [if_pos e]
      · rw [if_neg e]
    · rw [if_neg hv, if_neg hv]
      by_cases e : r = 0
      · rw [if_pos e, if_pos e]
      · rw [if_neg e, if_neg e]
  refine ⟨_, ex, ey, ?_⟩
  by_cases e : r = 0
  · rw [if_pos e]; exact imax0 _
  · rw [if_neg e]; decide
theorem S_force (fu : Nat) (hfu : 100 ≤ fu) : St_force fu Rel := by
  intro a x y hR
  obtain ⟨hS, hA, h1, h2, h3, h4, h5, h6, h7, h8, h9, h10, h11, h12⟩ := id hR
  obtain ⟨P, hP, hP0, hPr⟩ := id h1
  rcases has_of (fu := fu) (v := a) hP (hS.1.trans hP0) hP0 with ⟨p, hp, rfl, w1, w2⟩ | ⟨w1, w2, -⟩
  · obtain ⟨F, f1, f2, -⟩ := force_both hfu (show p < 12 by omega) hA.2.2.2.2.1 hA.2.2.2.2.2.2.2.1 hS.2.1 (hPr p hp).2.2.2.2 h3
    refine ⟨F, x, y, ?_, ?_, hR⟩
    · unfold F_X9_force; rw [w1, clp_some, if_neg (by decide), f1]; rfl
    · unfold F_X10_force; rw [w2, clp_some, if_neg (by decide), f2]; rfl
  · refine ⟨-1, x, y, ?_, ?_, hR⟩
    · unfold F_X9_force; rw [w1]; rfl
    · unfold F_X10_force; rw [w2]; rfl
/-- the bell of a pull, if it is well, as a mask -/
theorem sounding_eq {fu p be : Nat} {x y : Mem} (hp : p < 12) (h13 : x 13 = y 7) (hb : be ≤ 7) (eb : y 7 p = nI be) (h2 : RB (x 2 2) (y 3)) : ∃ M : Int32, F_X8_soundingBell fu (nI p) x = some M ∧ ∀ i, i < 32 → (bt M i = true ↔ i = be ∧ y 3 be = 0) := by
  refine ⟨((1 : Int32) <<< (nI be &&& 31)) &&& (x 2 2 ^^^ (-1)), ?_, fun i hi => ?_⟩
  · unfold F_X8_soundingBell
    rw [chk_ok hp (by omega), cN (by omega), h13, eb]
  · rw [b_and, b_one (by omega) hi, b_not hi]
    obtain ⟨q1, q2⟩ := h2 be (by omega)
    by_cases e : i = be
    · subst e
      rw [q2]
      rcases q1 with q | q <;> simp [q]
    · simp [e]
theorem e_ccw (fu : Nat) (m : Int32) (x : Mem) (K : Int32 → Option Int32) : ∀ (d k n : Nat) (a : Int32), k + d = 16 → d < n → ∃ R : Int32, L_X8_cranksCrossedWith_4 fu m x n a (nI k) K = K R ∧ ∀ i, i < 32 → (bt R i = true ↔ bt a i = true ∨ ∃ c, k ≤ c ∧ c < 16 ∧ bt m c = true ∧ bt (x 18 c) i = true) := by
  intro d
  induction d with
  | zero =>
    intro k n a hk hn
    obtain ⟨n, rfl⟩ : ∃ m, n = m + 1 := ⟨n - 1, by omega⟩
    refine ⟨a, ?_, fun i hi => ⟨Or.inl, ?_⟩⟩
    · rw [L_X8_cranksCrossedWith_4, if_pos (show (16 : Int32) ≤ nI k from nI_le (a := 16) (by omega) (by omega))]
    · rintro (h | ⟨c, h1, h2, -⟩)
      · exact h
      · omega
  | succ d ih =>
    intro k n a hk hn
    obtain ⟨n, rfl⟩ : ∃ m, n = m + 1 := ⟨n - 1, by omega⟩
    cases hb : bt m k
    · obtain ⟨R, r1, r2⟩ := ih (k + 1) n a (by omega) (by omega)
      refine ⟨R, ?_, fun i hi => (r2 i hi).trans ?_⟩
      · rw [L_X8_cranksCrossedWith_4, if_neg (show ¬ (16 : Int32) ≤ nI k from nI_ge (b := 16) (by omega) (by omega)), if_pos ((bit_eq0 (by omega)).mpr hb), nI_1, r1]
      · constructor
        · rintro (h | ⟨c, h1, h2, h3⟩)
          · exact Or.inl h
          · exact Or.inr ⟨c, by omega, h2, h3⟩
        · rintro (h | ⟨c, h1, h2, h3⟩)
          · exact Or.inl h
          · by_cases e : c = k
            · subst e; rw [hb] at h3; exact absurd h3.1 (by decide)
            · exact Or.inr ⟨c, by omega, h2, h3⟩
    · obtain ⟨R, r1, r2⟩ := ih (k + 1) n (a ||| x 18 k) (by omega) (by omega)
      refine ⟨R, ?_, fun i hi => (r2 i hi).trans ?_⟩
      · rw [L_X8_cranksCrossedWith_4, if_neg (show ¬ (16 : Int32) ≤ nI k from nI_ge (b := 16) (by omega) (by omega)), if_neg (fun h => by rw [(bit_eq0 (by omega)).mp h] at hb; cases hb), chk_ok (by omega) (by omega), letv_eq, cN (by omega), nI_1, r1]
      · rw [b_or]
        constructor
        · rintro (h | ⟨c, h1, h2, h3⟩)
          · rw [Bool.or_eq_true] at h
            rcases h with h | h
            · exact Or.inl h
            · exact Or.inr ⟨k, by omega, by omega, hb, h⟩
          · exact Or.inr ⟨c, by omega, h2, h3⟩
        · rintro (h | ⟨c, h1, h2, h3⟩)
          · exact Or.inl (by rw [h]; rfl)
          · by_cases e : c = k
            · subst e; exact Or.inl (by rw [h3.2]; simp)
            · exact Or.inr ⟨c, by omega, h2, h3⟩
theorem ccw_eq {fu : Nat} {m : Int32} {x : Mem} (hfu : 100 ≤ fu) : ∃ R : Int32, F_X8_cranksCrossedWith fu m x = some R ∧ ∀ i, i < 32 → (bt R i = true ↔ ∃ c, c < 16 ∧ bt m c = true ∧ bt (x 18 c) i = true) := by
  obtain ⟨R, r1, r2⟩ := e_ccw fu m x (fun l2_2 => some l2_2) 16 0 fu 0 rfl (by omega)
  refine ⟨R, ?_, fun i hi => (r2 i hi).trans ?_⟩
  · unfold F_X8_cranksCrossedWith
    exact r1
  · rw [b_0]
    constructor
    · rintro (h | ⟨c, -, h2, h3⟩)
      · cases h
      · exact ⟨c, h2, h3⟩
    · rintro ⟨c, h2, h3⟩; exact Or.inr ⟨c, by omega, h2, h3⟩
/-- joined by a crossing -/
def JOIN (N : Nat) (y9 y10 : Nat → Int32) (m o : Int32) : Prop := ∃ k, k < N ∧ ((bt m (y9 k).toNatClampNeg = true ∧ bt o (y10 k).toNatClampNeg = true) ∨ (bt m (y10 k).toNatClampNeg = true ∧ bt o (y9 k).toNatClampNeg = true))
theorem join_mask {N : Nat} {x18 y9 y10 : Nat → Int32} {m o R : Int32} {c : Nat} (hc : c < 65536) (ho : o = nI c) (hr : ∀ k, k < N → ∃ a b, a < 16 ∧ b < 16 ∧ y9 k = nI a ∧ y10 k = nI b) (hb : ∀ a b, a < 16 → b < 16 → (bt (x18 a) b = true ↔ ∃ k, k < N ∧ ((y9 k = nI a ∧ y10 k = nI b) ∨ (y9 k = nI b ∧ y10 k = nI a)))) (hR : ∀ i, i < 32 → (bt R i = true ↔ ∃ c, c < 16 ∧ bt m c = true ∧ bt (x18 c) i = true)) : (o &&& R) = 0 ↔ ¬ JOIN N y9 y10 m o := by
  rw [and_zero_iff]
  constructor
  · rintro h ⟨k, hk, hh⟩
    obtain ⟨a, b, ha, hb', ea, eb⟩ := hr k hk
    rw [ea, eb, cN (by omega), cN (by omega)] at hh
    rcases hh with ⟨h1, h2⟩ | ⟨h1, h2⟩
    · exact h b (by omega) ⟨h2, (hR b (by omega)).mpr ⟨a, ha, h1, (hb a b ha hb').mpr ⟨k, hk, Or.inl ⟨ea, eb⟩⟩⟩⟩
    · exact h a (by omega) ⟨h2, (hR a (by omega)).mpr ⟨b, hb', h1, (hb b a hb' ha).mpr ⟨k, hk, Or.inr ⟨ea, eb⟩⟩⟩⟩
  · intro h i hi ⟨h1, h2⟩
    rcases Nat.lt_or_ge i 16 with h16 | h16
    · obtain ⟨a, ha, h3, h4⟩ := (hR i hi).mp h2
      obtain ⟨k, hk, h5⟩ := (hb a i ha h16).mp h4
      refine h ⟨k, hk, ?_⟩
      rcases h5 with ⟨e1, e2⟩ | ⟨e1, e2⟩
      · rw [e1, e2, cN (by omega), cN (by omega)]; exact Or.inl ⟨h3, h1⟩
      · rw [e1, e2, cN (by omega), cN (by omega)]; exact Or.inr ⟨h3, h1⟩
    · rw [ho, bt_hi (n := 16) (by omega) (by omega) h16] at h1
      cases h1

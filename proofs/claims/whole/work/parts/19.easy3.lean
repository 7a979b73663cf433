/-! ===== flags, about, servantTold, way, swings, frame, cross ===== -/
/-- on an errand, as the model looks it up -/
theorem e_onErr (fu : Nat) (v : Int32) (y : Mem) (S : Nat) (hS : S ≤ 5) (h0 : y 0 19 = nI S) (K : Int32 → Option Int32) : ∀ (d k n : Nat) (acc : Int32), k + d = S → d < n → (acc = 0 ∨ acc = 1) → ∃ r : Int32, L_X10_isOnErrand_4 fu v y n acc (nI k) K = K r ∧ (r = 0 ∨ r = 1) ∧ (r = 1 ↔ acc = 1 ∨ ∃ s, k ≤ s ∧ s < S ∧ y 18 s = v) := by
  intro d
  induction d with
  | zero =>
    intro k n acc hk hn ha
    obtain ⟨n, rfl⟩ : ∃ m, n = m + 1 := ⟨n - 1, by omega⟩
    refine ⟨acc, ?_, ha, ?_⟩
    · rw [L_X10_isOnErrand_4, h0, if_pos (nI_le (by omega) (by omega))]
    · constructor
      · exact Or.inl
      · rintro (h | ⟨s, h1, h2, -⟩)
        · exact h
        · omega
  | succ d ih =>
    intro k n acc hk hn ha
    obtain ⟨n, rfl⟩ : ∃ m, n = m + 1 := ⟨n - 1, by omega⟩
    have hg : ¬ nI S ≤ nI k := nI_ge (by omega) (by omega)
    rcases ha with rfl | rfl
    · by_cases e : y 18 k = v
      · obtain ⟨r, r1, r2, r3⟩ := ih (k + 1) n 1 (by omega) (by omega) (Or.inr rfl)
        refine ⟨r, ?_, r2, r3.trans ?_⟩
        · rw [L_X10_isOnErrand_4, h0, if_neg hg, if_pos rfl, chk_ok (by omega) (by omega), cN (by omega), if_pos e, nI_1, r1]
        · exact ⟨fun _ => Or.inr ⟨k, by omega, by omega, e⟩, fun _ => Or.inl rfl⟩
      · obtain ⟨r, r1, r2, r3⟩ := ih (k + 1) n 0 (by omega) (by omega) (Or.inl rfl)
        refine ⟨r, ?_, r2, r3.trans ?_⟩
        · rw [L_X10_isOnErrand_4, h0, if_neg hg, if_pos rfl, chk_ok (by omega) (by omega), cN (by omega), if_neg e, nI_1, r1]
        · constructor
          · rintro (h | ⟨s, h1, h2, h3⟩)
            · exact absurd h (by decide)
            · exact Or.inr ⟨s, by omega, h2, h3⟩
          · rintro (h | ⟨s, h1, h2, h3⟩)
            · exact absurd h (by decide)
            · by_cases e2 : s = k
              · subst e2; exact absurd h3 e
              · exact Or.inr ⟨s, by omega, h2, h3⟩
    · obtain ⟨r, r1, r2, r3⟩ := ih (k + 1) n 1 (by omega) (by omega) (Or.inr rfl)
      refine ⟨r, ?_, r2, r3.trans ?_⟩
      · rw [L_X10_isOnErrand_4, h0, if_neg hg, if_neg (by decide), nI_1, r1]
      · exact ⟨fun _ => Or.inl rfl, fun _ => Or.inl rfl⟩
theorem onErr (fu : Nat) (hfu : 100 ≤ fu) (v : Int32) (y : Mem) (S : Nat) (hS : S ≤ 5) (h0 : y 0 19 = nI S) : ∃ r : Int32, F_X10_isOnErrand fu v y = some r ∧ (r = 0 ∨ r = 1) ∧ (r = 1 ↔ ∃ s, s < S ∧ y 18 s = v) := by
  obtain ⟨r, r1, r2, r3⟩ := e_onErr fu v y S hS h0 (fun l2_1 => retzp l2_1) S 0 fu 0 (by omega) (by omega) (Or.inl rfl)
  refine ⟨r, ?_, r2, r3.trans ?_⟩
  · unfold F_X10_isOnErrand
    have r1' : L_X10_isOnErrand_4 fu v y fu 0 0 (fun l2_1 => retzp l2_1) = _ := r1
    rw [r1']
    rcases r2 with rfl | rfl <;> rfl
  · constructor
    · rintro (h | ⟨s, -, h2, h3⟩)
      · exact absurd h (by decide)
      · exact ⟨s, h2, h3⟩
    · rintro ⟨s, h2, h3⟩; exact Or.inr ⟨s, by omega, h2, h3⟩
theorem S_about (fu : Nat) (hfu : 100 ≤ fu) : St_about fu Rel := by
  intro a b x y hR
  obtain ⟨hS, hA, h1, h2, h3, h4, h5, h6, h7, h8, h9, h10, h11, h12⟩ := id hR
  obtain ⟨P, hP, hP0, hPr⟩ := id h1
  obtain ⟨s1, s2, s3, s4, s5, s6, s7, s8⟩ := hS
  obtain ⟨S, hS5, hS0, -⟩ := h9
  obtain ⟨a1, a2, a3, a4, a5, a6, a7, a8, a9, a10, a11, a12, a13, a14, a15, a16⟩ := hA
  rcases has_of (fu := fu) (v := a) hP (s1.trans hP0) hP0 with ⟨p, hp, rfl, w1, w2⟩ | ⟨w1, w2, -⟩
  · obtain ⟨c1, c2, c3, c4, c5, c6⟩ := h10 p (by omega)
    obtain ⟨r, r1, r2, r3⟩ := onErr fu hfu (nI p) y S hS5 hS0
    have hc : ∀ M : Option Int32, chk (nI p) 12 M = M := fun M => chk_ok (by omega) (by omega)
    have hN : (nI p).toNatClampNeg = p := cN (by omega)
    have c4' : x 25 p = 2 ↔ r = 1 := by
      rw [c4, r3]
      constructor
      · rintro ⟨s, e1, e2, e3⟩
        rw [hS0, nI_ltI (by omega) (by omega)] at e1
        exact ⟨s, e1, e3⟩
      · rintro ⟨s, e1, e3⟩
        exact ⟨s, by rw [hS0]; exact nI_lt e1 (by omega), by omega, e3⟩
    have key : ∃ r, F_X9_about fu (nI p) b x = some r ∧ F_X10_about fu (nI p) b y = some r := by
      by_cases b0 : b = 0
      · subst b0
        have i0 : F_X10_in fu 0 0 4 y = some 1 := by unfold F_X10_in; rfl
        refine ⟨x 25 p, ?_, ?_⟩
        · unfold F_X9_about
          rw [w1, clp_some, if_neg (by decide), if_pos rfl, hc, hN]
        · unfold F_X10_about
          rw [w2, clp_some, if_neg (by decide), i0, clp_some, if_neg (by decide), if_pos rfl, hc, hN]
          by_cases hw : x 25 p = 1
          · rw [if_neg (c2.mp hw), hw]
          · have hn : y 11 p < 0 := by
              rcases Classical.em (y 11 p < 0) with h | h
              · exact h
              · exact absurd (c2.mpr h) hw
            rw [if_pos hn, r1, clp_some]
            rcases r2 with e | e
            · rw [if_pos e]
              rcases c1 with h | h | h
              · rw [h]
              · exact absurd h hw
              · rw [c4'.mp h] at e; exact absurd e (by decide)
            · rw [if_neg (by rw [e]; decide), c4'.mpr e]
      · by_cases b1 : b = 1
        · subst b1
          have i0 : F_X10_in fu 1 0 4 y = some 1 := by unfold F_X10_in; rfl
          refine ⟨(y 0 14 >>> (nI p &&& 31)) &&& 1, ?_, ?_⟩
          · unfold F_X9_about
            rw [w1, clp_some, if_neg (by decide), if_neg b0, if_pos rfl, s6]
          · unfold F_X10_about
            rw [w2, clp_some, if_neg (by decide), i0, clp_some, if_neg (by decide), if_neg b0, if_pos rfl]
        · by_cases b2 : b = 2
          · subst b2
            have i0 : F_X10_in fu 2 0 4 y = some 1 := by unfold F_X10_in; rfl
            refine ⟨y 12 p, ?_, ?_⟩
            · unfold F_X9_about
              rw [w1, clp_some, if_neg (by decide), if_neg b0, if_neg b1, if_pos rfl, hc, hN, a14]
            · unfold F_X10_about
              rw [w2, clp_some, if_neg (by decide), i0, clp_some, if_neg (by decide), if_neg b0, if_neg b1, if_pos rfl, hc, hN]
          · by_cases b3 : b = 3
            · subst b3
              have i0 : F_X10_in fu 3 0 4 y = some 1 := by unfold F_X10_in; rfl
              refine ⟨y 13 p, ?_, ?_⟩
              · unfold F_X9_about
                rw [w1, clp_some, if_neg (by decide), if_neg b0, if_neg b1, if_neg b2, if_pos rfl, hc, hN, a15]
              · unfold F_X10_about
                rw [w2, clp_some, if_neg (by decide), i0, clp_some, if_neg (by decide), if_neg b0, if_neg b1, if_neg b2, if_pos rfl, hc, hN]
            · by_cases b4 : b = 4
              · subst b4
                have i0 : F_X10_in fu 4 0 4 y = some 1 := by unfold F_X10_in; rfl
                refine ⟨y 14 p, ?_, ?_⟩
                · unfold F_X9_about
                  rw [w1, clp_some, if_neg (by decide), if_neg b0, if_neg b1, if_neg b2, if_neg b3, if_pos rfl, hc, hN, a16]
                · unfold F_X10_about
                  rw [w2, clp_some, if_neg (by decide), i0, clp_some, if_neg (by decide), if_neg b0, if_neg b1, if_neg b2, if_neg b3, hc, hN]
              · refine ⟨-1, ?_, ?_⟩
                · unfold F_X9_about
                  rw [w1, clp_some, if_neg (by decide), if_neg b0, if_neg b1, if_neg b2, if_neg b3, if_neg b4]
                · unfold F_X10_about
                  rcases dom2 b 5 5 4 rfl rfl (by omega) with ⟨t, ht, rfl, -, -, -, -, -⟩ | ⟨-, u2, -⟩
                  · exfalso
                    rcases (show t = 0 ∨ t = 1 ∨ t = 2 ∨ t = 3 ∨ t = 4 by omega) with rfl | rfl | rfl | rfl | rfl
                    · exact b0 rfl
                    · exact b1 rfl
                    · exact b2 rfl
                    · exact b3 rfl
                    · exact b4 rfl
                  · rw [w2, clp_some, if_neg (by decide), u2 fu y]; rfl
    obtain ⟨r', e1, e2⟩ := key
    exact ⟨r', x, y, by rw [e1]; rfl, by rw [e2]; rfl, hR⟩
  · refine ⟨-1, x, y, ?_, ?_, hR⟩
    · unfold F_X9_about; rw [w1]; rfl
    · unfold F_X10_about; rw [w2]; rfl
theorem neg4_lt : ((-4 : Int32)) < 0 := by decide
theorem go_free {v : Int32} (h : v = -4 ∨ ∃ p, p < 12 ∧ v = nI p) : v = -4 ↔ ¬ 0 ≤ v := by
  constructor
  · intro e; rw [e]; decide
  · intro h2
    rcases h with e | ⟨p, hp, e⟩
    · exact e
    · exact absurd (by rw [e]; exact nI_pos' (by omega)) h2
theorem S_servantTold (fu : Nat) : St_servantTold fu Rel := by
  intro a b x y hR
  obtain ⟨hS, hA, h1, h2, h3, h4, h5, h6, h7, h8, h9, h10, h11, h12⟩ := id hR
  obtain ⟨s1, s2, s3, s4, s5, s6, s7, s8⟩ := hS
  obtain ⟨S, hS5, hS0, hv, hfree, huniq⟩ := h9
  obtain ⟨a1, a2, a3, a4, a5, a6, a7, a8, a9, a10, a11, a12, a13, a14, a15, a16⟩ := hA
  rcases isServant_of (fu := fu) (x := x) (y := y) (v := a) hS5 (s4.trans hS0) hS0 with ⟨s, hs, rfl, w1, w2⟩ | ⟨w1, w2⟩
  · obtain ⟨-, -, -, e22, e18⟩ := hv s hs
    have hc : ∀ M : Option Int32, chk (nI s) 5 M = M := fun M => chk_ok (by omega) (by omega)
    have hN : (nI s).toNatClampNeg = s := cN (by omega)
    have hg := go_free (v := y 18 s) (e18.imp id (fun ⟨p, _, h1, h2⟩ => ⟨p, h1, h2⟩))
    have key : ∃ r, F_X9_servantTold fu (nI s) b x = some r ∧ F_X10_servantTold fu (nI s) b y = some r := by
      by_cases b0 : b = 0
      · subst b0
        have i0 : F_X10_in fu 0 0 4 y = some 1 := by unfold F_X10_in; rfl
        refine ⟨y 15 s, ?_, ?_⟩
        · unfold F_X9_servantTold; rw [w1, clp_some, if_neg (by decide), if_pos rfl, hc, hN, a9]
        · unfold F_X10_servantTold; rw [w2, clp_some, if_neg (by decide), i0, clp_some, if_neg (by decide), if_pos rfl, hc, hN]
      · by_cases b1 : b = 1
        · subst b1
          have i0 : F_X10_in fu 1 0 4 y = some 1 := by unfold F_X10_in; rfl
          refine ⟨y 16 s, ?_, ?_⟩
          · unfold F_X9_servantTold; rw [w1, clp_some, if_neg (by decide), if_neg b0, if_pos rfl, hc, hN, a10]
          · unfold F_X10_servantTold; rw [w2, clp_some, if_neg (by decide), i0, clp_some, if_neg (by decide), if_neg b0, if_pos rfl, hc, hN]
        · by_cases b2 : b = 2
          · subst b2
            have i0 : F_X10_in fu 2 0 4 y = some 1 := by unfold F_X10_in; rfl
            refine ⟨y 18 s, ?_, ?_⟩
            · unfold F_X9_servantTold; rw [w1, clp_some, if_neg (by decide), if_neg b0, if_neg b1, if_pos rfl, hc, hN, e22]
            · unfold F_X10_servantTold; rw [w2, clp_some, if_neg (by decide), i0, clp_some, if_neg (by decide), if_neg b0, if_neg b1, if_pos rfl, hc, hN]
          · by_cases b3 : b = 3
            · subst b3
              have i0 : F_X10_in fu 3 0 4 y = some 1 := by unfold F_X10_in; rfl
              by_cases hf : y 18 s = -4
              · refine ⟨0, ?_, ?_⟩
                · unfold F_X9_servantTold F_X5_isFree; rw [w1, clp_some, if_neg (by decide), if_neg b0, if_neg b1, if_neg b2, if_pos rfl, hc, hN, e22, if_pos hf]; rfl
                · unfold F_X10_servantTold; rw [w2, clp_some, if_neg (by decide), i0, clp_some, if_neg (by decide), if_neg b0, if_neg b1, if_neg b2, if_pos rfl, hc, hN, if_neg (hg.mp hf)]
              · have h0 : 0 ≤ y 18 s := by
                  rcases Classical.em (0 ≤ y 18 s) with h | h
                  · exact h
                  · exact absurd (hg.mpr h) hf
                refine ⟨y 19 s - y 0 26, ?_, ?_⟩
                · unfold F_X9_servantTold F_X5_isFree; rw [w1, clp_some, if_neg (by decide), if_neg b0, if_neg b1, if_neg b2, if_pos rfl, hc, hN, e22, if_neg hf, retzp_0, clp_some, if_pos rfl, hc, a12, s5]
                · unfold F_X10_servantTold; rw [w2, clp_some, if_neg (by decide), i0, clp_some, if_neg (by decide), if_neg b0, if_neg b1, if_neg b2, if_pos rfl, hc, hN, if_pos h0, hc]
            · by_cases b4 : b = 4
              · subst b4
                have i0 : F_X10_in fu 4 0 4 y = some 1 := by unfold F_X10_in; rfl
                refine ⟨y 20 s, ?_, ?_⟩
                · unfold F_X9_servantTold; rw [w1, clp_some, if_neg (by decide), if_neg b0, if_neg b1, if_neg b2, if_neg b3, if_pos rfl, hc, hN, a13]
                · unfold F_X10_servantTold; rw [w2, clp_some, if_neg (by decide), i0, clp_some, if_neg (by decide), if_neg b0, if_neg b1, if_neg b2, if_neg b3, hc, hN]
              · refine ⟨-1, ?_, ?_⟩
                · unfold F_X9_servantTold; rw [w1, clp_some, if_neg (by decide), if_neg b0, if_neg b1, if_neg b2, if_neg b3, if_neg b4]
                · unfold F_X10_servantTold
                  rcases dom2 b 5 5 4 rfl rfl (by omega) with ⟨t, ht, rfl, -, -, -, -, -⟩ | ⟨-, u2, -⟩
                  · exfalso
                    rcases (show t = 0 ∨ t = 1 ∨ t = 2 ∨ t = 3 ∨ t = 4 by omega) with rfl | rfl | rfl | rfl | rfl
                    · exact b0 rfl
                    · exact b1 rfl
                    · exact b2 rfl
                    · exact b3 rfl
                    · exact b4 rfl
                  · rw [w2, clp_some, if_neg (by decide), u2 fu y]; rfl
    obtain ⟨r', e1, e2⟩ := key
    exact ⟨r', x, y, by rw [e1]; rfl, by rw [e2]; rfl, hR⟩
  · refine ⟨-1, x, y, ?_, ?_, hR⟩
    · unfold F_X9_servantTold; rw [w1]; rfl
    · unfold F_X10_servantTold; rw [w2]; rfl
/-- the way from (f, q) to (g, r), as both work it out -/
def WAY (f q g r : Int32) : Int32 := if f = g then iabs (q - r) else (iabs (q - 15) + 6 * iabs (f - g)) + iabs (15 - r)
theorem size_abs {fu : Nat} {v : Int32} {y : Mem} : F_X10_size fu v y = some (iabs v) := by
  unfold F_X10_size iabs
  by_cases h : 0 ≤ v
  · rw [if_pos h, if_pos h]
  · rw [if_neg h, if_neg h]
    simp
theorem iabs_eq0 {a b : Nat} (ha : a < 2 ^ 30) (hb : b < 2 ^ 30) : iabs (nI a - nI b) = 0 ↔ nI a = nI b := by
  unfold iabs
  constructor
  · intro h
    by_cases h0 : 0 ≤ nI a - nI b
    · rw [if_pos h0] at h
      have h1 : (nI a - nI b).toInt = 0 := by rw [h]; rfl
      rw [pk_sub_toInt ha hb] at h1
      have : a = b := by omega
      rw [this]
    · rw [if_neg h0] at h
      have h3 : nI b - nI a = 0 := by
        have : -(nI a - nI b) = 0 := by rw [← Int32.zero_sub]; exact h
        simpa using this
      have h1 : (nI b - nI a).toInt = 0 := by rw [h3]; rfl
      rw [pk_sub_toInt hb ha] at h1
      have : a = b := by omega
      rw [this]
  · intro h
    rw [h]
    simp
theorem wayTo_eq {fu : Nat} {x : Mem} {s : Nat} {f g : Nat} {r : Int32} (hs : s < 5) (hf : x 19 s = nI f) (hf3 : f < 2 ^ 30) (hg3 : g < 2 ^ 30) : F_X5_wayTo fu (nI s) (nI g) r x = some (WAY (x 19 s) (x 20 s) (nI g) r) := by
  unfold F_X5_wayTo WAY
  have hc : ∀ M : Option Int32, chk (nI s) 5 M = M := fun M => chk_ok (by omega) (by omega)
  rw [hc, letv_eq, cN (by omega), hf]
  by_cases e : nI f = nI g
  · rw [if_pos ((iabs_eq0 hf3 hg3).mpr e), hc, if_pos e]
  · rw [if_neg (fun h => e ((iabs_eq0 hf3 hg3).mp h)), hc, if_neg e]
theorem wayOf_eq {fu : Nat} {y : Mem} {s p : Nat} (hs : s < 5) (hp : p < 12) : F_X10_wayOf fu (nI s) (nI p) y = some (WAY (y 15 s) (y 16 s) (y 4 p) (y 5 p)) := by
  unfold F_X10_wayOf WAY
  have hc : ∀ M : Option Int32, chk (nI s) 5 M = M := fun M => chk_ok (by omega) (by omega)
  have hd : ∀ M : Option Int32, chk (nI p) 12 M = M := fun M => chk_ok (by omega) (by omega)
  simp only [hc, hd, cN (show s < 2 ^ 31 by omega), cN (show p < 2 ^ 31 by omega), size_abs, clp_some]
  by_cases e : y 15 s = y 4 p
  · rw [if_pos e, if_pos e]
  · rw [if_neg e, if_neg e]
theorem S_way (fu : Nat) : St_way fu Rel := by
  intro a b x y hR
  obtain ⟨hS, hA, h1, h2, h3, h4, h5, h6, h7, h8, h9, h10, h11, h12⟩ := id hR
  obtain ⟨s1, s2, s3, s4, s5, s6, s7, s8⟩ := hS
  obtain ⟨S, hS5, hS0, hv, hfree, huniq⟩ := h9
  obtain ⟨P, hP, hP0, hPr⟩ := id h1
  obtain ⟨a1, a2, a3, a4, a5, a6, a7, a8, a9, a10, a11, a12, a13, a14, a15, a16⟩ := hA
  rcases isServant_of (fu := fu) (x := x) (y := y) (v := a) hS5 (s4.trans hS0) hS0 with ⟨s, hs, rfl, w1, w2⟩ | ⟨w1, w2⟩
  · rcases has_of (fu := fu) (v := b) hP (s1.trans hP0) hP0 with ⟨p, hp, rfl, u1, u2⟩ | ⟨u1, u2, -⟩
    · obtain ⟨⟨f, hf, ef⟩, -⟩ := hv s hs
      obtain ⟨⟨g, hg, eg⟩, -⟩ := hPr p hp
      refine ⟨WAY (y 15 s) (y 16 s) (y 4 p) (y 5 p), x, y, ?_, ?_, hR⟩
      · unfold F_X9_way
        rw [w1, clp_some, if_neg (by decide), u1, clp_some, if_neg (by decide), chk_ok (by omega) (by omega), chk_ok (by omega) (by omega), cN (by omega), a1, a2, eg, wayTo_eq (f := f) (by omega) (by rw [a9]; exact ef) (by omega) (by omega), a9, a10]
        rfl
      · unfold F_X10_way
        rw [w2, clp_some, if_neg (by decide), u2, clp_some, if_neg (by decide), wayOf_eq (by omega) (by omega)]
        rfl
    · refine ⟨-1, x, y, ?_, ?_, hR⟩
      · unfold F_X9_way; rw [w1, clp_some, if_neg (by decide), u1]; rfl
      · unfold F_X10_way; rw [w2, clp_some, if_neg (by decide), u2]; rfl
  · refine ⟨-1, x, y, ?_, ?_, hR⟩
    · unfold F_X9_way; rw [w1]; rfl
    · unfold F_X10_way; rw [w2]; rfl

/-! ===== more steps ===== -/
theorem S_bell (fu : Nat) : St_bell fu Rel := by
  intro a b v x y hR
  obtain ⟨hS, hA, h1, h2, h3, h4, h5, h6, h7, h8, h9, h10, h11, h12⟩ := id hR
  rcases dom2 a 8 8 7 rfl rfl (by omega) with ⟨j, hj, rfl, w1, w2, -, -, -⟩ | ⟨w1, w2, -⟩
  · by_cases b0 : b = 0
    · subst b0
      have i0 : F_X10_in fu 0 0 1 y = some 1 := by unfold F_X10_in; rfl
      rcases dom2 v 6 6 5 rfl rfl (by omega) with ⟨t, ht, rfl, u1, u2, -, -, -⟩ | ⟨u1, u2, -⟩
      · obtain ⟨a1, a2, a3, a4, a5, a6, a7⟩ := hA
        have hid : wr (wr y 2 j (nI t)) 3 j (wr y 2 j (nI t) 3 j) = wr y 2 j (nI t) := by
          funext c i
          rw [wr_b]
          by_cases e : c = 3
          · subst e
            by_cases e2 : i = j
            · subst e2; simp
            · simp [e2]
          · simp [e]
        refine ⟨y 2 j, wr x 15 j (nI t), wr y 2 j (nI t), ?_, ?_, hS, ⟨a1, a2, a3, a4, a5, ?_, a7⟩, h1, h2, h3, h4, h5, h6, h7, h8, h9, h10, h11, h12⟩
        · unfold F_X9_bell F_X0_setTone
          rw [w1 fu x, clp_some, if_neg (by decide), if_pos rfl, u1 fu x, clp_some, if_neg (by decide), chk_ok hj (by omega), letv_eq, chk_ok hj (by omega), letm_eq, cl_some', cN (by omega), a6]
        · unfold F_X10_bell
          have hc : ∀ M : Res, chk (nI j) 8 M = M := fun M => chk_ok hj (by omega)
          have hN : (nI j).toNatClampNeg = j := cN (by omega)
          simp (config := { decide := true }) only [w2 fu y, clp_some, i0, jn_eq, u2 fu y, hc, letm_eq, hN, hid, if_true, if_false]
        · show upd (x 15) j (nI t) = upd (y 2) j (nI t)
          rw [a6]
      · refine ⟨-1, x, y, ?_, ?_, hR⟩
        · unfold F_X9_bell; rw [w1 fu x, clp_some, if_neg (by decide), if_pos rfl, u1 fu x]; rfl
        · unfold F_X10_bell; simp (config := { decide := true }) only [w2 fu y, clp_some, i0, jn_eq, u2 fu y, if_true, if_false]
    · by_cases b1 : b = 1
      · subst b1
        have i1 : F_X10_in fu 1 0 1 y = some 1 := by unfold F_X10_in; rfl
        rcases dom2 v 2 2 1 rfl rfl (by omega) with ⟨t, ht, rfl, u1, u2, -, -, -⟩ | ⟨u1, u2, u3⟩
        · have hm : F_X0_setMute fu (nI j) (nI t) x = some (y 3 j, wr x 2 2 ((x 2 2 &&& (((1 : Int32) <<< (nI j &&& 31)) ^^^ (-1))) ||| (nI t <<< (nI j &&& 31)))) := by
            unfold F_X0_setMute
            rw [letv_eq, letm_eq, bit_0 (by omega), (h2 j hj).2]
            rcases (h2 j hj).1 with e | e <;> simp [e]
          have hid : wr y 2 j (y 2 j) = y := by
            funext c i
            rw [wr_b]
            by_cases e : c = 2
            · subst e
              by_cases e2 : i = j
              · subst e2; simp
              · simp [e2]
            · simp [e]
          have hx : F_X9_bell fu (nI j) 1 (nI t) x = F_X0_setMute fu (nI j) (nI t) x := by
            unfold F_X9_bell
            rw [w1 fu x, clp_some, if_neg (by decide), if_neg (by decide), if_pos rfl, hm]
            have ht2 : t = 0 ∨ t = 1 := by omega
            rcases ht2 with rfl | rfl
            · rw [if_pos (show nI 0 = 0 from rfl)]; rfl
            · rw [if_neg (by decide), if_pos (show nI 1 = 1 from rfl)]; rfl
          refine ⟨y 3 j, wr x 2 2 ((x 2 2 &&& (((1 : Int32) <<< (nI j &&& 31)) ^^^ (-1))) ||| (nI t <<< (nI j &&& 31))), wr y 3 j (nI t), by rw [hx, hm], ?_, hS, hA, h1, ?_, h3, h4, h5, h6, h7, h8, h9, h10, h11, h12⟩
          · unfold F_X10_bell
            have hc : ∀ M : Res, chk (nI j) 8 M = M := fun M => chk_ok hj (by omega)
            have hN : (nI j).toNatClampNeg = j := cN (by omega)
            simp (config := { decide := true }) only [w2 fu y, clp_some, i1, jn_eq, u2 fu y, hc, letm_eq, hN, hid, if_true, if_false]
          · intro c hc
            show (upd (y 3) j (nI t) c = 0 ∨ upd (y 3) j (nI t) c = 1) ∧ bt ((x 2 2 &&& (((1 : Int32) <<< (nI j &&& 31)) ^^^ (-1))) ||| (nI t <<< (nI j &&& 31))) c = decide (upd (y 3) j (nI t) c = 1)
            rw [b_or, b_and, b_not (by omega), b_one (by omega) (by omega), b_shl j (by omega) _ (by omega)]
            have ht2 : t = 0 ∨ t = 1 := by omega
            by_cases e : c = j
            · subst e
              rw [upd_s]
              rcases ht2 with rfl | rfl
              · refine ⟨Or.inl rfl, ?_⟩
                have : bt (nI 0) 0 = false := b_0 0
                simp [this]
                decide
              · refine ⟨Or.inr rfl, ?_⟩
                have : bt (nI 1) 0 = true := by decide
                simp [this]
                rfl
            · rw [upd_n e]
              refine ⟨(h2 c hc).1, ?_⟩
              rw [← (h2 c hc).2]
              have hb : (decide (j ≤ c) && bt (nI t) (c - j)) = false := by
                by_cases h : j ≤ c
                · rw [bt_hi (c := t) (n := 1) (by omega) (by omega) (by omega)]; simp
                · simp [h]
              rw [hb]
              simp [e]
        · refine ⟨-1, x, y, ?_, ?_, hR⟩
          · unfold F_X9_bell
            have n0 : ¬ v = 0 := by
              rintro rfl
              rcases u3 with h | h
              · exact absurd h (by decide)
              · exact absurd h (by decide)
            have n1 : ¬ v = 1 := by
              rintro rfl
              rcases u3 with h | h
              · exact absurd h (by decide)
              · exact absurd h (by decide)
            rw [w1 fu x, clp_some, if_neg (by decide), if_neg (by decide), if_pos rfl, if_neg n0, if_neg n1]
          · unfold F_X10_bell; simp (config := { decide := true }) only [w2 fu y, clp_some, i1, jn_eq, u2 fu y, if_true, if_false]
      · refine ⟨-1, x, y, ?_, ?_, hR⟩
        · unfold F_X9_bell; rw [w1 fu x, clp_some, if_neg (by decide), if_neg b0, if_neg b1]
        · unfold F_X10_bell
          rcases dom2 b 2 2 1 rfl rfl (by omega) with ⟨t, ht, rfl, -, -, -, -, -⟩ | ⟨-, u2, -⟩
          · have ht2 : t = 0 ∨ t = 1 := by omega
            rcases ht2 with rfl | rfl
            · exact absurd rfl b0
            · exact absurd rfl b1
          · rw [w2 fu y, clp_some, if_neg (by decide), u2 fu y]; rfl
  · refine ⟨-1, x, y, ?_, ?_, hR⟩
    · unfold F_X9_bell; rw [w1 fu x]; rfl
    · unfold F_X10_bell; rw [w2 fu y]; rfl
theorem S_servant (fu : Nat) : St_servant fu Rel := by
  intro a b v x y hR
  obtain ⟨hS, hA, h1, h2, h3, h4, h5, h6, h7, h8, h9, h10, h11, h12⟩ := id hR
  rcases dom2 a 4 4 3 rfl rfl (by omega) with ⟨f, hf, rfl, w1, w2, -, -, -⟩ | ⟨w1, w2, -⟩
  rotate_left
  · refine ⟨-1, x, y, ?_, ?_, hR⟩
    · unfold F_X9_servant; rw [w1 fu x]; rfl
    · unfold F_X10_servant; rw [w2 fu y]; rfl
  rcases dom2 b 31 31 30 rfl rfl (by omega) with ⟨q, hq, rfl, u1, u2, -, -, -⟩ | ⟨u1, u2, -⟩
  rotate_left
  · refine ⟨-1, x, y, ?_, ?_, hR⟩
    · unfold F_X9_servant; rw [w1 fu x, clp_some, if_neg (by decide), u1 fu x]; rfl
    · unfold F_X10_servant; rw [w2 fu y, clp_some, if_neg (by decide), u2 fu y]; rfl
  rcases dom2 v 32 32 31 rfl rfl (by omega) with ⟨t, ht, rfl, v1, v2, -, -, -⟩ | ⟨v1, v2, -⟩
  rotate_left
  · refine ⟨-1, x, y, ?_, ?_, hR⟩
    · unfold F_X9_servant; rw [w1 fu x, clp_some, if_neg (by decide), u1 fu x, clp_some, if_neg (by decide), v1 fu x]; rfl
    · unfold F_X10_servant; rw [w2 fu y, clp_some, if_neg (by decide), u2 fu y, clp_some, if_neg (by decide), v2 fu y]; rfl
  obtain ⟨S, hS5, hS0, hv, hfree, huniq⟩ := h9
  obtain ⟨s1, s2, s3, s4, s5, s6, s7, s8⟩ := hS
  have hx0 : x 4 0 = nI S := s4.trans hS0
  by_cases hfull : S = 5
  · refine ⟨-3, x, y, ?_, ?_, hR⟩
    · unfold F_X9_servant
      rw [w1 fu x, clp_some, if_neg (by decide), u1 fu x, clp_some, if_neg (by decide), v1 fu x, clp_some, if_neg (by decide), hx0, hfull]
      rfl
    · unfold F_X10_servant
      rw [w2 fu y, clp_some, if_neg (by decide), u2 fu y, clp_some, if_neg (by decide), v2 fu y, clp_some, if_neg (by decide), hS0, hfull]
      rfl
  · have hlt : S < 5 := by omega
    have ex : F_X9_servant fu (nI f) (nI q) (nI t) x = some (nI S, wr (wr (wr (wr (wr x 19 S (nI f)) 20 S (nI q)) 21 S (nI t)) 22 S (-4)) 4 0 (nI (S + 1))) := by
      unfold F_X9_servant F_X5_add
      rw [w1 fu x, clp_some, if_neg (by decide), u1 fu x, clp_some, if_neg (by decide), v1 fu x, clp_some, if_neg (by decide), hx0, if_pos (show nI S < 5 from nI_lt (b := 5) hlt (by omega)), letv_eq, chk_ok hlt (by omega), letm_eq, chk_ok hlt (by omega), letm_eq, chk_ok hlt (by omega), letm_eq, chk_ok hlt (by omega), letm_eq, letm_eq, cl_some', cN (by omega)]
      have e0 : wr (wr (wr (wr x 19 S (nI f)) 20 S (nI q)) 21 S (nI t)) 22 S (-4) 4 0 = nI S := hx0
      rw [e0, nI_1]
    have ey : F_X10_servant fu (nI f) (nI q) (nI t) y = some (nI S, wr (wr (wr (wr y 15 S (nI f)) 16 S (nI q)) 17 S (nI t)) 0 19 (nI (S + 1))) := by
      unfold F_X10_servant
      have e1 : wr y 15 S (nI f) 0 19 = nI S := hS0
      have e2 : wr (wr y 15 S (nI f)) 16 S (nI q) 0 19 = nI S := hS0
      have e3 : wr (wr (wr y 15 S (nI f)) 16 S (nI q)) 17 S (nI t) 0 19 = nI S := hS0
      rw [w2 fu y, clp_some, if_neg (by decide), u2 fu y, clp_some, if_neg (by decide), v2 fu y, clp_some, if_neg (by decide), hS0, if_neg (show ¬ nI S = 5 from lit_ne S 5 (by omega) (by omega) hfull), chk_ok hlt (by omega), letm_eq, cN (by omega), e1, chk_ok hlt (by omega), letm_eq, cN (by omega), e2, chk_ok hlt (by omega), letm_eq, cN (by omega), letm_eq, e3, nI_1, wr_at, nI_pred]
    obtain ⟨a1, a2, a3, a4, a5, a6, a7, a8, a9, a10, a11, a12⟩ := hA
    refine ⟨nI S, _, _, ex, ey, ⟨s1, s2, s3, rfl, s5, s6, s7, s8⟩, ⟨a1, a2, a3, a4, a5, a6, a7, a8, ?_, ?_, ?_, a12⟩, h1, h2, h3, h4, h5, h6, h7, h8, ?_, ?_, h11, h12⟩
    · show upd (x 19) S (nI f) = upd (y 15) S (nI f); rw [a9]
    · show upd (x 20) S (nI q) = upd (y 16) S (nI q); rw [a10]
    · show upd (x 21) S (nI t) = upd (y 17) S (nI t); rw [a11]
    · refine ⟨S + 1, by omega, rfl, fun s hs => ?_, fun s h1 h2 => hfree s (by omega) h2, fun s u hs hu e hn => ?_⟩
      · show (∃ f', f' ≤ 3 ∧ upd (y 15) S (nI f) s = nI f') ∧ (∃ q', q' ≤ 30 ∧ upd (y 16) S (nI q) s = nI q') ∧ (∃ t', t' < 32 ∧ upd (y 17) S (nI t) s = nI t') ∧ upd (x 22) S (-4) s = y 18 s ∧ (y 18 s = -4 ∨ ∃ p, nI p < y 0 4 ∧ p < 12 ∧ y 18 s = nI p)
        by_cases e : s = S
        · subst e
          rw [upd_s, upd_s, upd_s, upd_s]
          exact ⟨⟨f, by omega, rfl⟩, ⟨q, by omega, rfl⟩, ⟨t, ht, rfl⟩, (hfree s (Nat.le_refl _) (by omega)).symm, Or.inl (hfree s (Nat.le_refl _) (by omega))⟩
        · rw [upd_n e, upd_n e, upd_n e, upd_n e]
          exact hv s (by omega)
      · have hs4 : ∀ s, ¬ y 18 s < 0 → s < S + 1 → s < S := by
          intro s h1 h2
          rcases Nat.lt_or_ge s S with h | h
          · exact h
          · exact absurd (by rw [hfree s h (by omega)]; decide) h1
        have hn' : ¬ y 18 s < 0 := hn
        have e' : y 18 s = y 18 u := e
        exact huniq s u (hs4 s hn' hs) (hs4 u (by rw [← e']; exact hn') hu) e' hn'
    · intro p hp
      obtain ⟨c1, c2, c3, c4, c5, c6⟩ := h10 p hp
      refine ⟨c1, c2, c3, ?_, c5, c6⟩
      refine Iff.trans c4 ?_
      constructor
      · rintro ⟨s, e1, e2, e3⟩
        refine ⟨s, ?_, e2, e3⟩
        rw [hS0, nI_ltI (by omega) (by omega)] at e1
        show nI s < nI (S + 1)
        exact nI_lt (by omega) (by omega)
      · rintro ⟨s, e1, e2, e3⟩
        have e1 : nI s < nI (S + 1) := e1
        rw [nI_ltI (by omega) (by omega)] at e1
        refine ⟨s, ?_, e2, e3⟩
        rw [hS0]
        refine nI_lt ?_ (by omega)
        rcases Nat.lt_or_ge s S with h | h
        · exact h
        · exfalso
          have e3 : y 18 s = nI p := e3
          rw [hfree s h e2] at e3
          have := nI_pos (n := p) (by omega)
          rw [← e3] at this
          exact this (by decide)
theorem has_of {fu : Nat} {x y : Mem} {v : Int32} {P : Nat} (hP : P ≤ 12) (hx : x 1 0 = nI P) (hy : y 0 4 = nI P) : (∃ j, j < P ∧ v = nI j ∧ F_X4_has fu v x = some 1 ∧ F_X10_isPull fu v y = some 1) ∨ (F_X4_has fu v x = some 0 ∧ F_X10_isPull fu v y = some 0 ∧ (v < 0 ∨ nI P ≤ v)) := by
  rcases dom v P (by omega) with ⟨j, hj, rfl, w1, w2⟩ | ⟨w1, w2, w3⟩
  · refine Or.inl ⟨j, hj, rfl, ?_, ?_⟩
    · unfold F_X4_has; rw [hx, w1 fu x]; rfl
    · unfold F_X10_isPull; rw [hy, w2 fu y]; rfl
  · refine Or.inr ⟨?_, ?_, w3⟩
    · unfold F_X4_has; rw [hx, w1 fu x]; rfl
    · unfold F_X10_isPull; rw [hy, w2 fu y]; rfl
theorem isServant_of {fu : Nat} {x y : Mem} {v : Int32} {S : Nat} (hS : S ≤ 5) (hx : x 4 0 = nI S) (hy : y 0 19 = nI S) : (∃ j, j < S ∧ v = nI j ∧ F_X9_within fu v (x 4 0) x = some 1 ∧ F_X10_isServant fu v y = some 1) ∨ (F_X9_within fu v (x 4 0) x = some 0 ∧ F_X10_isServant fu v y = some 0) := by
  rcases dom v S (by omega) with ⟨j, hj, rfl, w1, w2⟩ | ⟨w1, w2, w3⟩
  · refine Or.inl ⟨j, hj, rfl, ?_, ?_⟩
    · rw [hx, w1 fu x]
    · unfold F_X10_isServant; rw [hy, w2 fu y]; rfl
  · refine Or.inr ⟨?_, ?_⟩
    · rw [hx, w1 fu x]
    · unfold F_X10_isServant; rw [hy, w2 fu y]; rfl
theorem S_takeBack (fu : Nat) : St_takeBack fu Rel := by
  intro a x y hR
  obtain ⟨hS, hA, h1, h2, h3, h4, h5, h6, h7, h8, h9, h10, h11, h12⟩ := id hR
  obtain ⟨P, hP, hP0, hPr⟩ := id h1
  obtain ⟨s1, s2, s3, s4, s5, s6, s7, s8⟩ := hS
  rcases has_of (fu := fu) (v := a) hP (s1.trans hP0) hP0 with ⟨p, hp, rfl, w1, w2⟩ | ⟨w1, w2, -⟩
  · obtain ⟨c1, c2, c3, c4, c5, c6⟩ := h10 p (by omega)
    by_cases hw : x 25 p = 1
    · have hn := c2.mp hw
      have e26 := c3 hw
      have ex : F_X9_takeBack fu (nI p) x = some (y 0 26 - y 11 p, wr (wr x 25 p 0) 5 6 (x 5 6 + 1)) := by
        unfold F_X9_takeBack F_X1_isWaiting F_X1_drop
        rw [w1, clp_some, if_neg (by decide), chk_ok (by omega) (by omega), cN (by omega), hw, if_pos rfl, retzp_1, clp_some, if_neg (by decide), chk_ok (by omega) (by omega), letv_eq, chk_ok (by omega) (by omega), letm_eq, letm_eq, cl_some', e26, s5]
        rfl
      have ey : F_X10_takeBack fu (nI p) y = some (y 0 26 - y 11 p, wr (wr y 11 p (-1)) 0 18 (y 0 18 + 1)) := by
        unfold F_X10_takeBack
        rw [w2, clp_some, if_neg (by decide), chk_ok (by omega) (by omega), cN (by omega), if_pos (le_of_nlt hn), chk_ok (by omega) (by omega), letv_eq, chk_ok (by omega) (by omega), letm_eq, letm_eq]
        rfl
      refine ⟨_, _, _, ex, ey, ⟨s1, s2, s3, s4, s5, s6, ?_, s8⟩, hA, h1, h2, h3, h4, h5, h6, h7, h8, h9, ?_, h11, h12⟩
      · show x 5 6 + 1 = y 0 18 + 1; rw [s7]
      · intro q hq
        obtain ⟨d1, d2, d3, d4, d5, d6⟩ := h10 q hq
        show (upd (x 25) p 0 q = 0 ∨ upd (x 25) p 0 q = 1 ∨ upd (x 25) p 0 q = 2) ∧ (upd (x 25) p 0 q = 1 ↔ ¬ upd (y 11) p (-1) q < 0) ∧ (upd (x 25) p 0 q = 1 → x 26 q = upd (y 11) p (-1) q) ∧ (upd (x 25) p 0 q = 2 ↔ ∃ s, nI s < y 0 19 ∧ s < 5 ∧ y 18 s = nI q) ∧ (upd (y 11) p (-1) q = -1 ∨ ∃ t, nI t ≤ y 0 26 ∧ t ≤ 5000 ∧ upd (y 11) p (-1) q = nI t) ∧ (y 0 4 ≤ nI q → upd (x 25) p 0 q = 0)
        by_cases e : q = p
        · subst e
          rw [upd_s, upd_s]
          refine ⟨Or.inl rfl, ?_, ?_, ?_, Or.inl rfl, fun _ => rfl⟩
          · exact ⟨fun h => absurd h (by decide), fun h => absurd (by decide) h⟩
          · intro h; exact absurd h (by decide)
          · constructor
            · intro h; exact absurd h (by decide)
            · intro h; exact absurd (hw.symm.trans (d4.mpr h)) (by decide)
        · rw [upd_n e, upd_n e]
          exact ⟨d1, d2, d3, d4, d5, d6⟩
    · refine ⟨-2, x, y, ?_, ?_, hR⟩
      · unfold F_X9_takeBack F_X1_isWaiting
        rw [w1, clp_some, if_neg (by decide), chk_ok (by omega) (by omega), cN (by omega), if_neg hw]
        rfl
      · unfold F_X10_takeBack
        rw [w2, clp_some, if_neg (by decide), chk_ok (by omega) (by omega), cN (by omega), if_neg]
        intro h
        exact hw (c2.mpr (nlt_of_le h))
  · refine ⟨-1, x, y, ?_, ?_, hR⟩
    · unfold F_X9_takeBack; rw [w1]; rfl
    · unfold F_X10_takeBack; rw [w2]; rfl

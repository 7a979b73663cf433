/-! ===== pull ===== -/
theorem EXP_congr {T : Nat} {y22 y23 y24 y7 y8 z7 z8 : Nat → Int32} (h : ∀ k, k < T → z7 (y22 k).toNatClampNeg = y7 (y22 k).toNatClampNeg ∧ z8 (y22 k).toNatClampNeg = y8 (y22 k).toNatClampNeg) (f : Nat) : EXP T y22 y23 y24 z7 z8 f ↔ EXP T y22 y23 y24 y7 y8 f := by
  constructor
  · intro H k hk
    have := H k hk
    rw [(h k hk).1, (h k hk).2] at this
    exact this
  · intro H k hk
    rw [(h k hk).1, (h k hk).2]
    exact H k hk
theorem lt_of_nI {a b : Nat} {v : Int32} (hv : v = nI b) (ha : a < 2 ^ 31) (hb : b < 2 ^ 31) : nI a < v ↔ a < b := by rw [hv]; exact nI_ltI ha hb
theorem S_pull (fu : Nat) (hfu : 100 ≤ fu) : St_pull fu Rel := by
  intro a b r w v x y hR
  obtain ⟨hS, hA, h1, h2, h3, h4, h5, h6, h7, h8, h9, h10, h11, h12⟩ := id hR
  rcases dom2 a 4 4 3 rfl rfl (by omega) with ⟨fl, hfl, rfl, p1, q1, -, -, -⟩ | ⟨p1, q1, -⟩
  rotate_left
  · refine ⟨-1, x, y, ?_, ?_, hR⟩
    · unfold F_X9_pull; rw [p1 fu x]; rfl
    · unfold F_X10_pull; rw [q1 fu y]; rfl
  rcases dom2 b 31 31 30 rfl rfl (by omega) with ⟨pl, hpl, rfl, p2, q2, -, -, -⟩ | ⟨p2, q2, -⟩
  rotate_left
  · refine ⟨-1, x, y, ?_, ?_, hR⟩
    · unfold F_X9_pull; rw [p1 fu x, clp_some, if_neg (by decide), p2 fu x]; rfl
    · unfold F_X10_pull; rw [q1 fu y, clp_some, if_neg (by decide), q2 fu y]; rfl
  rcases dom2 r 5 5 4 rfl rfl (by omega) with ⟨rk, hrk, rfl, p3, q3, -, -, -⟩ | ⟨p3, q3, -⟩
  rotate_left
  · refine ⟨-1, x, y, ?_, ?_, hR⟩
    · unfold F_X9_pull; rw [p1 fu x, clp_some, if_neg (by decide), p2 fu x, clp_some, if_neg (by decide), p3 fu x]; rfl
    · unfold F_X10_pull; rw [q1 fu y, clp_some, if_neg (by decide), q2 fu y, clp_some, if_neg (by decide), q3 fu y]; rfl
  rcases dom2 w 8 8 7 rfl rfl (by omega) with ⟨be, hbe, rfl, p4, q4, -, -, -⟩ | ⟨p4, q4, -⟩
  rotate_left
  · refine ⟨-1, x, y, ?_, ?_, hR⟩
    · unfold F_X9_pull; rw [p1 fu x, clp_some, if_neg (by decide), p2 fu x, clp_some, if_neg (by decide), p3 fu x, clp_some, if_neg (by decide), p4 fu x]; rfl
    · unfold F_X10_pull; rw [q1 fu y, clp_some, if_neg (by decide), q2 fu y, clp_some, if_neg (by decide), q3 fu y, clp_some, if_neg (by decide), q4 fu y]; rfl
  rcases dom2 v 65536 65536 65535 rfl (by decide) (by omega) with ⟨c, hc, rfl, p5, q5, n0, -, nle⟩ | ⟨p5, q5, n0⟩
  rotate_left
  · refine ⟨-1, x, y, ?_, ?_, hR⟩
    · unfold F_X9_pull; rw [p1 fu x, clp_some, if_neg (by decide), p2 fu x, clp_some, if_neg (by decide), p3 fu x, clp_some, if_neg (by decide), p4 fu x, clp_some, if_neg (by decide), p5 fu x]; rfl
    · have q6 : F_X10_in fu v 1 65535 y = some 0 := in_f (n0.imp (fun h => by
        rw [Int32.lt_iff_toInt_lt] at h ⊢
        have e0 : (0 : Int32).toInt = 0 := rfl
        have e1 : (1 : Int32).toInt = 1 := rfl
        omega) id)
      unfold F_X10_pull; rw [q1 fu y, clp_some, if_neg (by decide), q2 fu y, clp_some, if_neg (by decide), q3 fu y, clp_some, if_neg (by decide), q4 fu y, clp_some, if_neg (by decide), q6]; rfl
  have hbc : F_J6_bitCount_0f7a4 fu (nI c) x = some (popI (nI c)) := bitCount_eq (by omega)
  have hbi : F_X10_bits fu (nI c) y = some (popI (nI c)) := bits_eq hfu _ _
  obtain ⟨k, hk, ek⟩ := popI_small (nI c)
  by_cases hc0 : c = 0
  · subst hc0
    have hz : popI (nI 0) = 0 := by decide +kernel
    refine ⟨-1, x, y, ?_, ?_, hR⟩
    · unfold F_X9_pull
      rw [p1 fu x, clp_some, if_neg (by decide), p2 fu x, clp_some, if_neg (by decide), p3 fu x, clp_some, if_neg (by decide), p4 fu x, clp_some, if_neg (by decide), p5 fu x, clp_some, if_neg (by decide), hbc, hz]
      rfl
    · unfold F_X10_pull
      rw [q1 fu y, clp_some, if_neg (by decide), q2 fu y, clp_some, if_neg (by decide), q3 fu y, clp_some, if_neg (by decide), q4 fu y, clp_some, if_neg (by decide), show F_X10_in fu (nI 0) 1 65535 y = some 0 from in_f (Or.inl (by decide))]
      rfl
  have q6 : F_X10_in fu (nI c) 1 65535 y = some 1 := in_t (show ¬ nI c < 1 from nI_nlt (b := 1) (by omega) (by omega)) (nlt_of_le nle)
  have hk0 : 0 < k := by
    rcases Nat.eq_zero_or_pos k with h | h
    · exfalso
      rw [h] at ek
      have e0 : popL (nI c) 24 = 0 := by
        unfold popI at ek
        exact nI_inj (by have := popL_le (nI c) 24; omega) (by omega) ek
      have hall : ∀ n, popL (nI c) n = 0 → ∀ i, i < n → bt (nI c) i = false := by
        intro n
        induction n with
        | zero => intro _ i hi; omega
        | succ n ih =>
          intro h i hi
          have hp : popL (nI c) (n + 1) = popL (nI c) n + (if bt (nI c) n then 1 else 0) := rfl
          rw [hp] at h
          by_cases e : i = n
          · subst e
            cases hb : bt (nI c) i
            · rfl
            · rw [hb] at h; simp at h
          · exact ih (by omega) i (by omega)
      have : nI c = 0 := by
        rw [b_zero_iff]
        intro i hi
        rcases Nat.lt_or_ge i 24 with h1 | h1
        · exact hall 24 e0 i h1
        · exact bt_hi (n := 16) (by omega) (by omega) (by omega)
      exact hc0 (nI_inj (by omega) (by omega) (show nI c = nI 0 from this))
    · exact h
  by_cases hk5 : k ≤ 5
  rotate_left
  · refine ⟨-1, x, y, ?_, ?_, hR⟩
    · unfold F_X9_pull
      rw [p1 fu x, clp_some, if_neg (by decide), p2 fu x, clp_some, if_neg (by decide), p3 fu x, clp_some, if_neg (by decide), p4 fu x, clp_some, if_neg (by decide), p5 fu x, clp_some, if_neg (by decide), hbc, clp_some, ek, if_neg (show ¬ nI k < 1 from nI_nlt (b := 1) (by omega) (by omega)), if_neg (show ¬ nI k ≤ 5 from nI_ge (a := 5) (by omega) (by omega))]
    · unfold F_X10_pull
      rw [q1 fu y, clp_some, if_neg (by decide), q2 fu y, clp_some, if_neg (by decide), q3 fu y, clp_some, if_neg (by decide), q4 fu y, clp_some, if_neg (by decide), q6, clp_some, if_neg (by decide), hbi, clp_some, ek, if_neg (show ¬ nI k ≤ 5 from nI_ge (a := 5) (by omega) (by omega))]
  obtain ⟨P, hP, hP0, hPr⟩ := id h1
  obtain ⟨s1, s2, s3, s4, s5, s6, s7, s8⟩ := hS
  have hx0 : x 1 0 = nI P := s1.trans hP0
  by_cases hfull : P = 12
  · refine ⟨-3, x, y, ?_, ?_, hR⟩
    · unfold F_X9_pull
      rw [p1 fu x, clp_some, if_neg (by decide), p2 fu x, clp_some, if_neg (by decide), p3 fu x, clp_some, if_neg (by decide), p4 fu x, clp_some, if_neg (by decide), p5 fu x, clp_some, if_neg (by decide), hbc, clp_some, ek, if_neg (show ¬ nI k < 1 from nI_nlt (b := 1) (by omega) (by omega)), if_pos (show nI k ≤ 5 from nI_le (b := 5) (by omega) (by omega)), hx0, hfull]
      rfl
    · unfold F_X10_pull
      rw [q1 fu y, clp_some, if_neg (by decide), q2 fu y, clp_some, if_neg (by decide), q3 fu y, clp_some, if_neg (by decide), q4 fu y, clp_some, if_neg (by decide), q6, clp_some, if_neg (by decide), hbi, clp_some, ek, if_pos (show nI k ≤ 5 from nI_le (b := 5) (by omega) (by omega)), hP0, hfull]
      rfl
  have hlt : P < 12 := by omega
  have ex : F_X9_pull fu (nI fl) (nI pl) (nI rk) (nI be) (nI c) x = some (nI P, wr (wr (wr (wr (wr (wr x 10 P (nI fl)) 11 P (nI pl)) 12 P (nI rk)) 13 P (nI be)) 14 P (nI c)) 1 0 (nI (P + 1))) := by
    unfold F_X9_pull F_X4_add
    rw [p1 fu x, clp_some, if_neg (by decide), p2 fu x, clp_some, if_neg (by decide), p3 fu x, clp_some, if_neg (by decide), p4 fu x, clp_some, if_neg (by decide), p5 fu x, clp_some, if_neg (by decide), hbc, clp_some, ek, if_neg (show ¬ nI k < 1 from nI_nlt (b := 1) (by omega) (by omega)), if_pos (show nI k ≤ 5 from nI_le (b := 5) (by omega) (by omega)), hx0, if_pos (show nI P < 12 from nI_lt (b := 12) hlt (by omega)), letv_eq, chk_ok hlt (by omega), letm_eq, chk_ok hlt (by omega), letm_eq, chk_ok hlt (by omega), letm_eq, chk_ok hlt (by omega), letm_eq, chk_ok hlt (by omega), letm_eq, letm_eq, cl_some', cN (by omega)]
    have e0 : wr (wr (wr (wr (wr x 10 P (nI fl)) 11 P (nI pl)) 12 P (nI rk)) 13 P (nI be)) 14 P (nI c) 1 0 = nI P := hx0
    rw [e0, nI_1]
  have ey : F_X10_pull fu (nI fl) (nI pl) (nI rk) (nI be) (nI c) y = some (nI P, wr (wr (wr (wr (wr (wr y 4 P (nI fl)) 5 P (nI pl)) 6 P (nI rk)) 7 P (nI be)) 8 P (nI c)) 0 4 (nI (P + 1))) := by
    unfold F_X10_pull
    have e1 : wr y 4 P (nI fl) 0 4 = nI P := hP0
    have e2 : wr (wr y 4 P (nI fl)) 5 P (nI pl) 0 4 = nI P := hP0
    have e3 : wr (wr (wr y 4 P (nI fl)) 5 P (nI pl)) 6 P (nI rk) 0 4 = nI P := hP0
    have e4 : wr (wr (wr (wr y 4 P (nI fl)) 5 P (nI pl)) 6 P (nI rk)) 7 P (nI be) 0 4 = nI P := hP0
    have e5 : wr (wr (wr (wr (wr y 4 P (nI fl)) 5 P (nI pl)) 6 P (nI rk)) 7 P (nI be)) 8 P (nI c) 0 4 = nI P := hP0
    rw [q1 fu y, clp_some, if_neg (by decide), q2 fu y, clp_some, if_neg (by decide), q3 fu y, clp_some, if_neg (by decide), q4 fu y, clp_some, if_neg (by decide), q6, clp_some, if_neg (by decide), hbi, clp_some, ek, if_pos (show nI k ≤ 5 from nI_le (b := 5) (by omega) (by omega)), hP0, if_neg (show ¬ nI P = 12 from lit_ne P 12 (by omega) (by omega) hfull), chk_ok hlt (by omega), letm_eq, cN (by omega), e1, chk_ok hlt (by omega), letm_eq, cN (by omega), e2, chk_ok hlt (by omega), letm_eq, cN (by omega), e3, chk_ok hlt (by omega), letm_eq, cN (by omega), e4, chk_ok hlt (by omega), letm_eq, cN (by omega), letm_eq, e5, nI_1, wr_at, nI_pred]
  obtain ⟨a1, a2, a3, a4, a5, a6⟩ := hA
  refine ⟨nI P, _, _, ex, ey, ⟨rfl, s2, s3, s4, s5, s6, s7, s8⟩, ⟨?_, ?_, ?_, ?_, ?_, a6⟩, ?_, h2, h3, h4, h5, h6, h7, h8, ?_, ?_, ?_, h12⟩
  · show upd (x 10) P (nI fl) = upd (y 4) P (nI fl); rw [a1]
  · show upd (x 11) P (nI pl) = upd (y 5) P (nI pl); rw [a2]
  · show upd (x 12) P (nI rk) = upd (y 6) P (nI rk); rw [a3]
  · show upd (x 13) P (nI be) = upd (y 7) P (nI be); rw [a4]
  · show upd (x 14) P (nI c) = upd (y 8) P (nI c); rw [a5]
  · refine ⟨P + 1, by omega, rfl, fun p hp => ?_⟩
    show (∃ f, f ≤ 3 ∧ upd (y 4) P (nI fl) p = nI f) ∧ (∃ q, q ≤ 30 ∧ upd (y 5) P (nI pl) p = nI q) ∧ (∃ r, r ≤ 4 ∧ upd (y 6) P (nI rk) p = nI r) ∧ (∃ b, b ≤ 7 ∧ upd (y 7) P (nI be) p = nI b) ∧ (∃ d, d < 65536 ∧ upd (y 8) P (nI c) p = nI d)
    by_cases e : p = P
    · subst e
      rw [upd_s, upd_s, upd_s, upd_s, upd_s]
      exact ⟨⟨fl, by omega, rfl⟩, ⟨pl, by omega, rfl⟩, ⟨rk, by omega, rfl⟩, ⟨be, by omega, rfl⟩, ⟨c, hc, rfl⟩⟩
    · rw [upd_n e, upd_n e, upd_n e, upd_n e, upd_n e]
      exact hPr p (by omega)
  · obtain ⟨S, hS5, hS0, hv, hfree, huniq⟩ := h9
    refine ⟨S, hS5, hS0, fun s hs => ?_, hfree, huniq⟩
    obtain ⟨g1, g2, g3, g4, g5⟩ := hv s hs
    refine ⟨g1, g2, g3, g4, g5.imp id (fun ⟨p, h1, h2, h3⟩ => ⟨p, ?_, h2, h3⟩)⟩
    rw [lt_of_nI hP0 (by omega) (by omega)] at h1
    show nI p < nI (P + 1)
    exact nI_lt (by omega) (by omega)
  · intro p hp
    obtain ⟨c1, c2, c3, c4, c5, c6⟩ := h10 p hp
    refine ⟨c1, c2, c3, c4, c5, fun h => c6 ?_⟩
    have h : nI (P + 1) ≤ nI p := h
    rw [nI_leI (by omega) (by omega)] at h
    rw [hP0]
    exact nI_le (by omega) (by omega)
  · obtain ⟨T, n, hT, hT0, hn, hn0, hr, g, g1, g2, g3⟩ := h11
    have hE : ∀ f, EXP T (y 22) (y 23) (y 24) (upd (y 7) P (nI be)) (upd (y 8) P (nI c)) f ↔ EXP T (y 22) (y 23) (y 24) (y 7) (y 8) f := by
      intro f
      refine EXP_congr (fun k hk => ?_) f
      obtain ⟨⟨p, hp1, hp2, hp3⟩, -⟩ := hr k hk
      rw [lt_of_nI hP0 (by omega) (by omega)] at hp2
      rw [hp3, cN (by omega), upd_n (by omega), upd_n (by omega)]
      exact ⟨rfl, rfl⟩
    refine ⟨T, n, hT, hT0, hn, hn0, fun k hk => ?_, g, fun i hi => ?_, g2, fun f hf he => g3 f hf ((hE f).mp he)⟩
    · obtain ⟨⟨p, hp1, hp2, hp3⟩, hp4⟩ := hr k hk
      refine ⟨⟨p, hp1, ?_, hp3⟩, hp4⟩
      rw [lt_of_nI hP0 (by omega) (by omega)] at hp2
      show nI p < nI (P + 1)
      exact nI_lt (by omega) (by omega)
    · obtain ⟨i1, i2, i3⟩ := g1 i hi
      exact ⟨i1, i2, (hE _).mpr i3⟩

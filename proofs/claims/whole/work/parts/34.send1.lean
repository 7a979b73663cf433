/-! ===== an errand begins ===== -/
theorem imax_if (a D : Int32) : imax a D = if D ≤ a then a else D := by
  unfold imax
  by_cases h : D ≤ a
  · rw [if_pos h, if_neg (nlt_of_le h)]
  · rw [if_neg h, if_pos]
    rcases Classical.em (a < D) with h2 | h2
    · exact h2
    · exact absurd (le_of_nlt h2) h
theorem send_both {fu P S s p : Nat} {x y : Mem} (hR : Rel x y) (hP : P ≤ 12) (hP0 : y 0 4 = nI P) (hS : S ≤ 5) (hS0 : y 0 19 = nI S) (hs : s < S) (hp : p < P) (hf : y 18 s = -4) (hw : x 25 p = 1) : ∃ x' y' : Mem, F_X6_sendOne fu (nI s) (nI p) x = some (0, x') ∧ F_X10_goes fu (nI s) (nI p) y = some (0, y') ∧ Rel x' y' ∧ (∀ b, b < 22 ∨ 29 < b → x' b = x b) ∧ (∀ b, b < 11 ∨ 20 < b → y' b = y b) ∧ y' 18 = upd (y 18) s (nI p) ∧ x' 25 = upd (x 25) p 2 ∧ y' 11 = upd (y 11) p (-1) ∧ y' 15 = y 15 ∧ y' 16 = y 16 ∧ y' 17 = y 17 := by
  obtain ⟨hS', hA, h1, h2, h3, h4, h5, h6, h7, h8, h9, h10, h11, h12⟩ := id hR
  obtain ⟨s1, s2, s3, s4, s5, s6, s7, s8⟩ := id hS'
  obtain ⟨a10, a11, a12, a13, a14, a15, a16, a17, a19, a20, a21, a23, a24, a27, a28, a29⟩ := id hA
  have hc : ∀ M : Res, chk (nI s) 5 M = M := fun M => chk_ok (by omega) (by omega)
  have hd : ∀ M : Res, chk (nI p) 12 M = M := fun M => chk_ok (by omega) (by omega)
  have cs := cN (show s < 2 ^ 31 by omega)
  have cp := cN (show p < 2 ^ 31 by omega)
  have w1 : F_X9_within fu (nI s) (x 4 0) x = some 1 := by
    rcases isServant_of (fu := fu) (v := nI s) hS (s4.trans hS0) hS0 with ⟨j, -, -, w, -⟩ | ⟨w, -⟩
    · exact w
    · exfalso
      rw [s4, hS0] at w
      unfold F_X9_within at w
      rw [if_neg (nI_pos (by omega)), if_neg (nI_ge (by omega) (by omega))] at w
      cases w
  have w2 : F_X4_has fu (nI p) x = some 1 := by
    rcases has_of (fu := fu) (v := nI p) hP (s1.trans hP0) hP0 with ⟨j, -, -, w, -⟩ | ⟨-, -, w⟩
    · exact w
    · rcases w with w | w
      · exact absurd w (nI_pos (by omega))
      · exact absurd w (nI_ge (by omega) (by omega))
  have e26 := (h10 p (by omega)).2.2.1 hw
  have hW := way_x (fu := fu) hR hP hP0 hS hS0 hs hp
  have hWy := wayOf_eq (fu := fu) (y := y) (s := s) (p := p) (by omega) (by omega)
  generalize WAY (y 15 s) (y 16 s) (y 4 p) (y 5 p) = W at hW hWy
  generalize hD : (y 0 26 - y 11 p) + W = D
  have ex : F_X6_sendOne fu (nI s) (nI p) x = some (0, wr (wr (wr (wr (wr (wr (wr x 22 s (nI p)) 23 s ((y 0 26 + W) + 3)) 24 s (x 24 s + 1)) 25 p 2) 27 p (x 27 p + 1)) 28 p (x 28 p + D)) 29 p (imax (x 29 p) D)) := by
    rw [← hD, ← s5, ← e26]
    unfold F_X6_sendOne F_X1_startErrand
    simp only [w1, w2, clp_some, cp, cs, hW, letm_eq, hc, hd]
    rfl
  have ey : F_X10_goes fu (nI s) (nI p) y = some (0, wr (wr (wr (wr (wr (wr (wr y 18 s (nI p)) 19 s ((y 0 26 + W) + 3)) 20 s (y 20 s + 1)) 11 p (-1)) 12 p (y 12 p + 1)) 13 p (y 13 p + D)) 14 p (if D ≤ y 14 p then y 14 p else D)) := by
    rw [← hD]
    unfold F_X10_goes
    simp only [hWy, clp_some, cp, cs, letm_eq, letv_eq, hc, hd]
    by_cases h : (y 0 26 - y 11 p) + W ≤ y 14 p
    · rw [if_pos h]
      exact if_pos h
    · rw [if_neg h]
      exact if_neg h
  refine ⟨_, _, ex, ey, ⟨⟨s1, s2, s3, s4, s5, s6, s7, s8⟩, ⟨a10, a11, a12, a13, a14, a15, a16, a17, a19, a20, a21, ?_, ?_, ?_, ?_, ?_⟩, h1, h2, h3, h4, h5, h6, h7, h8, ?_, ?_, h11, h12⟩, ?_, ?_, rfl, rfl, rfl, rfl, rfl, rfl⟩
  · show upd (x 23) s _ = upd (y 19) s _; rw [a23]
  · show upd (x 24) s (x 24 s + 1) = upd (y 20) s (y 20 s + 1); rw [a24]
  · show upd (x 27) p (x 27 p + 1) = upd (y 12) p (y 12 p + 1); rw [a27]
  · show upd (x 28) p (x 28 p + D) = upd (y 13) p (y 13 p + D); rw [a28]
  · show upd (x 29) p (imax (x 29 p) D) = upd (y 14) p (if D ≤ y 14 p then y 14 p else D); rw [a29, imax_if]
  · show RSv (upd (x 22) s (nI p)) (y 0 4) (y 0 19) (y 15) (y 16) (y 17) (upd (y 18) s (nI p))
    obtain ⟨S', hS5, hS0', hv, hq, hu⟩ := h9
    have : S' = S := nI_inj (by omega) (by omega) (hS0'.symm.trans hS0)
    subst this
    have fresh : ∀ t, t < S' → ¬ y 18 t = nI p := fun t ht e => by
      have := (h10 p (by omega)).2.2.2.1.mpr ⟨t, by rw [hS0']; exact nI_lt ht (by omega), by omega, e⟩
      rw [hw] at this
      exact absurd this (by decide)
    refine ⟨S', hS5, hS0', fun t ht => ?_, fun t h1 h2 => by rw [upd_n (by omega)]; exact hq t h1 h2, fun t t' ht ht' e hn => ?_⟩
    · obtain ⟨b1, b2, b3, b4, b5⟩ := hv t ht
      by_cases e : t = s
      · subst e
        rw [upd_s, upd_s]
        exact ⟨b1, b2, b3, rfl, Or.inr ⟨p, by rw [hP0]; exact nI_lt hp (by omega), by omega, rfl⟩⟩
      · rw [upd_n e, upd_n e]
        exact ⟨b1, b2, b3, b4, b5⟩
    · by_cases e1 : t = s
      · by_cases e2 : t' = s
        · rw [e1, e2]
        · rw [e1, upd_s, upd_n e2] at e
          exact absurd e.symm (fresh t' ht')
      · by_cases e2 : t' = s
        · rw [e2, upd_s, upd_n e1] at e
          exact absurd e (fresh t ht)
        · rw [upd_n e1, upd_n e2] at e
          rw [upd_n e1] at hn
          exact hu t t' ht ht' e hn
  · show RCl (upd (x 25) p 2) (x 26) (y 0 4) (y 0 19) (y 0 26) (upd (y 11) p (-1)) (upd (y 18) s (nI p))
    intro q hq
    obtain ⟨d1, d2, d3, d4, d5, d6⟩ := h10 q hq
    by_cases e : q = p
    · subst e
      rw [upd_s, upd_s]
      refine ⟨Or.inr (Or.inr rfl), ⟨fun h => absurd h (by decide), fun h => absurd (by decide) h⟩, fun h => absurd h (by decide), ⟨fun _ => ⟨s, by rw [hS0]; exact nI_lt hs (by omega), by omega, upd_s⟩, fun _ => rfl⟩, Or.inl rfl, fun h => ?_⟩
      rw [hP0] at h
      exact absurd h (nI_ge hp (by omega))
    · rw [upd_n e, upd_n e]
      refine ⟨d1, d2, d3, ?_, d5, d6⟩
      rw [d4]
      constructor
      · rintro ⟨t, t1, t2, t3⟩
        have : ¬ t = s := by
          intro e2
          rw [e2, hf] at t3
          exact nI_nm4 (by omega) t3.symm
        exact ⟨t, t1, t2, by rw [upd_n this]; exact t3⟩
      · rintro ⟨t, t1, t2, t3⟩
        by_cases e2 : t = s
        · rw [e2, upd_s] at t3
          exact absurd (nI_inj (by omega) (by omega) t3).symm e
        · rw [upd_n e2] at t3
          exact ⟨t, t1, t2, t3⟩
  · intro b hb
    rw [wr_ne (by omega), wr_ne (by omega), wr_ne (by omega), wr_ne (by omega), wr_ne (by omega), wr_ne (by omega), wr_ne (by omega)]
  · intro b hb
    rw [wr_ne (by omega), wr_ne (by omega), wr_ne (by omega), wr_ne (by omega), wr_ne (by omega), wr_ne (by omega), wr_ne (by omega)]
theorem cntL_drop {f g : Nat → Bool} {s : Nat} (hf : f s = true) (hg : g s = false) (h : ∀ i, i ≠ s → g i = f i) : ∀ n, s < n → cntL g n + 1 = cntL f n := by
  intro n
  induction n with
  | zero => intro h; omega
  | succ n ih =>
    intro hn
    rw [cntL_s, cntL_s]
    by_cases e : s = n
    · subst e
      rw [hf, hg, cntL_congr s (f := g) (g := f) (fun i hi => h i (by omega))]
      simp
    · rw [h n (by omega), ← ih (by omega)]
      omega
theorem e_pass {fu S : Nat} (hfu : 100 ≤ fu) (hS : S ≤ 5) (K : Mem → Res) : ∀ (d k n m : Nat) (x y : Mem), k + d = S → d < n → d + 1 < m → Rel x y → y 0 19 = nI S → cntL (fun s => decide (y 18 s = -4)) S ≤ d → ∃ x' y', L_X6_sendWhileAnyCan_2 fu n (nI k) x (fun x_4 => (some (0, x_4))) = some (0, x') ∧ L_X10_passes_2 fu m 1 y K = K y' ∧ Rel x' y' ∧ y' 0 = y 0 := by
  intro d
  induction d with
  | zero =>
    intro k n m x y hk hn hm hR hS0 hc
    obtain ⟨n, rfl⟩ : ∃ z, n = z + 1 := ⟨n - 1, by omega⟩
    obtain ⟨m, rfl⟩ : ∃ z, m = z + 1 + 1 := ⟨m - 2, by omega⟩
    have : k = S := by omega
    subst this
    obtain ⟨P, -, hP, -, hxP, hP0, -, -⟩ := vw hR
    refine ⟨x, y, ?_, ?_, hR, rfl⟩
    · rw [L_X6_sendWhileAnyCan_2, hR.1.2.2.2.1, hS0, if_pos (nI_le (Nat.le_refl _) (by omega))]
    · obtain ⟨r, -, r2, r3⟩ := e_first hfu hR hP hP0 hS hS0 (fun v => some v) (fun l2_3 => (jn (fun (k_4 : Int32 → Res) => (if l2_3 < 0 then (k_4 0) else (k_4 1))) (fun v_5 => (if v_5 = 0 then (L_X10_passes_2 fu (m + 1) v_5 y K) else (clp (F_X10_nearest fu l2_3 y) (fun r_6 => (cl (F_X10_goes fu r_6 l2_3 y) (fun _ x_7 => (L_X10_passes_2 fu (m + 1) v_5 x_7 K))))))))) P 0 fu fu (-1) (by omega) (by omega) (by omega) (Or.inl rfl)
      rw [L_X10_passes_2, if_neg (show ¬ (1 : Int32) = 0 by decide)]
      refine Eq.trans r2 ?_
      rcases r3 with e | ⟨j, -, -, -, s, hs, -, -, e⟩
      · rw [e, jn_eq, if_pos m1_neg]; show (if (0 : Int32) = 0 then _ else _) = _; rw [if_pos rfl, L_X10_passes_2, if_pos rfl]
      · exfalso
        have := cntL_drop (f := fun s => decide (y 18 s = -4)) (g := fun i => if i = s then false else decide (y 18 i = -4)) (s := s) (by simp [e]) (by simp) (fun i hi => by simp [hi]) k hs
        omega
  | succ d ih =>
    intro k n m x y hk hn hm hR hS0 hc
    obtain ⟨n, rfl⟩ : ∃ z, n = z + 1 := ⟨n - 1, by omega⟩
    obtain ⟨m, rfl⟩ : ∃ z, m = z + 1 + 1 := ⟨m - 2, by omega⟩
    obtain ⟨P, -, hP, -, hxP, hP0, -, -⟩ := vw hR
    obtain ⟨r, r1, r2, r3⟩ := e_first hfu hR hP hP0 hS hS0 (fun l1_5 => (some l1_5)) (fun l2_3 => (jn (fun (k_4 : Int32 → Res) => (if l2_3 < 0 then (k_4 0) else (k_4 1))) (fun v_5 => (if v_5 = 0 then (L_X10_passes_2 fu (m + 1) v_5 y K) else (clp (F_X10_nearest fu l2_3 y) (fun r_6 => (cl (F_X10_goes fu r_6 l2_3 y) (fun _ x_7 => (L_X10_passes_2 fu (m + 1) v_5 x_7 K))))))))) P 0 fu fu (-1) (by omega) (by omega) (by omega) (Or.inl rfl)
    have r1' : F_X6_firstThatCanBeServed fu x = some r := r1
    rw [L_X6_sendWhileAnyCan_2, hR.1.2.2.2.1, hS0, if_neg (nI_ge (by omega) (by omega)), r1', clp_some, L_X10_passes_2, if_neg (show ¬ (1 : Int32) = 0 by decide)]
    have r2' : L_X10_passes_10 fu y fu (-1) 0 _ = _ := r2
    rw [r2']
    rcases r3 with e | ⟨j, hj, e, hw, s, hs, n1, n2, e2⟩
    · refine ⟨x, y, by rw [if_pos e], ?_, hR, rfl⟩
      rw [e, jn_eq, if_pos m1_neg]; show (if (0 : Int32) = 0 then _ else _) = _; rw [if_pos rfl, L_X10_passes_2, if_pos rfl]
    · obtain ⟨x1, y1, t1, t2, hR1, -, f2, g18, -⟩ := send_both (fu := fu) hR hP hP0 hS hS0 hs hj e2 hw
      have y0 : y1 0 = y 0 := f2 0 (by omega)
      obtain ⟨x', y', u1, u2, u3, u4⟩ := ih (k + 1) n (m + 1) x1 y1 (by omega) (by omega) (by omega) hR1 (by rw [y0]; exact hS0) (by
        have := cntL_drop (f := fun s => decide (y 18 s = -4)) (g := fun s => decide (y1 18 s = -4)) (s := s) (by simp [e2]) (by
          show decide (y1 18 s = -4) = false
          rw [g18, upd_s, decide_eq_false (nI_nm4 (by omega))]) (fun i hi => by
          show decide (y1 18 i = -4) = decide (y 18 i = -4)
          rw [g18, upd_n hi]) S hs
        omega)
      refine ⟨x', y', ?_, ?_, u3, u4.trans y0⟩
      · rw [e, if_neg (nI_nm1 (by omega)), n1, clp_some, t1, cl_some', nI_1, u1]
      · rw [e, jn_eq, if_neg (nI_pos (by omega))]; show (if (1 : Int32) = 0 then _ else _) = _; rw [if_neg (by decide), n2, clp_some, t2, cl_some', u2]

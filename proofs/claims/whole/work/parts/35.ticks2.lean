/-! ===== ticks, the rest ===== -/
theorem sub0 (a : Int32) : a - 0 = a := by
  apply Int32.toBitVec_inj.mp
  rw [Int32.toBitVec_sub]
  show a.toBitVec - 0#32 = a.toBitVec
  simp
theorem Rel_swing {x y : Mem} {k v : Nat} (hR : Rel x y) (hv : v ≤ 8) : Rel (wr x 16 k (nI v)) (wr y 21 k (nI v)) := by
  obtain ⟨hS', hA, h1, h2, h3, h4, h5, h6, h7, h8, h9, h10, h11, h12⟩ := id hR
  obtain ⟨a10, a11, a12, a13, a14, a15, a16, a17, a19, a20, a21, a23, a24, a27, a28, a29⟩ := id hA
  refine ⟨hS', ⟨a10, a11, a12, a13, a14, a15, ?_, a17, a19, a20, a21, a23, a24, a27, a28, a29⟩, h1, h2, h3, h4, h5, ?_, h7, h8, h9, h10, h11, h12⟩
  · show upd (x 16) k _ = upd (y 21) k _; rw [a16]
  · show RSw (upd (y 21) k (nI v))
    intro b hb
    by_cases e : b = k
    · subst e; rw [upd_s]; exact ⟨v, hv, rfl⟩
    · rw [upd_n e]; exact h6 b hb
theorem e_swing {fu : Nat} (K1 K2 : Mem → Res) : ∀ (d k n m : Nat) (x y : Mem), k + d = 8 → d < n → d < m → Rel x y → ∃ x' y', L_X0_swingLess_2 fu n (nI k) x K1 = K1 x' ∧ L_X10_passes_89 fu m (nI k) y K2 = K2 y' ∧ Rel x' y' ∧ y' 0 = y 0 := by
  intro d
  induction d with
  | zero =>
    intro k n m x y hk hn hm hR
    obtain ⟨n, rfl⟩ : ∃ z, n = z + 1 := ⟨n - 1, by omega⟩
    obtain ⟨m, rfl⟩ : ∃ z, m = z + 1 := ⟨m - 1, by omega⟩
    have : k = 8 := by omega
    subst this
    refine ⟨x, y, ?_, ?_, hR, rfl⟩
    · rw [L_X0_swingLess_2, if_pos (show (8 : Int32) ≤ nI 8 from nI_le (a := 8) (by omega) (by omega))]
    · rw [L_X10_passes_89, if_pos (show (8 : Int32) ≤ nI 8 from nI_le (a := 8) (by omega) (by omega))]
  | succ d ih =>
    intro k n m x y hk hn hm hR
    obtain ⟨n, rfl⟩ : ∃ z, n = z + 1 := ⟨n - 1, by omega⟩
    obtain ⟨m, rfl⟩ : ∃ z, m = z + 1 := ⟨m - 1, by omega⟩
    have a16 : x 16 = y 21 := hR.2.1.2.2.2.2.2.2.1
    obtain ⟨v, hv, ev⟩ := hR.2.2.2.2.2.2.2.1 k (by omega)
    have h8 : ¬ (8 : Int32) ≤ nI k := nI_ge (b := 8) (by omega) (by omega)
    have hc : ∀ M : Res, chk (nI k) 8 M = M := fun M => chk_ok (by omega) (by omega)
    rw [L_X0_swingLess_2, if_neg h8, L_X10_passes_89, if_neg h8]
    simp only [hc, cN (show k < 2 ^ 31 by omega), letm_eq, jn_eq, nI_1, a16, ev]
    rcases Nat.eq_zero_or_pos v with e | e
    · subst e
      rw [if_pos (show nI 0 ≤ 0 by decide), if_pos (show nI 0 ≤ 0 by decide), sub0]
      have e2 : wr y 21 k (nI 0) = y := by rw [← ev, wr_id]
      rw [e2]
      exact ih (k + 1) n m x y (by omega) (by omega) (by omega) hR
    · obtain ⟨u, rfl⟩ : ∃ z, v = z + 1 := ⟨v - 1, by omega⟩
      rw [if_neg (nI_nle (by omega) (by omega)), if_neg (nI_nle (by omega) (by omega)), nI_pred]
      obtain ⟨x', y', r1, r2, r3, r4⟩ := ih (k + 1) n m (wr x 16 k (nI u)) (wr y 21 k (nI u)) (by omega) (by omega) (by omega) (Rel_swing hR (by omega))
      exact ⟨x', y', r1, r2, r3, r4⟩
theorem end_both {fu P S s p : Nat} {x y : Mem} (hR : Rel x y) (hP : P ≤ 12) (hP0 : y 0 4 = nI P) (hS : S ≤ 5) (hS0 : y 0 19 = nI S) (hs : s < S) (hp : p < P) (hf : y 18 s = nI p) : F_X6_endErrand fu (nI s) x = some (0, wr (wr (wr (wr x 22 s (-4)) 19 s (x 10 p)) 20 s (x 11 p)) 25 p 0) ∧ Rel (wr (wr (wr (wr x 22 s (-4)) 19 s (x 10 p)) 20 s (x 11 p)) 25 p 0) (wr (wr (wr y 15 s (y 4 p)) 16 s (y 5 p)) 18 s (-4)) := by
  obtain ⟨hS', hA, h1, h2, h3, h4, h5, h6, h7, h8, h9, h10, h11, h12⟩ := id hR
  obtain ⟨a10, a11, a12, a13, a14, a15, a16, a17, a19, a20, a21, a23, a24, a27, a28, a29⟩ := id hA
  have e22 : x 22 s = nI p := (sv_at hR hP hP0 hS hS0 hs).2.2.2.1.trans hf
  have hc : ∀ M : Res, chk (nI s) 5 M = M := fun M => chk_ok (by omega) (by omega)
  have hd : ∀ M : Res, chk (nI p) 12 M = M := fun M => chk_ok (by omega) (by omega)
  have cs := cN (show s < 2 ^ 31 by omega)
  have cp := cN (show p < 2 ^ 31 by omega)
  have w2 : F_X4_has fu (nI p) x = some 1 := by
    rcases has_of (fu := fu) (v := nI p) hP (hS'.1.trans hP0) hP0 with ⟨j, -, -, w, -⟩ | ⟨-, -, w⟩
    · exact w
    · rcases w with w | w
      · exact absurd w (nI_pos (by omega))
      · exact absurd w (nI_ge (by omega) (by omega))
  have hsi : nI s < y 0 19 := by rw [hS0]; exact nI_lt hs (by omega)
  refine ⟨?_, hS', ⟨a10, a11, a12, a13, a14, a15, a16, a17, ?_, ?_, a21, a23, a24, a27, a28, a29⟩, h1, h2, h3, h4, h5, h6, h7, h8, ?_, ?_, h11, h12⟩
  · unfold F_X6_endErrand F_X1_endErrand
    simp only [hc, hd, cs, cp, e22, letv_eq, letm_eq, w2, clp_some]
    rfl
  · show upd (x 19) s (x 10 p) = upd (y 15) s (y 4 p); rw [a19, a10]
  · show upd (x 20) s (x 11 p) = upd (y 16) s (y 5 p); rw [a20, a11]
  · show RSv (upd (x 22) s (-4)) (y 0 4) (y 0 19) (upd (y 15) s (y 4 p)) (upd (y 16) s (y 5 p)) (y 17) (upd (y 18) s (-4))
    obtain ⟨S', hS5, hS0', hv, hq, hu⟩ := h9
    have : S' = S := nI_inj (by omega) (by omega) (hS0'.symm.trans hS0)
    subst this
    refine ⟨S', hS5, hS0', fun t ht => ?_, fun t h1 h2 => by rw [upd_n (by omega)]; exact hq t h1 h2, fun t t' ht ht' e hn => ?_⟩
    · obtain ⟨b1, b2, b3, b4, b5⟩ := hv t ht
      by_cases e : t = s
      · subst e
        rw [upd_s, upd_s, upd_s, upd_s]
        obtain ⟨c1, c2, -⟩ := pl_at hR hP hP0 hp
        exact ⟨c1, c2, b3, rfl, Or.inl rfl⟩
      · rw [upd_n e, upd_n e, upd_n e, upd_n e]
        exact ⟨b1, b2, b3, b4, b5⟩
    · by_cases e1 : t = s
      · rw [e1, upd_s] at hn
        exact absurd (by decide) hn
      · by_cases e2 : t' = s
        · rw [upd_n e1] at hn e
          rw [e, e2, upd_s] at hn
          exact absurd (by decide) hn
        · rw [upd_n e1, upd_n e2] at e
          rw [upd_n e1] at hn
          exact hu t t' ht ht' e hn
  · show RCl (upd (x 25) p 0) (x 26) (y 0 4) (y 0 19) (y 0 26) (y 11) (upd (y 18) s (-4))
    intro q hq
    obtain ⟨d1, d2, d3, d4, d5, d6⟩ := h10 q hq
    by_cases e : q = p
    · subst e
      have h2' : x 25 q = 2 := d4.mpr ⟨s, hsi, by omega, hf⟩
      have hneg : y 11 q < 0 := by
        rcases Classical.em (y 11 q < 0) with h | h
        · exact h
        · have := d2.mpr h
          rw [h2'] at this
          exact absurd this (by decide)
      rw [upd_s]
      refine ⟨Or.inl rfl, ⟨fun h => absurd h (by decide), fun h => absurd hneg h⟩, fun h => absurd h (by decide), ⟨fun h => absurd h (by decide), ?_⟩, d5, fun _ => rfl⟩
      rintro ⟨t, t1, t2, t3⟩
      exfalso
      by_cases e2 : t = s
      · rw [e2, upd_s] at t3
        exact nI_nm4 (by omega) t3.symm
      · rw [upd_n e2] at t3
        obtain ⟨S', hS5, hS0', hv, hq', hu⟩ := h9
        have : S' = S := nI_inj (by omega) (by omega) (hS0'.symm.trans hS0)
        subst this
        rw [hS0'] at t1
        exact e2 (hu t s ((nI_ltI (by omega) (by omega)).mp t1) hs (t3.trans hf.symm) (by rw [t3]; exact nI_pos (by omega)))
    · rw [upd_n e]
      refine ⟨d1, d2, d3, ?_, d5, d6⟩
      rw [d4]
      constructor
      · rintro ⟨t, t1, t2, t3⟩
        have : ¬ t = s := by
          intro e2
          rw [e2, hf] at t3
          exact e (nI_inj (by omega) (by omega) t3).symm
        exact ⟨t, t1, t2, by rw [upd_n this]; exact t3⟩
      · rintro ⟨t, t1, t2, t3⟩
        by_cases e2 : t = s
        · rw [e2, upd_s] at t3
          exact absurd t3.symm (nI_nm4 (by omega))
        · rw [upd_n e2] at t3
          exact ⟨t, t1, t2, t3⟩
theorem e_frees {fu S : Nat} (hS : S ≤ 5) (K1 K2 : Mem → Res) : ∀ (d k n m : Nat) (x y : Mem), k + d = S → d < n → d < m → Rel x y → y 0 19 = nI S → ∃ x' y', L_X6_nextTick_12 fu n (nI k) x K1 = K1 x' ∧ L_X10_frees_2 fu m (nI k) y K2 = K2 y' ∧ Rel x' y' ∧ y' 0 = y 0 := by
  intro d
  induction d with
  | zero =>
    intro k n m x y hk hn hm hR hS0
    obtain ⟨n, rfl⟩ : ∃ z, n = z + 1 := ⟨n - 1, by omega⟩
    obtain ⟨m, rfl⟩ : ∃ z, m = z + 1 := ⟨m - 1, by omega⟩
    have : k = S := by omega
    subst this
    refine ⟨x, y, ?_, ?_, hR, rfl⟩
    · rw [L_X6_nextTick_12, hR.1.2.2.2.1, hS0, if_pos (nI_le (Nat.le_refl _) (by omega))]
    · rw [L_X10_frees_2, hS0, if_pos (nI_le (Nat.le_refl _) (by omega))]
  | succ d ih =>
    intro k n m x y hk hn hm hR hS0
    obtain ⟨n, rfl⟩ : ∃ z, n = z + 1 := ⟨n - 1, by omega⟩
    obtain ⟨m, rfl⟩ : ∃ z, m = z + 1 := ⟨m - 1, by omega⟩
    obtain ⟨P, -, hP, -, hxP, hP0, -, -⟩ := vw hR
    obtain ⟨-, -, -, e22, e18⟩ := sv_at hR hP hP0 hS hS0 (s := k) (by omega)
    have skip := ih (k + 1) n m x y (by omega) (by omega) (by omega) hR hS0
    have hc : ∀ M : Res, chk (nI k) 5 M = M := fun M => chk_ok (by omega) (by omega)
    have hc' : ∀ M : Option Int32, chk (nI k) 5 M = M := fun M => chk_ok (by omega) (by omega)
    have ck := cN (show k < 2 ^ 31 by omega)
    have s5 : x 6 3 = y 0 26 := hR.1.2.2.2.2.1
    have a23 : x 23 = y 19 := hR.2.1.2.2.2.2.2.2.2.2.2.2.2.1
    rw [L_X6_nextTick_12, hR.1.2.2.2.1, hS0, if_neg (nI_ge (by omega) (by omega)), F_X5_isFree, hc', ck, e22, L_X10_frees_2, hS0, if_neg (nI_ge (by omega) (by omega)), hc, hc, ck, s5, a23, nI_1]
    rcases e18 with e | ⟨p, hp, e⟩
    · rw [e, if_pos rfl, retzp_1, clp_some, if_neg (show ¬ (1 : Int32) = 0 by decide), if_pos m4_neg]
      exact skip
    · rw [e, if_neg (nI_nm4 (by omega)), retzp_0, clp_some, if_pos rfl, if_neg (nI_pos (by omega))]
      by_cases ht : y 0 26 < y 19 k
      · rw [if_pos ht, hc, if_pos ht]
        exact skip
      · obtain ⟨q1, q2⟩ := end_both (fu := fu) hR hP hP0 hS hS0 (s := k) (by omega) hp e
        obtain ⟨x', y', r1, r2, r3, r4⟩ := ih (k + 1) n m _ _ (by omega) (by omega) (by omega) q2 hS0
        have hd : ∀ M : Res, chk (nI p) 12 M = M := fun M => chk_ok (by omega) (by omega)
        have cp := cN (show p < 2 ^ 31 by omega)
        have z : wr y 15 k (y 4 p) 18 k = nI p := e
        refine ⟨x', y', ?_, ?_, r3, r4⟩
        · rw [if_neg ht, q1, cl_some']
          exact r1
        · rw [if_neg ht]
          simp only [hc, hd, cp, letm_eq, z]
          exact r2
theorem Rel_tick {x y : Mem} {t : Nat} (hR : Rel x y) (ht : y 0 26 = nI t) (h5 : t + 1 ≤ 5000) : Rel (wr x 6 3 (nI (t + 1))) (wr y 0 26 (nI (t + 1))) := by
  obtain ⟨hS', hA, h1, h2, h3, h4, h5', h6, h7, h8, h9, h10, h11, h12⟩ := id hR
  obtain ⟨s1, s2, s3, s4, s5, s6, s7, s8⟩ := id hS'
  refine ⟨⟨s1, s2, s3, s4, rfl, s6, s7, s8⟩, hA, h1, h2, h3, h4, h5', h6, ⟨t + 1, h5, rfl⟩, h8, h9, ?_, h11, h12⟩
  show RCl (x 25) (x 26) (y 0 4) (y 0 19) (nI (t + 1)) (y 11) (y 18)
  intro q hq
  obtain ⟨d1, d2, d3, d4, d5, d6⟩ := h10 q hq
  refine ⟨d1, d2, d3, d4, ?_, d6⟩
  rcases d5 with e | ⟨u, u1, u2, u3⟩
  · exact Or.inl e
  · refine Or.inr ⟨u, ?_, u2, u3⟩
    rw [ht] at u1
    have := (nI_leI (by omega) (by omega)).mp u1
    exact nI_le (by omega) (by omega)
theorem tick_both {fu t : Nat} {x y : Mem} (hfu : 100 ≤ fu) (hR : Rel x y) (ht : y 0 26 = nI t) (h5 : t + 1 ≤ 5000) : ∃ x' y', (∀ K : Mem → Res, cl (F_X6_sendWhileAnyCan fu x) (fun _ x_1 => (cl (F_X0_swingLess fu x_1) (fun _ x_2 => (cl (F_X6_nextTick fu x_2) (fun _ x_3 => K x_3))))) = K x') ∧ F_X10_passes fu y = some (0, y') ∧ Rel x' y' ∧ y' 0 26 = nI (t + 1) := by
  obtain ⟨P, S, hP, hS, hxP, hP0, hxS, hS0⟩ := vw hR
  obtain ⟨x1, y1, p1, p2, p3, p4⟩ := e_pass hfu hS (fun x_8 => (L_X10_passes_89 fu fu 0 x_8 (fun x_12 => (letm (wr x_12 0 26 ((x_12 0 26) + 1)) (fun x_13 => (cl (F_X10_frees fu x_13) (fun _ x_14 => (some (0, x_14))))))))) S 0 fu fu x y (by omega) (by omega) (by omega) hR hS0 (cntL_le _ _)
  obtain ⟨x2, y2, q1, q2, q3, q4⟩ := e_swing (fu := fu) (fun x_2 => (some (0, x_2))) (fun x_12 => (letm (wr x_12 0 26 ((x_12 0 26) + 1)) (fun x_13 => (cl (F_X10_frees fu x_13) (fun _ x_14 => (some (0, x_14))))))) 8 0 fu fu x1 y1 (by omega) (by omega) (by omega) p3
  have t2 : y2 0 26 = nI t := by rw [q4, p4]; exact ht
  have hR3 := Rel_tick q3 t2 h5
  obtain ⟨x', y', r1, r2, r3, r4⟩ := e_frees (fu := fu) hS (fun x_4 => (some (0, x_4))) (fun x_4 => (some (0, x_4))) S 0 fu fu _ _ (by omega) (by omega) (by omega) hR3 (by show y2 0 19 = nI S; rw [q4, p4]; exact hS0)
  refine ⟨x', y', fun K => ?_, ?_, r3, by rw [r4]; rfl⟩
  · have z1 : F_X6_sendWhileAnyCan fu x = some (0, x1) := p1
    have z2 : F_X0_swingLess fu x1 = some (0, x2) := q1
    have z3 : F_X6_nextTick fu x2 = some (0, x') := by
      unfold F_X6_nextTick
      rw [letm_eq, q3.1.2.2.2.2.1, t2, nI_1]
      exact r1
    rw [z1, cl_some', z2, cl_some', z3, cl_some']
  · unfold F_X10_passes
    refine Eq.trans p2 (Eq.trans q2 ?_)
    have z : F_X10_frees fu (wr y2 0 26 (nI (t + 1))) = some (0, y') := r2
    rw [letm_eq, t2, nI_1, z, cl_some']
theorem e_ticks {fu T t0 : Nat} (hfu : 100 ≤ fu) (hT : T ≤ 200) (h5 : t0 + T ≤ 5000) (K1 K2 : Mem → Res) : ∀ (d k n m : Nat) (x y : Mem), k + d = T → d < n → d < m → Rel x y → y 0 26 = nI (t0 + k) → ∃ x' y', L_X9_ticks_34 fu (nI T) n (nI k) x K1 = K1 x' ∧ L_X10_ticks_30 fu (nI T) m (nI k) y K2 = K2 y' ∧ Rel x' y' := by
  intro d
  induction d with
  | zero =>
    intro k n m x y hk hn hm hR ht
    obtain ⟨n, rfl⟩ : ∃ z, n = z + 1 := ⟨n - 1, by omega⟩
    obtain ⟨m, rfl⟩ : ∃ z, m = z + 1 := ⟨m - 1, by omega⟩
    have : k = T := by omega
    subst this
    refine ⟨x, y, ?_, ?_, hR⟩
    · rw [L_X9_ticks_34, if_pos (nI_le (Nat.le_refl _) (by omega))]
    · rw [L_X10_ticks_30, if_pos (nI_le (Nat.le_refl _) (by omega))]
  | succ d ih =>
    intro k n m x y hk hn hm hR ht
    obtain ⟨n, rfl⟩ : ∃ z, n = z + 1 := ⟨n - 1, by omega⟩
    obtain ⟨m, rfl⟩ : ∃ z, m = z + 1 := ⟨m - 1, by omega⟩
    obtain ⟨x1, y1, p1, p2, p3, p4⟩ := tick_both hfu hR ht (by omega)
    obtain ⟨x', y', r1, r2, r3⟩ := ih (k + 1) n m x1 y1 (by omega) (by omega) (by omega) p3 p4
    refine ⟨x', y', ?_, ?_, r3⟩
    · rw [L_X9_ticks_34, if_neg (nI_ge (by omega) (by omega)), p1 (fun x_3 => L_X9_ticks_34 fu (nI T) n (nI k + 1) x_3 K1), nI_1, r1]
    · rw [L_X10_ticks_30, if_neg (nI_ge (by omega) (by omega)), p2, cl_some', nI_1, r2]
theorem S_ticks (fu : Nat) (hfu : 1000 ≤ fu) : St_ticks fu Rel := by
  intro a x y hR
  obtain ⟨t, ht5, ht⟩ := hR.2.2.2.2.2.2.2.2.1
  have s5 : x 6 3 = y 0 26 := hR.1.2.2.2.2.1
  by_cases h1 : a < 1
  · refine ⟨-1, x, y, ?_, ?_, hR⟩
    · unfold F_X9_ticks; rw [if_pos h1]
    · unfold F_X10_ticks; rw [in_f (Or.inl h1), clp_some, if_pos rfl]
  · by_cases h2 : a ≤ 200
    · have h0 : ¬ a < 0 := by
        rw [Int32.lt_iff_toInt_lt] at h1 ⊢
        have e1 : (1 : Int32).toInt = 1 := rfl
        rw [e1] at h1
        rw [toInt_lit0]
        omega
      obtain ⟨T, hT, rfl⟩ := nI_of2 (M := 200) (n := 200) rfl h0 h2
      have w2 : F_X10_in fu (nI T) 1 200 y = some 1 := in_t h1 (nlt_of_le h2)
      by_cases h3 : t + T ≤ 5000
      · have h3' : nI (t + T) ≤ 5000 := show nI (t + T) ≤ nI 5000 from nI_le h3 (by omega)
        obtain ⟨x', y', r1, r2, r3⟩ := e_ticks (fu := fu) (by omega) hT h3 (fun x_4 => (some ((x_4 6 3), x_4))) (fun x_3 => (some ((x_3 0 26), x_3))) T 0 fu fu x y (by omega) (by omega) (by omega) hR ht
        have r1' : L_X9_ticks_34 fu (nI T) fu 0 x (fun x_4 => (some ((x_4 6 3), x_4))) = some (x' 6 3, x') := r1
        have r2' : L_X10_ticks_30 fu (nI T) fu 0 y (fun x_3 => (some ((x_3 0 26), x_3))) = some (y' 0 26, y') := r2
        refine ⟨y' 0 26, x', y', ?_, ?_, r3⟩
        · unfold F_X9_ticks
          rw [if_neg h1, if_pos h2, s5, ht, nI_add, if_pos h3', r1', r3.1.2.2.2.2.1]
        · unfold F_X10_ticks
          rw [w2, clp_some, if_neg (by decide), ht, nI_add, if_pos h3', r2']
      · have h3' : ¬ nI (t + T) ≤ 5000 := show ¬ nI (t + T) ≤ nI 5000 from nI_ge (by omega) (by omega)
        refine ⟨-3, x, y, ?_, ?_, hR⟩
        · unfold F_X9_ticks
          rw [if_neg h1, if_pos h2, s5, ht, nI_add, if_neg h3']
        · unfold F_X10_ticks
          rw [w2, clp_some, if_neg (by decide), ht, nI_add, if_neg h3']
    · have h2' : 200 < a := by
        rcases Classical.em (200 < a) with h | h
        · exact h
        · exact absurd (le_of_nlt h) h2
      refine ⟨-1, x, y, ?_, ?_, hR⟩
      · unfold F_X9_ticks; rw [if_neg h1, if_neg h2]
      · unfold F_X10_ticks; rw [in_f (Or.inr h2'), clp_some, if_pos rfl]

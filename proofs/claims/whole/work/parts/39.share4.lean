/-! ===== share, send ===== -/
theorem all5 : ∀ w, w < 5 → ∀ d, d < w → (6 ^ w - 1) / 6 ^ d % 6 = 5 := by decide
theorem shares_both {fu w : Nat} {x y : Mem} (hfu : 2000 ≤ fu) (hR : Rel x y) (hw : w ≤ 4) (hwc : w = cntL (fun p => decide (x 25 p = 1)) 12) : ∃ (P S : Nat) (q : Nat → Nat) (code bc : Nat) (x' y' : Mem), P ≤ 12 ∧ S ≤ 5 ∧ y' 0 4 = nI P ∧ y' 0 19 = nI S ∧ F_X7_findBest fu x = some (0, x') ∧ F_X10_shares fu y = some (nI code, y') ∧ Rel x' y' ∧ x' 7 6 = nI w ∧ y' 0 34 = nI w ∧ x' 7 7 = nI bc ∧ y' 0 35 = nI bc ∧ (∀ j, j < w → x' 30 j = nI (q j) ∧ y' 26 j = nI (q j) ∧ x' 31 j = nI (code / 6 ^ (w - 1 - j) % 6)) ∧ WQ P w q (x' 25) ∧ code < 1296 ∧ (∀ j, j < w → code / 6 ^ (w - 1 - j) % 6 = 5 ∨ (code / 6 ^ (w - 1 - j) % 6 < S ∧ y' 18 (code / 6 ^ (w - 1 - j) % 6) = -4)) ∧ ∀ j j', j < j' → j' < w → code / 6 ^ (w - 1 - j) % 6 = code / 6 ^ (w - 1 - j') % 6 → code / 6 ^ (w - 1 - j) % 6 = 5 := by
  obtain ⟨P, S, hP, hS, hxP, hP0, hxS, hS0⟩ := vw hR
  have h10 := hR.2.2.2.2.2.2.2.2.2.2.2.1
  have hwP : cntL (fun p => decide (x 25 p = 1)) P = w := by
    rw [hwc, cntL_cut (P := P) hP]
    intro i h1 h2
    have := (h10 i h2).2.2.2.2.2 (by rw [hP0]; exact nI_le h1 (by omega))
    rw [this]; decide
  obtain ⟨q, x1, y1, a1, a2, a3, a4, a5, a6, a7, a8, a9⟩ := e_wait (fu := fu) hR hP hP0 hw hwP (fun x_5 => (letm (wr x_5 7 7 1000000) (fun x_6 => (cl (F_X7_tryFrom fu 5 0 0 0 x_6) (fun _ x_7 => (some (0, x_7))))))) (fun x_4 => (L_X10_shares_54 fu x_4 fu 1 0 (fun l1_6 => (letm (wr x_4 0 35 9999999) (fun x_7 => (L_X10_shares_83 fu l1_6 fu 0 0 x_7 (fun l2_13 x_14 => (some (l2_13, x_14))))))))) P 0 fu fu 0 (fun _ => 0) (wr x 7 6 0) (wr y 0 34 0) (by omega) (by omega) (by omega) rfl (fun b b1 _ => wr_ne b1) (fun b b1 _ => wr_ne b1) (fun i hi => by rw [wr_row, upd_n hi]) rfl rfl (fun j hj => absurd hj (by omega)) ⟨fun j hj => absurd hj (by omega), fun j j' _ hj => absurd hj (by omega)⟩ (fun j hj => absurd hj (by omega))
  have hR1 : Rel x1 y1 := Rel_scratch hR (fun b b7 b30 _ _ _ _ _ => a3 b b7 b30) (fun b b0 b26 _ => a4 b b0 b26) (fun i i34 _ => a5 i i34)
  have hP1 : y1 0 4 = nI P := (a5 4 (by decide)).trans hP0
  have hS1 : y1 0 19 = nI S := (a5 19 (by decide)).trans hS0
  have hqP : ∀ j, j < w → q j < P := fun j hj => (a9.1 j hj).1
  have hwt : ∀ i, i < w → wtF y1 q i ≤ 5 := fun i hi => (wt_at (p := 0) hR1 hP hP1 (hqP i hi)).1
  have hsS : ∀ s i, okF y1 S q s i = true → s < S ∧ y1 18 s = -4 := fun s i h => by
    unfold okF MAYB at h
    rw [Bool.and_eq_true, Bool.and_eq_true, decide_eq_true_iff, decide_eq_true_iff] at h
    exact ⟨h.1, h.2.1⟩
  have hW : ∀ s i, i < w → okF y1 S q s i = true → WF y1 q s i ≤ 100 := fun s i hi h => (W_at hR1 hP hP1 hS hS1 (hsS s i h).1 (hqP i hi)).1
  have hSX : SX w q (wr x1 7 7 1000000) y1 := SX_of ⟨hR1, a6, fun j hj => (a8 j hj).1⟩ (fun b b1 _ _ => wr_ne b1) rfl
  obtain ⟨x2, t1, t2, -, t4, t5⟩ := e_try (fu := fu) (by omega) hP hP1 hS hS1 hw hqP hwt hW (fun c => CO (okF y1 S q) (WF y1 q) (wtF y1 q) c w 0 0 0) w 0 5 0 0 0 (wr x1 7 7 1000000) (by omega) (by omega) (fun c _ => rfl) (by omega) hSX (fun j hj => absurd hj (by omega)) ⟨1000000, 0, by omega, rfl, Or.inl ⟨by omega, fun c hc => absurd hc (by omega)⟩, fun h => absurd h (by omega)⟩
  obtain ⟨p1, p2⟩ := pow6 (d := w) hw
  have e54 := e_s54 (fu := fu) hw a7 (fun l1_6 => (letm (wr y1 0 35 9999999) (fun x_7 => (L_X10_shares_83 fu l1_6 fu 0 0 x_7 (fun l2_13 x_14 => (some (l2_13, x_14))))))) w 0 fu (by omega) (by omega)
  obtain ⟨bc, code, u1, u2, u3⟩ := e_s83 (fu := fu) (fun c => CO (okF y1 S q) (WF y1 q) (wtF y1 q) c w 0 0 0) p2 (fun c => (CO_ge (c := c) hwt hW w 0 0 0 (by omega) (by omega)).2) y1 (fun v c hc => by
      have hR2 : Rel x1 (wr y1 0 35 v) := Rel_scratch hR1 (fun b _ _ _ _ _ _ _ => rfl) (fun b b0 _ _ => wr_ne b0) (fun i _ i35 => by rw [wr_row, upd_n i35])
      exact e_cost (fu := fu) (c := c) (q := q) hR2 hP hP1 hS hS1 hw a7 (fun j hj => ⟨hqP j hj, (a8 j hj).2⟩) (by omega) w 0 fu 0 0 (by omega) (by omega)) (fun l2_13 x_14 => (some (l2_13, x_14))) (6 ^ w) 0 fu 9999999 0 (by omega) (by omega) (Or.inl ⟨by omega, fun c hc => absurd hc (by omega)⟩) (by omega)
  rw [Nat.zero_add, Nat.one_mul] at t5
  obtain ⟨bc2, code2, v1, v2, v3, v4⟩ := t5
  obtain ⟨z1, z2, z3, z4, z5⟩ := BU_uniq u2 v3 ⟨6 ^ w - 1, by omega, Nat.lt_of_le_of_lt (CO_nobody (ok := okF y1 S q) (W := WF y1 q) hwt (all5 w (by omega)) w 0 0 0 (by omega) (by omega)) (by omega)⟩
  subst z1
  subst z2
  obtain ⟨k1, k2⟩ := CO_ok (ok := okF y1 S q) (W := WF y1 q) (wt := wtF y1 q) (w := w) (c := code) (fun s i h => by have := (hsS s i h).1; omega) w 0 0 0 (by omega) (by
    have z5' : CO (okF y1 S q) (WF y1 q) (wtF y1 q) code w 0 0 0 = bc := z5
    omega)
  have hR3 : Rel x2 (wr y1 0 35 (nI bc)) := Rel_scratch t2.1 (fun b _ _ _ _ _ _ _ => rfl) (fun b b0 _ _ => wr_ne b0) (fun i _ i35 => by rw [wr_row, upd_n i35])
  refine ⟨P, S, q, code, bc, x2, wr y1 0 35 (nI bc), hP, hS, hP1, hS1, ?_, ?_, hR3, t2.2.1, a7, v2, rfl, fun j hj => ⟨t2.2.2 j hj, (a8 j hj).2, v4 z3 j hj⟩, ?_, by omega, ?_, fun j j' h1 h2 h3 => k2 j j' (by omega) h1 h2 h3⟩
  · unfold F_X7_findBest
    have a1' : L_X7_findBest_7 fu fu 0 (wr x 7 6 0) _ = _ := a1
    have t1' : F_X7_tryFrom fu 5 0 0 0 (wr x1 7 7 1000000) = some (0, x2) := t1
    rw [letm_eq, a1', letm_eq, t1', cl_some']
  · unfold F_X10_shares
    have a2' : L_X10_shares_7 fu fu 0 (wr y 0 34 0) _ = _ := a2
    have e54' : L_X10_shares_54 fu y1 fu 1 0 _ = _ := e54
    have u1' : L_X10_shares_83 fu (nI (6 ^ w)) fu 0 0 (wr y1 0 35 9999999) _ = _ := u1
    rw [letm_eq, a2', e54', letm_eq, u1']
  · have e25 : x2 25 = x 25 := by
      rw [t4 25 (by decide) (by decide) (by decide), wr_ne (by decide), a3 25 (by decide) (by decide)]
    rw [e25]; exact a9
  · intro j hj
    rcases k1 j (by omega) hj with h | ⟨h, -⟩
    · exact Or.inl h
    · exact Or.inr (hsS _ _ h)
theorem e_sfor {fu w p code : Nat} {x y : Mem} {q : Nat → Nat} (hfu : 100 ≤ fu) (hw : w ≤ 4) (h76 : x 7 6 = nI w) (h34 : y 0 34 = nI w) (hcode : code < 1296) (hq : ∀ j, j < w → x 30 j = nI (q j) ∧ y 26 j = nI (q j) ∧ x 31 j = nI (code / 6 ^ (w - 1 - j) % 6)) : ∀ (d k n m : Nat), k + d = w → d < n → d < m → ∃ r, L_X7_servantFor_2 fu (nI p) x n (nI k) (some (-4)) = some r ∧ L_X10_share_42 fu (nI p) (nI code) y m (nI k) (some ((-4), y)) = some (r, y) := by
  intro d
  induction d with
  | zero =>
    intro k n m hk hn hm
    obtain ⟨n, rfl⟩ : ∃ z, n = z + 1 := ⟨n - 1, by omega⟩
    obtain ⟨m, rfl⟩ : ∃ z, m = z + 1 := ⟨m - 1, by omega⟩
    have : k = w := by omega
    subst this
    refine ⟨-4, ?_, ?_⟩
    · rw [L_X7_servantFor_2, h76, if_pos (nI_le (Nat.le_refl _) (by omega))]
    · rw [L_X10_share_42, h34, if_pos (nI_le (Nat.le_refl _) (by omega))]
  | succ d ih =>
    intro k n m hk hn hm
    obtain ⟨n, rfl⟩ : ∃ z, n = z + 1 := ⟨n - 1, by omega⟩
    obtain ⟨m, rfl⟩ : ∃ z, m = z + 1 := ⟨m - 1, by omega⟩
    obtain ⟨e1, e2, e3⟩ := hq k (by omega)
    have hdig := dig_lt code (w - 1 - k)
    have hc : ∀ M : Option Int32, chk (nI k) 4 M = M := fun M => chk_ok (by omega) (by omega)
    rw [L_X7_servantFor_2, h76, if_neg (nI_ge (by omega) (by omega)), L_X10_share_42, h34, if_neg (nI_ge (by omega) (by omega)), hc, hc, hc, chk_ok (by omega) (by omega), cN (by omega), e1, e2, e3, shareOf_eq hfu hw h34 (by omega) (by omega), clp_some, clp_some, nI_1]
    by_cases hp : nI (q k) = nI p
    · rw [if_pos hp, if_pos hp]
      by_cases h5 : code / 6 ^ (w - 1 - k) % 6 = 5
      · rw [h5, if_pos (show nI 5 = 5 from rfl), if_pos (show (5 : Int32) ≤ nI 5 by decide)]
        exact ih (k + 1) n m (by omega) (by omega) (by omega)
      · rw [if_neg (show ¬ nI (code / 6 ^ (w - 1 - k) % 6) = 5 from lit_ne _ 5 (by omega) (by omega) h5), if_neg (show ¬ (5 : Int32) ≤ nI (code / 6 ^ (w - 1 - k) % 6) from nI_ge (b := 5) (by omega) (by omega))]
        exact ⟨_, rfl, rfl⟩
    · rw [if_neg hp, if_neg hp]
      exact ih (k + 1) n m (by omega) (by omega) (by omega)
theorem S_share (fu : Nat) (hfu : 2000 ≤ fu) : St_share fu Rel := by
  intro a x y hR
  obtain ⟨w, hw12, c1, c2, c3⟩ := waits_both (fu := fu) (by omega) hR
  obtain ⟨P, S, hP, hS, hxP, hP0, hxS, hS0⟩ := vw hR
  unfold F_X9_share F_X10_share
  by_cases hw : w ≤ 4
  · have h4 : nI w ≤ 4 := show nI w ≤ nI 4 from nI_le hw (by omega)
    obtain ⟨P', S', q, code, bc, x', y', -, -, -, -, f1, f2, hR', f4, f5, f6, f7, f8, -, f10, -⟩ := shares_both hfu hR hw c3
    by_cases ha : a = -1
    · rw [if_pos ha, if_pos ha, c1, c2, clp_some, clp_some, if_pos h4, if_pos h4, f1, f2, cl_some', cl_some', if_pos ha, if_neg (by rw [ha]; decide), f6, f7]
      exact ⟨nI bc, x', y', rfl, rfl, hR'⟩
    · rw [if_neg ha, if_neg ha]
      rcases has_of (fu := fu) (v := a) hP hxP hP0 with ⟨p, hp, rfl, w1, w2⟩ | ⟨w1, w2, -⟩
      · rw [w1, w2, clp_some, clp_some, if_neg (show ¬ (1 : Int32) = 0 by decide), if_neg (show ¬ (1 : Int32) = 0 by decide), c1, c2, clp_some, clp_some, if_pos h4, if_pos h4, f1, f2, cl_some', cl_some', if_neg ha, if_pos (nI_pos' (by omega))]
        obtain ⟨r, r1, r2⟩ := e_sfor (fu := fu) (p := p) (by omega) hw f4 f5 f10 f8 w 0 fu fu (by omega) (by omega) (by omega)
        have r1' : F_X7_servantFor fu (nI p) x' = some r := r1
        rw [r1', clp_some]
        exact ⟨r, x', y', rfl, r2, hR'⟩
      · rw [w1, w2, clp_some, clp_some, if_pos rfl, if_pos rfl]
        exact ⟨-1, x, y, rfl, rfl, hR⟩
  · have h4 : ¬ nI w ≤ 4 := show ¬ nI w ≤ nI 4 from nI_ge (by omega) (by omega)
    by_cases ha : a = -1
    · rw [if_pos ha, if_pos ha, c1, c2, clp_some, clp_some, if_neg h4, if_neg h4]
      exact ⟨-2, x, y, rfl, rfl, hR⟩
    · rw [if_neg ha, if_neg ha]
      rcases has_of (fu := fu) (v := a) hP hxP hP0 with ⟨p, hp, rfl, w1, w2⟩ | ⟨w1, w2, -⟩
      · rw [w1, w2, clp_some, clp_some, if_neg (show ¬ (1 : Int32) = 0 by decide), if_neg (show ¬ (1 : Int32) = 0 by decide), c1, c2, clp_some, clp_some, if_neg h4, if_neg h4]
        exact ⟨-2, x, y, rfl, rfl, hR⟩
      · rw [w1, w2, clp_some, clp_some, if_pos rfl, if_pos rfl]
        exact ⟨-1, x, y, rfl, rfl, hR⟩
theorem e_send {fu P S w code : Nat} {q : Nat → Nat} (hfu : 100 ≤ fu) (hP : P ≤ 12) (hS : S ≤ 5) (hw : w ≤ 4) (hcode : code < 1296) (hqP : ∀ j, j < w → q j < P) (hqi : ∀ j j', j < j' → j' < w → q j < q j') (hdd : ∀ j j', j < j' → j' < w → code / 6 ^ (w - 1 - j) % 6 = code / 6 ^ (w - 1 - j') % 6 → code / 6 ^ (w - 1 - j) % 6 = 5) (K1 K2 : Int32 → Mem → Res) : ∀ (d k n m c : Nat) (x y : Mem), k + d = w → d < n → d < m → Rel x y → y 0 4 = nI P → y 0 19 = nI S → x 7 6 = nI w → y 0 34 = nI w → (∀ j, j < w → x 30 j = nI (q j) ∧ y 26 j = nI (q j) ∧ x 31 j = nI (code / 6 ^ (w - 1 - j) % 6)) → (∀ j, k ≤ j → j < w → x 25 (q j) = 1) → (∀ j, k ≤ j → j < w → code / 6 ^ (w - 1 - j) % 6 = 5 ∨ (code / 6 ^ (w - 1 - j) % 6 < S ∧ y 18 (code / 6 ^ (w - 1 - j) % 6) = -4)) → ∃ c' x' y', L_X9_send_26 fu n (nI c) (nI k) x K1 = K1 (nI c') x' ∧ L_X10_send_20 fu (nI code) m (nI c) (nI k) y K2 = K2 (nI c') y' ∧ Rel x' y' := by
  intro d
  induction d with
  | zero =>
    intro k n m c x y hk hn hm hR hP0 hS0 h76 h34 hq hwt hdg
    obtain ⟨n, rfl⟩ : ∃ z, n = z + 1 := ⟨n - 1, by omega⟩
    obtain ⟨m, rfl⟩ : ∃ z, m = z + 1 := ⟨m - 1, by omega⟩
    have : k = w := by omega
    subst this
    refine ⟨c, x, y, ?_, ?_, hR⟩
    · rw [L_X9_send_26, h76, if_pos (nI_le (Nat.le_refl _) (by omega))]
    · rw [L_X10_send_20, h34, if_pos (nI_le (Nat.le_refl _) (by omega))]
  | succ d ih =>
    intro k n m c x y hk hn hm hR hP0 hS0 h76 h34 hq hwt hdg
    obtain ⟨n, rfl⟩ : ∃ z, n = z + 1 := ⟨n - 1, by omega⟩
    obtain ⟨m, rfl⟩ : ∃ z, m = z + 1 := ⟨m - 1, by omega⟩
    obtain ⟨e1, e2, e3⟩ := hq k (by omega)
    have hdig := dig_lt code (w - 1 - k)
    have hc : ∀ M : Res, chk (nI k) 4 M = M := fun M => chk_ok (by omega) (by omega)
    rw [L_X9_send_26, h76, if_neg (nI_ge (by omega) (by omega)), L_X10_send_20, h34, if_neg (nI_ge (by omega) (by omega)), hc, hc, hc, cN (by omega), e1, e2, e3, shareOf_eq hfu hw h34 (by omega) (by omega), clp_some, hc, nI_1, nI_1]
    by_cases h5 : code / 6 ^ (w - 1 - k) % 6 = 5
    · rw [h5, if_pos (show nI 5 = 5 from rfl), if_pos (show (5 : Int32) ≤ nI 5 by decide)]
      exact ih (k + 1) n m c x y (by omega) (by omega) (by omega) hR hP0 hS0 h76 h34 hq (fun j h1 h2 => hwt j (by omega) h2) (fun j h1 h2 => hdg j (by omega) h2)
    · rw [if_neg (show ¬ nI (code / 6 ^ (w - 1 - k) % 6) = 5 from lit_ne _ 5 (by omega) (by omega) h5), if_neg (show ¬ (5 : Int32) ≤ nI (code / 6 ^ (w - 1 - k) % 6) from nI_ge (b := 5) (by omega) (by omega))]
      obtain ⟨g1, g2⟩ := (hdg k (by omega) (by omega)).resolve_left h5
      obtain ⟨x1, y1, t1, t2, hR1, fx, fy, f18, f25, -⟩ := send_both (fu := fu) hR hP hP0 hS hS0 g1 (hqP k (by omega)) g2 (hwt k (by omega) (by omega))
      rw [t1, t2, cl_some', cl_some']
      have y0 : y1 0 = y 0 := fy 0 (by omega)
      refine ih (k + 1) n m (c + 1) x1 y1 (by omega) (by omega) (by omega) hR1 (by rw [y0]; exact hP0) (by rw [y0]; exact hS0) (by rw [fx 7 (by omega)]; exact h76) (by rw [y0]; exact h34) (fun j hj => by rw [fx 30 (by omega), fx 31 (by omega), fy 26 (by omega)]; exact hq j hj) (fun j h1 h2 => ?_) (fun j h1 h2 => ?_)
      · have := hqi k j (by omega) h2
        rw [f25, upd_n (by omega)]
        exact hwt j (by omega) h2
      · rcases hdg j (by omega) h2 with h | ⟨h, h'⟩
        · exact Or.inl h
        · refine Or.inr ⟨h, ?_⟩
          rw [f18, upd_n (fun e => h5 (hdd k j (by omega) h2 e.symm))]
          exact h'
theorem S_send (fu : Nat) (hfu : 2000 ≤ fu) : St_send fu Rel := by
  intro x y hR
  obtain ⟨w, hw12, c1, c2, c3⟩ := waits_both (fu := fu) (by omega) hR
  unfold F_X9_send F_X10_send
  rw [c1, c2, clp_some, clp_some]
  by_cases hw : w ≤ 4
  · have h4 : nI w ≤ 4 := show nI w ≤ nI 4 from nI_le hw (by omega)
    obtain ⟨P, S, q, code, bc, x', y', hP, hS, hP0, hS0, f1, f2, hR', f4, f5, f6, f7, f8, f9, f10, f11, f12⟩ := shares_both hfu hR hw c3
    obtain ⟨c', x2, y2, r1, r2, r3⟩ := e_send (fu := fu) (code := code) (by omega) hP hS hw f10 (fun j hj => (f9.1 j hj).1) f9.2 f12 (fun l1_4 x_5 => (some (l1_4, x_5))) (fun l2_6 x_7 => (some (l2_6, x_7))) w 0 fu fu 0 x' y' (by omega) (by omega) (by omega) hR' hP0 hS0 f4 f5 f8 (fun j _ hj => (f9.1 j hj).2) (fun j _ hj => f11 j hj)
    rw [if_pos h4, if_pos h4, f1, f2, cl_some', cl_some']
    exact ⟨nI c', x2, y2, r1, r2, r3⟩
  · have h4 : ¬ nI w ≤ 4 := show ¬ nI w ≤ nI 4 from nI_ge (by omega) (by omega)
    rw [if_neg h4, if_neg h4]
    exact ⟨-2, x, y, rfl, rfl, hR⟩

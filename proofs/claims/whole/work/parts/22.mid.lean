/-! ===== frame, cross, pull ===== -/
def EG (i j : Nat) : Nat := if max i j - min i j = 6 then 24 + min i j else if max i j - min i j = 1 ∧ min i j % 6 < 5 then min i j else 99
theorem edge_ind (fu : Nat) (a b : Int32) (y : Mem) : F_X10_edge fu a b y = F_X10_edge 0 a b (fun _ _ => 0) := rfl
theorem side_ind (fu : Nat) (a b : Int32) (x : Mem) : F_X3_areSideBySide fu a b x = F_X3_areSideBySide 0 a b (fun _ _ => 0) := rfl
theorem next_ind (fu : Nat) (a b : Int32) (x : Mem) : F_X3_isNextOnFloor fu a b x = F_X3_isNextOnFloor 0 a b (fun _ _ => 0) := rfl
set_option maxRecDepth 10000 in
theorem edge_all : ∀ i, i < 24 → ∀ j, j < 24 → F_X10_edge 0 (nI i) (nI j) (fun _ _ => 0) = some (if EG i j = 99 then -1 else nI (EG i j)) ∧ F_X3_areSideBySide 0 (nI i) (nI j) (fun _ _ => 0) = some (if EG i j = 99 then 0 else 1) ∧ imin (nI i) (nI j) = nI (min i j) ∧ (EG i j = 99 ∨ (EG i j = min i j ∧ EG i j < 24 ∧ EG i j % 6 ≠ 5 ∧ F_X3_isNextOnFloor 0 (imin (nI i) (nI j)) (imax (nI i) (nI j)) (fun _ _ => 0) = some 1) ∨ (EG i j = 24 + min i j ∧ min i j < 18 ∧ F_X3_isNextOnFloor 0 (imin (nI i) (nI j)) (imax (nI i) (nI j)) (fun _ _ => 0) = some 0)) := by decide +kernel
theorem S_frame (fu : Nat) : St_frame fu Rel := by
  intro a b v x y hR
  obtain ⟨hS, hA, h1, h2, h3, h4, h5, h6, h7, h8, h9, h10, h11, h12⟩ := id hR
  rcases dom2 a 24 24 23 rfl rfl (by omega) with ⟨i, hi, rfl, w1, w2, -, -, -⟩ | ⟨w1, w2, -⟩
  rotate_left
  · refine ⟨-1, x, y, ?_, ?_, hR⟩
    · unfold F_X9_frame; rw [w1 fu x]; rfl
    · unfold F_X10_frame; rw [w2 fu y]; rfl
  rcases dom2 b 24 24 23 rfl rfl (by omega) with ⟨j, hj, rfl, u1, u2, -, -, -⟩ | ⟨u1, u2, -⟩
  rotate_left
  · refine ⟨-1, x, y, ?_, ?_, hR⟩
    · unfold F_X9_frame; rw [w1 fu x, clp_some, if_neg (by decide), u1 fu x]; rfl
    · unfold F_X10_frame; rw [w2 fu y, clp_some, if_neg (by decide), u2 fu y]; rfl
  obtain ⟨e1, e2, e3, e4⟩ := edge_all i hi j hj
  rcases dom2 v 3 3 2 rfl rfl (by omega) with ⟨t, ht, rfl, -, v2, n0, -, nle⟩ | ⟨-, v2, n0⟩
  rotate_left
  · refine ⟨-1, x, y, ?_, ?_, hR⟩
    · unfold F_X9_frame
      rw [w1 fu x, clp_some, if_neg (by decide), u1 fu x, clp_some, if_neg (by decide)]
      by_cases h0 : v < 0
      · rw [if_pos h0]
      · rw [if_neg h0, if_neg (nle_of_lt (n0.resolve_left h0))]
    · unfold F_X10_frame
      rw [w2 fu y, clp_some, if_neg (by decide), u2 fu y, clp_some, if_neg (by decide), edge_ind, e1, clp_some]
      by_cases h0 : (if EG i j = 99 then (-1 : Int32) else nI (EG i j)) < 0
      · rw [if_pos h0]
      · rw [if_neg h0, v2 fu y]; rfl
  by_cases h99 : EG i j = 99
  · refine ⟨-1, x, y, ?_, ?_, hR⟩
    · unfold F_X9_frame
      rw [w1 fu x, clp_some, if_neg (by decide), u1 fu x, clp_some, if_neg (by decide), if_neg n0, if_pos nle, side_ind, e2, if_pos h99]
      rfl
    · unfold F_X10_frame
      rw [w2 fu y, clp_some, if_neg (by decide), u2 fu y, clp_some, if_neg (by decide), edge_ind, e1, if_pos h99]
      rfl
  · rw [if_neg h99] at e1 e2
    have hlt : EG i j < 48 := by
      rcases e4 with h | ⟨h, h', -, -⟩ | ⟨h, h', -⟩
      · exact absurd h h99
      · omega
      · omega
    have hmin : min i j < 24 := by omega
    have ey : F_X10_frame fu (nI i) (nI j) (nI t) y = some (y 25 (EG i j), wr y 25 (EG i j) (nI t)) := by
      unfold F_X10_frame
      rw [w2 fu y, clp_some, if_neg (by decide), u2 fu y, clp_some, if_neg (by decide), edge_ind, e1, clp_some, if_neg (nI_pos (by omega)), v2 fu y, clp_some, if_neg (by decide), clp_some, chk_ok hlt (by omega), letv_eq, clp_some, chk_ok hlt (by omega), letm_eq, cN (by omega)]
    rcases e4 with h | ⟨h, h', hm, hn⟩ | ⟨h, h', hn⟩
    · exact absurd h h99
    · have hh := h12 (min i j) hmin
      rw [← h] at hh
      have ex : F_X9_frame fu (nI i) (nI j) (nI t) x = some (y 25 (EG i j), wr x 35 (EG i j) (nI t)) := by
        unfold F_X9_frame F_X3_setBetween
        rw [w1 fu x, clp_some, if_neg (by decide), u1 fu x, clp_some, if_neg (by decide), if_neg n0, if_pos nle, side_ind, e2, clp_some, if_neg (by decide), letv_eq, next_ind, hn, clp_some, if_neg (by decide), e3, chk_ok hmin (by omega), letv_eq, chk_ok hmin (by omega), letm_eq, cN (by omega), cl_some', ← h, hh.1]
      refine ⟨_, _, _, ex, ey, hS, hA, h1, h2, h3, h4, h5, h6, h7, h8, h9, h10, h11, ?_⟩
      intro p hp
      obtain ⟨c1, c2, c3, c4, c5, c6⟩ := h12 p hp
      show upd (x 35) (EG i j) (nI t) p = upd (y 25) (EG i j) (nI t) p ∧ x 36 p = upd (y 25) (EG i j) (nI t) (24 + p) ∧ (∃ v, v ≤ 2 ∧ upd (y 25) (EG i j) (nI t) p = nI v) ∧ (∃ v, v ≤ 2 ∧ upd (y 25) (EG i j) (nI t) (24 + p) = nI v) ∧ (p % 6 = 5 → upd (y 25) (EG i j) (nI t) p = 0) ∧ (18 ≤ p → upd (y 25) (EG i j) (nI t) (24 + p) = 0)
      have n24 : ¬ 24 + p = EG i j := by omega
      rw [upd_n n24]
      by_cases e : p = EG i j
      · subst e
        rw [upd_s, upd_s]
        exact ⟨rfl, c2, ⟨t, by omega, rfl⟩, c4, fun h => absurd h hm, c6⟩
      · rw [upd_n e, upd_n e]
        exact ⟨c1, c2, c3, c4, c5, c6⟩
    · have hh := h12 (min i j) hmin
      rw [← h] at hh
      have ex : F_X9_frame fu (nI i) (nI j) (nI t) x = some (y 25 (EG i j), wr x 36 (min i j) (nI t)) := by
        unfold F_X9_frame F_X3_setBetween
        rw [w1 fu x, clp_some, if_neg (by decide), u1 fu x, clp_some, if_neg (by decide), if_neg n0, if_pos nle, side_ind, e2, clp_some, if_neg (by decide), letv_eq, next_ind, hn, clp_some, if_pos rfl, e3, chk_ok hmin (by omega), letv_eq, chk_ok hmin (by omega), letm_eq, cN (by omega), cl_some', hh.2.1]
      refine ⟨_, _, _, ex, ey, hS, hA, h1, h2, h3, h4, h5, h6, h7, h8, h9, h10, h11, ?_⟩
      intro p hp
      obtain ⟨c1, c2, c3, c4, c5, c6⟩ := h12 p hp
      show x 35 p = upd (y 25) (EG i j) (nI t) p ∧ upd (x 36) (min i j) (nI t) p = upd (y 25) (EG i j) (nI t) (24 + p) ∧ (∃ v, v ≤ 2 ∧ upd (y 25) (EG i j) (nI t) p = nI v) ∧ (∃ v, v ≤ 2 ∧ upd (y 25) (EG i j) (nI t) (24 + p) = nI v) ∧ (p % 6 = 5 → upd (y 25) (EG i j) (nI t) p = 0) ∧ (18 ≤ p → upd (y 25) (EG i j) (nI t) (24 + p) = 0)
      have n24 : ¬ p = EG i j := by omega
      rw [upd_n n24]
      by_cases e : p = min i j
      · have e' : 24 + p = EG i j := by omega
        rw [e', upd_s, ← e, upd_s]
        exact ⟨c1, rfl, c3, ⟨t, by omega, rfl⟩, c5, fun h => absurd h (by omega)⟩
      · have e' : ¬ 24 + p = EG i j := by omega
        rw [upd_n e', upd_n e]
        exact ⟨c1, c2, c3, c4, c5, c6⟩
/-- crossed already, as the model looks it up -/
theorem e_crossed (fu : Nat) (a b : Int32) (y : Mem) (N : Nat) (hN : N ≤ 4) (h0 : y 0 10 = nI N) (K : Int32 → Option Int32) : ∀ (d k n : Nat) (acc : Int32), k + d = N → d < n → (acc = 0 ∨ acc = 1) → ∃ r : Int32, L_X10_areCrossed_5 fu a b y n acc (nI k) K = K r ∧ (r = 0 ∨ r = 1) ∧ (r = 1 ↔ acc = 1 ∨ ∃ s, k ≤ s ∧ s < N ∧ ((y 9 s = a ∧ y 10 s = b) ∨ (y 9 s = b ∧ y 10 s = a))) := by
  intro d
  induction d with
  | zero =>
    intro k n acc hk hn ha
    obtain ⟨n, rfl⟩ : ∃ m, n = m + 1 := ⟨n - 1, by omega⟩
    refine ⟨acc, ?_, ha, ?_⟩
    · rw [L_X10_areCrossed_5, h0, if_pos (nI_le (by omega) (by omega))]
    · constructor
      · exact Or.inl
      · rintro (h | ⟨s, h1, h2, -⟩)
        · exact h
        · omega
  | succ d ih =>
    intro k n acc hk hn ha
    obtain ⟨n, rfl⟩ : ∃ m, n = m + 1 := ⟨n - 1, by omega⟩
    have hg : ¬ nI N ≤ nI k := nI_ge (by omega) (by omega)
    have hc : ∀ M : Option Int32, chk (nI k) 4 M = M := fun M => chk_ok (by omega) (by omega)
    have hcN : (nI k).toNatClampNeg = k := cN (by omega)
    rcases ha with rfl | rfl
    · by_cases e : (y 9 k = a ∧ y 10 k = b) ∨ (y 9 k = b ∧ y 10 k = a)
      · obtain ⟨r, r1, r2, r3⟩ := ih (k + 1) n 1 (by omega) (by omega) (Or.inr rfl)
        refine ⟨r, ?_, r2, r3.trans ⟨fun _ => Or.inr ⟨k, by omega, by omega, e⟩, fun _ => Or.inl rfl⟩⟩
        rw [L_X10_areCrossed_5, h0, if_neg hg, if_pos rfl]
        simp only [hc, hcN, nI_1, r1]
        rcases e with ⟨p1, p2⟩ | ⟨p1, p2⟩
        · simp only [p1, p2, if_true]
        · by_cases q1 : y 9 k = a
          · by_cases q2 : y 10 k = b
            · simp only [q1, q2, if_true]
            · simp only [q1, q2, p2, if_true, if_false]
              rw [← q1, p1]; simp
          · simp only [q1, p1, p2, if_true, if_false]
            simp [show ¬ b = a from fun h => q1 (p1.trans h)]
      · obtain ⟨r, r1, r2, r3⟩ := ih (k + 1) n 0 (by omega) (by omega) (Or.inl rfl)
        refine ⟨r, ?_, r2, r3.trans ?_⟩
        · rw [L_X10_areCrossed_5, h0, if_neg hg, if_pos rfl]
          simp only [hc, hcN, nI_1, r1]
          have e1 : ¬ (y 9 k = a ∧ y 10 k = b) := fun h => e (Or.inl h)
          have e2 : ¬ (y 9 k = b ∧ y 10 k = a) := fun h => e (Or.inr h)
          by_cases q1 : y 9 k = a
          · have q2 : ¬ y 10 k = b := fun h => e1 ⟨q1, h⟩
            rw [if_pos q1, if_neg q2]
            by_cases q3 : y 9 k = b
            · rw [if_pos q3, if_neg (fun h => e2 ⟨q3, h⟩)]
            · rw [if_neg q3]
          · rw [if_neg q1]
            by_cases q3 : y 9 k = b
            · rw [if_pos q3, if_neg (fun h => e2 ⟨q3, h⟩)]
            · rw [if_neg q3]
        · constructor
          · rintro (h | ⟨s, h1, h2, h3⟩)
            · exact absurd h (by decide)
            · exact Or.inr ⟨s, by omega, h2, h3⟩
          · rintro (h | ⟨s, h1, h2, h3⟩)
            · exact absurd h (by decide)
            · by_cases e2 : s = k
              · subst e2; exact absurd h3 e
              · exact Or.inr ⟨s, by omega, h2, h3⟩
    · obtain ⟨r, r1, r2, r3⟩ := ih (k + 1) n 1 (by omega) (by omega) (Or.inr rfl)
      refine ⟨r, ?_, r2, r3.trans ⟨fun _ => Or.inl rfl, fun _ => Or.inl rfl⟩⟩
      rw [L_X10_areCrossed_5, h0, if_neg hg, if_neg (by decide), nI_1, r1]
theorem S_cross (fu : Nat) (hfu : 100 ≤ fu) : St_cross fu Rel := by
  intro a b x y hR
  obtain ⟨hS, hA, h1, h2, h3, h4, h5, h6, h7, h8, h9, h10, h11, h12⟩ := id hR
  rcases dom2 a 16 16 15 rfl rfl (by omega) with ⟨i, hi, rfl, w1, w2, -, -, -⟩ | ⟨w1, w2, -⟩
  rotate_left
  · refine ⟨-1, x, y, ?_, ?_, hR⟩
    · unfold F_X9_cross; rw [w1 fu x]; rfl
    · unfold F_X10_cross; rw [w2 fu y]; rfl
  rcases dom2 b 16 16 15 rfl rfl (by omega) with ⟨j, hj, rfl, u1, u2, -, -, -⟩ | ⟨u1, u2, -⟩
  rotate_left
  · refine ⟨-1, x, y, ?_, ?_, hR⟩
    · unfold F_X9_cross; rw [w1 fu x, clp_some, if_neg (by decide), u1 fu x]; rfl
    · unfold F_X10_cross; rw [w2 fu y, clp_some, if_neg (by decide), u2 fu y]; rfl
  by_cases hij : i = j
  · subst hij
    refine ⟨-1, x, y, ?_, ?_, hR⟩
    · unfold F_X9_cross; rw [w1 fu x, clp_some, if_neg (by decide), clp_some, if_neg (by decide), if_pos rfl]
    · unfold F_X10_cross; rw [w2 fu y, clp_some, if_neg (by decide), clp_some, if_neg (by decide), if_pos rfl]
  have hne : ¬ nI i = nI j := lit_ne i j (by omega) (by omega) hij
  obtain ⟨N, hN, hN0, hr, hb⟩ := h5
  obtain ⟨s1, s2, s3, s4, s5, s6, s7, s8⟩ := hS
  obtain ⟨r, r1, r2, r3⟩ := e_crossed fu (nI i) (nI j) y N hN hN0 (fun l3_1 => retzp l3_1) N 0 fu 0 (by omega) (by omega) (Or.inl rfl)
  have r1' : F_X10_areCrossed fu (nI i) (nI j) y = some r := by
    unfold F_X10_areCrossed
    have r1'' : L_X10_areCrossed_5 fu (nI i) (nI j) y fu 0 0 (fun l3_1 => retzp l3_1) = _ := r1
    rw [r1'']
    rcases r2 with rfl | rfl <;> rfl
  have hbit : bt (x 18 i) j = true ↔ r = 1 := by
    rw [hb i j hi hj, r3]
    constructor
    · rintro ⟨k, hk, h⟩; exact Or.inr ⟨k, by omega, hk, h⟩
    · rintro (h | ⟨k, -, hk, h⟩)
      · exact absurd h (by decide)
      · exact ⟨k, hk, h⟩
  have ac : F_X8_areCrossed fu (nI i) (nI j) x = some r := by
    unfold F_X8_areCrossed
    rw [chk_ok hi (by omega), cN (by omega)]
    rcases r2 with e | e
    · have : bt (x 18 i) j = false := by
        cases h : bt (x 18 i) j
        · rfl
        · rw [hbit.mp h] at e; exact absurd e (by decide)
      rw [if_pos ((bit_eq0 (by omega)).mpr this), e]; rfl
    · have : bt (x 18 i) j = true := hbit.mpr e
      rw [if_neg (fun h => by rw [(bit_eq0 (by omega)).mp h] at this; cases this), e]; rfl
  rcases r2 with e | e
  · by_cases hfull : N = 4
    · refine ⟨-3, x, y, ?_, ?_, hR⟩
      · unfold F_X9_cross
        rw [w1 fu x, clp_some, if_neg (by decide), u1 fu x, clp_some, if_neg (by decide), if_neg hne, ac, clp_some, if_pos e, s3, hN0, hfull]
        rfl
      · unfold F_X10_cross
        rw [w2 fu y, clp_some, if_neg (by decide), u2 fu y, clp_some, if_neg (by decide), if_neg hne, r1', clp_some, if_pos e, hN0, hfull]
        rfl
    · have hlt : N < 4 := by omega
      have ex : F_X9_cross fu (nI i) (nI j) x = some (nI (N + 1), wr (wr (wr x 18 i (x 18 i ||| ((1 : Int32) <<< (nI j &&& 31)))) 18 j (x 18 j ||| ((1 : Int32) <<< (nI i &&& 31)))) 3 5 (nI (N + 1))) := by
        unfold F_X9_cross F_X8_addPair
        have e35 : x 3 5 = nI N := s3.trans hN0
        have ej : wr x 18 i (x 18 i ||| ((1 : Int32) <<< (nI j &&& 31))) 18 j = x 18 j := by rw [wr_row, upd_n (fun h => hij h.symm)]
        rw [w1 fu x, clp_some, if_neg (by decide), u1 fu x, clp_some, if_neg (by decide), if_neg hne, ac, clp_some, if_pos e, e35, if_pos (show nI N < 4 from nI_lt (b := 4) hlt (by omega)), chk_ok hi (by omega), chk_ok hi (by omega), letm_eq, chk_ok hj (by omega), chk_ok hj (by omega), letm_eq, letm_eq, cN (by omega), cN (by omega), cl_some', ej, wr_at]
        have e35' : wr (wr x 18 i (x 18 i ||| ((1 : Int32) <<< (nI j &&& 31)))) 18 j (x 18 j ||| ((1 : Int32) <<< (nI i &&& 31))) 3 5 = nI N := e35
        rw [e35', nI_1]
      have ey : F_X10_cross fu (nI i) (nI j) y = some (nI (N + 1), wr (wr (wr y 9 N (nI i)) 10 N (nI j)) 0 10 (nI (N + 1))) := by
        unfold F_X10_cross
        have e1 : wr y 9 N (nI i) 0 10 = nI N := hN0
        have e2 : wr (wr y 9 N (nI i)) 10 N (nI j) 0 10 = nI N := hN0
        rw [w2 fu y, clp_some, if_neg (by decide), u2 fu y, clp_some, if_neg (by decide), if_neg hne, r1', clp_some, if_pos e, hN0, if_neg (show ¬ nI N = 4 from lit_ne N 4 (by omega) (by omega) hfull), chk_ok hlt (by omega), letm_eq, cN (by omega), e1, chk_ok hlt (by omega), letm_eq, cN (by omega), letm_eq, e2, nI_1, wr_at]
      refine ⟨_, _, _, ex, ey, ⟨s1, s2, rfl, s4, s5, s6, s7, s8⟩, hA, h1, h2, h3, h4, ?_, h6, h7, h8, h9, h10, h11, h12⟩
      have y9 : ∀ k, wr (wr (wr y 9 N (nI i)) 10 N (nI j)) 0 10 (nI (N + 1)) 9 k = upd (y 9) N (nI i) k := fun _ => rfl
      have y10 : ∀ k, wr (wr (wr y 9 N (nI i)) 10 N (nI j)) 0 10 (nI (N + 1)) 10 k = upd (y 10) N (nI j) k := fun _ => rfl
      have x18 : ∀ c, wr (wr (wr x 18 i (x 18 i ||| ((1 : Int32) <<< (nI j &&& 31)))) 18 j (x 18 j ||| ((1 : Int32) <<< (nI i &&& 31)))) 3 5 (nI (N + 1)) 18 c = upd (upd (x 18) i (x 18 i ||| ((1 : Int32) <<< (nI j &&& 31)))) j (x 18 j ||| ((1 : Int32) <<< (nI i &&& 31))) c := fun _ => rfl
      refine ⟨N + 1, by omega, rfl, fun k hk => ?_, fun c d hc hd => ?_⟩
      · rw [y9, y10]
        by_cases ek : k = N
        · subst ek; rw [upd_s, upd_s]; exact ⟨i, j, hi, hj, rfl, rfl⟩
        · rw [upd_n ek, upd_n ek]; exact hr k (by omega)
      · rw [x18]
        have old : bt (upd (upd (x 18) i (x 18 i ||| ((1 : Int32) <<< (nI j &&& 31)))) j (x 18 j ||| ((1 : Int32) <<< (nI i &&& 31))) c) d = true ↔ bt (x 18 c) d = true ∨ (c = i ∧ d = j) ∨ (c = j ∧ d = i) := by
          by_cases ec : c = j
          · subst ec
            rw [upd_s, b_or, b_one (by omega) (by omega)]
            have : ¬ c = i := fun h => hij h.symm
            simp [this]
          · rw [upd_n ec]
            by_cases ec2 : c = i
            · subst ec2
              rw [upd_s, b_or, b_one (by omega) (by omega)]
              simp [ec]
            · rw [upd_n ec2]; simp [ec, ec2]
        rw [old, hb c d hc hd]
        constructor
        · rintro (⟨k, hk, h⟩ | ⟨rfl, rfl⟩ | ⟨rfl, rfl⟩)
          · refine ⟨k, by omega, ?_⟩
            rw [y9, y10, upd_n (by omega), upd_n (by omega)]
            exact h
          · exact ⟨N, by omega, Or.inl ⟨by rw [y9, upd_s], by rw [y10, upd_s]⟩⟩
          · exact ⟨N, by omega, Or.inr ⟨by rw [y9, upd_s], by rw [y10, upd_s]⟩⟩
        · rintro ⟨k, hk, h⟩
          rw [y9, y10] at h
          by_cases ek : k = N
          · subst ek
            rw [upd_s, upd_s] at h
            rcases h with ⟨p1, p2⟩ | ⟨p1, p2⟩
            · exact Or.inr (Or.inl ⟨(nI_inj (by omega) (by omega) p1).symm, (nI_inj (by omega) (by omega) p2).symm⟩)
            · exact Or.inr (Or.inr ⟨(nI_inj (by omega) (by omega) p2).symm, (nI_inj (by omega) (by omega) p1).symm⟩)
          · rw [upd_n ek, upd_n ek] at h
            exact Or.inl ⟨k, by omega, h⟩
  · refine ⟨-2, x, y, ?_, ?_, hR⟩
    · unfold F_X9_cross
      rw [w1 fu x, clp_some, if_neg (by decide), u1 fu x, clp_some, if_neg (by decide), if_neg hne, ac, clp_some, if_neg (by rw [e]; decide)]
    · unfold F_X10_cross
      rw [w2 fu y, clp_some, if_neg (by decide), u2 fu y, clp_some, if_neg (by decide), if_neg hne, r1', clp_some, if_neg (by rw [e]; decide)]

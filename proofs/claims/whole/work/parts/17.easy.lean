/-! ===== steps of the methods without loops ===== -/
theorem lit_ne (a b : Nat) (ha : a < 2 ^ 31) (hb : b < 2 ^ 31) (h : ¬ a = b) : ¬ nI a = nI b := fun e => h (nI_inj ha hb e)
theorem m1_neg : ((-1 : Int32)) < 0 := by decide
theorem dom2 (v : Int32) (N : Nat) (n hi : Int32) (hn : n = nI N) (hh : hi = nI N - 1) (hN : N < 2 ^ 30) : (∃ j, j < N ∧ v = nI j ∧ (∀ fu x, F_X9_within fu v n x = some 1) ∧ (∀ fu y, F_X10_in fu v 0 hi y = some 1) ∧ ¬ v < 0 ∧ v < n ∧ v ≤ hi) ∨ ((∀ fu x, F_X9_within fu v n x = some 0) ∧ (∀ fu y, F_X10_in fu v 0 hi y = some 0) ∧ (v < 0 ∨ hi < v)) := by
  have hs : (nI N - 1).toInt = (N : Int) - 1 := pk_sub_toInt (a := N) (b := 1) hN (by omega)
  subst hn; subst hh
  rcases dom v N hN with ⟨j, hj, rfl, h1, h2⟩ | ⟨h1, h2, h3⟩
  · refine Or.inl ⟨j, hj, rfl, h1, h2, nI_pos (by omega), nI_lt hj (by omega), ?_⟩
    rw [Int32.le_iff_toInt_le, hs, nI_toInt (by omega)]
    omega
  · refine Or.inr ⟨h1, h2, h3.imp id (fun h => ?_)⟩
    rw [Int32.le_iff_toInt_le, nI_toInt (by omega)] at h
    rw [Int32.lt_iff_toInt_lt, hs]
    omega
theorem nle_of_lt {a b : Int32} (h : a < b) : ¬ b ≤ a := by
  rw [Int32.lt_iff_toInt_lt] at h
  rw [Int32.le_iff_toInt_le]
  omega
theorem le_of_nlt {a b : Int32} (h : ¬ a < b) : b ≤ a := by
  rw [Int32.lt_iff_toInt_lt] at h
  rw [Int32.le_iff_toInt_le]
  omega
theorem nlt_of_le {a b : Int32} (h : a ≤ b) : ¬ b < a := fun h2 => nle_of_lt h2 h
theorem S_crank (fu : Nat) : St_crank fu Rel := by
  intro a b x y hR
  obtain ⟨hS, hA, h1, h2, h3, h4, h5, h6, h7, h8, h9, h10, h11, h12⟩ := id hR
  rcases dom2 a 16 16 15 rfl rfl (by omega) with ⟨j, hj, rfl, w1, w2, -, -, -⟩ | ⟨w1, w2, -⟩
  · rcases dom2 b 11 11 10 rfl rfl (by omega) with ⟨v, hv, rfl, -, u2, n0, -, nle⟩ | ⟨-, u2, n0⟩
    · have ex : F_X9_crank fu (nI j) (nI v) x = some (x 17 j, wr (wr x 17 j (nI v)) 3 4 (if v = 10 then x 3 4 ||| ((1 : Int32) <<< (nI j &&& 31)) else x 3 4 &&& (((1 : Int32) <<< (nI j &&& 31)) ^^^ (-1)))) := by
        unfold F_X9_crank F_X8_setCrank
        rw [w1 fu x, clp_some, if_neg (by decide), if_neg n0, if_pos nle, chk_ok hj (by omega), letv_eq, chk_ok hj (by omega), letm_eq, letv_eq, cN (by omega)]
        by_cases e : v = 10
        · subst e
          rw [if_pos (by rfl), letm_eq, cl_some', if_pos rfl]
          rfl
        · rw [if_neg (show ¬ nI v = (10 : Int32) from fun h => e (nI_inj (by omega) (by omega) (show nI v = nI 10 from h))), letm_eq, cl_some', if_neg e]
          rfl
      have ey : F_X10_crank fu (nI j) (nI v) y = some (y 1 j, wr y 1 j (nI v)) := by
        unfold F_X10_crank
        rw [w2 fu y, clp_some, if_neg (by decide), u2 fu y, clp_some, if_neg (by decide), chk_ok hj (by omega), letv_eq, chk_ok hj (by omega), letm_eq, cN (by omega)]
      obtain ⟨a1, a2, a3, a4, a5, a6, a7, a8, a9⟩ := hA
      refine ⟨y 1 j, wr (wr x 17 j (nI v)) 3 4 (if v = 10 then x 3 4 ||| ((1 : Int32) <<< (nI j &&& 31)) else x 3 4 &&& (((1 : Int32) <<< (nI j &&& 31)) ^^^ (-1))), wr y 1 j (nI v), by rw [ex, a8], ey, hS, ⟨a1, a2, a3, a4, a5, a6, a7, ?_, a9⟩, h1, h2, ?_, h4, h5, h6, h7, h8, h9, h10, h11, h12⟩
      · show upd (x 17) j (nI v) = upd (y 1) j (nI v)
        rw [a8]
      · intro c hc
        show (∃ w, w ≤ 10 ∧ upd (y 1) j (nI v) c = nI w) ∧ bt (if v = 10 then x 3 4 ||| ((1 : Int32) <<< (nI j &&& 31)) else x 3 4 &&& (((1 : Int32) <<< (nI j &&& 31)) ^^^ (-1))) c = decide (upd (y 1) j (nI v) c = 10)
        by_cases e : c = j
        · subst e
          rw [upd_s]
          refine ⟨⟨v, by omega, rfl⟩, ?_⟩
          by_cases e : v = 10
          · subst e
            rw [if_pos rfl, b_or, b_one (by omega) (by omega)]
            simp
            rfl
          · rw [if_neg e, b_and, b_not (by omega), b_one (by omega) (by omega)]
            have := lit_ne v 10 (by omega) (by omega) e
            have h : ¬ nI v = 10 := this
            simp [h]
        · rw [upd_n e]
          refine ⟨(h3 c hc).1, ?_⟩
          rw [← (h3 c hc).2]
          by_cases e2 : v = 10
          · rw [if_pos e2, b_or, b_one (by omega) (by omega)]
            simp [e]
          · rw [if_neg e2, b_and, b_not (by omega), b_one (by omega) (by omega)]
            simp [e]
    · refine ⟨-1, x, y, ?_, ?_, hR⟩
      · unfold F_X9_crank
        rw [w1 fu x, clp_some, if_neg (by decide)]
        by_cases h0 : b < 0
        · rw [if_pos h0]
        · rw [if_neg h0, if_neg (nle_of_lt (n0.resolve_left h0))]
      · unfold F_X10_crank
        rw [w2 fu y, clp_some, if_neg (by decide), u2 fu y]
        rfl
  · refine ⟨-1, x, y, ?_, ?_, hR⟩
    · unfold F_X9_crank; rw [w1 fu x]; rfl
    · unfold F_X10_crank; rw [w2 fu y]; rfl
theorem S_uncross_aux (fu : Nat) (l1 : Int32) (K : Mem → Res) : ∀ (d k n : Nat) (x : Mem), k + d = 16 → d < n → ∃ x' : Mem, L_X8_dropPairs_7 fu l1 n (nI k) x K = K x' ∧ (∀ b, b ≠ 18 → x' b = x b) ∧ ∀ c, c < 16 → x' 18 c = if k ≤ c then 0 else x 18 c := by
  intro d
  induction d with
  | zero =>
    intro k n x hk hn
    obtain ⟨n, rfl⟩ : ∃ m, n = m + 1 := ⟨n - 1, by omega⟩
    refine ⟨x, ?_, fun _ _ => rfl, fun c hc => by rw [if_neg (by omega)]⟩
    rw [L_X8_dropPairs_7, if_pos (show (16 : Int32) ≤ nI k from nI_le (a := 16) (by omega) (by omega))]
  | succ d ih =>
    intro k n x hk hn
    obtain ⟨n, rfl⟩ : ∃ m, n = m + 1 := ⟨n - 1, by omega⟩
    obtain ⟨x', h1, h2, h3⟩ := ih (k + 1) n (wr x 18 k 0) (by omega) (by omega)
    refine ⟨x', ?_, fun b hb => by rw [h2 b hb, wr_ne hb], fun c hc => ?_⟩
    · rw [L_X8_dropPairs_7, if_neg (show ¬ (16 : Int32) ≤ nI k from nI_ge (b := 16) (by omega) (by omega)), chk_ok (by omega) (by omega), letm_eq, cN (by omega), nI_1]
      exact h1
    · rw [h3 c hc, wr_row]
      by_cases e : c = k
      · subst e; rw [upd_s, if_neg (by omega), if_pos (by omega)]
      · rw [upd_n e]
        by_cases e2 : k ≤ c
        · rw [if_pos (by omega), if_pos e2]
        · rw [if_neg (by omega), if_neg e2]
theorem S_uncross (fu : Nat) (hfu : 100 ≤ fu) : St_uncross fu Rel := by
  intro x y hR
  obtain ⟨hS, hA, h1, h2, h3, h4, h5, h6, h7, h8, h9, h10, h11, h12⟩ := id hR
  obtain ⟨x', e1, e2, e3⟩ := S_uncross_aux fu (x 3 5) (fun x_3 => letm (wr x_3 3 5 0) (fun x_4 => some ((x 3 5), x_4))) 16 0 fu x rfl (by omega)
  have ex : F_X9_uncross fu x = some (x 3 5, wr x' 3 5 0) := by
    unfold F_X9_uncross F_X8_dropPairs
    rw [letv_eq]
    have e1' : L_X8_dropPairs_7 fu (x 3 5) fu 0 x (fun x_3 => letm (wr x_3 3 5 0) (fun x_4 => some ((x 3 5), x_4))) = _ := e1
    rw [e1', letm_eq, cl_some']
  obtain ⟨s1, s2, s3, s4, s5, s6, s7, s8⟩ := hS
  obtain ⟨a1, a2, a3, a4, a5, a6, a7, a8, a9, a10, a11, a12, a13, a14, a15, a16⟩ := hA
  have z : ∀ b, b ≠ 18 → b ≠ 3 → wr x' 3 5 0 b = x b := fun b h1 h2 => by rw [wr_ne h2, e2 b h1]
  have z3 : ∀ i, i ≠ 5 → wr x' 3 5 0 3 i = x 3 i := fun i hi => by rw [wr_row, upd_n hi, e2 3 (by decide)]
  refine ⟨y 0 10, _, wr y 0 10 0, by rw [ex, s3], ?_, ⟨?_, ?_, rfl, ?_, ?_, ?_, ?_, ?_⟩, ?_, h1, ?_, ?_, h4, ?_, h6, h7, h8, ?_, ?_, ?_, ?_⟩
  · unfold F_X10_uncross; rfl
  · rw [z 1 (by decide) (by decide)]; exact s1
  · rw [z3 6 (by decide)]; exact s2
  · rw [z 4 (by decide) (by decide)]; exact s4
  · rw [z 6 (by decide) (by decide)]; exact s5
  · rw [z 5 (by decide) (by decide)]; exact s6
  · rw [z 5 (by decide) (by decide)]; exact s7
  · rw [z 8 (by decide) (by decide)]; exact s8
  · unfold EqA
    rw [z 10 (by decide) (by decide), z 11 (by decide) (by decide), z 12 (by decide) (by decide), z 13 (by decide) (by decide), z 14 (by decide) (by decide), z 15 (by decide) (by decide), z 16 (by decide) (by decide), z 17 (by decide) (by decide), z 19 (by decide) (by decide), z 20 (by decide) (by decide), z 21 (by decide) (by decide), z 23 (by decide) (by decide), z 24 (by decide) (by decide), z 27 (by decide) (by decide), z 28 (by decide) (by decide), z 29 (by decide) (by decide)]
    exact ⟨a1, a2, a3, a4, a5, a6, a7, a8, a9, a10, a11, a12, a13, a14, a15, a16⟩
  · rw [z 2 (by decide) (by decide)]; exact h2
  · rw [z3 4 (by decide)]; exact h3
  · refine ⟨0, by omega, rfl, fun k hk => absurd hk (by omega), fun a b ha hb => ?_⟩
    have e : wr x' 3 5 0 18 a = 0 := by rw [wr_ne (by decide), e3 a ha, if_pos (by omega)]
    rw [e, b_0]
    constructor
    · intro h; cases h
    · rintro ⟨k, hk, -⟩; omega
  · rw [z 22 (by decide) (by decide)]; exact h9
  · rw [z 25 (by decide) (by decide), z 26 (by decide) (by decide)]; exact h10
  · rw [z 33 (by decide) (by decide), z 8 (by decide) (by decide)]; exact h11
  · rw [z 35 (by decide) (by decide), z 36 (by decide) (by decide)]; exact h12

/-! ===== flags, swings, frame, cross ===== -/
theorem shl_one {k : Nat} (hk : k < 30) : (1 : Int32) <<< (nI k &&& 31) = nI (2 ^ k) := by
  have h := pk_shlN (n := 1) (nI k &&& 31) k (s_l k (by omega)) (by rw [Nat.one_mul]; exact Nat.pow_lt_pow_right (by omega) (by omega))
  rw [Nat.one_mul] at h
  exact h
theorem pow_small {k n : Nat} (hk : k ≤ n) : 2 ^ k ≤ 2 ^ n := Nat.pow_le_pow_right (by omega) hk
theorem S_flags (fu : Nat) : St_flags fu Rel := by
  intro a x y hR
  obtain ⟨hS, hA, h1, h2, h3, h4, h5, h6, h7, h8, h9, h10, h11, h12⟩ := id hR
  obtain ⟨P, hP, hP0, hPr⟩ := id h1
  obtain ⟨s1, s2, s3, s4, s5, s6, s7, s8⟩ := hS
  have hpw : 2 ^ P ≤ 2 ^ 12 := pow_small hP
  have hx : (1 : Int32) <<< (x 1 0 &&& 31) = nI (2 ^ P) := by rw [s1, hP0]; exact shl_one (by omega)
  have hy : (1 : Int32) <<< (y 0 4 &&& 31) = nI (2 ^ P) := by rw [hP0]; exact shl_one (by omega)
  rcases dom a (2 ^ P) (by omega) with ⟨j, hj, rfl, w1, w2⟩ | ⟨w1, w2, -⟩
  · obtain ⟨f, hf, ef⟩ := h8
    refine ⟨y 0 14 &&& nI j, wr x 5 5 (x 5 5 &&& (nI j ^^^ (-1))), wr y 0 14 (y 0 14 &&& (nI j ^^^ (-1))), ?_, ?_, ⟨s1, s2, s3, s4, s5, ?_, s7, s8⟩, hA, h1, h2, h3, h4, h5, h6, h7, ?_, h9, h10, h11, h12⟩
    · unfold F_X9_flags
      rw [hx, w1 fu x, clp_some, if_neg (by decide), letv_eq, letm_eq, s6]
    · unfold F_X10_flags
      rw [hy, w2 fu y, clp_some, if_neg (by decide), letv_eq, letm_eq]
    · show x 5 5 &&& (nI j ^^^ (-1)) = y 0 14 &&& (nI j ^^^ (-1))
      rw [s6]
    · show ∃ f', f' < 4096 ∧ y 0 14 &&& (nI j ^^^ (-1)) = nI f'
      have hb : (y 0 14 &&& (nI j ^^^ (-1))) &&& 4095 = y 0 14 &&& (nI j ^^^ (-1)) := by
        apply b_ext
        intro i hi
        rw [b_and, b_and, ef]
        have h4095 : ∀ i, i < 32 → bt (4095 : Int32) i = decide (i < 12) := by decide +kernel
        rw [h4095 i hi]
        by_cases e : i < 12
        · simp [e]
        · rw [bt_hi (c := f) (n := 12) (by omega) (by omega) (by omega)]; simp
      obtain ⟨m, hm, em⟩ := pk_andE (y 0 14 &&& (nI j ^^^ (-1))) (m := 4095) 12 (by decide)
      rw [hb] at em
      exact ⟨m, by omega, em⟩
  · refine ⟨-1, x, y, ?_, ?_, hR⟩
    · unfold F_X9_flags; rw [hx, w1 fu x]; rfl
    · unfold F_X10_flags; rw [hy, w2 fu y]; rfl
/-- the mask of the places below n at which p holds -/
def mk (p : Nat → Bool) : Nat → Int32
  | 0 => 0
  | k + 1 => if p k then mk p k ||| ((1 : Int32) <<< (nI k &&& 31)) else mk p k
theorem mk_bt (p : Nat → Bool) : ∀ n i, n ≤ 32 → i < 32 → bt (mk p n) i = (decide (i < n) && p i) := by
  intro n
  induction n with
  | zero => intro i _ _; simp [mk, b_0]
  | succ n ih =>
    intro i hn hi
    unfold mk
    by_cases hp : p n = true
    · rw [if_pos hp, b_or, ih i (by omega) hi, b_one (by omega) hi]
      by_cases e : i = n
      · subst e; simp [hp]
      · by_cases h : i < n
        · simp [h, e, Nat.lt_succ_of_lt h]
        · simp [h, e]; omega
    · rw [if_neg hp, ih i (by omega) hi]
      by_cases e : i = n
      · subst e; simp [hp]
      · by_cases h : i < n
        · simp [h, Nat.lt_succ_of_lt h]
        · have : ¬ i < n + 1 := by omega
          simp [h, this]
theorem or_self0 (a : Int32) : a ||| 0 = a := by apply b_ext; intro i _; rw [b_or, b_0]; simp
theorem e_swinging (fu : Nat) (x : Mem) (K : Int32 → Option Int32) : ∀ (d k n : Nat), k + d = 8 → d < n → L_X0_swinging_4 fu x n (mk (fun b => !decide (x 16 b ≤ 0)) k) (nI k) K = K (mk (fun b => !decide (x 16 b ≤ 0)) 8) := by
  intro d
  induction d with
  | zero =>
    intro k n hk hn
    obtain ⟨n, rfl⟩ : ∃ m, n = m + 1 := ⟨n - 1, by omega⟩
    have : k = 8 := by omega
    subst this
    rw [L_X0_swinging_4, if_pos (by decide)]
  | succ d ih =>
    intro k n hk hn
    obtain ⟨n, rfl⟩ : ∃ m, n = m + 1 := ⟨n - 1, by omega⟩
    rw [L_X0_swinging_4, if_neg (show ¬ (8 : Int32) ≤ nI k from nI_ge (b := 8) (by omega) (by omega)), chk_ok (by omega) (by omega), cN (by omega), nI_1, letv_eq]
    have ih' := ih (k + 1) n (by omega) (by omega)
    by_cases e : x 16 k ≤ 0
    · rw [if_pos e, ← ih']
      congr 1
      simp [mk, e]
    · rw [if_neg e, ← ih']
      congr 1
      simp [mk, e]
theorem e_swings (fu : Nat) (l1 : Int32) (y : Mem) (K : Int32 → Option Int32) : ∀ (d k n : Nat), k + d = 8 → d < n → L_X10_swings_16 fu l1 y n (mk (fun b => !decide (y 21 b ≤ 0)) k) (nI k) K = K (mk (fun b => !decide (y 21 b ≤ 0)) 8) := by
  intro d
  induction d with
  | zero =>
    intro k n hk hn
    obtain ⟨n, rfl⟩ : ∃ m, n = m + 1 := ⟨n - 1, by omega⟩
    have : k = 8 := by omega
    subst this
    rw [L_X10_swings_16, if_pos (by decide)]
  | succ d ih =>
    intro k n hk hn
    obtain ⟨n, rfl⟩ : ∃ m, n = m + 1 := ⟨n - 1, by omega⟩
    rw [L_X10_swings_16, if_neg (show ¬ (8 : Int32) ≤ nI k from nI_ge (b := 8) (by omega) (by omega)), chk_ok (by omega) (by omega), cN (by omega), nI_1, jn_eq]
    have ih' := ih (k + 1) n (by omega) (by omega)
    by_cases e : y 21 k ≤ 0
    · rw [if_pos e, ← ih']
      show L_X10_swings_16 fu l1 y n (_ ||| 0) _ K = _
      rw [or_self0]
      congr 1
      simp [mk, e]
    · rw [if_neg e, ← ih']
      show L_X10_swings_16 fu l1 y n (_ ||| _) _ K = _
      congr 1
      simp [mk, e]
theorem S_swings (fu : Nat) (hfu : 100 ≤ fu) : St_swings fu Rel := by
  intro a x y hR
  obtain ⟨hS, hA, h1, h2, h3, h4, h5, h6, h7, h8, h9, h10, h11, h12⟩ := id hR
  obtain ⟨a1, a2, a3, a4, a5, a6, a7, a8⟩ := hA
  have eL : ∀ K, L_X10_swings_16 fu a y fu 0 0 K = K (mk (fun b => !decide (y 21 b ≤ 0)) 8) := fun K => e_swings fu a y K 8 0 fu rfl (by omega)
  by_cases hm : a = -1
  · subst hm
    refine ⟨mk (fun b => !decide (y 21 b ≤ 0)) 8, x, y, ?_, ?_, hR⟩
    · have e := e_swinging fu x (fun l1_2 => some l1_2) 8 0 fu rfl (by omega)
      have e' : L_X0_swinging_4 fu x fu 0 0 (fun l1_2 => some l1_2) = _ := e
      unfold F_X9_swings F_X0_swinging
      rw [if_pos rfl, e', clp_some, a7]
      rfl
    · unfold F_X10_swings
      rw [show F_X10_in fu (-1) (-1) 7 y = some 1 from in_t (by decide) (by decide), clp_some, if_neg (by decide), eL, if_neg (by decide)]
      rfl
  · rcases dom2 a 8 8 7 rfl rfl (by omega) with ⟨j, hj, rfl, w1, w2, n0, -, nle⟩ | ⟨w1, w2, w3⟩
    · refine ⟨y 21 j, x, y, ?_, ?_, hR⟩
      · unfold F_X9_swings
        rw [if_neg hm, w1 fu x, clp_some, if_neg (by decide), chk_ok hj (by omega), cN (by omega), a7]
        rfl
      · unfold F_X10_swings
        have hi : F_X10_in fu (nI j) (-1) 7 y = some 1 := in_t (fun h => n0 (by
          rw [Int32.lt_iff_toInt_lt] at h ⊢
          have e1 : (-1 : Int32).toInt = -1 := rfl
          have e0 : (0 : Int32).toInt = 0 := rfl
          omega)) (nlt_of_le nle)
        rw [hi, clp_some, if_neg (by decide), eL, if_pos (nI_pos' (by omega)), chk_ok hj (by omega), cN (by omega)]
        rfl
    · refine ⟨-1, x, y, ?_, ?_, hR⟩
      · unfold F_X9_swings; rw [if_neg hm, w1 fu x]; rfl
      · unfold F_X10_swings
        have hi : F_X10_in fu a (-1) 7 y = some 0 := in_f (w3.imp (fun h => by
          rw [Int32.lt_iff_toInt_lt] at h ⊢
          have e1 : (-1 : Int32).toInt = -1 := rfl
          have e0 : (0 : Int32).toInt = 0 := rfl
          have : ¬ a.toInt = -1 := fun e => hm (Int32.toInt_inj.mp (e.trans e1.symm))
          omega) id)
        rw [hi]; rfl

/-! ===== ring ===== -/
theorem wr_id (y : Mem) (a j : Nat) : wr y a j (y a j) = y := by
  funext c i
  rw [wr_b]
  by_cases e : c = a
  · subst e
    by_cases e2 : i = j
    · subst e2; simp
    · simp [e2]
  · simp [e]
/-- how long a bell swings behind a ring of kind g -/
def NSw (g v : Int32) : Int32 := if g = 2 then 8 else if g = 1 then (if v < 4 then 4 else v) else v
theorem e_start (fu : Nat) (Lm Wm : Int32) (g : Nat → Int32) (hg : ∀ b, b < 8 → (g b = 0 ∨ g b = 1 ∨ g b = 2) ∧ (bt Lm b = true ↔ g b = 2) ∧ (bt Wm b = true ↔ g b = 1)) (K : Mem → Res) : ∀ (d k n : Nat) (x : Mem), k + d = 8 → d < n → ∃ x' : Mem, L_X0_startSwinging_2 fu Lm Wm n (nI k) x K = K x' ∧ (∀ c, c ≠ 16 → x' c = x c) ∧ ∀ b, x' 16 b = if k ≤ b ∧ b < 8 then NSw (g b) (x 16 b) else x 16 b := by
  intro d
  induction d with
  | zero =>
    intro k n x hk hn
    obtain ⟨n, rfl⟩ : ∃ m, n = m + 1 := ⟨n - 1, by omega⟩
    refine ⟨x, ?_, fun _ _ => rfl, fun b => by rw [if_neg (by omega)]⟩
    rw [L_X0_startSwinging_2, if_pos (show (8 : Int32) ≤ nI k from nI_le (a := 8) (by omega) (by omega))]
  | succ d ih =>
    intro k n x hk hn
    obtain ⟨n, rfl⟩ : ∃ m, n = m + 1 := ⟨n - 1, by omega⟩
    obtain ⟨q1, q2, q3⟩ := hg k (by omega)
    have step : L_X0_startSwinging_2 fu Lm Wm (n + 1) (nI k) x K = L_X0_startSwinging_2 fu Lm Wm n (nI (k + 1)) (wr x 16 k (NSw (g k) (x 16 k))) K := by
      have hc : ∀ M : Res, chk (nI k) 8 M = M := fun M => chk_ok (by omega) (by omega)
      rw [L_X0_startSwinging_2, if_neg (show ¬ (8 : Int32) ≤ nI k from nI_ge (b := 8) (by omega) (by omega))]
      simp only [hc, letm_eq, cN (show k < 2 ^ 31 by omega), nI_1]
      rcases q1 with e | e | e
      · have hL : bt Lm k = false := by
          cases h : bt Lm k
          · rfl
          · rw [q2.mp h] at e; exact absurd e (by decide)
        have hW : bt Wm k = false := by
          cases h : bt Wm k
          · rfl
          · rw [q3.mp h] at e; exact absurd e (by decide)
        rw [if_pos ((bit_eq0 (by omega)).mpr hL), if_pos ((bit_eq0 (by omega)).mpr hW), e]
        have : NSw 0 (x 16 k) = x 16 k := by unfold NSw; rw [if_neg (by decide), if_neg (by decide)]
        rw [this, wr_id]
      · have hL : bt Lm k = false := by
          cases h : bt Lm k
          · rfl
          · rw [q2.mp h] at e; exact absurd e (by decide)
        have hW : bt Wm k = true := q3.mpr e
        rw [if_pos ((bit_eq0 (by omega)).mpr hL), if_neg (fun h => by rw [(bit_eq0 (by omega)).mp h] at hW; cases hW), e]
        rfl
      · have hL : bt Lm k = true := q2.mpr e
        rw [if_neg (fun h => by rw [(bit_eq0 (by omega)).mp h] at hL; cases hL), e]
        rfl
    obtain ⟨x', h1, h2, h3⟩ := ih (k + 1) n (wr x 16 k (NSw (g k) (x 16 k))) (by omega) (by omega)
    refine ⟨x', by rw [step, h1], fun c hc => by rw [h2 c hc, wr_ne hc], fun b => ?_⟩
    rw [h3 b, wr_row]
    by_cases e : b = k
    · subst e; rw [upd_s, if_neg (by omega), if_pos (by omega)]
    · rw [upd_n e]
      by_cases e2 : k ≤ b ∧ b < 8
      · rw [if_pos (by omega), if_pos e2]
      · rw [if_neg (by omega), if_neg e2]
theorem e_mring (fu p : Nat) (g : Nat → Int32) (K : Int32 → Mem → Res) : ∀ (d k n : Nat) (y : Mem), k + d = 8 → d < n → (∀ b, k ≤ b → b < 8 → (g b = 0 ∨ g b = 1 ∨ g b = 2) ∧ ∃ v, v ≤ 8 ∧ y 21 b = nI v) → (∀ (y' : Mem), (∀ c, c ≠ 21 → y' c = y c) → ∀ b, b < 8 → F_X10_rings fu (nI p) (nI b) y' = some (g b)) → ∃ y' : Mem, L_X10_ring_14 fu (nI p) n (mk (fun b => !decide (g b = 0)) k) (nI k) y K = K (mk (fun b => !decide (g b = 0)) 8) y' ∧ (∀ c, c ≠ 21 → y' c = y c) ∧ ∀ b, y' 21 b = if k ≤ b ∧ b < 8 then NSw (g b) (y 21 b) else y 21 b := by
  intro d
  induction d with
  | zero =>
    intro k n y hk hn _ _
    obtain ⟨n, rfl⟩ : ∃ m, n = m + 1 := ⟨n - 1, by omega⟩
    have : k = 8 := by omega
    subst this
    refine ⟨y, ?_, fun _ _ => rfl, fun b => by rw [if_neg (by omega)]⟩
    rw [L_X10_ring_14, if_pos (by decide)]
  | succ d ih =>
    intro k n y hk hn hgv hrg
    obtain ⟨n, rfl⟩ : ∃ m, n = m + 1 := ⟨n - 1, by omega⟩
    obtain ⟨q1, v, hv, ev⟩ := hgv k (Nat.le_refl _) (by omega)
    have hr := hrg y (fun _ _ => rfl) k (by omega)
    have hmk : mk (fun b => !decide (g b = 0)) (k + 1) = if (!decide (g k = 0)) = true then mk (fun b => !decide (g b = 0)) k ||| ((1 : Int32) <<< (nI k &&& 31)) else mk (fun b => !decide (g b = 0)) k := rfl
    have step : L_X10_ring_14 fu (nI p) (n + 1) (mk (fun b => !decide (g b = 0)) k) (nI k) y K = L_X10_ring_14 fu (nI p) n (mk (fun b => !decide (g b = 0)) (k + 1)) (nI (k + 1)) (wr y 21 k (NSw (g k) (y 21 k))) K := by
      have hc : ∀ M : Res, chk (nI k) 8 M = M := fun M => chk_ok (by omega) (by omega)
      rw [L_X10_ring_14, if_neg (show ¬ (8 : Int32) ≤ nI k from nI_ge (b := 8) (by omega) (by omega)), hr, clp_some, hmk]
      simp only [hc, letm_eq, letv_eq, jn_eq, cN (show k < 2 ^ 31 by omega), nI_1, wr_id]
      rcases q1 with e | e | e
      · rw [e]
        have : NSw 0 (y 21 k) = y 21 k := by unfold NSw; rw [if_neg (by decide), if_neg (by decide)]
        rw [this, wr_id]
        simp (config := { decide := true }) only [if_true, if_false, or_self0]
        rw [if_pos (by rw [ev]; exact nI_pos' (by omega))]
      · rw [e]
        simp (config := { decide := true }) only [if_true, if_false]
        have hns : NSw 1 (y 21 k) = if y 21 k < 4 then 4 else y 21 k := by unfold NSw; rw [if_neg (by decide), if_pos rfl]
        rw [hns, ev]
        by_cases e4 : v < 4
        · rw [if_neg (show ¬ (4 : Int32) ≤ nI v from nI_ge (b := 4) e4 (by omega)), if_pos (show nI v < 4 from nI_lt (b := 4) e4 (by omega))]
        · rw [if_pos (show (4 : Int32) ≤ nI v from nI_le (a := 4) (by omega) (by omega)), if_neg (show ¬ nI v < 4 from nI_nlt (b := 4) (by omega) (by omega)), ← ev, wr_id]
      · rw [e]
        simp (config := { decide := true }) only [if_true, if_false]
        have hns : NSw 2 (y 21 k) = 8 := by unfold NSw; rw [if_pos rfl]
        rw [hns, ev]
        by_cases e8 : v = 8
        · subst e8
          rw [if_pos (show (8 : Int32) ≤ nI 8 from nI_le (a := 8) (by omega) (by omega))]
          have : wr y 21 k 8 = y := by
            have := wr_id y 21 k
            rw [ev] at this
            exact this
          rw [this]
        · rw [if_neg (show ¬ (8 : Int32) ≤ nI v from nI_ge (b := 8) (by omega) (by omega))]
    obtain ⟨y', h1, h2, h3⟩ := ih (k + 1) n (wr y 21 k (NSw (g k) (y 21 k))) (by omega) (by omega) (fun b hb hb8 => by
        obtain ⟨z1, z2⟩ := hgv b (by omega) hb8
        refine ⟨z1, ?_⟩
        rw [wr_row, upd_n (by omega)]
        exact z2) (fun y' hy' b hb => hrg y' (fun c hc => by rw [hy' c hc, wr_ne hc]) b hb)
    refine ⟨y', by rw [step, h1], fun c hc => by rw [h2 c hc, wr_ne hc], fun b => ?_⟩
    rw [h3 b, wr_row]
    by_cases e : b = k
    · subst e; rw [upd_s, if_neg (by omega), if_pos (by omega)]
    · rw [upd_n e]
      by_cases e2 : k ≤ b ∧ b < 8
      · rw [if_pos (by omega), if_pos e2]
      · rw [if_neg (by omega), if_neg e2]
theorem gval {Lm Wm a b : Int32} {i : Nat} (ha : a = 0 ∨ a = 1 ∨ a = 2) (hb : b = 0 ∨ b = 1 ∨ b = 2) (a1 : bt Lm i = true ↔ a = 2) (a2 : bt Wm i = true ↔ a = 1) (b1 : bt Lm i = true ↔ b = 2) (b2 : bt Wm i = true ↔ b = 1) : a = b := by
  have h2 : a = 2 ↔ b = 2 := a1.symm.trans b1
  have h1 : a = 1 ↔ b = 1 := a2.symm.trans b2
  rcases ha with rfl | rfl | rfl
  · rcases hb with rfl | rfl | rfl
    · rfl
    · exact h1.mpr rfl
    · exact h2.mpr rfl
  · exact (h1.mp rfl).symm
  · exact (h2.mp rfl).symm
theorem NSw_le {g v : Int32} (h : ∃ k, k ≤ 8 ∧ v = nI k) : ∃ k, k ≤ 8 ∧ NSw g v = nI k := by
  obtain ⟨k, hk, rfl⟩ := h
  unfold NSw
  by_cases e : g = 2
  · rw [if_pos e]; exact ⟨8, by omega, rfl⟩
  · rw [if_neg e]
    by_cases e1 : g = 1
    · rw [if_pos e1]
      by_cases e4 : nI k < 4
      · rw [if_pos e4]; exact ⟨4, by omega, rfl⟩
      · rw [if_neg e4]; exact ⟨k, hk, rfl⟩
    · rw [if_neg e1]; exact ⟨k, hk, rfl⟩
theorem or_small {f p : Nat} (hf : f < 4096) (hp : p < 12) : ∃ f', f' < 4096 ∧ nI f ||| ((1 : Int32) <<< (nI p &&& 31)) = nI f' := by
  have hb : (nI f ||| ((1 : Int32) <<< (nI p &&& 31))) &&& 4095 = nI f ||| ((1 : Int32) <<< (nI p &&& 31)) := by
    apply b_ext
    intro i hi
    have h4095 : ∀ i, i < 32 → bt (4095 : Int32) i = decide (i < 12) := by decide +kernel
    rw [b_and, b_or, h4095 i hi, b_one (by omega) hi]
    by_cases e : i < 12
    · simp [e]
    · rw [bt_hi (c := f) (n := 12) (by omega) (by omega) (by omega)]
      have : ¬ i = p := by omega
      simp [e, this]
  obtain ⟨m, hm, em⟩ := pk_andE (nI f ||| ((1 : Int32) <<< (nI p &&& 31))) (m := 4095) 12 (by decide)
  rw [hb] at em
  exact ⟨m, by omega, em⟩
theorem S_ring (fu : Nat) (hfu : 100 ≤ fu) : St_ring fu Rel := by
  intro a x y hR
  obtain ⟨hS, hA, h1, h2, h3, h4, h5, h6, h7, h8, h9, h10, h11, h12⟩ := id hR
  obtain ⟨P, hP, hP0, hPr⟩ := id h1
  obtain ⟨s1, s2, s3, s4, s5, s6, s7, s8⟩ := id hS
  rcases has_of (fu := fu) (v := a) hP (s1.trans hP0) hP0 with ⟨p, hp, rfl, w1, w2⟩ | ⟨w1, w2, -⟩
  rotate_left
  · refine ⟨-1, x, y, ?_, ?_, hR⟩
    · unfold F_X9_ring; rw [w1]; rfl
    · unfold F_X10_ring; rw [w2]; rfl
  have hpP : nI p < y 0 4 := by rw [hP0]; exact nI_lt hp (by omega)
  obtain ⟨Lm, Wm, l1, l2, l3, l4⟩ := rings_both hfu hR hpP (show p < 12 by omega)
  obtain ⟨g, hg⟩ : ∃ g : Nat → Int32, ∀ b, b < 8 → F_X10_rings fu (nI p) (nI b) y = some (g b) ∧ (g b = 0 ∨ g b = 1 ∨ g b = 2) ∧ (bt Lm b = true ↔ g b = 2) ∧ (bt Wm b = true ↔ g b = 1) := by
    refine ⟨fun b => if h : b < 8 then (l4 b h).choose else 0, fun b hb => ?_⟩
    have e := (l4 b hb).choose_spec
    simp only [dif_pos hb]
    exact e
  have hset : Lm ||| Wm = mk (fun b => !decide (g b = 0)) 8 := by
    apply b_ext
    intro i hi
    rw [b_or, mk_bt _ 8 i (by omega) hi]
    rcases Nat.lt_or_ge i 8 with h8 | h8
    · obtain ⟨-, q1, q2, q3⟩ := hg i h8
      rcases q1 with e | e | e
      · have hL : bt Lm i = false := by
          cases h : bt Lm i
          · rfl
          · rw [q2.mp h] at e; exact absurd e (by decide)
        have hW : bt Wm i = false := by
          cases h : bt Wm i
          · rfl
          · rw [q3.mp h] at e; exact absurd e (by decide)
        simp [hL, hW, e]
      · have e0 : ¬ g i = 0 := by rw [e]; decide
        simp [q3.mpr e, h8, e0]
      · have e0 : ¬ g i = 0 := by rw [e]; decide
        simp [q2.mpr e, h8, e0]
    · have : ¬ i < 8 := by omega
      simp [(l3 i h8 hi).1, (l3 i h8 hi).2, this]
  have hrg : ∀ (y' : Mem), (∀ c, c ≠ 21 → y' c = y c) → ∀ b, b < 8 → F_X10_rings fu (nI p) (nI b) y' = some (g b) := by
    intro y' hy' b hb
    have hW' : RelW x y' := by
      have := hR.W
      unfold RelW at this ⊢
      rw [hy' 0 (by decide), hy' 1 (by decide), hy' 3 (by decide), hy' 4 (by decide), hy' 5 (by decide), hy' 6 (by decide), hy' 7 (by decide), hy' 8 (by decide), hy' 9 (by decide), hy' 10 (by decide)]
      exact this
    obtain ⟨Lm', Wm', l1', l2', -, l4'⟩ := rings_bothW (p := p) hfu hW' (by rw [hy' 0 (by decide)]; exact hpP) (show p < 12 by omega)
    rw [l1] at l1'; cases l1'
    rw [l2] at l2'; cases l2'
    obtain ⟨g', g1, g2, g3, g4⟩ := l4' b hb
    obtain ⟨-, q1, q2, q3⟩ := hg b hb
    rw [g1, gval g2 q1 g3 g4 q2 q3]
  obtain ⟨y', m1, m2, m3⟩ := e_mring fu p g (fun l2_10 x_11 => (if l2_10 = 0 then (some (l2_10, x_11)) else (letm (wr x_11 0 14 ((x_11 0 14) ||| ((1 : Int32) <<< (nI p &&& 31)))) (fun x_12 => (chk (nI p) 12 (if 0 ≤ ((x_12 11 (nI p).toNatClampNeg) : Int32) then (chk (nI p) 12 (chk (nI p) 12 (letm (wr x_12 11 (nI p).toNatClampNeg (x_12 11 (nI p).toNatClampNeg)) (fun x_13 => (some (l2_10, x_13)))))) else (clp (F_X10_isOnErrand fu (nI p) x_12) (fun r_14 => (if r_14 = 0 then (chk (nI p) 12 (letm (wr x_12 11 (nI p).toNatClampNeg (x_12 0 26)) (fun x_16 => (some (l2_10, x_16))))) else (chk (nI p) 12 (chk (nI p) 12 (letm (wr x_12 11 (nI p).toNatClampNeg (x_12 11 (nI p).toNatClampNeg)) (fun x_15 => (some (l2_10, x_15))))))))))))))) 8 0 fu y rfl (by omega) (fun b _ hb => ⟨(hg b hb).2.1, h6 b hb⟩) hrg
  obtain ⟨x', n1, n2, n3⟩ := e_start fu Lm Wm g (fun b hb => (hg b hb).2) (fun x_3 => some (0, x_3)) 8 0 fu x rfl (by omega)
  have hrow : x' 16 = y' 21 := by
    funext b
    rw [n3 b, m3 b, hA.2.2.2.2.2.2.1]
  by_cases hz : mk (fun b => !decide (g b = 0)) 8 = 0
  · have hg0 : ∀ b, b < 8 → g b = 0 := by
      intro b hb
      have := (b_zero_iff _).mp hz b (by omega)
      rw [mk_bt _ 8 b (by omega) (by omega)] at this
      simp [hb] at this
      exact this
    have hyy : y' = y := by
      funext c
      by_cases e : c = 21
      · subst e
        funext b
        rw [m3 b]
        by_cases e2 : 0 ≤ b ∧ b < 8
        · rw [if_pos e2, hg0 b e2.2]; unfold NSw; rw [if_neg (by decide), if_neg (by decide)]
        · rw [if_neg e2]
      · exact m2 c e
    refine ⟨0, x, y, ?_, ?_, hR⟩
    · unfold F_X9_ring
      rw [w1, clp_some, if_neg (by decide), l1, clp_some, l2, clp_some, letv_eq, hset, hz, if_pos rfl]
    · unfold F_X10_ring
      have m1' : L_X10_ring_14 fu (nI p) fu 0 0 y _ = _ := m1
      rw [w2, clp_some, if_neg (by decide), m1', hz, if_pos rfl, hyy]
  · have hy11 : y' 11 = y 11 := m2 11 (by decide)
    have hy0 : y' 0 = y 0 := m2 0 (by decide)
    have hy18 : y' 18 = y 18 := m2 18 (by decide)
    obtain ⟨c1, c2, c3, c4, c5, c6⟩ := h10 p (by omega)
    obtain ⟨S, hS5, hS0, hv, hfree, huniq⟩ := id h9
    obtain ⟨f, hf, ef⟩ := h8
    obtain ⟨f', hf', ef'⟩ := or_small hf (show p < 12 by omega)
    have hN : (nI p).toNatClampNeg = p := cN (by omega)
    have hc : ∀ M : Res, chk (nI p) 12 M = M := fun M => chk_ok (by omega) (by omega)
    -- the two new memories, but for the waiting
    have hx5 : x' 5 5 = y 0 14 := by rw [n2 5 (by decide)]; exact s6
    have hx63 : x' 6 3 = y 0 26 := by rw [n2 6 (by decide)]; exact s5
    have hx25 : x' 25 = x 25 := n2 25 (by decide)
    have hx26 : x' 26 = x 26 := n2 26 (by decide)
    obtain ⟨r, r1, r2, r3⟩ := onErr fu hfu (nI p) (wr y' 0 14 (y' 0 14 ||| ((1 : Int32) <<< (nI p &&& 31)))) S hS5 (by rw [wr_row, upd_n (by decide), hy0]; exact hS0)
    have r3' : r = 1 ↔ x 25 p = 2 := by
      rw [r3, c4]
      constructor
      · rintro ⟨s, e1, e3⟩
        refine ⟨s, by rw [hS0]; exact nI_lt e1 (by omega), by omega, ?_⟩
        rw [wr_ne (by decide), hy18] at e3
        exact e3
      · rintro ⟨s, e1, e2, e3⟩
        rw [hS0, nI_ltI (by omega) (by omega)] at e1
        exact ⟨s, e1, by rw [wr_ne (by decide), hy18]; exact e3⟩
    have ex0 : F_X9_ring fu (nI p) x = cl (F_X1_make fu (nI p) (y 0 26) x') (fun _ x_6 => some (mk (fun b => !decide (g b = 0)) 8, x_6)) := by
      unfold F_X9_ring F_X0_startSwinging
      have n1' : L_X0_startSwinging_2 fu Lm Wm fu 0 x (fun x_3 => some (0, x_3)) = _ := n1
      rw [w1, clp_some, if_neg (by decide), l1, clp_some, l2, clp_some, letv_eq, hset, if_neg hz, n1', cl_some', hx63]
    have ey0 : F_X10_ring fu (nI p) y = (letm (wr y' 0 14 (y' 0 14 ||| ((1 : Int32) <<< (nI p &&& 31)))) (fun x_12 => (if 0 ≤ y 11 p then some (mk (fun b => !decide (g b = 0)) 8, x_12) else if r = 0 then some (mk (fun b => !decide (g b = 0)) 8, wr x_12 11 p (y 0 26)) else some (mk (fun b => !decide (g b = 0)) 8, x_12)))) := by
      unfold F_X10_ring
      have m1' : L_X10_ring_14 fu (nI p) fu 0 0 y _ = _ := m1
      have e11 : wr y' 0 14 (y' 0 14 ||| ((1 : Int32) <<< (nI p &&& 31))) 11 p = y 11 p := by rw [wr_ne (by decide), hy11]
      have e26 : wr y' 0 14 (y' 0 14 ||| ((1 : Int32) <<< (nI p &&& 31))) 0 26 = y 0 26 := by rw [wr_row, upd_n (by decide), hy0]
      rw [w2, clp_some, if_neg (by decide), m1', if_neg hz, letm_eq, letm_eq]
      have hid : wr (wr y' 0 14 (y' 0 14 ||| ((1 : Int32) <<< (nI p &&& 31)))) 11 p (y 11 p) = wr y' 0 14 (y' 0 14 ||| ((1 : Int32) <<< (nI p &&& 31))) := by
        have := wr_id (wr y' 0 14 (y' 0 14 ||| ((1 : Int32) <<< (nI p &&& 31)))) 11 p
        rw [e11] at this
        exact this
      simp only [hc, hN, letm_eq, r1, clp_some, e11, e26, hid]
    have hflag : x' 5 5 ||| ((1 : Int32) <<< (nI p &&& 31)) = y' 0 14 ||| ((1 : Int32) <<< (nI p &&& 31)) := by rw [hx5, hy0]
    have rest : ∀ (x2 y2 : Mem), (∀ c, c ≠ 5 → c ≠ 25 → c ≠ 26 → x2 c = x' c) → (∀ i, i ≠ 5 → x2 5 i = x' 5 i) → x2 5 5 = y 0 14 ||| ((1 : Int32) <<< (nI p &&& 31)) → (∀ c, c ≠ 0 → c ≠ 11 → y2 c = y' c) → (∀ i, i ≠ 14 → y2 0 i = y' 0 i) → y2 0 14 = y 0 14 ||| ((1 : Int32) <<< (nI p &&& 31)) → RCl (x2 25) (x2 26) (y 0 4) (y 0 19) (y 0 26) (y2 11) (y 18) → Rel x2 y2 := by
      intro x2 y2 k1 k2 k3 k4 k5 k6 k7
      have X : ∀ c, c ≠ 5 → c ≠ 25 → c ≠ 26 → c ≠ 16 → x2 c = x c := fun c q1 q2 q3 q4 => by rw [k1 c q1 q2 q3, n2 c q4]
      have Y : ∀ c, c ≠ 0 → c ≠ 11 → c ≠ 21 → y2 c = y c := fun c q1 q2 q3 => by rw [k4 c q1 q2, m2 c q3]
      have Y0 : ∀ i, i ≠ 14 → y2 0 i = y 0 i := fun i q => by rw [k5 i q, hy0]
      have X5 : x2 5 6 = x 5 6 := by rw [k2 6 (by decide), n2 5 (by decide)]
      have X16 : x2 16 = y2 21 := by rw [k1 16 (by decide) (by decide) (by decide), k4 21 (by decide) (by decide)]; exact hrow
      obtain ⟨a1, a2, a3, a4, a5, a6, a7, a8, a9, a10, a11, a12, a13, a14, a15, a16⟩ := hA
      refine ⟨⟨?_, ?_, ?_, ?_, ?_, ?_, ?_, ?_⟩, ⟨?_, ?_, ?_, ?_, ?_, ?_, X16, ?_, ?_, ?_, ?_, ?_, ?_, ?_, ?_, ?_⟩, ?_, ?_, ?_, ?_, ?_, ?_, ?_, ?_, ?_, ?_, ?_, ?_⟩
      · rw [X 1 (by decide) (by decide) (by decide) (by decide), Y0 4 (by decide)]; exact s1
      · rw [X 3 (by decide) (by decide) (by decide) (by decide), Y0 3 (by decide)]; exact s2
      · rw [X 3 (by decide) (by decide) (by decide) (by decide), Y0 10 (by decide)]; exact s3
      · rw [X 4 (by decide) (by decide) (by decide) (by decide), Y0 19 (by decide)]; exact s4
      · rw [X 6 (by decide) (by decide) (by decide) (by decide), Y0 26 (by decide)]; exact s5
      · rw [k3, k6]
      · rw [X5, Y0 18 (by decide)]; exact s7
      · rw [X 8 (by decide) (by decide) (by decide) (by decide), Y0 28 (by decide)]; exact s8
      · rw [X 10 (by decide) (by decide) (by decide) (by decide), Y 4 (by decide) (by decide) (by decide)]; exact a1
      · rw [X 11 (by decide) (by decide) (by decide) (by decide), Y 5 (by decide) (by decide) (by decide)]; exact a2
      · rw [X 12 (by decide) (by decide) (by decide) (by decide), Y 6 (by decide) (by decide) (by decide)]; exact a3
      · rw [X 13 (by decide) (by decide) (by decide) (by decide), Y 7 (by decide) (by decide) (by decide)]; exact a4
      · rw [X 14 (by decide) (by decide) (by decide) (by decide), Y 8 (by decide) (by decide) (by decide)]; exact a5
      · rw [X 15 (by decide) (by decide) (by decide) (by decide), Y 2 (by decide) (by decide) (by decide)]; exact a6
      · rw [X 17 (by decide) (by decide) (by decide) (by decide), Y 1 (by decide) (by decide) (by decide)]; exact a8
      · rw [X 19 (by decide) (by decide) (by decide) (by decide), Y 15 (by decide) (by decide) (by decide)]; exact a9
      · rw [X 20 (by decide) (by decide) (by decide) (by decide), Y 16 (by decide) (by decide) (by decide)]; exact a10
      · rw [X 21 (by decide) (by decide) (by decide) (by decide), Y 17 (by decide) (by decide) (by decide)]; exact a11
      · rw [X 23 (by decide) (by decide) (by decide) (by decide), Y 19 (by decide) (by decide) (by decide)]; exact a12
      · rw [X 24 (by decide) (by decide) (by decide) (by decide), Y 20 (by decide) (by decide) (by decide)]; exact a13
      · rw [X 27 (by decide) (by decide) (by decide) (by decide), Y 12 (by decide) (by decide) (by decide)]; exact a14
      · rw [X 28 (by decide) (by decide) (by decide) (by decide), Y 13 (by decide) (by decide) (by decide)]; exact a15
      · rw [X 29 (by decide) (by decide) (by decide) (by decide), Y 14 (by decide) (by decide) (by decide)]; exact a16
      · rw [Y0 4 (by decide), Y 4 (by decide) (by decide) (by decide), Y 5 (by decide) (by decide) (by decide), Y 6 (by decide) (by decide) (by decide), Y 7 (by decide) (by decide) (by decide), Y 8 (by decide) (by decide) (by decide)]; exact h1
      · rw [X 2 (by decide) (by decide) (by decide) (by decide), Y 3 (by decide) (by decide) (by decide)]; exact h2
      · rw [X 3 (by decide) (by decide) (by decide) (by decide), Y 1 (by decide) (by decide) (by decide)]; exact h3
      · rw [Y0 3 (by decide)]; exact h4
      · rw [X 18 (by decide) (by decide) (by decide) (by decide), Y0 10 (by decide), Y 9 (by decide) (by decide) (by decide), Y 10 (by decide) (by decide) (by decide)]; exact h5
      · intro b hb
        rw [k4 21 (by decide) (by decide), m3 b, if_pos ⟨by omega, hb⟩]
        exact NSw_le (h6 b hb)
      · rw [Y0 26 (by decide)]; exact h7
      · rw [k6, ef]; exact ⟨f', hf', ef'⟩
      · rw [X 22 (by decide) (by decide) (by decide) (by decide), Y0 4 (by decide), Y0 19 (by decide), Y 15 (by decide) (by decide) (by decide), Y 16 (by decide) (by decide) (by decide), Y 17 (by decide) (by decide) (by decide), Y 18 (by decide) (by decide) (by decide)]; exact h9
      · rw [Y0 4 (by decide), Y0 19 (by decide), Y0 26 (by decide), Y 18 (by decide) (by decide) (by decide)]; exact k7
      · rw [X 33 (by decide) (by decide) (by decide) (by decide), X 8 (by decide) (by decide) (by decide) (by decide), Y0 4 (by decide), Y0 28 (by decide), Y 22 (by decide) (by decide) (by decide), Y 23 (by decide) (by decide) (by decide), Y 24 (by decide) (by decide) (by decide), Y 7 (by decide) (by decide) (by decide), Y 8 (by decide) (by decide) (by decide)]; exact h11
      · rw [X 35 (by decide) (by decide) (by decide) (by decide), X 36 (by decide) (by decide) (by decide) (by decide), Y 25 (by decide) (by decide) (by decide)]; exact h12
    have hmake0 : ∀ v, x 25 p = v → F_X1_make fu (nI p) (y 0 26) x' = if v = 0 then some (0, wr (wr (wr x' 5 5 (x' 5 5 ||| ((1 : Int32) <<< (nI p &&& 31)))) 25 p 1) 26 p (y 0 26)) else some (0, wr x' 5 5 (x' 5 5 ||| ((1 : Int32) <<< (nI p &&& 31)))) := by
      intro v hv
      unfold F_X1_make
      rw [letm_eq, hc, hN, wr_ne (by decide), hx25, hv, hc, letm_eq, hc, letm_eq]
    rcases c1 with e0 | e1 | e2
    · -- it begins to wait
      have hn : ¬ ¬ y 11 p < 0 := fun h => by rw [c2.mpr h] at e0; exact absurd e0 (by decide)
      have hneg : y 11 p < 0 := Classical.not_not.mp hn
      have hr0 : r = 0 := by
        rcases r2 with h | h
        · exact h
        · rw [r3'.mp h] at e0; exact absurd e0 (by decide)
      refine ⟨mk (fun b => !decide (g b = 0)) 8, wr (wr (wr x' 5 5 (x' 5 5 ||| ((1 : Int32) <<< (nI p &&& 31)))) 25 p 1) 26 p (y 0 26), wr (wr y' 0 14 (y' 0 14 ||| ((1 : Int32) <<< (nI p &&& 31)))) 11 p (y 0 26), ?_, ?_, ?_⟩
      · rw [ex0, hmake0 0 e0, if_pos rfl, cl_some']
      · rw [ey0, letm_eq, if_neg (nle_of_lt hneg), if_pos hr0]
      · refine rest _ _ (fun c q1 q2 q3 => by rw [wr_ne q3, wr_ne q2, wr_ne q1]) (fun i q => by rw [wr_ne (by decide), wr_ne (by decide), wr_row, upd_n q]) ?_ (fun c q1 q2 => by rw [wr_ne q2, wr_ne q1]) (fun i q => by rw [wr_ne (by decide), wr_row, upd_n q]) ?_ ?_
        · rw [wr_ne (by decide), wr_ne (by decide), wr_at, hx5]
        · rw [wr_ne (by decide), wr_at, hy0]
        · have R25 : wr (wr (wr x' 5 5 (x' 5 5 ||| ((1 : Int32) <<< (nI p &&& 31)))) 25 p 1) 26 p (y 0 26) 25 = upd (x 25) p 1 := by rw [wr_ne (by decide), wr_row, wr_ne (by decide), hx25]
          have R26 : wr (wr (wr x' 5 5 (x' 5 5 ||| ((1 : Int32) <<< (nI p &&& 31)))) 25 p 1) 26 p (y 0 26) 26 = upd (x 26) p (y 0 26) := by rw [wr_row, wr_ne (by decide), wr_ne (by decide), hx26]
          have R11 : wr (wr y' 0 14 (y' 0 14 ||| ((1 : Int32) <<< (nI p &&& 31)))) 11 p (y 0 26) 11 = upd (y 11) p (y 0 26) := by rw [wr_row, wr_ne (by decide), hy11]
          rw [R25, R26, R11]
          intro q hq
          obtain ⟨d1, d2, d3, d4, d5, d6⟩ := h10 q hq
          by_cases e : q = p
          · subst e
            rw [upd_s, upd_s, upd_s]
            obtain ⟨t, ht, et⟩ := h7
            refine ⟨Or.inr (Or.inl rfl), ⟨fun _ => by rw [et]; exact nI_pos (by omega), fun _ => rfl⟩, fun _ => rfl, ⟨fun h => absurd h (by decide), fun h => ?_⟩, Or.inr ⟨t, by rw [et]; exact nI_le (Nat.le_refl _) (by omega), ht, et⟩, fun h => ?_⟩
            · rw [d4.mpr h] at e0; exact absurd e0 (by decide)
            · rw [hP0, nI_leI (by omega) (by omega)] at h; omega
          · rw [upd_n e, upd_n e, upd_n e]
            exact ⟨d1, d2, d3, d4, d5, d6⟩
    · have hnn := c2.mp e1
      refine ⟨mk (fun b => !decide (g b = 0)) 8, wr x' 5 5 (x' 5 5 ||| ((1 : Int32) <<< (nI p &&& 31))), wr y' 0 14 (y' 0 14 ||| ((1 : Int32) <<< (nI p &&& 31))), ?_, ?_, ?_⟩
      · rw [ex0, hmake0 1 e1, if_neg (by decide), cl_some']
      · rw [ey0, letm_eq, if_pos (le_of_nlt hnn)]
      · refine rest _ _ (fun c q1 q2 q3 => by rw [wr_ne q1]) (fun i q => by rw [wr_row, upd_n q]) ?_ (fun c q1 q2 => by rw [wr_ne q1]) (fun i q => by rw [wr_row, upd_n q]) ?_ ?_
        · rw [wr_at, hx5]
        · rw [wr_at, hy0]
        · rw [wr_ne (by decide), wr_ne (by decide), wr_ne (by decide), hx25, hx26, hy11]; exact h10
    · have hnn : ¬ 0 ≤ y 11 p := fun h => by rw [c2.mpr (nlt_of_le h)] at e2; exact absurd e2 (by decide)
      have hr1 : ¬ r = 0 := by rw [r3'.mpr e2]; decide
      refine ⟨mk (fun b => !decide (g b = 0)) 8, wr x' 5 5 (x' 5 5 ||| ((1 : Int32) <<< (nI p &&& 31))), wr y' 0 14 (y' 0 14 ||| ((1 : Int32) <<< (nI p &&& 31))), ?_, ?_, ?_⟩
      · rw [ex0, hmake0 2 e2, if_neg (by decide), cl_some']
      · rw [ey0, letm_eq, if_neg hnn, if_neg hr1]
      · refine rest _ _ (fun c q1 q2 q3 => by rw [wr_ne q1]) (fun i q => by rw [wr_row, upd_n q]) ?_ (fun c q1 q2 => by rw [wr_ne q1]) (fun i q => by rw [wr_row, upd_n q]) ?_ ?_
        · rw [wr_at, hx5]
        · rw [wr_at, hy0]
        · rw [wr_ne (by decide), wr_ne (by decide), wr_ne (by decide), hx25, hx26, hy11]; exact h10

/-! ===== sharing out: the reference's search ===== -/
theorem e_s54 {fu w : Nat} {y : Mem} (hw : w ≤ 4) (hw0 : y 0 34 = nI w) (K : Int32 → Res) : ∀ (d k n : Nat), k + d = w → d < n → L_X10_shares_54 fu y n (nI (6 ^ k)) (nI k) K = K (nI (6 ^ w)) := by
  intro d
  induction d with
  | zero =>
    intro k n hk hn
    obtain ⟨n, rfl⟩ : ∃ z, n = z + 1 := ⟨n - 1, by omega⟩
    have : k = w := by omega
    subst this
    rw [L_X10_shares_54, hw0, if_pos (nI_le (Nat.le_refl _) (by omega))]
  | succ d ih =>
    intro k n hk hn
    obtain ⟨n, rfl⟩ : ∃ z, n = z + 1 := ⟨n - 1, by omega⟩
    have e : nI (6 ^ k) * 6 = nI (6 ^ (k + 1)) := by rw [Nat.pow_succ]; exact pk_mul _ 6
    rw [L_X10_shares_54, hw0, if_neg (nI_ge (by omega) (by omega)), letv_eq, e, nI_1]
    exact ih (k + 1) n (by omega) (by omega)
theorem e_s7of {fu w c : Nat} {y : Mem} (hw : w ≤ 4) (hw0 : y 0 34 = nI w) (K : Int32 → Option Int32) : ∀ (d k e n : Nat), k + d = w → d < n → L_X10_shareOf_7 fu (nI c) y n (nI (6 ^ e)) (nI k) K = K (nI (6 ^ (e + d))) := by
  intro d
  induction d with
  | zero =>
    intro k e n hk hn
    obtain ⟨n, rfl⟩ : ∃ z, n = z + 1 := ⟨n - 1, by omega⟩
    have : k = w := by omega
    subst this
    rw [L_X10_shareOf_7, hw0, if_pos (nI_le (Nat.le_refl _) (by omega))]
    rfl
  | succ d ih =>
    intro k e n hk hn
    obtain ⟨n, rfl⟩ : ∃ z, n = z + 1 := ⟨n - 1, by omega⟩
    have e1 : nI (6 ^ e) * 6 = nI (6 ^ (e + 1)) := by rw [Nat.pow_succ]; exact pk_mul _ 6
    rw [L_X10_shareOf_7, hw0, if_neg (nI_ge (by omega) (by omega)), letv_eq, e1, nI_1, ih (k + 1) (e + 1) n (by omega) (by omega)]
    congr 3; omega
theorem shareOf_eq {fu w c k : Nat} {y : Mem} (hfu : 100 ≤ fu) (hw : w ≤ 4) (hw0 : y 0 34 = nI w) (hc : c < 2 ^ 30) (hk : k < w) : F_X10_shareOf fu (nI c) (nI k) y = some (nI (c / 6 ^ (w - 1 - k) % 6)) := by
  unfold F_X10_shareOf
  have h := e_s7of (fu := fu) (c := c) hw hw0 (fun l3_3 => (nz l3_3 (nz 6 (some ((nI c / l3_3) - (nI c / l3_3) / 6 * 6))))) (w - 1 - k) (k + 1) 0 fu (by omega) (by omega)
  have h' : L_X10_shareOf_7 fu (nI c) y fu 1 (nI (k + 1)) _ = _ := h
  obtain ⟨p1, p2⟩ := pow6 (d := w - 1 - k) (by omega)
  have hcd : c / 6 ^ (w - 1 - k) ≤ c := Nat.div_le_self _ _
  have e3 : nI (c / 6 ^ (w - 1 - k)) - nI (c / 6 ^ (w - 1 - k)) / 6 * 6 = nI (c / 6 ^ (w - 1 - k) % 6) := pk_rem (d := 6) (by omega) (by omega) (by omega)
  rw [letv_eq, nI_1, h', Nat.zero_add, nz_ok (nI_ne0 p1 (by omega)), nz_ok (show ¬ (6 : Int32) = 0 by decide), pk_div (by omega) (by omega) (by omega), e3]
theorem e_s83 {fu A : Nat} (C : Nat → Nat) (hA : A ≤ 1296) (hC : ∀ c, C c = 9999999 ∨ C c ≤ 2000) (y : Mem) (hcost : ∀ v c, c < A → F_X10_costOf fu (nI c) (nI A) (wr y 0 35 v) = some (nI (C c))) (K : Int32 → Mem → Res) : ∀ (d k n bc code : Nat), k + d = A → d < n → BU C k bc code → bc ≤ 9999999 → ∃ bc' code', L_X10_shares_83 fu (nI A) n (nI code) (nI k) (wr y 0 35 (nI bc)) K = K (nI code') (wr y 0 35 (nI bc')) ∧ BU C A bc' code' ∧ bc' ≤ 9999999 := by
  intro d
  induction d with
  | zero =>
    intro k n bc code hk hn h1 h2
    obtain ⟨n, rfl⟩ : ∃ z, n = z + 1 := ⟨n - 1, by omega⟩
    have : k = A := by omega
    subst this
    refine ⟨bc, code, ?_, h1, h2⟩
    rw [L_X10_shares_83, if_pos (nI_le (Nat.le_refl _) (by omega))]
  | succ d ih =>
    intro k n bc code hk hn h1 h2
    obtain ⟨n, rfl⟩ : ∃ z, n = z + 1 := ⟨n - 1, by omega⟩
    have hCk := hC k
    have ww : ∀ u v, wr (wr y 0 35 u) 0 35 v = wr y 0 35 v := fun u v => by
      funext b j
      rw [wr_b, wr_b, wr_b]
      by_cases e : b = 0
      · by_cases e2 : j = 35
        · simp [e, e2]
        · simp [e, e2]
      · simp [e]
    rw [L_X10_shares_83, if_neg (nI_ge (by omega) (by omega)), hcost _ k (by omega), clp_some, jn_eq, wr_at, nI_1]
    by_cases hle : bc ≤ C k
    · rw [if_pos (nI_le hle (by omega))]
      dsimp only
      rw [if_pos (nI_le hle (by omega)), letm_eq, ww]
      exact ih (k + 1) n bc code (by omega) (by omega) (BU_ext h1 (by omega) (fun c g1 g2 => by
        have : c = k := by omega
        rw [this]; exact Or.inl hle)) h2
    · rw [if_neg (nI_ge (by omega) (by omega))]
      dsimp only
      rw [if_neg (nI_ge (by omega) (by omega)), letm_eq, ww]
      exact ih (k + 1) n (C k) k (by omega) (by omega) (BU_one h1 (by omega) (by omega)) (by omega)
/-- the pulls that wait, on both sides -/
def WQ (P w : Nat) (q : Nat → Nat) (x25 : Nat → Int32) : Prop := (∀ j, j < w → q j < P ∧ x25 (q j) = 1) ∧ ∀ j j', j < j' → j' < w → q j < q j'
theorem e_wait {fu P w : Nat} {x0 y0 : Mem} (hR : Rel x0 y0) (hP : P ≤ 12) (hP0 : y0 0 4 = nI P) (hw : w ≤ 4) (hwc : cntL (fun p => decide (x0 25 p = 1)) P = w) (K1 K2 : Mem → Res) : ∀ (d k n m c : Nat) (q : Nat → Nat) (x y : Mem), k + d = P → d < n → d < m → c = cntL (fun p => decide (x0 25 p = 1)) k → (∀ b, b ≠ 7 → b ≠ 30 → x b = x0 b) → (∀ b, b ≠ 0 → b ≠ 26 → y b = y0 b) → (∀ i, i ≠ 34 → y 0 i = y0 0 i) → x 7 6 = nI c → y 0 34 = nI c → (∀ j, j < c → x 30 j = nI (q j) ∧ y 26 j = nI (q j)) → WQ P c q (x0 25) → (∀ j, j < c → q j < k) → ∃ (q' : Nat → Nat) (x' y' : Mem), L_X7_findBest_7 fu n (nI k) x K1 = K1 x' ∧ L_X10_shares_7 fu m (nI k) y K2 = K2 y' ∧ (∀ b, b ≠ 7 → b ≠ 30 → x' b = x0 b) ∧ (∀ b, b ≠ 0 → b ≠ 26 → y' b = y0 b) ∧ (∀ i, i ≠ 34 → y' 0 i = y0 0 i) ∧ x' 7 6 = nI w ∧ y' 0 34 = nI w ∧ (∀ j, j < w → x' 30 j = nI (q' j) ∧ y' 26 j = nI (q' j)) ∧ WQ P w q' (x0 25) := by
  have hx : x0 1 0 = nI P := hR.1.1.trans hP0
  have h10 := hR.2.2.2.2.2.2.2.2.2.2.2.1
  intro d
  induction d with
  | zero =>
    intro k n m c q x y hk hn hm hc fx fy fy0 g1 g2 g3 g4 g5
    obtain ⟨n, rfl⟩ : ∃ z, n = z + 1 := ⟨n - 1, by omega⟩
    obtain ⟨m, rfl⟩ : ∃ z, m = z + 1 := ⟨m - 1, by omega⟩
    have : k = P := by omega
    subst this
    have : c = w := by omega
    subst this
    refine ⟨q, x, y, ?_, ?_, fx, fy, fy0, g1, g2, g3, g4⟩
    · rw [L_X7_findBest_7, fx 1 (by decide) (by decide), hx, if_pos (nI_le (Nat.le_refl _) (by omega))]
    · rw [L_X10_shares_7, fy0 4 (by decide), hP0, if_pos (nI_le (Nat.le_refl _) (by omega))]
  | succ d ih =>
    intro k n m c q x y hk hn hm hc fx fy fy0 g1 g2 g3 g4 g5
    obtain ⟨n, rfl⟩ : ∃ z, n = z + 1 := ⟨n - 1, by omega⟩
    obtain ⟨m, rfl⟩ : ∃ z, m = z + 1 := ⟨m - 1, by omega⟩
    rw [L_X7_findBest_7, fx 1 (by decide) (by decide), hx, if_neg (nI_ge (by omega) (by omega)), L_X10_shares_7, fy0 4 (by decide), hP0, if_neg (nI_ge (by omega) (by omega)), F_X1_isWaiting, chk_ok (by omega) (by omega), chk_ok (by omega) (by omega), cN (by omega), fx 25 (by decide) (by decide), fy 11 (by decide) (by decide), nI_1]
    have hcs := cntL_s (fun p => decide (x0 25 p = 1)) k
    have c2 := (h10 k (by omega)).2.1
    by_cases e : x0 25 k = 1
    · have hcs' : cntL (fun p => decide (x0 25 p = 1)) (k + 1) = c + 1 := by rw [hcs, hc]; simp [e]
      have mono : ∀ (f : Nat → Bool) (b a : Nat), cntL f a ≤ cntL f (a + b) := fun f b => by
        induction b with
        | zero => intro a; exact Nat.le_refl _
        | succ b ih => intro a; rw [← Nat.add_assoc, cntL_s]; have := ih a; omega
      have hm2 := mono (fun p => decide (x0 25 p = 1)) d (k + 1)
      rw [show k + 1 + d = P by omega, hwc, hcs'] at hm2
      rw [if_pos e, retzp_1, clp_some, if_neg (show ¬ (1 : Int32) = 0 by decide), g1, if_neg (show ¬ (4 : Int32) ≤ nI c from nI_ge (b := 4) (by omega) (by omega)), chk_ok (by omega) (by omega), letm_eq, letm_eq, cN (by omega), if_neg (c2.mp e), g2, chk_ok (by omega) (by omega), letm_eq, letm_eq, cN (by omega)]
      have z1 : wr x 30 c (nI k) 7 6 = nI c := g1
      have z2 : wr y 26 c (nI k) 0 34 = nI c := g2
      rw [z1, z2, nI_1]
      refine ih (k + 1) n m (c + 1) (fun j => if j = c then k else q j) _ _ (by omega) (by omega) (by omega) hcs'.symm ?_ ?_ ?_ rfl rfl ?_ ⟨?_, ?_⟩ ?_
      · intro b b1 b2; rw [wr_ne b1, wr_ne b2]; exact fx b b1 b2
      · intro b b1 b2; rw [wr_ne b1, wr_ne b2]; exact fy b b1 b2
      · intro i hi
        have : wr (wr y 26 c (nI k)) 0 34 (nI (c + 1)) 0 i = y 0 i := by
          rw [wr_row, upd_n hi, wr_ne (by decide)]
        rw [this]; exact fy0 i hi
      · intro j hj
        by_cases ej : j = c
        · subst ej
          simp only [if_true]
          constructor
          · rw [wr_ne (by decide), wr_at]
          · rw [wr_ne (by decide), wr_at]
        · simp only [ej, if_false]
          show upd (x 30) c (nI k) j = nI (q j) ∧ upd (y 26) c (nI k) j = nI (q j)
          rw [upd_n ej, upd_n ej]
          exact g3 j (by omega)
      · intro j hj
        by_cases ej : j = c
        · simp only [ej, if_true]; exact ⟨by omega, e⟩
        · simp only [ej, if_false]; exact g4.1 j (by omega)
      · intro j j' h1 h2
        have ej : ¬ j = c := by omega
        simp only [ej, if_false]
        by_cases ej' : j' = c
        · simp only [ej', if_true]; exact g5 j (by omega)
        · simp only [ej', if_false]; exact g4.2 j j' h1 (by omega)
      · intro j hj
        by_cases ej : j = c
        · simp only [ej, if_true]; omega
        · simp only [ej, if_false]; have := g5 j (by omega); omega
    · have hneg : y0 11 k < 0 := by
        rcases Classical.em (y0 11 k < 0) with h | h
        · exact h
        · exact absurd (c2.mpr h) e
      rw [if_neg e, retzp_0, clp_some, if_pos rfl, if_pos hneg]
      exact ih (k + 1) n m c q x y (by omega) (by omega) (by omega) (by rw [hcs, hc]; simp [e]) fx fy fy0 g1 g2 g3 g4 (fun j hj => by have := g5 j hj; omega)

/-! ===== sharing out: the component's search ===== -/
def SX (w : Nat) (q : Nat → Nat) (x y : Mem) : Prop := Rel x y ∧ x 7 6 = nI w ∧ ∀ j, j < w → x 30 j = nI (q j)
theorem SX_of {w : Nat} {q : Nat → Nat} {x x' y : Mem} (h : SX w q x y) (h1 : ∀ b, b ≠ 7 → b ≠ 31 → b ≠ 32 → x' b = x b) (h2 : x' 7 6 = x 7 6) : SX w q x' y := by
  refine ⟨Rel_scratch h.1 (fun b b1 _ b3 b4 _ _ _ => h1 b b1 b3 b4) (fun b _ _ _ => rfl) (fun i _ _ => rfl), h2.trans h.2.1, fun j hj => ?_⟩
  rw [h1 30 (by decide) (by decide) (by decide)]
  exact h.2.2 j hj
def BX (C : Nat → Nat) (w m : Nat) (x : Mem) : Prop := ∃ bc code, bc < 2 ^ 31 ∧ x 7 7 = nI bc ∧ BU C m bc code ∧ (bc < 1000000 → ∀ j, j < w → x 31 j = nI (code / 6 ^ (w - 1 - j) % 6))
theorem e_keepS {fu w : Nat} (hw : w ≤ 4) (K : Mem → Res) : ∀ (d k n : Nat) (x : Mem), k + d = w → d < n → x 7 6 = nI w → ∃ x', L_X7_keep_7 fu n (nI k) x K = K x' ∧ (∀ b, b ≠ 31 → x' b = x b) ∧ (∀ j, j < k → x' 31 j = x 31 j) ∧ ∀ j, k ≤ j → j < w → x' 31 j = x 32 j := by
  intro d
  induction d with
  | zero =>
    intro k n x hk hn h76
    obtain ⟨n, rfl⟩ : ∃ z, n = z + 1 := ⟨n - 1, by omega⟩
    have : k = w := by omega
    subst this
    refine ⟨x, ?_, fun _ _ => rfl, fun _ _ => rfl, fun j h1 h2 => absurd h2 (by omega)⟩
    rw [L_X7_keep_7, h76, if_pos (nI_le (Nat.le_refl _) (by omega))]
  | succ d ih =>
    intro k n x hk hn h76
    obtain ⟨n, rfl⟩ : ∃ z, n = z + 1 := ⟨n - 1, by omega⟩
    obtain ⟨x', r1, r2, r3, r4⟩ := ih (k + 1) n (wr x 31 k (x 32 k)) (by omega) (by omega) h76
    refine ⟨x', ?_, fun b hb => by rw [r2 b hb, wr_ne hb], fun j hj => by rw [r3 j (by omega), wr_row, upd_n (by omega)], fun j h1 h2 => ?_⟩
    · rw [L_X7_keep_7, h76, if_neg (nI_ge (by omega) (by omega)), chk_ok (by omega) (by omega), chk_ok (by omega) (by omega), letm_eq, cN (by omega), nI_1, r1]
    · by_cases e : j = k
      · subst e; rw [r3 j (by omega), wr_at]
      · rw [r4 j (by omega) h2, wr_ne (by decide)]
theorem keep_eq {fu w acc : Nat} {x : Mem} (hfu : 100 ≤ fu) (hw : w ≤ 4) (h76 : x 7 6 = nI w) : ∃ x', F_X7_keep fu (nI acc) x = some (0, x') ∧ (∀ b, b ≠ 7 → b ≠ 31 → x' b = x b) ∧ x' 7 6 = x 7 6 ∧ x' 7 7 = nI acc ∧ ∀ j, j < w → x' 31 j = x 32 j := by
  obtain ⟨x', r1, r2, r3, r4⟩ := e_keepS (fu := fu) hw (fun x_3 => (some (0, x_3))) w 0 fu (wr x 7 7 (nI acc)) (by omega) (by omega) h76
  refine ⟨x', ?_, fun b b1 b2 => by rw [r2 b b2, wr_ne b1], by rw [r2 7 (by decide)]; rfl, by rw [r2 7 (by decide)]; rfl, fun j hj => by rw [r4 j (by omega) hj, wr_ne (by decide)]⟩
  unfold F_X7_keep
  exact r1
theorem in_block {a d c : Nat} (h1 : a * 6 ^ d ≤ c) (h2 : c < (a + 1) * 6 ^ d) : c / 6 ^ d = a := Nat.div_eq_of_lt_le h1 h2
theorem BX_ext {C : Nat → Nat} {w m m' : Nat} {x : Mem} (h : BX C w m x) (hm : m ≤ m') (hc : ∀ c, m ≤ c → c < m' → 9999999 ≤ C c) : BX C w m' x := by
  obtain ⟨bc, code, h1, h2, h3, h4⟩ := h
  exact ⟨bc, code, h1, h2, BU_ext h3 hm (fun c a b => Or.inr (Nat.le_trans (by decide) (hc c a b))), h4⟩
theorem BX_of {C : Nat → Nat} {w m : Nat} {x x' : Mem} (h : BX C w m x) (h1 : x' 7 = x 7) (h2 : x' 31 = x 31) : BX C w m x' := by
  unfold BX
  rw [h1, h2]
  exact h
theorem e_try {fu P S w : Nat} {y : Mem} {q : Nat → Nat} (hfu : 100 ≤ fu) (hP : P ≤ 12) (hP0 : y 0 4 = nI P) (hS : S ≤ 5) (hS0 : y 0 19 = nI S) (hw : w ≤ 4) (hq : ∀ j, j < w → q j < P) (hwt : ∀ i, i < w → wtF y q i ≤ 5) (hW : ∀ s i, i < w → okF y S q s i = true → WF y q s i ≤ 100) (C : Nat → Nat) : ∀ (d i D c0 : Nat) (b : Int32) (acc : Nat) (x : Mem), i + d = w → d < D → (∀ c, c / 6 ^ d = c0 → C c = CO (okF y S q) (WF y q) (wtF y q) c d i b acc) → acc + 500 * d ≤ 2000 → SX w q x y → (∀ j, j < i → x 32 j = nI (c0 / 6 ^ (i - 1 - j) % 6)) → BX C w (c0 * 6 ^ d) x → ∃ x', F_X7_tryFrom fu D (nI i) b (nI acc) x = some (0, x') ∧ SX w q x' y ∧ (∀ j, j < i → x' 32 j = x 32 j) ∧ (∀ c, c ≠ 7 → c ≠ 31 → c ≠ 32 → x' c = x c) ∧ BX C w ((c0 + 1) * 6 ^ d) x' := by
  intro d
  induction d with
  | zero =>
    intro i D c0 b acc x hi hD hC hacc hX h32 hB
    obtain ⟨D, rfl⟩ : ∃ z, D = z + 1 := ⟨D - 1, by omega⟩
    have : i = w := by omega
    subst this
    obtain ⟨bc, code, b1, b2, b3, b4⟩ := hB
    have hCc : C c0 = acc := hC c0 (by simp)
    rw [Nat.pow_zero, Nat.mul_one] at b3
    rw [F_X7_tryFrom, b2]
    by_cases hlt : acc < bc
    · obtain ⟨x', k1, k2, k3, k4, k5⟩ := keep_eq (acc := acc) hfu hw hX.2.1
      refine ⟨x', ?_, SX_of hX (fun b c1 c2 c3 => k2 b c1 c2) k3, fun j hj => by rw [k2 32 (by decide) (by decide)], fun c c1 c2 c3 => k2 c c1 c2, acc, c0, by omega, k4, ?_, fun _ j hj => ?_⟩
      · rw [if_pos (nI_lt hlt b1), hX.2.1, if_pos (nI_le (Nat.le_refl _) (by omega)), k1, cl_some']
      · have := BU_one b3 (by omega) (by omega)
        rw [hCc] at this
        rw [Nat.pow_zero, Nat.mul_one]
        exact this
      · rw [k5 j hj]; exact h32 j hj
    · refine ⟨x, by rw [if_neg (nI_nlt (by omega) (by omega))], hX, fun _ _ => rfl, fun _ _ _ _ => rfl, bc, code, b1, b2, ?_, b4⟩
      rw [Nat.pow_zero, Nat.mul_one]
      refine BU_ext b3 (by omega) (fun c c1 c2 => Or.inl ?_)
      have : c = c0 := by omega
      rw [this]; omega
  | succ d ih =>
    intro i D c0 b acc x hi hD hC hacc hX h32 hB
    obtain ⟨D, rfl⟩ : ∃ z, D = z + 1 := ⟨D - 1, by omega⟩
    obtain ⟨p1, p2⟩ := pow6 (d := d) (by omega)
    obtain ⟨bc, code, b1, b2, b3, b4⟩ := id hB
    by_cases hlt : acc < bc
    · have hq0 := hq i (by omega)
      have hsub : ∀ k c, k < 6 → c / 6 ^ d = 6 * c0 + k → c / 6 ^ (d + 1) = c0 ∧ c / 6 ^ d % 6 = k := fun k c hk e => by
        constructor
        · rw [Nat.pow_succ, ← Nat.div_div_eq_div_mul, e]; omega
        · rw [e]; omega
      have h32' : ∀ (k v : Nat) (z : Mem), v = k → k < 6 → (∀ j, j < i → z 32 j = nI (c0 / 6 ^ (i - 1 - j) % 6)) → ∀ j, j < i + 1 → wr z 32 i (nI v) 32 j = nI ((6 * c0 + k) / 6 ^ (i + 1 - 1 - j) % 6) := fun k v z ev hk hz j hj => by
        rw [wr_row]
        by_cases e : j = i
        · subst e
          rw [upd_s, ev, show j + 1 - 1 - j = 0 by omega, Nat.pow_zero, Nat.div_one]
          congr 1; omega
        · rw [upd_n e, hz j (by omega)]
          congr 1
          rw [show i + 1 - 1 - j = (i - 1 - j) + 1 by omega, Nat.pow_succ, Nat.mul_comm (6 ^ _) 6, ← Nat.div_div_eq_div_mul, show (6 * c0 + k) / 6 = c0 by omega]
      have loop : ∀ (K : Mem → Res) (e k n : Nat) (z : Mem), k + e = S → e < n → SX w q z y → (∀ j, j < i → z 32 j = nI (c0 / 6 ^ (i - 1 - j) % 6)) → BX C w ((6 * c0 + k) * 6 ^ d) z → ∃ x', L_X7_tryFrom_53 fu (F_X7_tryFrom fu D) (nI i) b (nI acc) (nI (q i)) (nI (wtF y q i)) n (nI k) z K = K x' ∧ SX w q x' y ∧ (∀ j, j < i → x' 32 j = z 32 j) ∧ (∀ c, c ≠ 7 → c ≠ 31 → c ≠ 32 → x' c = z c) ∧ BX C w ((6 * c0 + S) * 6 ^ d) x' := by
        intro K e
        induction e with
        | zero =>
          intro k n z hk hn hZ hz hBz
          obtain ⟨n, rfl⟩ : ∃ z, n = z + 1 := ⟨n - 1, by omega⟩
          have : k = S := by omega
          subst this
          refine ⟨z, ?_, hZ, fun _ _ => rfl, fun _ _ _ _ => rfl, hBz⟩
          rw [L_X7_tryFrom_53, hZ.1.1.2.2.2.1, hS0, if_pos (nI_le (Nat.le_refl _) (by omega))]
        | succ e ih2 =>
          intro k n z hk hn hZ hz hBz
          obtain ⟨n, rfl⟩ : ∃ z, n = z + 1 := ⟨n - 1, by omega⟩
          have hmay := (may_val (fu := fu) hZ.1 hP hP0 hS hS0 (show k < S by omega) hq0).1
          have hlit : okF y S q k i = MAYB y k (q i) := by unfold okF; rw [decide_eq_true (show k < S by omega)]; rfl
          have skip : (okF y S q k i && !bt b k) = false → ∃ x', L_X7_tryFrom_53 fu (F_X7_tryFrom fu D) (nI i) b (nI acc) (nI (q i)) (nI (wtF y q i)) n (nI (k + 1)) z K = K x' ∧ SX w q x' y ∧ (∀ j, j < i → x' 32 j = z 32 j) ∧ (∀ c, c ≠ 7 → c ≠ 31 → c ≠ 32 → x' c = z c) ∧ BX C w ((6 * c0 + S) * 6 ^ d) x' := fun hno =>
            ih2 (k + 1) n z (by omega) (by omega) hZ hz (BX_ext hBz (Nat.mul_le_mul_right _ (by omega)) (fun c g1 g2 => by
              have e1 := in_block g1 g2
              obtain ⟨e2, e3⟩ := hsub k c (by omega) e1
              rw [hC c e2, CO_s, e3, if_neg (by omega), hno]
              simp))
          rw [L_X7_tryFrom_53, hZ.1.1.2.2.2.1, hS0, if_neg (nI_ge (by omega) (by omega)), nI_1]
          cases hb : bt b k
          · rw [if_pos ((bit_eq0 (by omega)).mpr hb), F_X7_mayTake, chk_ok (by omega) (by omega), cN (by omega), hmay, clp_some]
            cases hm : MAYB y k (q i)
            · rw [if_neg (by decide), retzp_0, clp_some, if_pos rfl]
              exact skip (by rw [hlit, hm]; rfl)
            · have hokt : okF y S q k i = true := hlit.trans hm
              rw [if_pos rfl, retzp_1, clp_some, if_neg (show ¬ (1 : Int32) = 0 by decide), chk_ok (by omega) (by omega), letm_eq, cN (by omega)]
              have hZ' : SX w q (wr z 32 i (nI k)) y := SX_of hZ (fun b c1 c2 c3 => wr_ne c3) rfl
              have hfar : F_X7_far fu (nI k) (nI (q i)) (wr z 32 i (nI k)) = some (nI (WF y q k i)) := by
                unfold F_X7_far
                rw [chk_ok (by omega) (by omega), chk_ok (by omega) (by omega), cN (by omega), way_x hZ'.1 hP hP0 hS hS0 (by omega) hq0, clp_some, (W_at hZ.1 hP hP0 hS hS0 (by omega) hq0).2]
              have hle := mul_le500 (hwt i (by omega)) (hW k i (by omega) hokt)
              obtain ⟨x1, r1, r2, r3, r4, r5⟩ := ih (i + 1) D (6 * c0 + k) (b ||| ((1 : Int32) <<< (nI k &&& 31))) (acc + wtF y q i * WF y q k i) (wr z 32 i (nI k)) (by omega) (by omega) (fun c e1 => by
                obtain ⟨e2, e3⟩ := hsub k c (by omega) e1
                rw [hC c e2, CO_s, e3, if_neg (by omega), hokt, hb]
                simp) (by omega) hZ' (h32' k k z rfl (by omega) hz) (BX_of hBz (wr_ne (by decide)) (wr_ne (by decide)))
              obtain ⟨x', s1, s2, s3, s4, s5⟩ := ih2 (k + 1) n x1 (by omega) (by omega) r2 (fun j hj => by
                rw [r3 j (by omega), wr_row, upd_n (by omega)]; exact hz j hj) r5
              refine ⟨x', ?_, s2, fun j hj => by rw [s3 j hj, r3 j (by omega), wr_row, upd_n (by omega)], fun c c1 c2 c3 => by rw [s4 c c1 c2 c3, r4 c c1 c2 c3, wr_ne c3], s5⟩
              rw [hfar, clp_some, letv_eq, pk_mul, nI_add, nI_1, r1, cl_some', s1]
          · rw [if_neg (fun h => by rw [(bit_eq0 (by omega)).mp h] at hb; cases hb)]
            exact skip (by rw [hb]; simp)
      have hwi := (wt_at (p := 0) hX.1 hP hP0 hq0).2
      have a12 : x 12 = y 6 := hX.1.2.1.2.2.1
      obtain ⟨x1, r1, r2, r3, r4, r5⟩ := loop (fun x_9 => (chk (nI i) 4 (letm (wr x_9 32 (nI i).toNatClampNeg 5) (fun x_10 => (cl (F_X7_tryFrom fu D (nI i + 1) b (nI acc + (nI (wtF y q i) * 100)) x_10) (fun _ x_11 => (some (0, x_11)))))))) S 0 fu x (by omega) (by omega) hX h32 (by
        have : (6 * c0 + 0) * 6 ^ d = c0 * 6 ^ (d + 1) := by rw [Nat.pow_succ, Nat.add_zero, Nat.mul_comm 6 c0, Nat.mul_assoc, Nat.mul_comm 6]
        rw [this]; exact hB)
      have hle := mul_le500 (hwt i (by omega)) (Nat.le_refl 100)
      have r5' : BX C w ((6 * c0 + 5) * 6 ^ d) x1 := BX_ext r5 (Nat.mul_le_mul_right _ (by omega)) (fun c g1 g2 => by
        have l1 : 6 * c0 + S ≤ c / 6 ^ d := (Nat.le_div_iff_mul_le p1).mpr g1
        have l2 : c / 6 ^ d < 6 * c0 + 5 := (Nat.div_lt_iff_lt_mul p1).mpr g2
        obtain ⟨e2, e3⟩ := hsub (c / 6 ^ d - 6 * c0) c (by omega) (by omega)
        have hno : okF y S q (c / 6 ^ d - 6 * c0) i = false := by unfold okF; rw [decide_eq_false (by omega)]; rfl
        rw [hC c e2, CO_s, e3, if_neg (by omega), hno]
        simp)
      obtain ⟨x', s1, s2, s3, s4, s5⟩ := ih (i + 1) D (6 * c0 + 5) b (acc + wtF y q i * 100) (wr x1 32 i 5) (by omega) (by omega) (fun c e1 => by
        obtain ⟨e2, e3⟩ := hsub 5 c (by omega) e1
        rw [hC c e2, CO_s, e3, if_pos rfl]) (by omega) (SX_of r2 (fun b c1 c2 c3 => wr_ne c3) rfl) (h32' 5 5 x1 rfl (by omega) (fun j hj => by rw [r3 j hj]; exact h32 j hj)) (BX_of r5' (wr_ne (by decide)) (wr_ne (by decide)))
      refine ⟨x', ?_, s2, fun j hj => by rw [s3 j (by omega), wr_row, upd_n (by omega), r3 j hj], fun c c1 c2 c3 => by rw [s4 c c1 c2 c3, wr_ne c3, r4 c c1 c2 c3], ?_⟩
      · have e100 : nI (wtF y q i) * 100 = nI (wtF y q i * 100) := pk_mul _ 100
        rw [F_X7_tryFrom, b2, if_pos (nI_lt hlt b1), hX.2.1, if_neg (nI_ge (by omega) (by omega)), if_pos (show nI i < 4 from nI_lt (b := 4) (by omega) (by omega)), chk_ok (by omega) (by omega), letv_eq, cN (by omega), hX.2.2 i (by omega), chk_ok (by omega) (by omega), letv_eq, cN (by omega), a12, hwi]
        have r1' : L_X7_tryFrom_53 fu (F_X7_tryFrom fu D) (nI i) b (nI acc) (nI (q i)) (nI (wtF y q i)) fu 0 x _ = _ := r1
        rw [cN (show i < 2 ^ 31 by omega)] at r1'
        rw [r1', chk_ok (by omega) (by omega), letm_eq, nI_1, e100, nI_add, s1, cl_some']
      · have : (6 * c0 + 5 + 1) * 6 ^ d = (c0 + 1) * 6 ^ (d + 1) := by
          rw [Nat.pow_succ, show 6 * c0 + 5 + 1 = (c0 + 1) * 6 by omega, Nat.mul_assoc, Nat.mul_comm 6]
        rw [← this]; exact s5
    · refine ⟨x, by rw [F_X7_tryFrom, b2, if_neg (nI_nlt (by omega) (by omega))], hX, fun _ _ => rfl, fun _ _ _ _ => rfl, bc, code, b1, b2, ?_, b4⟩
      refine BU_ext b3 (Nat.mul_le_mul_right _ (by omega)) (fun c c1 c2 => Or.inl ?_)
      rw [hC c (in_block c1 c2)]
      have := (CO_ge (c := c) hwt hW (d + 1) i b acc hi hacc).1
      omega

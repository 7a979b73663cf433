/-! ===== how many bits: the model's loop, the JDK's bitCount ===== -/
theorem popL_le (m : Int32) : ∀ k, popL m k ≤ k := by
  intro k
  induction k with
  | zero => exact Nat.le_refl 0
  | succ k ih => unfold popL; split <;> omega
theorem e_bits (fu : Nat) (m : Int32) (y : Mem) (K : Int32 → Option Int32) : ∀ (d k n : Nat), k + d = 24 → d < n → L_X10_bits_4 fu m y n (nI (popL m k)) (nI k) K = K (popI m) := by
  intro d
  induction d with
  | zero =>
    intro k n hk hn
    obtain ⟨n, rfl⟩ : ∃ m, n = m + 1 := ⟨n - 1, by omega⟩
    have : k = 24 := by omega
    subst this
    rw [L_X10_bits_4, if_pos (by decide)]
    rfl
  | succ d ih =>
    intro k n hk hn
    obtain ⟨n, rfl⟩ : ∃ m, n = m + 1 := ⟨n - 1, by omega⟩
    rw [L_X10_bits_4, if_neg (show ¬ (24 : Int32) ≤ nI k from nI_ge (b := 24) (by omega) (by omega)), letv_eq, bit_0 (by omega), nI_1, ← ih (k + 1) n (by omega) (by omega)]
    congr 1
    have hp : popL m (k + 1) = popL m k + (if bt m k then 1 else 0) := rfl
    rw [hp]
    cases bt m k
    · show nI (popL m k) + 0 = nI (popL m k + 0)
      simp
    · exact nI_1 (popL m k)
theorem bits_eq {fu : Nat} (hfu : 100 ≤ fu) (m : Int32) (y : Mem) : F_X10_bits fu m y = some (popI m) := by
  unfold F_X10_bits
  exact e_bits fu m y _ 24 0 fu rfl (by omega)
-- numbers in base 256
theorem land_dig (a b ma mb : Nat) (ha : a < 256) (hm : ma < 256) : (a + 256 * b) &&& (ma + 256 * mb) = (a &&& ma) + 256 * (b &&& mb) := by
  apply Nat.eq_of_testBit_eq
  intro i
  have h1 : ∀ u v, u < 256 → (u + 256 * v).testBit i = if i < 8 then u.testBit i else v.testBit (i - 8) := by
    intro u v hu
    rw [Nat.add_comm]
    exact Nat.testBit_two_pow_mul_add v (i := 8) hu i
  have hlt : a &&& ma < 256 := Nat.and_lt_two_pow a (n := 8) hm
  rw [Nat.testBit_and, h1 a b ha, h1 ma mb hm, h1 (a &&& ma) (b &&& mb) hlt]
  by_cases h : i < 8
  · simp [h, Nat.testBit_and]
  · simp [h, Nat.testBit_and]
theorem land3 (b0 b1 b2 m : Nat) (h0 : b0 < 256) (h1 : b1 < 256) (h2 : b2 < 256) (hm : m < 256) : (b0 + 256 * b1 + 65536 * b2) &&& (m + 256 * m + 65536 * m + 16777216 * m) = (b0 &&& m) + 256 * (b1 &&& m) + 65536 * (b2 &&& m) := by
  have e1 : b0 + 256 * b1 + 65536 * b2 = b0 + 256 * (b1 + 256 * (b2 + 256 * 0)) := by omega
  have e2 : m + 256 * m + 65536 * m + 16777216 * m = m + 256 * (m + 256 * (m + 256 * m)) := by omega
  rw [e1, e2, land_dig _ _ _ _ h0 hm, land_dig _ _ _ _ h1 hm, land_dig _ _ _ _ h2 hm]
  simp
  omega
def d8 (b : Nat) : Nat := b - ((b / 2) &&& 85)
def e8 (b : Nat) : Nat := (d8 b &&& 51) + ((d8 b / 4) &&& 51)
def f8 (b : Nat) : Nat := (e8 b + e8 b / 16) &&& 15
def p8 (b : Nat) : Nat := b % 2 + b / 2 % 2 + b / 4 % 2 + b / 8 % 2 + b / 16 % 2 + b / 32 % 2 + b / 64 % 2 + b / 128 % 2
theorem byte_facts : ∀ b, b < 256 → ((b / 2) &&& 85) ≤ b ∧ d8 b < 256 ∧ e8 b ≤ 68 ∧ e8 b % 16 ≤ 4 ∧ f8 b = p8 b ∧ p8 b ≤ 8 := by decide +kernel
theorem m1 : ∀ t, t < 128 → ∀ e, e < 2 → (t + 128 * e) &&& 85 = t &&& 85 := by decide +kernel
theorem m2 : ∀ t, t < 64 → ∀ e, e < 4 → (t + 64 * e) &&& 51 = t &&& 51 := by decide +kernel
theorem m3 : ∀ t, t < 73 → ∀ e, e < 5 → (t + 16 * e) &&& 15 = t &&& 15 := by decide +kernel
theorem step1 (b0 b1 b2 : Nat) (h0 : b0 < 256) (h1 : b1 < 256) (h2 : b2 < 256) : (b0 + 256 * b1 + 65536 * b2) - (((b0 + 256 * b1 + 65536 * b2) / 2) &&& 1431655765) = d8 b0 + 256 * d8 b1 + 65536 * d8 b2 := by
  have e : (b0 + 256 * b1 + 65536 * b2) / 2 = (b0 / 2 + 128 * (b1 % 2)) + 256 * (b1 / 2 + 128 * (b2 % 2)) + 65536 * (b2 / 2) := by omega
  rw [e, show 1431655765 = 85 + 256 * 85 + 65536 * 85 + 16777216 * 85 from rfl, land3 _ _ _ 85 (by omega) (by omega) (by omega) (by omega), m1 _ (by omega) _ (by omega), m1 _ (by omega) _ (by omega)]
  have f0 := (byte_facts b0 h0).1
  have f1 := (byte_facts b1 h1).1
  have f2 := (byte_facts b2 h2).1
  unfold d8
  omega
theorem step2 (b0 b1 b2 : Nat) (h0 : b0 < 256) (h1 : b1 < 256) (h2 : b2 < 256) : ((d8 b0 + 256 * d8 b1 + 65536 * d8 b2) &&& 858993459) + (((d8 b0 + 256 * d8 b1 + 65536 * d8 b2) / 4) &&& 858993459) = e8 b0 + 256 * e8 b1 + 65536 * e8 b2 := by
  have f0 := (byte_facts b0 h0).2.1
  have f1 := (byte_facts b1 h1).2.1
  have f2 := (byte_facts b2 h2).2.1
  have e : (d8 b0 + 256 * d8 b1 + 65536 * d8 b2) / 4 = (d8 b0 / 4 + 64 * (d8 b1 % 4)) + 256 * (d8 b1 / 4 + 64 * (d8 b2 % 4)) + 65536 * (d8 b2 / 4) := by omega
  rw [e, show 858993459 = 51 + 256 * 51 + 65536 * 51 + 16777216 * 51 from rfl, land3 _ _ _ 51 f0 f1 f2 (by omega), land3 _ _ _ 51 (by omega) (by omega) (by omega) (by omega), m2 _ (by omega) _ (by omega), m2 _ (by omega) _ (by omega)]
  unfold e8
  omega
theorem step3 (b0 b1 b2 : Nat) (h0 : b0 < 256) (h1 : b1 < 256) (h2 : b2 < 256) : ((e8 b0 + 256 * e8 b1 + 65536 * e8 b2) + (e8 b0 + 256 * e8 b1 + 65536 * e8 b2) / 16) &&& 252645135 = p8 b0 + 256 * p8 b1 + 65536 * p8 b2 := by
  obtain ⟨-, -, f0, g0, k0, -⟩ := byte_facts b0 h0
  obtain ⟨-, -, f1, g1, k1, -⟩ := byte_facts b1 h1
  obtain ⟨-, -, f2, g2, k2, -⟩ := byte_facts b2 h2
  have e : (e8 b0 + 256 * e8 b1 + 65536 * e8 b2) + (e8 b0 + 256 * e8 b1 + 65536 * e8 b2) / 16 = ((e8 b0 + e8 b0 / 16) + 16 * (e8 b1 % 16)) + 256 * ((e8 b1 + e8 b1 / 16) + 16 * (e8 b2 % 16)) + 65536 * (e8 b2 + e8 b2 / 16) := by omega
  rw [e, show 252645135 = 15 + 256 * 15 + 65536 * 15 + 16777216 * 15 from rfl, land3 _ _ _ 15 (by omega) (by omega) (by omega) (by omega), m3 _ (by omega) _ (by omega), m3 _ (by omega) _ (by omega)]
  rw [← k0, ← k1, ← k2]
  rfl
theorem ush {a k : Nat} (ha : a < 2 ^ 31) (hk : k < 32) : ((nI a).toUInt32 >>> ((nI k).toUInt32 &&& Int32.toUInt32 31)).toInt32 = nI (a / 2 ^ k) := pk_ushrN (by omega) (nI k) k (s_u k hk)
theorem nI_and (a b : Nat) : nI a &&& nI b = nI (a &&& b) := by
  apply Int32.toBitVec_inj.1
  show BitVec.ofNat 32 a &&& BitVec.ofNat 32 b = BitVec.ofNat 32 (a &&& b)
  apply BitVec.eq_of_getLsbD_eq
  intro i hi
  simp [hi]
theorem and63 (a : Nat) : a &&& 63 = a % 64 := Nat.and_two_pow_sub_one_eq_mod a 6
theorem fold3 (A B C : Nat) (hA : A ≤ 8) (hB : B ≤ 8) (hC : C ≤ 8) : (A + 256 * B + 65536 * C + (A + 256 * B + 65536 * C) / 256 + (A + 256 * B + 65536 * C + (A + 256 * B + 65536 * C) / 256) / 65536) % 64 = A + B + C := by
  have h1 : (A + 256 * B + 65536 * C) / 256 = B + 256 * C := by omega
  rw [h1]
  have h2 : (A + 256 * B + 65536 * C + (B + 256 * C)) / 65536 = C := by omega
  rw [h2]
  omega
theorem bitCount_nat {fu c : Nat} {x : Mem} (hc : c < 16777216) : F_J6_bitCount_0f7a4 fu (nI c) x = some (nI (p8 (c % 256) + p8 (c / 256 % 256) + p8 (c / 65536))) := by
  obtain ⟨b0, hb0⟩ : ∃ b, b = c % 256 := ⟨_, rfl⟩
  obtain ⟨b1, hb1⟩ : ∃ b, b = c / 256 % 256 := ⟨_, rfl⟩
  obtain ⟨b2, hb2⟩ : ∃ b, b = c / 65536 := ⟨_, rfl⟩
  rw [← hb0, ← hb1, ← hb2]
  have h0 : b0 < 256 := by omega
  have h1 : b1 < 256 := by omega
  have h2 : b2 < 256 := by omega
  have hcd : c = b0 + 256 * b1 + 65536 * b2 := by omega
  obtain ⟨l0, d0, f0, -, -, q0⟩ := byte_facts b0 h0
  obtain ⟨l1, d1, f1, -, -, q1⟩ := byte_facts b1 h1
  obtain ⟨l2, d2, f2, -, -, q2⟩ := byte_facts b2 h2
  have s1 := step1 b0 b1 b2 h0 h1 h2
  have s2 := step2 b0 b1 b2 h0 h1 h2
  have s3 := step3 b0 b1 b2 h0 h1 h2
  rw [← hcd] at s1
  have hle : (c / 2) &&& 1431655765 ≤ c := Nat.le_trans Nat.and_le_left (by omega)
  unfold F_J6_bitCount_0f7a4
  rw [letv_eq, letv_eq, letv_eq, letv_eq, letv_eq]
  have u1 : ((nI c).toUInt32 >>> ((1 : Int32).toUInt32 &&& Int32.toUInt32 31)).toInt32 = nI (c / 2) := ush (k := 1) (by omega) (by omega)
  have t1 : nI c - (nI (c / 2) &&& 1431655765) = nI (d8 b0 + 256 * d8 b1 + 65536 * d8 b2) := by
    rw [show (1431655765 : Int32) = nI 1431655765 from rfl, nI_and, pk_sub hle, s1]
  rw [u1, t1]
  have u2 : ((nI (d8 b0 + 256 * d8 b1 + 65536 * d8 b2)).toUInt32 >>> ((2 : Int32).toUInt32 &&& Int32.toUInt32 31)).toInt32 = nI ((d8 b0 + 256 * d8 b1 + 65536 * d8 b2) / 4) := ush (k := 2) (by omega) (by omega)
  rw [u2, show (858993459 : Int32) = nI 858993459 from rfl, nI_and, nI_and, nI_add, s2]
  have u3 : ((nI (e8 b0 + 256 * e8 b1 + 65536 * e8 b2)).toUInt32 >>> ((4 : Int32).toUInt32 &&& Int32.toUInt32 31)).toInt32 = nI ((e8 b0 + 256 * e8 b1 + 65536 * e8 b2) / 16) := ush (k := 4) (by omega) (by omega)
  rw [u3, show (252645135 : Int32) = nI 252645135 from rfl, nI_add, nI_and, s3]
  have u4 : ((nI (p8 b0 + 256 * p8 b1 + 65536 * p8 b2)).toUInt32 >>> ((8 : Int32).toUInt32 &&& Int32.toUInt32 31)).toInt32 = nI ((p8 b0 + 256 * p8 b1 + 65536 * p8 b2) / 256) := ush (k := 8) (by omega) (by omega)
  rw [u4, nI_add]
  have u5 : ((nI (p8 b0 + 256 * p8 b1 + 65536 * p8 b2 + (p8 b0 + 256 * p8 b1 + 65536 * p8 b2) / 256)).toUInt32 >>> ((16 : Int32).toUInt32 &&& Int32.toUInt32 31)).toInt32 = nI ((p8 b0 + 256 * p8 b1 + 65536 * p8 b2 + (p8 b0 + 256 * p8 b1 + 65536 * p8 b2) / 256) / 65536) := ush (k := 16) (by omega) (by omega)
  rw [u5, nI_add, show (63 : Int32) = nI 63 from rfl, nI_and, and63, fold3 _ _ _ q0 q1 q2]
theorem tb_div (c k : Nat) : (if c.testBit k then 1 else 0) = c / 2 ^ k % 2 := by
  rw [Nat.testBit_eq_decide_div_mod_eq]
  have := Nat.mod_two_eq_zero_or_one (c / 2 ^ k)
  rcases this with h | h <;> simp [h]
theorem p8_mod (c : Nat) : p8 (c % 256) = p8 c := by
  unfold p8
  have h0 : c % 256 % 2 = c % 2 := by omega
  have h1 : c % 256 / 2 % 2 = c / 2 % 2 := by omega
  have h2 : c % 256 / 4 % 2 = c / 4 % 2 := by omega
  have h3 : c % 256 / 8 % 2 = c / 8 % 2 := by omega
  have h4 : c % 256 / 16 % 2 = c / 16 % 2 := by omega
  have h5 : c % 256 / 32 % 2 = c / 32 % 2 := by omega
  have h6 : c % 256 / 64 % 2 = c / 64 % 2 := by omega
  have h7 : c % 256 / 128 % 2 = c / 128 % 2 := by omega
  rw [h0, h1, h2, h3, h4, h5, h6, h7]
def tS (c : Nat) : Nat → Nat
  | 0 => 0
  | k + 1 => tS c k + c / 2 ^ k % 2
theorem popL_tS {c : Nat} (hc : c < 2 ^ 31) : ∀ k, popL (nI c) k = tS c k := by
  intro k
  induction k with
  | zero => rfl
  | succ k ih =>
    show popL (nI c) k + (if bt (nI c) k then 1 else 0) = tS c k + c / 2 ^ k % 2
    rw [ih, bt_nI hc, tb_div]
theorem tS_8 (c : Nat) : tS c 8 = p8 c := by
  simp only [tS, p8, Nat.reducePow, Nat.zero_add, Nat.div_one]
theorem tS_add (c j : Nat) : ∀ k, tS c (j + k) = tS c j + tS (c / 2 ^ j) k := by
  intro k
  induction k with
  | zero => rfl
  | succ k ih =>
    show tS c (j + k) + c / 2 ^ (j + k) % 2 = tS c j + (tS (c / 2 ^ j) k + c / 2 ^ j / 2 ^ k % 2)
    rw [ih, Nat.div_div_eq_div_mul, ← Nat.pow_add, Nat.add_assoc]
theorem popL_nat {c : Nat} (hc : c < 16777216) : popL (nI c) 24 = p8 (c % 256) + p8 (c / 256 % 256) + p8 (c / 65536) := by
  rw [popL_tS (by omega), p8_mod, p8_mod]
  have h1 := tS_add c 8 16
  have h2 := tS_add (c / 2 ^ 8) 8 8
  rw [tS_8] at h1
  rw [tS_8, tS_8, Nat.div_div_eq_div_mul] at h2
  show tS c (8 + 16) = _
  rw [h1, show (16 : Nat) = 8 + 8 from rfl, h2, ← Nat.add_assoc]
theorem bitCount_eq {fu c : Nat} {x : Mem} (hc : c < 16777216) : F_J6_bitCount_0f7a4 fu (nI c) x = some (popI (nI c)) := by
  rw [bitCount_nat hc]
  unfold popI
  rw [popL_nat hc]
theorem popI_small (m : Int32) : ∃ k, k ≤ 24 ∧ popI m = nI k := ⟨popL m 24, popL_le m 24, rfl⟩

/-! ===== numbers and bits (bt and its rows: out of kit/laws/BITS.to-paste) ===== -/
def bt (x : Int32) (i : Nat) : Bool := x.toBitVec.getLsbD i
theorem b_ext {x y : Int32} (h : ∀ i, i < 32 → bt x i = bt y i) : x = y := Int32.toBitVec_inj.mp (BitVec.eq_of_getLsbD_eq (fun i hi => h i hi))
theorem b_or (x y : Int32) (i : Nat) : bt (x ||| y) i = (bt x i || bt y i) := by unfold bt; rw [Int32.toBitVec_or, BitVec.getLsbD_or]
theorem b_and (x y : Int32) (i : Nat) : bt (x &&& y) i = (bt x i && bt y i) := by unfold bt; rw [Int32.toBitVec_and, BitVec.getLsbD_and]
theorem b_xor (x y : Int32) (i : Nat) : bt (x ^^^ y) i = (bt x i ^^ bt y i) := by unfold bt; rw [Int32.toBitVec_xor, BitVec.getLsbD_xor]
theorem b_big {x : Int32} {i : Nat} (h : 32 ≤ i) : bt x i = false := BitVec.getLsbD_of_ge _ _ h
theorem b_255 (i : Nat) : bt 255 i = decide (i < 8) := by
  rcases Nat.lt_or_ge i 32 with h | h
  · exact (by decide +kernel : ∀ i, i < 32 → bt 255 i = decide (i < 8)) i h
  · rw [b_big h, decide_eq_false (by omega)]
theorem b_65535 (i : Nat) : bt 65535 i = decide (i < 16) := by
  rcases Nat.lt_or_ge i 32 with h | h
  · exact (by decide +kernel : ∀ i, i < 32 → bt 65535 i = decide (i < 16)) i h
  · rw [b_big h, decide_eq_false (by omega)]
theorem b_m1 : ∀ i, i < 32 → bt (-1) i = true := by decide +kernel
theorem b_0 (i : Nat) : bt 0 i = false := BitVec.getLsbD_zero
theorem s_l : ∀ n, n < 32 → ((nI n &&& 31).toBitVec.smod 32).toNat = n := by decide +kernel
theorem s_u : ∀ n, n < 32 → (((nI n).toUInt32 &&& Int32.toUInt32 31).toBitVec % 32).toNat = n := by decide +kernel
theorem b_shl (n : Nat) (hn : n < 32) (x : Int32) {i : Nat} (hi : i < 32) : bt (x <<< (nI n &&& 31)) i = (decide (n ≤ i) && bt x (i - n)) := by
  unfold bt
  rw [Int32.toBitVec_shiftLeft]
  show (x.toBitVec <<< ((nI n &&& 31).toBitVec.smod 32).toNat).getLsbD i = _
  rw [s_l n hn, BitVec.getLsbD_shiftLeft]
  rcases Nat.lt_or_ge i n with h | h
  · simp [h, Nat.not_le.mpr h]
  · simp [hi, h, Nat.not_lt.mpr h]
theorem b_ushr (n : Nat) (hn : n < 32) (x : Int32) (i : Nat) : bt ((x.toUInt32 >>> ((nI n).toUInt32 &&& Int32.toUInt32 31)).toInt32) i = bt x (n + i) := by
  show (x.toUInt32 >>> ((nI n).toUInt32 &&& Int32.toUInt32 31)).toBitVec.getLsbD i = x.toUInt32.toBitVec.getLsbD (n + i)
  rw [UInt32.toBitVec_shiftRight]
  show (x.toUInt32.toBitVec >>> (((nI n).toUInt32 &&& Int32.toUInt32 31).toBitVec % 32).toNat).getLsbD i = _
  rw [s_u n hn, BitVec.getLsbD_ushiftRight]
theorem b_sshr (n : Nat) (hn : n < 32) (x : Int32) {i : Nat} (hi : i < 32) : bt (x >>> (nI n &&& 31)) i = if n + i < 32 then bt x (n + i) else bt x 31 := by
  unfold bt
  rw [Int32.toBitVec_shiftRight]
  show (x.toBitVec.sshiftRight ((nI n &&& 31).toBitVec.smod 32).toNat).getLsbD i = _
  rw [s_l n hn, BitVec.getLsbD_sshiftRight, BitVec.msb_eq_getLsbD_last]
  simp [hi]
theorem nI_inj {a b : Nat} (ha : a < 2 ^ 31) (hb : b < 2 ^ 31) (h : nI a = nI b) : a = b := (nI_eq ha hb).mp h
theorem chk_ok {α : Type} {j n : Nat} {M : Option α} (h : j < n) (hn : n < 2 ^ 31) : chk (nI j) n M = M := by
  unfold chk
  rw [if_neg (nI_in h hn)]
theorem chk_ok' {α : Type} {i : Int32} {n : Nat} {M : Option α} (j : Nat) (hi : i = nI j) (h : j < n) (hn : n < 2 ^ 31) : chk i n M = M := by rw [hi]; exact chk_ok h hn
theorem cN {j : Nat} (h : j < 2 ^ 31) : (nI j).toNatClampNeg = j := nI_clamp h
theorem letv_eq {α : Type} (v : Int32) (K : Int32 → Option α) : letv v K = K v := rfl
theorem letm_eq (x : Mem) (K : Mem → Res) : letm x K = K x := rfl
theorem jn_eq {κ α : Type} (f : κ → Option α) (K : κ) : jn f K = f K := rfl
theorem clp_some {α : Type} (r : Int32) (K : Int32 → Option α) : clp (some r) K = K r := rfl
theorem cl_some' (r : Int32) (x : Mem) (K : Int32 → Mem → Res) : cl (some (r, x)) K = K r x := rfl
theorem retzp_0 : retzp 0 = some 0 := rfl
theorem retzp_1 : retzp 1 = some 1 := rfl
theorem retz_0 (x : Mem) : retz 0 x = some (0, x) := rfl
theorem retz_1 (x : Mem) : retz 1 x = some (1, x) := rfl
theorem nz_ok {α : Type} {y : Int32} {M : Option α} (h : ¬ y = 0) : nz y M = M := by unfold nz; rw [if_neg h]
theorem pr_s (r : Int32) (x : Mem) : pr (some r) x = some (r, x) := rfl
theorem upd_s {f : Nat → Int32} {k : Nat} {v : Int32} : upd f k v k = v := by simp [upd]
theorem upd_n {f : Nat → Int32} {k j : Nat} {v : Int32} (h : ¬ j = k) : upd f k v j = f j := by simp [upd, h]
theorem wr_at {x : Mem} {a j : Nat} {v : Int32} : wr x a j v a j = v := by simp [wr, upd]
theorem wr_ne {x : Mem} {a b j : Nat} {v : Int32} (h : ¬ b = a) : wr x a j v b = x b := by simp [wr, h]
theorem wr_row {x : Mem} {a j : Nat} {v : Int32} : wr x a j v a = upd (x a) j v := by simp [wr]
/-- one bit, as the component tests it -/
theorem bit_0 {v : Int32} {k : Nat} (hk : k < 32) : ((v >>> (nI k &&& 31)) &&& 1) = if bt v k then 1 else 0 := by
  apply b_ext
  intro i hi
  rw [b_and, b_sshr k hk v hi]
  have h1 : ∀ i, i < 32 → bt (1 : Int32) i = decide (i = 0) := by decide +kernel
  rw [h1 i hi]
  by_cases e : i = 0
  · subst e
    rw [if_pos (by omega)]
    cases bt v k <;> simp [h1 0 (by omega), b_0]
  · cases bt v k <;> simp [e, h1 i hi, b_0]
theorem bit_eq0 {v : Int32} {k : Nat} (hk : k < 32) : ((v >>> (nI k &&& 31)) &&& 1) = 0 ↔ bt v k = false := by
  rw [bit_0 hk]
  cases bt v k <;> simp
theorem bit_eq1 {v : Int32} {k : Nat} (hk : k < 32) : ((v >>> (nI k &&& 31)) &&& 1) = 1 ↔ bt v k = true := by
  rw [bit_0 hk]
  cases bt v k <;> simp
theorem b_one {k i : Nat} (hk : k < 32) (hi : i < 32) : bt ((1 : Int32) <<< (nI k &&& 31)) i = decide (i = k) := by
  rw [b_shl k hk 1 hi]
  have h1 : ∀ i, i < 32 → bt (1 : Int32) i = decide (i = 0) := by decide +kernel
  rw [h1 (i - k) (by omega)]
  by_cases h : i = k
  · subst h; simp
  · by_cases h2 : k ≤ i
    · have : ¬ i - k = 0 := by omega
      simp [h, this]
    · simp [h, h2]
theorem b_not {x : Int32} {i : Nat} (hi : i < 32) : bt (x ^^^ (-1)) i = !bt x i := by rw [b_xor, b_m1 i hi]; cases bt x i <;> rfl
theorem b_zero_iff (x : Int32) : x = 0 ↔ ∀ i, i < 32 → bt x i = false := by
  constructor
  · intro h i _; rw [h]; exact b_0 i
  · intro h; apply b_ext; intro i hi; rw [h i hi, b_0]
theorem and_zero_iff (x y : Int32) : x &&& y = 0 ↔ ∀ i, i < 32 → ¬ (bt x i = true ∧ bt y i = true) := by
  rw [b_zero_iff]
  constructor
  · intro h i hi hh
    have h1 := h i hi
    rw [b_and, hh.1, hh.2] at h1
    cases h1
  · intro h i hi
    rw [b_and]
    have h1 := h i hi
    cases e1 : bt x i <;> cases e2 : bt y i <;> simp_all
theorem bt_nI {c i : Nat} (h : c < 2 ^ 31) : bt (nI c) i = c.testBit i := by
  show (BitVec.ofNat 32 c).getLsbD i = _
  rw [BitVec.getLsbD_ofNat]
  by_cases hi : i < 32
  · simp [hi]
  · have h2 : c.testBit i = false := Nat.testBit_lt_two_pow (Nat.lt_of_lt_of_le h (Nat.pow_le_pow_right (by omega) (by omega)))
    simp [hi, h2]
theorem bt_hi {c i n : Nat} (h : c < 2 ^ n) (hn : n ≤ 31) (hi : n ≤ i) : bt (nI c) i = false := by
  rw [bt_nI (Nat.lt_of_lt_of_le h (Nat.pow_le_pow_right (by omega) hn))]
  exact Nat.testBit_lt_two_pow (Nat.lt_of_lt_of_le h (Nat.pow_le_pow_right (by omega) hi))
theorem toInt_lit0 : (0 : Int32).toInt = 0 := rfl
/-- a number against a count: a place, or outside for both sides' tests -/
theorem dom (v : Int32) (N : Nat) (hN : N < 2 ^ 30) : (∃ j, j < N ∧ v = nI j ∧ (∀ fu x, F_X9_within fu v (nI N) x = some 1) ∧ ∀ fu y, F_X10_in fu v 0 (nI N - 1) y = some 1) ∨ ((∀ fu x, F_X9_within fu v (nI N) x = some 0) ∧ (∀ fu y, F_X10_in fu v 0 (nI N - 1) y = some 0) ∧ (v < 0 ∨ nI N ≤ v)) := by
  have hs : (nI N - 1).toInt = (N : Int) - 1 := pk_sub_toInt (a := N) (b := 1) hN (by omega)
  by_cases h0 : v < 0
  · right
    refine ⟨fun fu x => ?_, fun fu y => ?_, Or.inl h0⟩
    · unfold F_X9_within; rw [if_pos h0]; rfl
    · unfold F_X10_in; rw [if_pos h0]; rfl
  · by_cases h1 : nI N ≤ v
    · right
      refine ⟨fun fu x => ?_, fun fu y => ?_, Or.inr h1⟩
      · unfold F_X9_within; rw [if_neg h0, if_pos h1]; rfl
      · unfold F_X10_in; rw [if_neg h0, if_pos]; rfl
        rw [Int32.le_iff_toInt_le, nI_toInt (by omega)] at h1
        rw [Int32.lt_iff_toInt_lt, hs]
        omega
    · left
      obtain ⟨j, hj, rfl⟩ := nI_of h0
      have hjN : j < N := by
        rw [nI_leI (by omega) hj] at h1
        omega
      refine ⟨j, hjN, rfl, fun fu x => ?_, fun fu y => ?_⟩
      · unfold F_X9_within; rw [if_neg h0, if_neg h1]; rfl
      · unfold F_X10_in; rw [if_neg h0, if_neg]; rfl
        rw [Int32.lt_iff_toInt_lt, hs, nI_toInt hj]
        omega
theorem in_t {fu : Nat} {y : Mem} {v lo hi : Int32} (h1 : ¬ v < lo) (h2 : ¬ hi < v) : F_X10_in fu v lo hi y = some 1 := by unfold F_X10_in; rw [if_neg h1, if_neg h2]; rfl
theorem in_f {fu : Nat} {y : Mem} {v lo hi : Int32} (h : v < lo ∨ hi < v) : F_X10_in fu v lo hi y = some 0 := by
  unfold F_X10_in
  by_cases h1 : v < lo
  · rw [if_pos h1]; rfl
  · rw [if_neg h1, if_pos (h.resolve_left h1)]; rfl

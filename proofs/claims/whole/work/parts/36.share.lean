/-! ===== sharing out: the costs ===== -/
theorem sub_rev (a b : Int32) : 0 - (a - b) = b - a := by
  apply Int32.toBitVec_inj.mp
  rw [Int32.toBitVec_sub, Int32.toBitVec_sub, Int32.toBitVec_sub]
  show 0#32 - (a.toBitVec - b.toBitVec) = b.toBitVec - a.toBitVec
  rw [BitVec.zero_sub, BitVec.neg_sub, BitVec.add_comm, BitVec.sub_eq_add_neg b.toBitVec]
theorem iabs_nat {a b : Nat} (ha : a < 2 ^ 30) (hb : b < 2 ^ 30) : iabs (nI a - nI b) = nI ((a - b) + (b - a)) := by
  unfold iabs
  by_cases h : b ≤ a
  · rw [pk_sub h, if_pos (nI_pos' (by omega))]
    congr 1; omega
  · have h0 : ¬ (0 : Int32) ≤ nI a - nI b := by
      rw [Int32.le_iff_toInt_le, pk_sub_toInt ha hb, toInt_lit0]
      omega
    rw [if_neg h0, sub_rev, pk_sub (by omega)]
    congr 1; omega
theorem WAY_nat {a b c d : Nat} (ha : a ≤ 3) (hb : b ≤ 30) (hc : c ≤ 3) (hd : d ≤ 30) : ∃ m, m ≤ 100 ∧ WAY (nI a) (nI b) (nI c) (nI d) = nI m := by
  unfold WAY
  by_cases e : nI a = nI c
  · rw [if_pos e, iabs_nat (by omega) (by omega)]
    exact ⟨_, by omega, rfl⟩
  · rw [if_neg e]
    have e1 : iabs (nI b - 15) = nI ((b - 15) + (15 - b)) := iabs_nat (b := 15) (by omega) (by omega)
    have e2 : iabs (15 - nI d) = nI ((15 - d) + (d - 15)) := iabs_nat (a := 15) (by omega) (by omega)
    have e3 : (6 : Int32) * nI ((a - c) + (c - a)) = nI (6 * ((a - c) + (c - a))) := pk_mul 6 _
    rw [e1, e2, iabs_nat (by omega) (by omega), e3, nI_add, nI_add]
    exact ⟨_, by omega, rfl⟩
def CO (ok : Nat → Nat → Bool) (W : Nat → Nat → Nat) (wt : Nat → Nat) (c : Nat) : Nat → Nat → Int32 → Nat → Nat
  | 0, _, _, acc => acc
  | d + 1, i, b, acc => if c / 6 ^ d % 6 = 5 then CO ok W wt c d (i + 1) b (acc + wt i * 100) else if (ok (c / 6 ^ d % 6) i && !bt b (c / 6 ^ d % 6)) = true then CO ok W wt c d (i + 1) (b ||| ((1 : Int32) <<< (nI (c / 6 ^ d % 6) &&& 31))) (acc + wt i * W (c / 6 ^ d % 6) i) else 9999999
theorem CO_s (ok : Nat → Nat → Bool) (W : Nat → Nat → Nat) (wt : Nat → Nat) (c d i : Nat) (b : Int32) (acc : Nat) : CO ok W wt c (d + 1) i b acc = if c / 6 ^ d % 6 = 5 then CO ok W wt c d (i + 1) b (acc + wt i * 100) else if (ok (c / 6 ^ d % 6) i && !bt b (c / 6 ^ d % 6)) = true then CO ok W wt c d (i + 1) (b ||| ((1 : Int32) <<< (nI (c / 6 ^ d % 6) &&& 31))) (acc + wt i * W (c / 6 ^ d % 6) i) else 9999999 := rfl
theorem mul_le500 {a b : Nat} (ha : a ≤ 5) (hb : b ≤ 100) : a * b ≤ 500 := Nat.mul_le_mul ha hb
theorem CO_ge {ok : Nat → Nat → Bool} {W : Nat → Nat → Nat} {wt : Nat → Nat} {w c : Nat} (hwt : ∀ i, i < w → wt i ≤ 5) (hW : ∀ s i, i < w → ok s i = true → W s i ≤ 100) : ∀ (d i : Nat) (b : Int32) (acc : Nat), i + d = w → acc + 500 * d ≤ 2000 → acc ≤ CO ok W wt c d i b acc ∧ (CO ok W wt c d i b acc = 9999999 ∨ CO ok W wt c d i b acc ≤ 2000) := by
  intro d
  induction d with
  | zero => intro i b acc hi ha; exact ⟨Nat.le_refl _, Or.inr (by show acc ≤ 2000; omega)⟩
  | succ d ih =>
    intro i b acc hi ha
    rw [CO_s]
    by_cases h5 : c / 6 ^ d % 6 = 5
    · rw [if_pos h5]
      have := mul_le500 (hwt i (by omega)) (Nat.le_refl 100)
      have := ih (i + 1) b (acc + wt i * 100) (by omega) (by omega)
      exact ⟨by omega, this.2⟩
    · rw [if_neg h5]
      by_cases h : (ok (c / 6 ^ d % 6) i && !bt b (c / 6 ^ d % 6)) = true
      · rw [if_pos h]
        rw [Bool.and_eq_true] at h
        have := mul_le500 (hwt i (by omega)) (hW _ i (by omega) h.1)
        have := ih (i + 1) (b ||| ((1 : Int32) <<< (nI (c / 6 ^ d % 6) &&& 31))) (acc + wt i * W (c / 6 ^ d % 6) i) (by omega) (by omega)
        exact ⟨by omega, this.2⟩
      · rw [if_neg h]
        exact ⟨by omega, Or.inl rfl⟩
theorem CO_nobody {ok : Nat → Nat → Bool} {W : Nat → Nat → Nat} {wt : Nat → Nat} {w c : Nat} (hwt : ∀ i, i < w → wt i ≤ 5) (hc : ∀ d, d < w → c / 6 ^ d % 6 = 5) : ∀ (d i : Nat) (b : Int32) (acc : Nat), i + d = w → acc + 500 * d ≤ 2000 → CO ok W wt c d i b acc ≤ 2000 := by
  intro d
  induction d with
  | zero => intro i b acc hi ha; show acc ≤ 2000; omega
  | succ d ih =>
    intro i b acc hi ha
    rw [CO_s, if_pos (hc d (by omega))]
    have := mul_le500 (hwt i (by omega)) (Nat.le_refl 100)
    exact ih (i + 1) b (acc + wt i * 100) (by omega) (by omega)
/-- what a code that costs less than the bound keeps -/
theorem CO_ok {ok : Nat → Nat → Bool} {W : Nat → Nat → Nat} {wt : Nat → Nat} {w c : Nat} (hok : ∀ s i, ok s i = true → s < 5) : ∀ (d i : Nat) (b : Int32) (acc : Nat), i + d = w → CO ok W wt c d i b acc < 9999999 → (∀ j, i ≤ j → j < w → c / 6 ^ (w - 1 - j) % 6 = 5 ∨ (ok (c / 6 ^ (w - 1 - j) % 6) j = true ∧ bt b (c / 6 ^ (w - 1 - j) % 6) = false)) ∧ ∀ j j', i ≤ j → j < j' → j' < w → c / 6 ^ (w - 1 - j) % 6 = c / 6 ^ (w - 1 - j') % 6 → c / 6 ^ (w - 1 - j) % 6 = 5 := by
  intro d
  induction d with
  | zero => intro i b acc hi _; exact ⟨fun j h1 h2 => absurd h2 (by omega), fun j j' h1 h2 h3 => absurd h3 (by omega)⟩
  | succ d ih =>
    intro i b acc hi h
    have ed : w - 1 - i = d := by omega
    rw [CO_s] at h
    by_cases h5 : c / 6 ^ d % 6 = 5
    · rw [if_pos h5] at h
      obtain ⟨r1, r2⟩ := ih (i + 1) b _ (by omega) h
      constructor
      · intro j h1 h2
        by_cases e : j = i
        · subst e; rw [ed]; exact Or.inl h5
        · exact r1 j (by omega) h2
      · intro j j' h1 h2 h3 e
        by_cases e1 : j = i
        · subst e1; rw [ed]; exact h5
        · exact r2 j j' (by omega) h2 h3 e
    · rw [if_neg h5] at h
      by_cases ho : (ok (c / 6 ^ d % 6) i && !bt b (c / 6 ^ d % 6)) = true
      · rw [if_pos ho] at h
        obtain ⟨r1, r2⟩ := ih (i + 1) _ _ (by omega) h
        rw [Bool.and_eq_true, Bool.not_eq_true'] at ho
        have hs := hok _ _ ho.1
        constructor
        · intro j h1 h2
          by_cases e : j = i
          · subst e; rw [ed]; exact Or.inr ho
          · rcases r1 j (by omega) h2 with r | ⟨r, r'⟩
            · exact Or.inl r
            · refine Or.inr ⟨r, ?_⟩
              rw [b_or] at r'
              exact (Bool.or_eq_false_iff.mp r').1
        · intro j j' h1 h2 h3 e
          by_cases e1 : j = i
          · subst e1
            rw [ed] at e ⊢
            rcases r1 j' (by omega) h3 with r | ⟨r, r'⟩
            · rw [e]; exact r
            · exfalso
              rw [← e, b_or, b_one (by omega) (by omega)] at r'
              simp at r'
          · exact r2 j j' (by omega) h2 h3 e
      · rw [if_neg ho] at h
        omega
/-- the best of the codes below m -/
def BU (C : Nat → Nat) (m bc code : Nat) : Prop := (1000000 ≤ bc ∧ ∀ c, c < m → 1000000 ≤ C c) ∨ (code < m ∧ C code = bc ∧ bc < 1000000 ∧ (∀ c, c < m → bc ≤ C c) ∧ ∀ c, c < code → bc < C c)
theorem BU_ext {C : Nat → Nat} {m m' bc code : Nat} (h : BU C m bc code) (hm : m ≤ m') (hc : ∀ c, m ≤ c → c < m' → bc ≤ C c ∨ 1000000 ≤ C c) : BU C m' bc code := by
  rcases h with ⟨h1, h2⟩ | ⟨h1, h2, h3, h4, h5⟩
  · refine Or.inl ⟨h1, fun c h => ?_⟩
    rcases Nat.lt_or_ge c m with h' | h'
    · exact h2 c h'
    · rcases hc c h' h with h'' | h'' <;> omega
  · refine Or.inr ⟨by omega, h2, h3, fun c h => ?_, h5⟩
    rcases Nat.lt_or_ge c m with h' | h'
    · exact h4 c h'
    · rcases hc c h' h with h'' | h'' <;> omega
theorem BU_one {C : Nat → Nat} {m bc code : Nat} (h : BU C m bc code) (h1 : C m < bc) (h2 : C m < 1000000) : BU C (m + 1) (C m) m := by
  refine Or.inr ⟨by omega, rfl, h2, fun c hc => ?_, fun c hc => ?_⟩
  · by_cases e : c = m
    · rw [e]; exact Nat.le_refl _
    · rcases h with ⟨-, h⟩ | ⟨-, -, -, h, -⟩
      · have := h c (by omega); omega
      · have := h c (by omega); omega
  · rcases h with ⟨-, h⟩ | ⟨-, -, -, h, -⟩
    · have := h c (by omega); omega
    · have := h c (by omega); omega
theorem BU_uniq {C : Nat → Nat} {m b c b' c' : Nat} (h : BU C m b c) (h' : BU C m b' c') (he : ∃ e, e < m ∧ C e < 1000000) : b = b' ∧ c = c' ∧ b < 1000000 ∧ c < m ∧ C c = b := by
  obtain ⟨e, e1, e2⟩ := he
  rcases h with ⟨-, h⟩ | ⟨h1, h2, h3, h4, h5⟩
  · have := h e e1; omega
  · rcases h' with ⟨-, h⟩ | ⟨g1, g2, g3, g4, g5⟩
    · have := h e e1; omega
    · have a1 := h4 c' g1
      have a2 := g4 c h1
      have eb : b = b' := by omega
      refine ⟨eb, ?_, h3, h1, h2⟩
      rcases Nat.lt_trichotomy c c' with l | l | l
      · have := g5 c l; omega
      · exact l
      · have := h5 c' l; omega
/-! the functions of the two memories -/
def MAYB (y : Mem) (s p : Nat) : Bool := decide (y 18 s = -4) && bt (y 17 s) (y 6 p).toNatClampNeg
theorem may_val {fu P S s p : Nat} {x y : Mem} (hR : Rel x y) (hP : P ≤ 12) (hP0 : y 0 4 = nI P) (hS : S ≤ 5) (hS0 : y 0 19 = nI S) (hs : s < S) (hp : p < P) : F_X5_mayGo fu (nI s) (x 12 p) x = some (if MAYB y s p then 1 else 0) ∧ F_X10_may fu (nI s) (nI p) y = some (if MAYB y s p then 1 else 0) := by
  obtain ⟨-, -, ⟨r, hr, e6⟩⟩ := pl_at hR hP hP0 hp
  obtain ⟨-, -, -, e22, e18⟩ := sv_at hR hP hP0 hS hS0 hs
  have a12 : x 12 = y 6 := hR.2.1.2.2.1
  have a21 : x 21 = y 17 := hR.2.1.2.2.2.2.2.2.2.2.2.2.1
  have hc : ∀ M : Option Int32, chk (nI s) 5 M = M := fun M => chk_ok (by omega) (by omega)
  have hd : ∀ M : Option Int32, chk (nI p) 12 M = M := fun M => chk_ok (by omega) (by omega)
  unfold F_X5_mayGo F_X5_isFree F_X10_may MAYB
  simp only [hc, hd, cN (show s < 2 ^ 31 by omega), cN (show p < 2 ^ 31 by omega), cN (show r < 2 ^ 31 by omega), e22, a12, a21, e6, bit_0 (show r < 32 by omega)]
  rcases e18 with e | ⟨q, hq, e⟩
  · rw [e]
    cases hb : bt (y 17 s) r
    · constructor <;> simp (config := { decide := true }) [retzp_0, retzp_1, clp_some]
    · constructor <;> simp (config := { decide := true }) [retzp_0, retzp_1, clp_some]
  · rw [e, if_neg (nI_nm4 (by omega)), if_pos (nI_pos' (by omega)), decide_eq_false (nI_nm4 (by omega))]
    constructor <;> simp (config := { decide := true }) [retzp_0, retzp_1, clp_some]
def okF (y : Mem) (S : Nat) (q : Nat → Nat) (s i : Nat) : Bool := decide (s < S) && MAYB y s (q i)
def WF (y : Mem) (q : Nat → Nat) (s i : Nat) : Nat := (WAY (y 15 s) (y 16 s) (y 4 (q i)) (y 5 (q i))).toNatClampNeg
def wtF (y : Mem) (q : Nat → Nat) (i : Nat) : Nat := (y 6 (q i)).toNatClampNeg + 1
theorem wt_at {P p : Nat} {x y : Mem} {q : Nat → Nat} {i : Nat} (hR : Rel x y) (hP : P ≤ 12) (hP0 : y 0 4 = nI P) (hp : q i < P) : wtF y q i ≤ 5 ∧ y 6 (q i) + 1 = nI (wtF y q i) := by
  obtain ⟨-, -, ⟨r, hr, e6⟩⟩ := pl_at hR hP hP0 hp
  unfold wtF
  rw [e6, cN (by omega), nI_1]
  exact ⟨by omega, rfl⟩
theorem W_at {P S s : Nat} {x y : Mem} {q : Nat → Nat} {i : Nat} (hR : Rel x y) (hP : P ≤ 12) (hP0 : y 0 4 = nI P) (hS : S ≤ 5) (hS0 : y 0 19 = nI S) (hs : s < S) (hp : q i < P) : WF y q s i ≤ 100 ∧ WAY (y 15 s) (y 16 s) (y 4 (q i)) (y 5 (q i)) = nI (WF y q s i) := by
  obtain ⟨⟨a, ha, ea⟩, ⟨b, hb, eb⟩, -⟩ := pl_at hR hP hP0 hp
  obtain ⟨⟨c, hc, ec⟩, ⟨d, hd, ed⟩, -⟩ := sv_at hR hP hP0 hS hS0 hs
  unfold WF
  rw [ea, eb, ec, ed]
  obtain ⟨m, hm, em⟩ := WAY_nat hc hd ha hb
  rw [em, cN (by omega)]
  exact ⟨hm, rfl⟩
theorem pow6 {d : Nat} (h : d ≤ 4) : 0 < 6 ^ d ∧ 6 ^ d ≤ 1296 := ⟨Nat.pow_pos (by omega), Nat.pow_le_pow_right (n := 6) (by omega) h⟩
theorem dig_lt (c d : Nat) : c / 6 ^ d % 6 < 6 := Nat.mod_lt _ (by omega)
theorem e_cost {fu P S w c : Nat} {x y : Mem} {q : Nat → Nat} (hR : Rel x y) (hP : P ≤ 12) (hP0 : y 0 4 = nI P) (hS : S ≤ 5) (hS0 : y 0 19 = nI S) (hw : w ≤ 4) (hw0 : y 0 34 = nI w) (hq : ∀ j, j < w → q j < P ∧ y 26 j = nI (q j)) (hc : c < 2 ^ 30) : ∀ (d i n : Nat) (b : Int32) (acc : Nat), i + d = w → d < n → L_X10_costOf_11 fu (nI c) y n (nI (6 ^ d)) b (nI acc) (nI i) (fun l5_9 => (some l5_9)) = some (nI (CO (okF y S q) (WF y q) (wtF y q) c d i b acc)) := by
  intro d
  induction d with
  | zero =>
    intro i n b acc hi hn
    obtain ⟨n, rfl⟩ : ∃ z, n = z + 1 := ⟨n - 1, by omega⟩
    have : i = w := by omega
    subst this
    rw [L_X10_costOf_11, hw0, if_pos (nI_le (Nat.le_refl _) (by omega))]
    rfl
  | succ d ih =>
    intro i n b acc hi hn
    obtain ⟨n, rfl⟩ : ∃ z, n = z + 1 := ⟨n - 1, by omega⟩
    obtain ⟨p1, p2⟩ := pow6 (d := d) (by omega)
    obtain ⟨p3, p4⟩ := pow6 (d := d + 1) (by omega)
    obtain ⟨hqi, e26⟩ := hq i (by omega)
    have hdig := dig_lt c d
    have e1 : nI (6 ^ (d + 1)) / 6 = nI (6 ^ d) := by
      have : nI (6 ^ (d + 1)) / 6 = nI (6 ^ (d + 1) / 6) := pk_div (d := 6) (by omega) (by omega) (by omega)
      rw [this, Nat.pow_succ, Nat.mul_div_cancel _ (by omega)]
    have hcd : c / 6 ^ d ≤ c := Nat.div_le_self _ _
    have e2 : nI c / nI (6 ^ d) = nI (c / 6 ^ d) := pk_div (by omega) (by omega) (by omega)
    have e3 : nI (c / 6 ^ d) - nI (c / 6 ^ d) / 6 * 6 = nI (c / 6 ^ d % 6) := pk_rem (d := 6) (by omega) (by omega) (by omega)
    rw [L_X10_costOf_11, hw0, if_neg (nI_ge (by omega) (by omega)), nz_ok (show ¬ (6 : Int32) = 0 by decide), letv_eq, e1, nz_ok (nI_ne0 p1 (by omega)), nz_ok (show ¬ (6 : Int32) = 0 by decide), e2, e3, letv_eq, chk_ok (by omega) (by omega), cN (by omega), letv_eq, e26, CO_s]
    generalize c / 6 ^ d % 6 = who at hdig
    by_cases h5 : who = 5
    · subst h5
      have e100 : nI (wtF y q i) * 100 = nI (wtF y q i * 100) := pk_mul _ 100
      rw [if_pos (show nI 5 = 5 from rfl), if_pos rfl, chk_ok (by omega) (by omega), letv_eq, cN (by omega), (wt_at (p := 0) hR hP hP0 hqi).2, e100, nI_add, nI_1]
      exact ih (i + 1) n b _ (by omega) (by omega)
    · rw [if_neg (show ¬ nI who = 5 from lit_ne who 5 (by omega) (by omega) h5), if_neg h5, hS0]
      by_cases hs : who < S
      · rw [if_neg (nI_ge hs (by omega)), (may_val hR hP hP0 hS hS0 hs hqi).2, clp_some]
        by_cases hb : bt b who = true
        · rw [if_pos ((bit_eq1 (by omega)).mpr hb), hb]
          simp
          rfl
        · have hb' : bt b who = false := by simpa using hb
          rw [if_neg (fun h => hb ((bit_eq1 (by omega)).mp h)), hb']
          have eok : okF y S q who i = MAYB y who (q i) := by unfold okF; rw [decide_eq_true hs]; rfl
          rw [eok]
          cases hm : MAYB y who (q i)
          · simp
            rfl
          · rw [if_pos rfl, if_neg (show ¬ (1 : Int32) = 0 by decide), letv_eq, chk_ok (by omega) (by omega), wayOf_eq (by omega) (by omega), clp_some, letv_eq, cN (by omega), (wt_at (p := 0) hR hP hP0 hqi).2, (W_at hR hP hP0 hS hS0 hs hqi).2, pk_mul, nI_add, nI_1, if_pos (by rfl)]
            exact ih (i + 1) n _ _ (by omega) (by omega)
      · have eok : okF y S q who i = false := by unfold okF; rw [decide_eq_false hs]; rfl
        rw [if_pos (nI_le (by omega) (by omega)), eok]
        simp
        rfl

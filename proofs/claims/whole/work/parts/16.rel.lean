/-! ===== the relation of the two memories ===== -/
/-- how many of the lowest 24 bits are set -/
def popL (m : Int32) : Nat → Nat
  | 0 => 0
  | k + 1 => popL m k + (if bt m k then 1 else 0)
def popI (m : Int32) : Int32 := nI (popL m 24)
/-- what a test of a pull with cranks m and bell b comes to in heat h with the fault f alone -/
def OUTv (v : Int32) : Int32 := if v < 6 then (if v ≤ 0 then 0 else 1) else 2
def OUTb (m h : Int32) : Int32 := 10 - (h * popI m) / 20
def OUT (m b h : Int32) (f : Nat) : Int32 :=
  if f < 16 then OUTv (if bt m f then 0 else OUTb m h)
  else if f < 160 then OUTv (if bt m ((f - 16) / 9) then OUTb m h - nI ((f - 16) % 9 + 1) else OUTb m h)
  else if b = nI (f - 160) then 0 else OUTv (OUTb m h)
/-- the fault f explains all of T tests -/
def EXP (T : Nat) (y22 y23 y24 y7 y8 : Nat → Int32) (f : Nat) : Prop := ∀ k, k < T → y24 k < 0 ∨ OUT (y8 (y22 k).toNatClampNeg) (y7 (y22 k).toNatClampNeg) (y23 k) f = y24 k
def EqS (x y : Mem) : Prop := x 1 0 = y 0 4 ∧ x 3 6 = y 0 3 ∧ x 3 5 = y 0 10 ∧ x 4 0 = y 0 19 ∧ x 6 3 = y 0 26 ∧ x 5 5 = y 0 14 ∧ x 5 6 = y 0 18 ∧ x 8 4 = y 0 28
def EqA (x y : Mem) : Prop := x 10 = y 4 ∧ x 11 = y 5 ∧ x 12 = y 6 ∧ x 13 = y 7 ∧ x 14 = y 8 ∧ x 15 = y 2 ∧ x 16 = y 21 ∧ x 17 = y 1 ∧ x 19 = y 15 ∧ x 20 = y 16 ∧ x 21 = y 17 ∧ x 23 = y 19 ∧ x 24 = y 20 ∧ x 27 = y 12 ∧ x 28 = y 13 ∧ x 29 = y 14
def RP (y0_4 : Int32) (y4 y5 y6 y7 y8 : Nat → Int32) : Prop := ∃ P, P ≤ 12 ∧ y0_4 = nI P ∧ ∀ p, p < P → (∃ f, f ≤ 3 ∧ y4 p = nI f) ∧ (∃ q, q ≤ 30 ∧ y5 p = nI q) ∧ (∃ r, r ≤ 4 ∧ y6 p = nI r) ∧ (∃ b, b ≤ 7 ∧ y7 p = nI b) ∧ (∃ c, c < 65536 ∧ y8 p = nI c)
def RB (x2_2 : Int32) (y3 : Nat → Int32) : Prop := ∀ b, b < 8 → (y3 b = 0 ∨ y3 b = 1) ∧ bt x2_2 b = decide (y3 b = 1)
def RC (x3_4 : Int32) (y1 : Nat → Int32) : Prop := ∀ c, c < 16 → (∃ v, v ≤ 10 ∧ y1 c = nI v) ∧ bt x3_4 c = decide (y1 c = 10)
def RH (y0_3 : Int32) : Prop := ∃ h, h ≤ 40 ∧ y0_3 = nI h
def RX (x18 : Nat → Int32) (y0_10 : Int32) (y9 y10 : Nat → Int32) : Prop := ∃ K, K ≤ 4 ∧ y0_10 = nI K ∧ (∀ k, k < K → ∃ a b, a < 16 ∧ b < 16 ∧ y9 k = nI a ∧ y10 k = nI b) ∧ ∀ a b, a < 16 → b < 16 → (bt (x18 a) b = true ↔ ∃ k, k < K ∧ ((y9 k = nI a ∧ y10 k = nI b) ∨ (y9 k = nI b ∧ y10 k = nI a)))
def RSw (y21 : Nat → Int32) : Prop := ∀ b, b < 8 → ∃ v, v ≤ 8 ∧ y21 b = nI v
def RT (y0_26 : Int32) : Prop := ∃ t, t ≤ 5000 ∧ y0_26 = nI t
def RG (y0_14 : Int32) : Prop := ∃ f, f < 4096 ∧ y0_14 = nI f
def RSv (x22 : Nat → Int32) (y0_4 y0_19 : Int32) (y15 y16 y17 y18 : Nat → Int32) : Prop := ∃ S, S ≤ 5 ∧ y0_19 = nI S ∧ (∀ s, s < S → (∃ f, f ≤ 3 ∧ y15 s = nI f) ∧ (∃ q, q ≤ 30 ∧ y16 s = nI q) ∧ (∃ t, t < 32 ∧ y17 s = nI t) ∧ x22 s = y18 s ∧ (y18 s = -4 ∨ ∃ p, nI p < y0_4 ∧ p < 12 ∧ y18 s = nI p)) ∧ (∀ s, S ≤ s → s < 5 → y18 s = -4) ∧ ∀ s t, s < S → t < S → y18 s = y18 t → ¬ y18 s < 0 → s = t
def RCl (x25 x26 : Nat → Int32) (y0_4 y0_19 y0_26 : Int32) (y11 y18 : Nat → Int32) : Prop := ∀ p, p < 12 → (x25 p = 0 ∨ x25 p = 1 ∨ x25 p = 2) ∧ (x25 p = 1 ↔ ¬ y11 p < 0) ∧ (x25 p = 1 → x26 p = y11 p) ∧ (x25 p = 2 ↔ ∃ s, nI s < y0_19 ∧ s < 5 ∧ y18 s = nI p) ∧ (y11 p = -1 ∨ ∃ t, nI t ≤ y0_26 ∧ t ≤ 5000 ∧ y11 p = nI t) ∧ (y0_4 ≤ nI p → x25 p = 0)
def RFa (x33 : Nat → Int32) (x8_3 : Int32) (y0_4 y0_28 : Int32) (y22 y23 y24 y7 y8 : Nat → Int32) : Prop := ∃ T n, T ≤ 12 ∧ y0_28 = nI T ∧ n ≤ 168 ∧ x8_3 = nI n ∧ (∀ k, k < T → (∃ p, p < 12 ∧ nI p < y0_4 ∧ y22 k = nI p) ∧ (∃ h, h ≤ 40 ∧ y23 k = nI h) ∧ (y24 k = -1 ∨ ∃ o, o ≤ 2 ∧ y24 k = nI o)) ∧ ∃ g : Nat → Nat, (∀ i, i < n → x33 i = nI (g i) ∧ g i < 168 ∧ EXP T y22 y23 y24 y7 y8 (g i)) ∧ (∀ i j, i < j → j < n → g i < g j) ∧ ∀ f, f < 168 → EXP T y22 y23 y24 y7 y8 f → ∃ i, i < n ∧ g i = f
def RFr (x35 x36 y25 : Nat → Int32) : Prop := ∀ p, p < 24 → x35 p = y25 p ∧ x36 p = y25 (24 + p) ∧ (∃ v, v ≤ 2 ∧ y25 p = nI v) ∧ (∃ v, v ≤ 2 ∧ y25 (24 + p) = nI v) ∧ (p % 6 = 5 → y25 p = 0) ∧ (18 ≤ p → y25 (24 + p) = 0)
def Rel (x y : Mem) : Prop := EqS x y ∧ EqA x y ∧ RP (y 0 4) (y 4) (y 5) (y 6) (y 7) (y 8) ∧ RB (x 2 2) (y 3) ∧ RC (x 3 4) (y 1) ∧ RH (y 0 3) ∧ RX (x 18) (y 0 10) (y 9) (y 10) ∧ RSw (y 21) ∧ RT (y 0 26) ∧ RG (y 0 14) ∧ RSv (x 22) (y 0 4) (y 0 19) (y 15) (y 16) (y 17) (y 18) ∧ RCl (x 25) (x 26) (y 0 4) (y 0 19) (y 0 26) (y 11) (y 18) ∧ RFa (x 33) (x 8 3) (y 0 4) (y 0 28) (y 22) (y 23) (y 24) (y 7) (y 8) ∧ RFr (x 35) (x 36) (y 25)
theorem wr_b {x : Mem} {a j b i : Nat} {v : Int32} : wr x a j v b i = if b = a then (if i = j then v else x b i) else x b i := by
  by_cases h : b = a
  · subst h; simp [wr, upd]
  · simp [wr, h]
/-- the face of heat -/
theorem S_heat (fu : Nat) : St_heat fu Rel := by
  intro a x y hR
  obtain ⟨hS, hA, h1, h2, h3, h4, h5, h6, h7, h8, h9, h10, h11, h12⟩ := hR
  by_cases ha : a < 0 ∨ 40 < a
  · refine ⟨-1, x, y, ?_, ?_, hS, hA, h1, h2, h3, h4, h5, h6, h7, h8, h9, h10, h11, h12⟩
    · unfold F_X9_heat
      by_cases h0 : a < 0
      · rw [if_pos h0]
      · rw [if_neg h0, if_neg]
        have := ha.resolve_left h0
        rw [Int32.lt_iff_toInt_lt] at this
        rw [Int32.le_iff_toInt_le]
        omega
    · unfold F_X10_heat
      rw [in_f ha]
      rfl
  · have ha0 : ¬ a < 0 := fun h => ha (Or.inl h)
    have ha1 : ¬ 40 < a := fun h => ha (Or.inr h)
    have ha2 : a ≤ 40 := by
      rw [Int32.lt_iff_toInt_lt] at ha1
      rw [Int32.le_iff_toInt_le]
      omega
    obtain ⟨j, hj, rfl⟩ := nI_of2 (M := 40) (n := 40) rfl ha0 ha2
    refine ⟨y 0 3, wr x 3 6 (nI j), wr y 0 3 (nI j), ?_, ?_, ?_⟩
    · unfold F_X9_heat
      rw [if_neg ha0, if_pos ha2, letv_eq, letm_eq, hS.2.1]
    · unfold F_X10_heat
      rw [in_t ha0 ha1]
      rfl
    · obtain ⟨s1, s2, s3, s4, s5, s6, s7, s8⟩ := hS
      exact ⟨⟨s1, rfl, s3, s4, s5, s6, s7, s8⟩, hA, h1, h2, h3, ⟨j, hj, rfl⟩, h5, h6, h7, h8, h9, h10, h11, h12⟩

/-! ===== wires: trees by sets of ends ===== -/
def GG (F n : Nat) (e : Nat → Nat) (D : Nat → Nat → Nat) (set : Nat) (G : Nat → Nat) : Prop := ∀ p, p < 24 → G p ≤ F ∧ (∀ i, i < n → set = 2 ^ i → p = e i → G p = 0) ∧ (∀ a b, 0 < a → 0 < b → a &&& b = 0 → a + b = set → G p ≤ D a p + D b p) ∧ (G p = F ∨ (∃ i, i < n ∧ set = 2 ^ i ∧ p = e i) ∨ ∃ a b, 0 < a ∧ 0 < b ∧ a &&& b = 0 ∧ a + b = set ∧ G p = D a p + D b p)
def FAM (F n : Nat) (e : Nat → Nat) (B : Nat → Int32) (D : Nat → Nat → Nat) (N : Nat) : Prop := ∀ set, 0 < set → set < N → ∃ G, CLO B G (D set) ∧ GG F n e D set G
theorem pow2_lt {i j : Nat} (h : 2 ^ i < 2 ^ j) : i < j := by
  rcases Nat.lt_or_ge i j with h2 | h2
  · exact h2
  · exact absurd (Nat.pow_le_pow_right (n := 2) (by omega) h2) (by omega)
theorem fam_min {l n : Nat} {e : Nat → Nat} {B : Nat → Int32} {Dc Dm : Nat → Nat → Nat} (hn : n = l + 1) (hc : FAM 1000 l e B Dc (2 ^ l)) (hm : FAM 9999 n e B Dm (2 ^ n)) : ∀ N set, set < N → 0 < set → set < 2 ^ l → ∀ p, p < 24 → Dc set p = min 1000 (Dm set p) := by
  intro N
  induction N with
  | zero => intro set h; omega
  | succ N ih =>
    intro set hN h0 hs
    have hs2 : set < 2 ^ n := Nat.lt_of_lt_of_le hs (Nat.pow_le_pow_right (by omega) (by omega))
    obtain ⟨Gc, c1, c2⟩ := hc set h0 hs
    obtain ⟨Gm, m1, m2⟩ := hm set h0 hs2
    have hG : ∀ p, p < 24 → Gc p = min 1000 (Gm p) := by
      intro p hp
      obtain ⟨a1, a2, a3, a4⟩ := c2 p hp
      obtain ⟨b1, b2, b3, b4⟩ := m2 p hp
      have l1 : Gc p ≤ Gm p := by
        rcases b4 with h | ⟨i, hi, h1, h2⟩ | ⟨a, b, p1, p2, p3, p4, p5⟩
        · omega
        · have := a2 i (pow2_lt (by omega)) h1 h2
          omega
        · have := a3 a b p1 p2 p3 p4
          have := ih a (by omega) p1 (by omega) p hp
          have := ih b (by omega) p2 (by omega) p hp
          omega
      have l2 : min 1000 (Gm p) ≤ Gc p := by
        rcases a4 with h | ⟨i, hi, h1, h2⟩ | ⟨a, b, p1, p2, p3, p4, p5⟩
        · omega
        · have := b2 i (by omega) h1 h2
          omega
        · have := b3 a b p1 p2 p3 p4
          have := ih a (by omega) p1 (by omega) p hp
          have := ih b (by omega) p2 (by omega) p hp
          omega
      omega
    intro p hp
    have u1 := c1.2.1 p hp
    have u2 := m1.2.2 (Dc set) c1.1 (fun q hq => by
      have := c1.2.1 q hq
      have := hG q hq
      omega) p hp
    have u3 := c1.2.2 (fun q => min 1000 (Dm set q)) (fun a b s he => by
      have := m1.1 a b s he
      show min 1000 (Dm set b) ≤ min 1000 (Dm set a) + s
      omega) (fun q hq => by
      have := m1.2.1 q hq
      have := hG q hq
      show min 1000 (Dm set q) ≤ Gc q
      omega) p hp
    have u3' : min 1000 (Dm set p) ≤ Dc set p := u3
    have := hG p hp
    omega
theorem fam_bound {n : Nat} {e : Nat → Nat} {B : Nat → Int32} {D : Nat → Nat → Nat} (hm : FAM 9999 n e B D (2 ^ n)) : ∀ N set, set < N → 0 < set → set < 2 ^ n → ∀ p, p < 24 → D set p = 9999 ∨ D set p + 23 ≤ 46 * set := by
  intro N
  induction N with
  | zero => intro set h; omega
  | succ N ih =>
    intro set hN h0 hs
    obtain ⟨G, m1, m2⟩ := hm set h0 hs
    have hG : ∀ p, p < 24 → G p = 9999 ∨ G p ≤ 46 * set - 46 := by
      intro p hp
      obtain ⟨b1, b2, b3, b4⟩ := m2 p hp
      rcases b4 with h | ⟨i, hi, h1, h2⟩ | ⟨a, b, p1, p2, p3, p4, p5⟩
      · exact Or.inl h
      · have := b2 i hi h1 h2
        right; omega
      · have q1 := ih a (by omega) p1 (by omega) p hp
        have q2 := ih b (by omega) p2 (by omega) p hp
        omega
    intro p hp
    have q1 := clo_bound m1 hG p hp
    have q2 := m1.2.1 p hp
    have q3 := (m2 p hp).1
    omega
theorem bm1' : ∀ A, A < 32 → ∀ B, B < 32 → ∀ X, X < 32 → ((A &&& B == 0 && ((A + B) &&& X == 0)) == false || (A &&& (B + X) == 0 && B &&& X == 0)) = true := by decide +kernel
theorem bm1 (A : Nat) (hA : A < 32) (B : Nat) (hB : B < 32) (h : A &&& B = 0) (X : Nat) (hX : X < 32) (h2 : (A + B) &&& X = 0) : A &&& (B + X) = 0 ∧ B &&& X = 0 := by
  have := bm1' A hA B hB X hX
  rw [h, h2] at this
  simpa using this
theorem bm2' : ∀ l, l < 5 → ∀ A, A < 32 → ∀ B, B < 32 → ((A &&& B == 0 && ((A + B) &&& 2 ^ l == 2 ^ l)) == false || (A &&& 2 ^ l == 2 ^ l || B &&& 2 ^ l == 2 ^ l)) = true := by decide +kernel
theorem bm2 (l : Nat) (hl : l < 5) (A : Nat) (hA : A < 32) (B : Nat) (hB : B < 32) (h : A &&& B = 0) (h2 : (A + B) &&& 2 ^ l = 2 ^ l) : A &&& 2 ^ l = 2 ^ l ∨ B &&& 2 ^ l = 2 ^ l := by
  have := bm2' l hl A hA B hB
  rw [h, h2] at this
  simpa using this
theorem bm3 : ∀ l, l < 5 → ∀ A, A < 32 → A &&& 2 ^ l = 2 ^ l → 2 ^ l ≤ A := by decide +kernel
theorem bm4 : ∀ l, l < 5 → ∀ i, i < 5 → 2 ^ i &&& 2 ^ l = 2 ^ l → i = l := by decide +kernel
theorem bm5 : ∀ l, l < 5 → (2 ^ l - 1) &&& 2 ^ l = 0 ∧ 2 ^ l - 1 + 2 ^ l = 2 ^ (l + 1) - 1 ∧ (2 ^ (l + 1) - 1) &&& 2 ^ l = 2 ^ l := by decide +kernel
theorem bm6 : ∀ l, l < 5 → 0 < l → ∀ i, i < 5 → ¬ 2 ^ (l + 1) - 1 = 2 ^ i := by decide +kernel
theorem fam_le {F n N : Nat} {e : Nat → Nat} {B : Nat → Int32} {D : Nat → Nat → Nat} (hm : FAM F n e B D N) {set p : Nat} (h0 : 0 < set) (hs : set < N) (hp : p < 24) : D set p ≤ F := by
  obtain ⟨G, m1, m2⟩ := hm set h0 hs
  exact Nat.le_trans (m1.2.1 p hp) (m2 p hp).1
theorem fam_join {F n N : Nat} {e : Nat → Nat} {B : Nat → Int32} {D : Nat → Nat → Nat} (hm : FAM F n e B D N) {a b p : Nat} (ha : 0 < a) (hb : 0 < b) (hab : a &&& b = 0) (hs : a + b < N) (hp : p < 24) : D (a + b) p ≤ D a p + D b p := by
  obtain ⟨G, m1, m2⟩ := hm (a + b) (by omega) hs
  exact Nat.le_trans (m1.2.1 p hp) ((m2 p hp).2.2.1 a b ha hb hab rfl)
theorem fam_star {F n l : Nat} {e : Nat → Nat} {B : Nat → Int32} {D : Nat → Nat → Nat} (hn : n = l + 1) (hn5 : n ≤ 5) (he : ∀ i, i < n → e i < 24) (hm : FAM F n e B D (2 ^ n)) : ∀ N T X, T < N → 0 < X → T &&& X = 0 → T &&& 2 ^ l = 2 ^ l → T + X < 2 ^ n → ∀ p, p < 24 → D (T - 2 ^ l + X) (e l) ≤ D T p + D X p := by
  have h32 : 2 ^ n ≤ 32 := Nat.pow_le_pow_right (n := 2) (by omega) hn5
  have hel := he l (by omega)
  intro N
  induction N with
  | zero => intro T X h; omega
  | succ N ih =>
    intro T X hN hX hd ht hs p hp
    have htl := bm3 l (by omega) T (by omega) ht
    have hp2 : 0 < 2 ^ l := Nat.pow_pos (by omega)
    obtain ⟨G, m1, m2⟩ := hm T (by omega) (by omega)
    obtain ⟨GX, x1, -⟩ := hm X hX (by omega)
    have hk := fam_le hm (set := T - 2 ^ l + X) (by omega) (by omega) hel
    have key : ∀ A B', 0 < A → 0 < B' → A &&& B' = 0 → A + B' = T → A &&& 2 ^ l = 2 ^ l → ∀ a, a < 24 → D (T - 2 ^ l + X) (e l) ≤ D A a + D B' a + D X a := by
      intro A B' hA hB hab hT hAl a ha
      subst hT
      obtain ⟨g1, g2⟩ := bm1 A (by omega) B' (by omega) hab X (by omega) hd
      have q1 := ih A (B' + X) (by omega) (by omega) g1 hAl (by omega) a ha
      have q2 := fam_join hm hB hX g2 (by omega) ha
      have q3 := bm3 l (by omega) A (by omega) hAl
      rw [show A - 2 ^ l + (B' + X) = A + B' - 2 ^ l + X by omega] at q1
      omega
    have hG : ∀ a, a < 24 → D (T - 2 ^ l + X) (e l) ≤ G a + D X a := by
      intro a ha
      obtain ⟨b1, b2, b3, b4⟩ := m2 a ha
      rcases b4 with h | ⟨i, hi, h1, h2⟩ | ⟨A, B', p1, p2, p3, p4, p5⟩
      · omega
      · rw [h1] at ht
        have : i = l := bm4 l (by omega) i (by omega) ht
        subst this
        rw [h1, h2, Nat.sub_self, Nat.zero_add]
        exact Nat.le_add_left _ _
      · rw [p5]
        rcases bm2 l (by omega) A (by omega) B' (by omega) p3 (by rw [p4]; exact ht) with h | h
        · exact key A B' p1 p2 p3 p4 h a ha
        · have := key B' A p2 p1 (by rw [Nat.and_comm]; exact p3) (by omega) h a ha
          omega
    have := m1.2.2 (fun q => D (T - 2 ^ l + X) (e l) - D X q) (fun a b s hE => by
      have := x1.1 b a s (EDG_symm hE)
      show D (T - 2 ^ l + X) (e l) - D X b ≤ D (T - 2 ^ l + X) (e l) - D X a + s
      omega) (fun q hq => by
      have := hG q hq
      show D (T - 2 ^ l + X) (e l) - D X q ≤ G q
      omega) p hp
    have this' : D (T - 2 ^ l + X) (e l) - D X p ≤ D T p := this
    omega
theorem fam_full {F n l : Nat} {e : Nat → Nat} {B : Nat → Int32} {D : Nat → Nat → Nat} (hn : n = l + 1) (hl : 0 < l) (hn5 : n ≤ 5) (he : ∀ i, i < n → e i < 24) (hm : FAM F n e B D (2 ^ n)) : (∀ p, p < 24 → D (2 ^ l - 1) (e l) ≤ D (2 ^ n - 1) p) ∧ D (2 ^ n - 1) (e l) ≤ D (2 ^ l - 1) (e l) := by
  have h32 : 2 ^ n ≤ 32 := Nat.pow_le_pow_right (n := 2) (by omega) hn5
  have hel := he l (by omega)
  have hp2 : 2 ^ 1 ≤ 2 ^ l := Nat.pow_le_pow_right (n := 2) (by omega) hl
  obtain ⟨f1, f2, f3⟩ := bm5 l (by omega)
  rw [← hn] at f2 f3
  have hpn : 2 ^ n = 2 ^ l + 2 ^ l := by rw [hn, Nat.pow_succ]; omega
  constructor
  · obtain ⟨G, m1, m2⟩ := hm (2 ^ n - 1) (by omega) (by omega)
    intro p hp
    refine m1.2.2 (fun _ => D (2 ^ l - 1) (e l)) (fun a b s _ => Nat.le_add_right _ _) (fun a ha => ?_) p hp
    show D (2 ^ l - 1) (e l) ≤ G a
    obtain ⟨b1, b2, b3, b4⟩ := m2 a ha
    rcases b4 with h | ⟨i, hi, h1, h2⟩ | ⟨A, B', p1, p2, p3, p4, p5⟩
    · rw [h]; exact fam_le hm (by omega) (by omega) hel
    · rw [hn] at h1
      exact absurd h1 (bm6 l (by omega) hl i (by omega))
    · rw [p5]
      have st : ∀ A B', 0 < A → 0 < B' → A &&& B' = 0 → A + B' = 2 ^ n - 1 → A &&& 2 ^ l = 2 ^ l → D (2 ^ l - 1) (e l) ≤ D A a + D B' a := by
        intro A B' hA hB hab hT hAl
        have q := fam_star hn hn5 he hm (A + 1) A B' (by omega) hB hab hAl (by omega) a ha
        have q3 := bm3 l (by omega) A (by omega) hAl
        rw [show A - 2 ^ l + B' = 2 ^ l - 1 by omega] at q
        exact q
      rcases bm2 l (by omega) A (by omega) B' (by omega) p3 (by rw [p4]; exact f3) with h | h
      · exact st A B' p1 p2 p3 p4 h
      · have := st B' A p2 p1 (by rw [Nat.and_comm]; exact p3) (by omega) h
        omega
  · have q := fam_join hm (a := 2 ^ l - 1) (b := 2 ^ l) (p := e l) (by omega) (by omega) f1 (by omega) hel
    obtain ⟨G, m1, m2⟩ := hm (2 ^ l) (by omega) (by omega)
    have := m1.2.1 (e l) hel
    have := (m2 (e l) hel).2.1 l (by omega) rfl rfl
    rw [f2] at q
    omega

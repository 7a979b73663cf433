/-! ===== which faults explain: explains, fault, noTests ===== -/
theorem e_explains (fu T f : Nat) (hfu : 100 ≤ fu) (hT : T ≤ 12) (hf : f < 168) (y : Mem) (hT0 : y 0 28 = nI T) (hr : ∀ k, k < T → (∃ p be, p < 12 ∧ be ≤ 7 ∧ y 22 k = nI p ∧ y 7 p = nI be)) (K : Int32 → Option Int32) : ∀ (d k n : Nat) (acc : Int32), k + d = T → d < n → (acc = 0 ∨ acc = 1) → ∃ r : Int32, L_X10_explains_4 fu (nI f) y n acc (nI k) K = K r ∧ (r = 0 ∨ r = 1) ∧ (r = 1 ↔ acc = 1 ∧ ∀ s, k ≤ s → s < T → (y 24 s < 0 ∨ OUT (y 8 (y 22 s).toNatClampNeg) (y 7 (y 22 s).toNatClampNeg) (y 23 s) f = y 24 s)) := by
  intro d
  induction d with
  | zero =>
    intro k n acc hk hn ha
    obtain ⟨n, rfl⟩ : ∃ m, n = m + 1 := ⟨n - 1, by omega⟩
    refine ⟨acc, ?_, ha, ?_⟩
    · rw [L_X10_explains_4, hT0, if_pos (nI_le (by omega) (by omega))]
    · exact ⟨fun h => ⟨h, fun s h1 h2 => absurd h2 (by omega)⟩, fun h => h.1⟩
  | succ d ih =>
    intro k n acc hk hn ha
    obtain ⟨n, rfl⟩ : ∃ m, n = m + 1 := ⟨n - 1, by omega⟩
    have hg : ¬ nI T ≤ nI k := nI_ge (by omega) (by omega)
    have hc : ∀ M : Option Int32, chk (nI k) 12 M = M := fun M => chk_ok (by omega) (by omega)
    have hN : (nI k).toNatClampNeg = k := cN (by omega)
    obtain ⟨p, be, hp, hbe, ep, ebe⟩ := hr k (by omega)
    rcases ha with rfl | rfl
    · obtain ⟨r, r1, r2, r3⟩ := ih (k + 1) n 0 (by omega) (by omega) (Or.inl rfl)
      refine ⟨r, ?_, r2, r3.trans ⟨fun h => absurd h.1 (by decide), fun h => absurd h.1 (by decide)⟩⟩
      rw [L_X10_explains_4, hT0, if_neg hg, if_pos rfl, nI_1, r1]
    · have step : L_X10_explains_4 fu (nI f) y (n + 1) 1 (nI k) K = L_X10_explains_4 fu (nI f) y n (if y 24 k < 0 ∨ OUT (y 8 p) (y 7 p) (y 23 k) f = y 24 k then 1 else 0) (nI (k + 1)) K := by
        rw [L_X10_explains_4, hT0, if_neg hg, if_neg (by decide)]
        simp only [hc, hN, nI_1]
        by_cases e : y 24 k < 0
        · rw [if_pos e, if_pos (Or.inl e)]
        · rw [if_neg e, ep, ownBy_eq hfu hf hp hbe ebe, clp_some]
          by_cases e2 : OUT (y 8 p) (y 7 p) (y 23 k) f = y 24 k
          · rw [if_pos e2, if_pos (Or.inr e2)]
          · rw [if_neg e2, if_neg (fun h => h.elim e e2)]
      by_cases e : y 24 k < 0 ∨ OUT (y 8 p) (y 7 p) (y 23 k) f = y 24 k
      · obtain ⟨r, r1, r2, r3⟩ := ih (k + 1) n 1 (by omega) (by omega) (Or.inr rfl)
        refine ⟨r, by rw [step, if_pos e, r1], r2, r3.trans ?_⟩
        constructor
        · rintro ⟨-, h⟩
          refine ⟨rfl, fun s h1 h2 => ?_⟩
          by_cases es : s = k
          · subst es; rw [ep, cN (by omega)]; exact e
          · exact h s (by omega) h2
        · rintro ⟨-, h⟩
          exact ⟨rfl, fun s h1 h2 => h s (by omega) h2⟩
      · obtain ⟨r, r1, r2, r3⟩ := ih (k + 1) n 0 (by omega) (by omega) (Or.inl rfl)
        refine ⟨r, by rw [step, if_neg e, r1], r2, r3.trans ?_⟩
        constructor
        · rintro ⟨h, -⟩; exact absurd h (by decide)
        · rintro ⟨-, h⟩
          have := h k (Nat.le_refl _) (by omega)
          rw [ep, cN (by omega)] at this
          exact absurd this e
theorem explains_eq {fu T f : Nat} {y : Mem} (hfu : 100 ≤ fu) (hT : T ≤ 12) (hf : f < 168) (hT0 : y 0 28 = nI T) (hr : ∀ k, k < T → (∃ p be, p < 12 ∧ be ≤ 7 ∧ y 22 k = nI p ∧ y 7 p = nI be)) : ∃ r : Int32, F_X10_explains fu (nI f) y = some r ∧ (r = 0 ∨ r = 1) ∧ (r = 1 ↔ EXP T (y 22) (y 23) (y 24) (y 7) (y 8) f) := by
  obtain ⟨r, r1, r2, r3⟩ := e_explains fu T f hfu hT hf y hT0 hr (fun l2_2 => retzp l2_2) T 0 fu 1 (by omega) (by omega) (Or.inr rfl)
  refine ⟨r, ?_, r2, r3.trans ⟨fun h k hk => h.2 k (by omega) hk, fun h => ⟨rfl, fun s _ h2 => h s h2⟩⟩⟩
  unfold F_X10_explains
  have r1' : L_X10_explains_4 fu (nI f) y fu 1 0 (fun l2_2 => retzp l2_2) = _ := r1
  rw [r1']
  rcases r2 with rfl | rfl <;> rfl
/-- the list of what explains, as both sides have it -/
theorem RFa.at {x y : Mem} (hR : Rel x y) : ∃ T n : Nat, ∃ g : Nat → Nat, T ≤ 12 ∧ y 0 28 = nI T ∧ n ≤ 168 ∧ x 8 3 = nI n ∧ (∀ k, k < T → (∃ p be, p < 12 ∧ be ≤ 7 ∧ y 22 k = nI p ∧ y 7 p = nI be)) ∧ (∀ i, i < n → x 33 i = nI (g i) ∧ g i < 168 ∧ EXP T (y 22) (y 23) (y 24) (y 7) (y 8) (g i)) ∧ (∀ i j, i < j → j < n → g i < g j) ∧ ∀ f, f < 168 → EXP T (y 22) (y 23) (y 24) (y 7) (y 8) f → ∃ i, i < n ∧ g i = f := by
  obtain ⟨P, hP, hP0, hPr⟩ := hR.2.2.1
  obtain ⟨T, n, hT, hT0, hn, hn0, hr, g, g1, g2, g3⟩ := hR.2.2.2.2.2.2.2.2.2.2.2.2.1
  refine ⟨T, n, g, hT, hT0, hn, hn0, fun k hk => ?_, g1, g2, g3⟩
  obtain ⟨⟨p, hp1, hp2, hp3⟩, -⟩ := hr k hk
  rw [lt_of_nI hP0 (by omega) (by omega)] at hp2
  obtain ⟨be, hbe, ebe⟩ := (hPr p hp2).2.2.2.1
  exact ⟨p, be, hp1, hbe, hp3, ebe⟩
/-- where f stands in the list: c of them are below f -/
theorem list_step {n f c : Nat} {g : Nat → Nat} {E : Nat → Prop} (hf : f < 168) (g1 : ∀ i, i < n → E (g i)) (g2 : ∀ i j, i < j → j < n → g i < g j) (g3 : ∀ f, f < 168 → E f → ∃ i, i < n ∧ g i = f) (hc : c ≤ n) (h1 : ∀ i, i < c → g i < f) (h2 : ∀ i, c ≤ i → i < n → f ≤ g i) : (E f → c < n ∧ g c = f ∧ (∀ i, i < c + 1 → g i < f + 1) ∧ ∀ i, c + 1 ≤ i → i < n → f + 1 ≤ g i) ∧ (¬ E f → (∀ i, i < c → g i < f + 1) ∧ ∀ i, c ≤ i → i < n → f + 1 ≤ g i) := by
  refine ⟨fun hE => ?_, fun hE => ⟨fun i hi => Nat.lt_succ_of_lt (h1 i hi), fun i h3 h4 => ?_⟩⟩
  · obtain ⟨i, hi, ei⟩ := g3 f hf hE
    have hci : c ≤ i := by
      rcases Nat.lt_or_ge i c with h | h
      · have := h1 i h; omega
      · exact h
    have hcn : c < n := by omega
    have hgc : g c = f := by
      have h5 := h2 c (Nat.le_refl _) hcn
      rcases Nat.lt_or_ge c i with h | h
      · have := g2 c i h hi; omega
      · have : c = i := by omega
        subst this; exact ei
    refine ⟨hcn, hgc, fun j hj => ?_, fun j h3 h4 => ?_⟩
    · rcases Nat.lt_or_ge j c with h | h
      · have := h1 j h; omega
      · have : j = c := by omega
        subst this; omega
    · have := g2 c j (by omega) h4; omega
  · have := h2 i h3 h4
    rcases Nat.lt_or_ge f (g i) with h | h
    · exact h
    · exfalso
      have : g i = f := by omega
      exact hE (this ▸ g1 i h4)
theorem e_fault (fu T n : Nat) (hfu : 1000 ≤ fu) (hT : T ≤ 12) (hn : n ≤ 168) (y : Mem) (hT0 : y 0 28 = nI T) (hr : ∀ k, k < T → (∃ p be, p < 12 ∧ be ≤ 7 ∧ y 22 k = nI p ∧ y 7 p = nI be)) (g : Nat → Nat) (g1 : ∀ i, i < n → EXP T (y 22) (y 23) (y 24) (y 7) (y 8) (g i)) (g2 : ∀ i j, i < j → j < n → g i < g j) (g3 : ∀ f, f < 168 → EXP T (y 22) (y 23) (y 24) (y 7) (y 8) f → ∃ i, i < n ∧ g i = f) (gl : ∀ i, i < n → g i < 168) (l1 : Int32) (K : Int32 → Option Int32) : ∀ (d f m c : Nat), f + d = 168 → d < m → c ≤ n → (∀ i, i < c → g i < f) → (∀ i, c ≤ i → i < n → f ≤ g i) → (∀ t, l1 = nI t → c ≤ t → t < n → L_X10_fault_11 fu l1 y m (nI c) (nI f) K = some (nI (g t))) ∧ ((∀ t, t < n → ¬ l1 = nI t) → L_X10_fault_11 fu l1 y m (nI c) (nI f) K = K (nI n)) := by
  intro d
  induction d with
  | zero =>
    intro f m c hf hm hc h1 h2
    obtain ⟨m, rfl⟩ : ∃ k, m = k + 1 := ⟨m - 1, by omega⟩
    have hcn : c = n := by
      rcases Nat.lt_or_ge c n with h | h
      · have h3 := h2 c (Nat.le_refl _) h
        have h4 := gl c h
        omega
      · omega
    subst hcn
    refine ⟨fun t _ h3 h4 => absurd h4 (by omega), fun _ => ?_⟩
    rw [L_X10_fault_11, if_pos (show (168 : Int32) ≤ nI f from nI_le (a := 168) (by omega) (by omega))]
  | succ d ih =>
    intro f m c hf hm hc h1 h2
    obtain ⟨m, rfl⟩ : ∃ k, m = k + 1 := ⟨m - 1, by omega⟩
    obtain ⟨r, r1, r2, r3⟩ := explains_eq (f := f) (show 100 ≤ fu by omega) hT (by omega) hT0 hr
    obtain ⟨p1, p2⟩ := list_step (f := f) (by omega) g1 g2 g3 hc h1 h2
    have step : L_X10_fault_11 fu l1 y (m + 1) (nI c) (nI f) K = if r = 0 then L_X10_fault_11 fu l1 y m (nI c) (nI (f + 1)) K else if nI c = l1 then some (nI f) else L_X10_fault_11 fu l1 y m (nI (c + 1)) (nI (f + 1)) K := by
      rw [L_X10_fault_11, if_neg (show ¬ (168 : Int32) ≤ nI f from nI_ge (b := 168) (by omega) (by omega)), r1, clp_some, nI_1, nI_1]
    rcases r2 with e | e
    · have hE : ¬ EXP T (y 22) (y 23) (y 24) (y 7) (y 8) f := fun h => by rw [r3.mpr h] at e; exact absurd e (by decide)
      obtain ⟨q1, q2⟩ := p2 hE
      obtain ⟨i1, i2⟩ := ih (f + 1) m c (by omega) (by omega) hc q1 q2
      rw [step, if_pos e]
      exact ⟨i1, i2⟩
    · obtain ⟨q0, qg, q1, q2⟩ := p1 (r3.mp e)
      obtain ⟨i1, i2⟩ := ih (f + 1) m (c + 1) (by omega) (by omega) (by omega) q1 q2
      rw [step, if_neg (by rw [e]; decide)]
      refine ⟨fun t ht h3 h4 => ?_, fun h => ?_⟩
      · by_cases et : t = c
        · subst et
          rw [if_pos ht.symm, qg]
        · rw [if_neg (fun h => et (nI_inj (by omega) (by omega) (h.trans ht)).symm)]
          exact i1 t ht (by omega) h4
      · rw [if_neg (fun h2 => h c q0 h2.symm)]
        exact i2 h
theorem S_fault (fu : Nat) (hfu : 1000 ≤ fu) : St_fault fu Rel := by
  intro a x y hR
  obtain ⟨T, n, g, hT, hT0, hn, hn0, hr, g1, g2, g3⟩ := RFa.at hR
  obtain ⟨f1, f2⟩ := e_fault fu T n hfu hT hn y hT0 hr g (fun i hi => (g1 i hi).2.2) g2 g3 (fun i hi => (g1 i hi).2.1) a (fun l2_2 => (if 0 ≤ (a : Int32) then (some (-4)) else (some l2_2))) 168 0 fu 0 rfl (by omega) (by omega) (fun i hi => absurd hi (by omega)) (fun i _ _ => by omega)
  by_cases hm : (-1 : Int32) ≤ a
  rotate_left
  · refine ⟨-1, x, y, ?_, ?_, hR⟩
    · unfold F_X9_fault; rw [if_neg hm]; rfl
    · unfold F_X10_fault; rw [if_neg hm]; rfl
  by_cases h1 : a = -1
  · subst h1
    refine ⟨nI n, x, y, ?_, ?_, hR⟩
    · unfold F_X9_fault; rw [if_pos hm, if_pos rfl, hn0]; rfl
    · unfold F_X10_fault
      have f2' : L_X10_fault_11 fu (-1) y fu 0 0 _ = _ := f2 (fun t ht h => by
        have := nI_pos (n := t) (by omega)
        rw [← h] at this
        exact this (by decide))
      rw [if_pos hm, f2', if_neg (by decide)]
      rfl
  · have h0 : ¬ a < 0 := by
      intro h
      rw [Int32.lt_iff_toInt_lt] at h
      rw [Int32.le_iff_toInt_le] at hm
      have e1 : (-1 : Int32).toInt = -1 := rfl
      have e0 : (0 : Int32).toInt = 0 := rfl
      exact h1 (Int32.toInt_inj.mp (by omega))
    obtain ⟨j, hj, rfl⟩ := nI_of h0
    by_cases hjn : j < n
    · refine ⟨nI (g j), x, y, ?_, ?_, hR⟩
      · unfold F_X9_fault
        rw [if_pos hm, if_neg h1, hn0, if_neg (nI_ge hjn (by omega)), chk_ok (by omega) (by omega), cN (by omega), (g1 j hjn).1]
        rfl
      · unfold F_X10_fault
        have f1' : L_X10_fault_11 fu (nI j) y fu 0 0 _ = _ := f1 j rfl (by omega) hjn
        rw [if_pos hm, f1']
        rfl
    · refine ⟨-4, x, y, ?_, ?_, hR⟩
      · unfold F_X9_fault
        rw [if_pos hm, if_neg h1, hn0, if_pos (nI_le (by omega) hj)]
        rfl
      · unfold F_X10_fault
        have f2' : L_X10_fault_11 fu (nI j) y fu 0 0 _ = _ := f2 (fun t ht h => by
          have := nI_inj hj (by omega) h
          omega)
        rw [if_pos hm, f2', if_pos (nI_pos' hj)]
        rfl
theorem e_takeAll (fu : Nat) (K : Mem → Res) : ∀ (d k n : Nat) (x : Mem), k + d = 168 → d < n → ∃ x' : Mem, L_X2_takeAll_2 fu n (nI k) x K = K x' ∧ (∀ b, b ≠ 33 → x' b = x b) ∧ ∀ c, c < 168 → x' 33 c = if k ≤ c then nI c else x 33 c := by
  intro d
  induction d with
  | zero =>
    intro k n x hk hn
    obtain ⟨n, rfl⟩ : ∃ m, n = m + 1 := ⟨n - 1, by omega⟩
    refine ⟨x, ?_, fun _ _ => rfl, fun c hc => by rw [if_neg (by omega)]⟩
    rw [L_X2_takeAll_2, if_pos (show (168 : Int32) ≤ nI k from nI_le (a := 168) (by omega) (by omega))]
  | succ d ih =>
    intro k n x hk hn
    obtain ⟨n, rfl⟩ : ∃ m, n = m + 1 := ⟨n - 1, by omega⟩
    obtain ⟨x', h1, h2, h3⟩ := ih (k + 1) n (wr x 33 k (nI k)) (by omega) (by omega)
    refine ⟨x', ?_, fun b hb => by rw [h2 b hb, wr_ne hb], fun c hc => ?_⟩
    · rw [L_X2_takeAll_2, if_neg (show ¬ (168 : Int32) ≤ nI k from nI_ge (b := 168) (by omega) (by omega)), chk_ok (by omega) (by omega), letm_eq, cN (by omega), nI_1]
      exact h1
    · rw [h3 c hc, wr_row]
      by_cases e : c = k
      · subst e; rw [upd_s, if_neg (by omega), if_pos (by omega)]
      · rw [upd_n e]
        by_cases e2 : k ≤ c
        · rw [if_pos (by omega), if_pos e2]
        · rw [if_neg (by omega), if_neg e2]
theorem RFa_all {x33 y22 y23 y24 y7 y8 : Nat → Int32} {y0_4 : Int32} (h : ∀ c, c < 168 → x33 c = nI c) : RFa x33 168 y0_4 0 y22 y23 y24 y7 y8 :=
  ⟨0, 168, by omega, rfl, by omega, rfl, fun k hk => absurd hk (by omega), id, fun i hi => ⟨h i hi, hi, fun k hk => absurd hk (by omega)⟩, fun i j h _ => h, fun f hf _ => ⟨f, hf, rfl⟩⟩
theorem S_noTests (fu : Nat) (hfu : 1000 ≤ fu) : St_noTests fu Rel := by
  intro x y hR
  obtain ⟨hS, hA, h1, h2, h3, h4, h5, h6, h7, h8, h9, h10, h11, h12⟩ := id hR
  obtain ⟨x', e1, e2, e3⟩ := e_takeAll fu (fun x_2 => letm (wr x_2 8 3 168) (fun x_3 => some (0, x_3))) 168 0 fu (wr x 8 4 0) rfl (by omega)
  have ex : F_X9_noTests fu x = some (x 8 4, wr x' 8 3 168) := by
    unfold F_X9_noTests F_X2_dropTests F_X2_takeAll
    have e1' : L_X2_takeAll_2 fu fu 0 (wr x 8 4 0) _ = _ := e1
    rw [letv_eq, letm_eq, e1', letm_eq, cl_some', cl_some']
  obtain ⟨s1, s2, s3, s4, s5, s6, s7, s8⟩ := hS
  have z : ∀ b, b ≠ 33 → b ≠ 8 → wr x' 8 3 168 b = x b := fun b h1 h2 => by rw [wr_ne h2, e2 b h1, wr_ne h2]
  have z84 : wr x' 8 3 168 8 4 = 0 := by rw [wr_row, upd_n (by decide), e2 8 (by decide), wr_at]
  refine ⟨y 0 28, _, wr y 0 28 0, by rw [ex, s8], ?_, ⟨?_, ?_, ?_, ?_, ?_, ?_, ?_, ?_⟩, ?_, h1, ?_, ?_, h4, ?_, h6, h7, h8, ?_, ?_, ?_, ?_⟩
  · unfold F_X10_noTests; rfl
  · rw [z 1 (by decide) (by decide)]; exact s1
  · rw [z 3 (by decide) (by decide)]; exact s2
  · rw [z 3 (by decide) (by decide)]; exact s3
  · rw [z 4 (by decide) (by decide)]; exact s4
  · rw [z 6 (by decide) (by decide)]; exact s5
  · rw [z 5 (by decide) (by decide)]; exact s6
  · rw [z 5 (by decide) (by decide)]; exact s7
  · rw [z84]; rfl
  · unfold EqA
    rw [z 10 (by decide) (by decide), z 11 (by decide) (by decide), z 12 (by decide) (by decide), z 13 (by decide) (by decide), z 14 (by decide) (by decide), z 15 (by decide) (by decide), z 16 (by decide) (by decide), z 17 (by decide) (by decide), z 19 (by decide) (by decide), z 20 (by decide) (by decide), z 21 (by decide) (by decide), z 23 (by decide) (by decide), z 24 (by decide) (by decide), z 27 (by decide) (by decide), z 28 (by decide) (by decide), z 29 (by decide) (by decide)]
    exact hA
  · rw [z 2 (by decide) (by decide)]; exact h2
  · rw [z 3 (by decide) (by decide)]; exact h3
  · rw [z 18 (by decide) (by decide)]; exact h5
  · rw [z 22 (by decide) (by decide)]; exact h9
  · rw [z 25 (by decide) (by decide), z 26 (by decide) (by decide)]; exact h10
  · rw [wr_at]
    refine RFa_all (fun c hc => ?_)
    rw [wr_ne (by decide), e3 c hc, if_pos (by omega)]
  · rw [z 35 (by decide) (by decide), z 36 (by decide) (by decide)]; exact h12

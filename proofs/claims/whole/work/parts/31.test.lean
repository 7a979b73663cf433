/-! ===== test, nextTest ===== -/
/-- cells that only serve within a call -/
theorem Rel_scratch {x x' y y' : Mem} (hR : Rel x y) (hx : ∀ b, b ≠ 7 → b ≠ 30 → b ≠ 31 → b ≠ 32 → b ≠ 34 → b ≠ 37 → b ≠ 38 → x' b = x b) (hy : ∀ b, b ≠ 0 → b ≠ 26 → b ≠ 27 → y' b = y b) (hy0 : ∀ i, i ≠ 34 → i ≠ 35 → y' 0 i = y 0 i) : Rel x' y' := by
  have X : ∀ b, (b ≠ 7 ∧ b ≠ 30 ∧ b ≠ 31 ∧ b ≠ 32 ∧ b ≠ 34 ∧ b ≠ 37 ∧ b ≠ 38) → x' b = x b := fun b h => hx b h.1 h.2.1 h.2.2.1 h.2.2.2.1 h.2.2.2.2.1 h.2.2.2.2.2.1 h.2.2.2.2.2.2
  have Y : ∀ b, (b ≠ 0 ∧ b ≠ 26 ∧ b ≠ 27) → y' b = y b := fun b h => hy b h.1 h.2.1 h.2.2
  have Y0 : ∀ i, (i ≠ 34 ∧ i ≠ 35) → y' 0 i = y 0 i := fun i h => hy0 i h.1 h.2
  unfold Rel EqS EqA at hR ⊢
  rw [X 1 (by decide), X 3 (by decide), X 4 (by decide), X 6 (by decide), X 5 (by decide), X 8 (by decide), X 10 (by decide), X 11 (by decide), X 12 (by decide), X 13 (by decide), X 14 (by decide), X 15 (by decide), X 16 (by decide), X 17 (by decide), X 19 (by decide), X 20 (by decide), X 21 (by decide), X 23 (by decide), X 24 (by decide), X 27 (by decide), X 28 (by decide), X 29 (by decide), X 2 (by decide), X 18 (by decide), X 22 (by decide), X 25 (by decide), X 26 (by decide), X 33 (by decide), X 35 (by decide), X 36 (by decide),
    Y0 4 (by decide), Y0 3 (by decide), Y0 10 (by decide), Y0 19 (by decide), Y0 26 (by decide), Y0 14 (by decide), Y0 18 (by decide), Y0 28 (by decide), Y 4 (by decide), Y 5 (by decide), Y 6 (by decide), Y 7 (by decide), Y 8 (by decide), Y 2 (by decide), Y 21 (by decide), Y 1 (by decide), Y 15 (by decide), Y 16 (by decide), Y 17 (by decide), Y 19 (by decide), Y 20 (by decide), Y 12 (by decide), Y 13 (by decide), Y 14 (by decide), Y 3 (by decide), Y 9 (by decide), Y 10 (by decide), Y 18 (by decide), Y 11 (by decide), Y 22 (by decide), Y 23 (by decide), Y 24 (by decide), Y 25 (by decide)]
  exact hR
theorem e_keep (fu p n : Nat) (hp : p < 12) (hn : n ≤ 168) (h o m b : Int32) (hm : ∃ c, c < 65536 ∧ m = nI c) (K : Int32 → Mem → Res) (g : Nat → Nat) (gl : ∀ i, i < n → g i < 168) (g2 : ∀ i j, i < j → j < n → g i < g j) : ∀ (d i k kept : Nat) (x : Mem) (gk : Nat → Nat), i + d = n → d < k → kept ≤ i → x 8 3 = nI n → x 14 p = m → x 13 p = b → (∀ j, i ≤ j → j < n → x 33 j = nI (g j)) → (∀ j, j < kept → x 33 j = nI (gk j)) → (∀ a c, a < c → c < kept → gk a < gk c) → (∀ j, j < kept → ∃ j', j' < i ∧ gk j = g j' ∧ OUT m b h (gk j) = o) → (∀ j, j < i → OUT m b h (g j) = o → ∃ j', j' < kept ∧ gk j' = g j) →
    ∃ (x' : Mem) (n' : Nat) (g' : Nat → Nat), L_X2_keepThoseThatCome_6 fu (nI p) h o k (nI kept) (nI i) x K = K (nI n') x' ∧ (∀ c, c ≠ 33 → x' c = x c) ∧ n' ≤ n ∧ (∀ j, j < n' → x' 33 j = nI (g' j)) ∧ (∀ a c, a < c → c < n' → g' a < g' c) ∧ (∀ j, j < n' → ∃ j', j' < n ∧ g' j = g j' ∧ OUT m b h (g' j) = o) ∧ (∀ j, j < n → OUT m b h (g j) = o → ∃ j', j' < n' ∧ g' j' = g j) := by
  intro d
  induction d with
  | zero =>
    intro i k kept x gk hi hk hki h83 h14 h13 q1 q2 q3 q4 q5
    obtain ⟨k, rfl⟩ : ∃ z, k = z + 1 := ⟨k - 1, by omega⟩
    have : i = n := by omega
    subst this
    refine ⟨x, kept, gk, ?_, fun _ _ => rfl, hki, q2, q3, q4, q5⟩
    rw [L_X2_keepThoseThatCome_6, h83, if_pos (nI_le (Nat.le_refl _) (by omega))]
  | succ d ih =>
    intro i k kept x gk hi hk hki h83 h14 h13 q1 q2 q3 q4 q5
    obtain ⟨k, rfl⟩ : ∃ z, k = z + 1 := ⟨k - 1, by omega⟩
    have hgi := q1 i (Nat.le_refl _) (by omega)
    have ho : F_X2_outcomeWith fu (x 33 i) (nI p) h x = some (OUT m b h (g i)) := by
      rw [hgi, outcome_eq (gl i (by omega)) hp (by rw [h14]; exact hm), h14, h13]
    have step : L_X2_keepThoseThatCome_6 fu (nI p) h o (k + 1) (nI kept) (nI i) x K = if OUT m b h (g i) = o then L_X2_keepThoseThatCome_6 fu (nI p) h o k (nI (kept + 1)) (nI (i + 1)) (wr x 33 kept (nI (g i))) K else L_X2_keepThoseThatCome_6 fu (nI p) h o k (nI kept) (nI (i + 1)) x K := by
      rw [L_X2_keepThoseThatCome_6, h83, if_neg (nI_ge (by omega) (by omega)), chk_ok (by omega) (by omega), cN (by omega), ho, clp_some, chk_ok (by omega) (by omega), chk_ok (by omega) (by omega), letm_eq, cN (by omega), hgi, nI_1, nI_1]
    by_cases e : OUT m b h (g i) = o
    · obtain ⟨x', n', g', r1, r2, r3⟩ := ih (i + 1) k (kept + 1) (wr x 33 kept (nI (g i))) (fun j => if j = kept then g i else gk j) (by omega) (by omega) (by omega) h83 h14 h13 (fun j h1 h2 => by rw [wr_row, upd_n (by omega)]; exact q1 j (by omega) h2) (fun j hj => by
          rw [wr_row]
          by_cases ej : j = kept
          · subst ej; rw [upd_s]; simp
          · rw [upd_n ej]; simp only [ej, if_false]; exact q2 j (by omega)) (fun a c h1 h2 => by
          by_cases ec : c = kept
          · subst ec
            have ea : ¬ a = c := by omega
            simp only [ea, if_false, if_true]
            obtain ⟨j', hj', e1, -⟩ := q4 a (by omega)
            rw [e1]
            exact g2 j' i hj' (by omega)
          · have ea : ¬ a = kept := by omega
            simp only [ea, ec, if_false]
            exact q3 a c h1 (by omega)) (fun j hj => by
          by_cases ej : j = kept
          · subst ej; simp only [if_true]; exact ⟨i, by omega, rfl, e⟩
          · simp only [ej, if_false]
            obtain ⟨j', hj', e1, e2⟩ := q4 j (by omega)
            exact ⟨j', by omega, e1, e2⟩) (fun j hj ej => by
          by_cases e2 : j = i
          · subst e2; exact ⟨kept, by omega, by simp⟩
          · obtain ⟨j', hj', e3⟩ := q5 j (by omega) ej
            have : ¬ j' = kept := by omega
            exact ⟨j', by omega, by simp only [this, if_false]; exact e3⟩)
      exact ⟨x', n', g', by rw [step, if_pos e, r1], fun c hc => by rw [r2 c hc, wr_ne hc], r3⟩
    · obtain ⟨x', n', g', r1, r2, r3⟩ := ih (i + 1) k kept x gk (by omega) (by omega) (by omega) h83 h14 h13 (fun j h1 h2 => q1 j (by omega) h2) q2 q3 (fun j hj => by
          obtain ⟨j', hj', e1, e2⟩ := q4 j hj
          exact ⟨j', by omega, e1, e2⟩) (fun j hj ej => by
          by_cases e2 : j = i
          · subst e2; exact absurd ej e
          · exact q5 j (by omega) ej)
      exact ⟨x', n', g', by rw [step, if_neg e, r1], r2, r3⟩
theorem EXP_succ {T : Nat} {y22 y23 y24 y7 y8 : Nat → Int32} {p : Nat} {h o : Int32} (hp : p < 2 ^ 31) (f : Nat) : EXP (T + 1) (upd y22 T (nI p)) (upd y23 T h) (upd y24 T o) y7 y8 f ↔ EXP T y22 y23 y24 y7 y8 f ∧ (o < 0 ∨ OUT (y8 p) (y7 p) h f = o) := by
  constructor
  · intro H
    refine ⟨fun k hk => ?_, ?_⟩
    · have := H k (by omega)
      rw [upd_n (by omega), upd_n (by omega), upd_n (by omega)] at this
      exact this
    · have := H T (by omega)
      rw [upd_s, upd_s, upd_s, cN hp] at this
      exact this
  · rintro ⟨H, H2⟩ k hk
    by_cases e : k = T
    · subst e; rw [upd_s, upd_s, upd_s, cN hp]; exact H2
    · rw [upd_n e, upd_n e, upd_n e]; exact H k (by omega)
theorem S_test (fu : Nat) (hfu : 1000 ≤ fu) : St_test fu Rel := by
  intro a b o x y hR
  obtain ⟨hS, hA, h1, h2, h3, h4, h5, h6, h7, h8, h9, h10, h11, h12⟩ := id hR
  obtain ⟨P, hP, hP0, hPr⟩ := id h1
  obtain ⟨s1, s2, s3, s4, s5, s6, s7, s8⟩ := id hS
  rcases has_of (fu := fu) (v := a) hP (s1.trans hP0) hP0 with ⟨p, hp, rfl, w1, w2⟩ | ⟨w1, w2, -⟩
  rotate_left
  · refine ⟨-1, x, y, ?_, ?_, hR⟩
    · unfold F_X9_test; rw [w1]; rfl
    · unfold F_X10_test; rw [w2]; rfl
  by_cases hb : b < 0 ∨ 40 < b
  · refine ⟨-1, x, y, ?_, ?_, hR⟩
    · unfold F_X9_test
      rw [w1, clp_some, if_neg (by decide)]
      by_cases h0 : b < 0
      · rw [if_pos h0]
      · rw [if_neg h0, if_pos (hb.resolve_left h0)]
    · unfold F_X10_test; rw [w2, clp_some, if_neg (by decide), in_f hb]; rfl
  have b0 : ¬ b < 0 := fun h => hb (Or.inl h)
  have b1 : ¬ 40 < b := fun h => hb (Or.inr h)
  by_cases ho : o < -1 ∨ 2 < o
  · refine ⟨-1, x, y, ?_, ?_, hR⟩
    · unfold F_X9_test
      rw [w1, clp_some, if_neg (by decide), if_neg b0, if_neg b1]
      by_cases h0 : o < -1
      · rw [if_pos h0]
      · rw [if_neg h0, if_neg (nle_of_lt (ho.resolve_left h0))]
    · unfold F_X10_test; rw [w2, clp_some, if_neg (by decide), in_t b0 b1, clp_some, if_neg (by decide), in_f ho]; rfl
  have o0 : ¬ o < -1 := fun h => ho (Or.inl h)
  have o1 : ¬ 2 < o := fun h => ho (Or.inr h)
  obtain ⟨hh, hhh, rfl⟩ := nI_of2 (M := 40) (n := 40) rfl b0 (le_of_nlt b1)
  have hoo : o = -1 ∨ ∃ k, k ≤ 2 ∧ o = nI k := by
    by_cases e : o = -1
    · exact Or.inl e
    · refine Or.inr (nI_of2 (M := 2) (n := 2) rfl (fun h => e ((ge_m1 o0).mp h)) (le_of_nlt o1))
  obtain ⟨T, n, hT, hT0, hn, hn0, hr, g, g1, g2, g3⟩ := id h11
  have hx84 : x 8 4 = nI T := s8.trans hT0
  by_cases hfull : T = 12
  · refine ⟨-3, x, y, ?_, ?_, hR⟩
    · unfold F_X9_test
      rw [w1, clp_some, if_neg (by decide), if_neg b0, if_neg b1, if_neg o0, if_pos (le_of_nlt o1), hx84, hfull]
      rfl
    · unfold F_X10_test
      rw [w2, clp_some, if_neg (by decide), in_t b0 b1, clp_some, if_neg (by decide), in_t o0 o1, clp_some, if_neg (by decide), hT0, hfull]
      rfl
  have hlt : T < 12 := by omega
  have ey : F_X10_test fu (nI p) (nI hh) o y = some (nI (T + 1), wr (wr (wr (wr y 22 T (nI p)) 23 T (nI hh)) 24 T o) 0 28 (nI (T + 1))) := by
    unfold F_X10_test
    have e1 : wr y 22 T (nI p) 0 28 = nI T := hT0
    have e2 : wr (wr y 22 T (nI p)) 23 T (nI hh) 0 28 = nI T := hT0
    have e3 : wr (wr (wr y 22 T (nI p)) 23 T (nI hh)) 24 T o 0 28 = nI T := hT0
    rw [w2, clp_some, if_neg (by decide), in_t b0 b1, clp_some, if_neg (by decide), in_t o0 o1, clp_some, if_neg (by decide), hT0, if_neg (show ¬ nI T = 12 from lit_ne T 12 (by omega) (by omega) hfull), chk_ok hlt (by omega), letm_eq, cN (by omega), e1, chk_ok hlt (by omega), letm_eq, cN (by omega), e2, chk_ok hlt (by omega), letm_eq, cN (by omega), letm_eq, e3, nI_1, wr_at]
  have ex0 : F_X9_test fu (nI p) (nI hh) o x = cl (F_X2_addTest fu (nI p) (nI hh) o x) (fun r_2 x_3 => (some (r_2, x_3))) := by
    unfold F_X9_test
    rw [w1, clp_some, if_neg (by decide), if_neg b0, if_neg b1, if_neg o0, if_pos (le_of_nlt o1), hx84, if_pos (show nI T < 12 from nI_lt (b := 12) hlt (by omega))]
  have hr' : ∀ k, k < T + 1 → (∃ q, q < 12 ∧ nI q < y 0 4 ∧ upd (y 22) T (nI p) k = nI q) ∧ (∃ q, q ≤ 40 ∧ upd (y 23) T (nI hh) k = nI q) ∧ (upd (y 24) T o k = -1 ∨ ∃ q, q ≤ 2 ∧ upd (y 24) T o k = nI q) := by
    intro k hk
    by_cases e : k = T
    · subst e
      rw [upd_s, upd_s, upd_s]
      exact ⟨⟨p, by omega, by rw [hP0]; exact nI_lt hp (by omega), rfl⟩, ⟨hh, hhh, rfl⟩, hoo⟩
    · rw [upd_n e, upd_n e, upd_n e]; exact hr k (by omega)
  rcases hoo with rfl | ⟨ko, hko, rfl⟩
  · -- a gap
    have ex : F_X9_test fu (nI p) (nI hh) (-1) x = some (nI (T + 1), wr x 8 4 (nI (T + 1))) := by
      rw [ex0]
      unfold F_X2_addTest
      rw [letm_eq, if_pos rfl, cl_some', wr_at, hx84, nI_1]
    refine ⟨_, _, _, ex, ey, ⟨s1, s2, s3, s4, s5, s6, s7, rfl⟩, hA, h1, h2, h3, h4, h5, h6, h7, h8, h9, h10, ?_, h12⟩
    have hE : ∀ f, EXP (T + 1) (upd (y 22) T (nI p)) (upd (y 23) T (nI hh)) (upd (y 24) T (-1)) (y 7) (y 8) f ↔ EXP T (y 22) (y 23) (y 24) (y 7) (y 8) f := fun f => (EXP_succ (by omega) f).trans ⟨fun h => h.1, fun h => ⟨h, Or.inl (by decide)⟩⟩
    exact ⟨T + 1, n, by omega, rfl, hn, hn0, hr', g, fun i hi => ⟨(g1 i hi).1, (g1 i hi).2.1, (hE _).mpr (g1 i hi).2.2⟩, g2, fun f hf he => g3 f hf ((hE f).mp he)⟩
  · have hnm : ¬ nI ko = -1 := fun h => by
      have := nI_pos (n := ko) (by omega)
      rw [h] at this
      exact this (by decide)
    have a4 : x 13 = y 7 := hA.2.2.2.1
    have a5 : x 14 = y 8 := hA.2.2.2.2.1
    obtain ⟨x', n', g', r1, r2, r3, r4, r5, r6, r7⟩ := e_keep fu p n (by omega) hn (nI hh) (nI ko) (y 8 p) (y 7 p) (hPr p hp).2.2.2.2 (fun l4_3 x_4 => (letm (wr x_4 8 3 l4_3) (fun x_5 => (some (0, x_5))))) g (fun i hi => (g1 i hi).2.1) g2 n 0 fu 0 (wr x 8 4 (nI (T + 1))) id (by omega) (by omega) (by omega) hn0 (by rw [wr_ne (by decide), a5]) (by rw [wr_ne (by decide), a4]) (fun j _ h2 => by rw [wr_ne (by decide)]; exact (g1 j h2).1) (fun j hj => absurd hj (by omega)) (fun a c _ h => absurd h (by omega)) (fun j hj => absurd hj (by omega)) (fun j hj => absurd hj (by omega))
    have ex : F_X9_test fu (nI p) (nI hh) (nI ko) x = some (nI (T + 1), wr x' 8 3 (nI n')) := by
      rw [ex0]
      unfold F_X2_addTest F_X2_keepThoseThatCome
      have r1' : L_X2_keepThoseThatCome_6 fu (nI p) (nI hh) (nI ko) fu 0 0 (wr x 8 4 (nI (T + 1))) _ = _ := r1
      rw [letm_eq, hx84, nI_1, if_neg hnm, r1', letm_eq, cl_some', cl_some', wr_row, upd_n (by decide), r2 8 (by decide), wr_at]
    have z : ∀ c, c ≠ 33 → c ≠ 8 → wr x' 8 3 (nI n') c = x c := fun c h1 h2 => by rw [wr_ne h2, r2 c h1, wr_ne h2]
    have z84 : wr x' 8 3 (nI n') 8 4 = nI (T + 1) := by rw [wr_row, upd_n (by decide), r2 8 (by decide), wr_at]
    refine ⟨_, _, _, ex, ey, ⟨?_, ?_, ?_, ?_, ?_, ?_, ?_, ?_⟩, ?_, h1, ?_, ?_, h4, ?_, h6, h7, h8, ?_, ?_, ?_, ?_⟩
    · rw [z 1 (by decide) (by decide)]; exact s1
    · rw [z 3 (by decide) (by decide)]; exact s2
    · rw [z 3 (by decide) (by decide)]; exact s3
    · rw [z 4 (by decide) (by decide)]; exact s4
    · rw [z 6 (by decide) (by decide)]; exact s5
    · rw [z 5 (by decide) (by decide)]; exact s6
    · rw [z 5 (by decide) (by decide)]; exact s7
    · rw [z84]; rfl
    · unfold EqA
      rw [z 10 (by decide) (by decide), z 11 (by decide) (by decide), z 12 (by decide) (by decide), z 13 (by decide) (by decide), z 14 (by decide) (by decide), z 15 (by decide) (by decide), z 16 (by decide) (by decide), z 17 (by decide) (by decide), z 19 (by decide) (by decide), z 20 (by decide) (by decide), z 21 (by decide) (by decide), z 23 (by decide) (by decide), z 24 (by decide) (by decide), z 27 (by decide) (by decide), z 28 (by decide) (by decide), z 29 (by decide) (by decide)]
      exact hA
    · rw [z 2 (by decide) (by decide)]; exact h2
    · rw [z 3 (by decide) (by decide)]; exact h3
    · rw [z 18 (by decide) (by decide)]; exact h5
    · rw [z 22 (by decide) (by decide)]; exact h9
    · rw [z 25 (by decide) (by decide), z 26 (by decide) (by decide)]; exact h10
    · rw [wr_at, wr_ne (by decide)]
      have hE : ∀ f, EXP (T + 1) (upd (y 22) T (nI p)) (upd (y 23) T (nI hh)) (upd (y 24) T (nI ko)) (y 7) (y 8) f ↔ EXP T (y 22) (y 23) (y 24) (y 7) (y 8) f ∧ OUT (y 8 p) (y 7 p) (nI hh) f = nI ko := fun f => (EXP_succ (by omega) f).trans ⟨fun h => ⟨h.1, h.2.resolve_left (nI_pos (by omega))⟩, fun h => ⟨h.1, Or.inr h.2⟩⟩
      refine ⟨T + 1, n', by omega, rfl, by omega, rfl, hr', g', fun i hi => ?_, r5, fun f hf he => ?_⟩
      · obtain ⟨j', hj', e1, e2⟩ := r6 i hi
        refine ⟨r4 i hi, ?_, ?_⟩
        · rw [e1]; exact (g1 j' hj').2.1
        · refine (hE _).mpr ⟨?_, e2⟩
          rw [e1]; exact (g1 j' hj').2.2
      · obtain ⟨he1, he2⟩ := (hE f).mp he
        obtain ⟨i, hi, ei⟩ := g3 f hf he1
        obtain ⟨j', hj', e3⟩ := r7 i hi (by rw [ei]; exact he2)
        exact ⟨j', hj', e3.trans ei⟩
    · rw [z 35 (by decide) (by decide), z 36 (by decide) (by decide)]; exact h12

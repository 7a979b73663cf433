/-! ===== means ===== -/
theorem e_ofTone (fu : Nat) (v : Int32) (x : Mem) (K : Int32 → Option Int32) : ∀ (d k n : Nat), k + d = 8 → d < n → L_X0_ofTone_13 fu v x n (mk (fun b => decide (x 15 b = v)) k) (nI k) K = K (mk (fun b => decide (x 15 b = v)) 8) := by
  intro d
  induction d with
  | zero =>
    intro k n hk hn
    obtain ⟨n, rfl⟩ : ∃ m, n = m + 1 := ⟨n - 1, by omega⟩
    have : k = 8 := by omega
    subst this
    rw [L_X0_ofTone_13, if_pos (by decide)]
  | succ d ih =>
    intro k n hk hn
    obtain ⟨n, rfl⟩ : ∃ m, n = m + 1 := ⟨n - 1, by omega⟩
    rw [L_X0_ofTone_13, if_neg (show ¬ (8 : Int32) ≤ nI k from nI_ge (b := 8) (by omega) (by omega)), chk_ok (by omega) (by omega), cN (by omega), nI_1, letv_eq]
    have ih' := ih (k + 1) n (by omega) (by omega)
    by_cases e : x 15 k = v
    · rw [if_pos e, ← ih']
      congr 1
      simp [mk, e]
    · rw [if_neg e, ← ih']
      congr 1
      simp [mk, e]
theorem ofTone_eq {fu : Nat} {v : Int32} {x : Mem} (hfu : 100 ≤ fu) : ∃ M : Int32, F_X0_ofTone fu v x = some M ∧ ∀ i, i < 32 → (bt M i = true ↔ i < 8 ∧ (v = -1 ∨ x 15 i = v)) := by
  by_cases h : v = -1
  · refine ⟨255, ?_, fun i hi => ?_⟩
    · unfold F_X0_ofTone; rw [if_pos h]
    · rw [b_255]; simp [h]
  · refine ⟨mk (fun b => decide (x 15 b = v)) 8, ?_, fun i hi => ?_⟩
    · unfold F_X0_ofTone
      rw [if_neg h]
      exact e_ofTone fu v x (fun l2_2 => some l2_2) 8 0 fu rfl (by omega)
    · rw [mk_bt _ 8 i (by omega) hi]; simp [h]
/-- how loud: the wanted kind -/
def KIND (w g : Int32) : Prop := (w = 0 ∧ ¬ g = 0) ∨ (¬ w = 0 ∧ g = w)
def CPp (fu : Nat) (y : Mem) (H w : Int32) (p : Nat) : Prop := ∃ b, b < 8 ∧ bt H b = true ∧ ∃ g : Int32, F_X10_rings fu (nI p) (nI b) y = some g ∧ KIND w g
theorem e_ptr (fu P : Nat) (hfu : 100 ≤ fu) (x y : Mem) (hR : Rel x y) (hP : P ≤ 12) (hP0 : y 0 4 = nI P) (H w : Int32) (hw : w = 0 ∨ w = 1 ∨ w = 2) (hH : ∀ i, 8 ≤ i → i < 32 → bt H i = false) (t : Nat → Bool) (ht : ∀ p, t p = true ↔ CPp fu y H w p) (K : Int32 → Option Int32) : ∀ (d k n : Nat), k + d = P → d < n → L_X8_pullsThatRing_5 fu H w x n (mk t k) (nI k) K = K (mk t P) := by
  have hx0 : x 1 0 = nI P := hR.1.1.trans hP0
  intro d
  induction d with
  | zero =>
    intro k n hk hn
    obtain ⟨n, rfl⟩ : ∃ m, n = m + 1 := ⟨n - 1, by omega⟩
    have : k = P := by omega
    subst this
    rw [L_X8_pullsThatRing_5, hx0, if_pos (nI_le (Nat.le_refl _) (by omega))]
  | succ d ih =>
    intro k n hk hn
    obtain ⟨n, rfl⟩ : ∃ m, n = m + 1 := ⟨n - 1, by omega⟩
    obtain ⟨Lm, Wm, l1, l2, l3, l4⟩ := rings_both hfu hR (by rw [hP0]; exact nI_lt (show k < P by omega) (by omega)) (show k < 12 by omega)
    have ih' := ih (k + 1) n (by omega) (by omega)
    have hmk : mk t (k + 1) = if t k then mk t k ||| ((1 : Int32) <<< (nI k &&& 31)) else mk t k := rfl
    have fin : ∀ rung : Int32, (∀ b, b < 8 → ∀ g : Int32, F_X10_rings fu (nI k) (nI b) y = some g → (bt rung b = true ↔ KIND w g)) → (if (rung &&& H) = 0 then L_X8_pullsThatRing_5 fu H w x n (mk t k) (nI k + 1) K else L_X8_pullsThatRing_5 fu H w x n (mk t k ||| ((1 : Int32) <<< (nI k &&& 31))) (nI k + 1) K) = K (mk t P) := by
      intro rung hr
      have key : (rung &&& H) = 0 ↔ ¬ CPp fu y H w k := by
        rw [and_zero_iff]
        constructor
        · rintro h ⟨b, hb, h1, g, h2, h3⟩
          exact h b (by omega) ⟨(hr b hb g h2).mpr h3, h1⟩
        · intro h i hi ⟨h1, h2⟩
          rcases Nat.lt_or_ge i 8 with h8 | h8
          · obtain ⟨g, g1, -⟩ := l4 i h8
            exact h ⟨i, h8, h2, g, g1, (hr i h8 g g1).mp h1⟩
          · rw [hH i h8 hi] at h2; cases h2
      rw [nI_1, ← ih', hmk]
      by_cases e : (rung &&& H) = 0
      · have : ¬ t k = true := fun h => key.mp e ((ht k).mp h)
        rw [if_pos e, if_neg this]
      · have : t k = true := by
          rw [ht k]
          rcases Classical.em (CPp fu y H w k) with h | h
          · exact h
          · exact absurd (key.mpr h) e
        rw [if_neg e, if_pos this]
    have g_of : ∀ b, b < 8 → ∀ g : Int32, F_X10_rings fu (nI k) (nI b) y = some g → (g = 0 ∨ g = 1 ∨ g = 2) ∧ (bt Lm b = true ↔ g = 2) ∧ (bt Wm b = true ↔ g = 1) := by
      intro b hb g hg
      obtain ⟨g', g1, g2⟩ := l4 b hb
      rw [g1] at hg
      cases hg
      exact g2
    rw [L_X8_pullsThatRing_5, hx0, if_neg (nI_ge (by omega) (by omega))]
    rcases hw with rfl | rfl | rfl
    · simp (config := { decide := true }) only [jn_eq, l1, l2, clp_some, letv_eq, if_false]
      refine fin _ (fun b hb g hg => ?_)
      obtain ⟨q1, q2, q3⟩ := g_of b hb g hg
      rw [b_or, b_or, b_0, Bool.or_eq_true, Bool.or_eq_true, q2, q3]
      unfold KIND
      rcases q1 with rfl | rfl | rfl <;> decide
    · simp (config := { decide := true }) only [jn_eq, l1, l2, clp_some, letv_eq, if_true, if_false]
      refine fin _ (fun b hb g hg => ?_)
      obtain ⟨q1, q2, q3⟩ := g_of b hb g hg
      rw [b_or, b_0, Bool.or_eq_true, q3]
      unfold KIND
      rcases q1 with rfl | rfl | rfl <;> decide
    · simp (config := { decide := true }) only [jn_eq, l1, l2, clp_some, letv_eq, if_true, if_false]
      refine fin _ (fun b hb g hg => ?_)
      obtain ⟨q1, q2, q3⟩ := g_of b hb g hg
      rw [b_or, b_0, Bool.or_eq_true, q2]
      unfold KIND
      rcases q1 with rfl | rfl | rfl <;> decide
theorem or_idem (a b : Int32) : (a ||| b) ||| b = a ||| b := by apply b_ext; intro i _; rw [b_or, b_or]; cases bt a i <;> cases bt b i <;> rfl
theorem e_means_in (fu p : Nat) (y : Mem) (tn w sw H : Int32) (hH : ∀ b, b < 8 → (bt H b = true ↔ (tn < 0 ∨ y 2 b = tn) ∧ (sw < 0 ∨ bt sw b = true))) (hg : ∀ b, b < 8 → ∃ g : Int32, F_X10_rings fu (nI p) (nI b) y = some g ∧ (g = 0 ∨ g = 1 ∨ g = 2)) (K : Int32 → Option Int32) : ∀ (d k n : Nat) (a : Int32), k + d = 8 → d < n → ((∃ b, k ≤ b ∧ b < 8 ∧ bt H b = true ∧ ∃ g : Int32, F_X10_rings fu (nI p) (nI b) y = some g ∧ KIND w g) → L_X10_means_49 fu tn w sw (nI p) y n a (nI k) K = K (a ||| ((1 : Int32) <<< (nI p &&& 31)))) ∧ ((¬ ∃ b, k ≤ b ∧ b < 8 ∧ bt H b = true ∧ ∃ g : Int32, F_X10_rings fu (nI p) (nI b) y = some g ∧ KIND w g) → L_X10_means_49 fu tn w sw (nI p) y n a (nI k) K = K a) := by
  intro d
  induction d with
  | zero =>
    intro k n a hk hn
    obtain ⟨n, rfl⟩ : ∃ m, n = m + 1 := ⟨n - 1, by omega⟩
    refine ⟨?_, fun _ => ?_⟩
    · rintro ⟨b, h1, h2, -⟩; omega
    · rw [L_X10_means_49, if_pos (show (8 : Int32) ≤ nI k from nI_le (a := 8) (by omega) (by omega))]
  | succ d ih =>
    intro k n a hk hn
    obtain ⟨n, rfl⟩ : ∃ m, n = m + 1 := ⟨n - 1, by omega⟩
    obtain ⟨g, g1, g2⟩ := hg k (by omega)
    have hk8 := hH k (by omega)
    have step : L_X10_means_49 fu tn w sw (nI p) y (n + 1) a (nI k) K = L_X10_means_49 fu tn w sw (nI p) y n (@ite _ (bt H k = true ∧ KIND w g) (Classical.propDecidable _) (a ||| ((1 : Int32) <<< (nI p &&& 31))) a) (nI (k + 1)) K := by
      rw [L_X10_means_49, if_neg (show ¬ (8 : Int32) ≤ nI k from nI_ge (b := 8) (by omega) (by omega)), g1, clp_some]
      have hc8 : ∀ M : Option Int32, chk (nI k) 8 M = M := fun M => chk_ok (by omega) (by omega)
      have hN8 : (nI k).toNatClampNeg = k := cN (by omega)
      simp only [hc8, hN8, nI_1]
      rw [jn_eq]
      have fin0 : ∀ v6 : Int32, v6 = 0 ∨ v6 = 1 → (v6 = 1 ↔ KIND w g) → jn (fun (k_7 : Int32 → Option Int32) => (if v6 = 0 then (k_7 0) else (if tn < 0 then (if sw < 0 then (k_7 1) else (if ((sw >>> (nI k &&& 31)) &&& 1) = 1 then (k_7 1) else (k_7 0))) else (if (y 2 k) = tn then (if sw < 0 then (k_7 1) else (if ((sw >>> (nI k &&& 31)) &&& 1) = 1 then (k_7 1) else (k_7 0))) else (k_7 0))))) (fun v_8 => (jn (fun (k_9 : Int32 → Option Int32) => (if v_8 = 0 then (k_9 0) else (k_9 ((1 : Int32) <<< (nI p &&& 31))))) (fun v_10 => (letv (a ||| v_10) (fun l4_11 => (L_X10_means_49 fu tn w sw (nI p) y n l4_11 (nI (k + 1)) K)))))) = L_X10_means_49 fu tn w sw (nI p) y n (@ite _ (bt H k = true ∧ KIND w g) (Classical.propDecidable _) (a ||| ((1 : Int32) <<< (nI p &&& 31))) a) (nI (k + 1)) K := by
        intro v6 hv6 hk6
        have z0 : (jn (fun (k_9 : Int32 → Option Int32) => (if (0 : Int32) = 0 then (k_9 0) else (k_9 ((1 : Int32) <<< (nI p &&& 31))))) (fun v_10 => (letv (a ||| v_10) (fun l4_11 => (L_X10_means_49 fu tn w sw (nI p) y n l4_11 (nI (k + 1)) K))))) = L_X10_means_49 fu tn w sw (nI p) y n a (nI (k + 1)) K := by
          rw [jn_eq, if_pos rfl]
          dsimp only
          rw [letv_eq, or_self0]
        have z1 : (jn (fun (k_9 : Int32 → Option Int32) => (if (1 : Int32) = 0 then (k_9 0) else (k_9 ((1 : Int32) <<< (nI p &&& 31))))) (fun v_10 => (letv (a ||| v_10) (fun l4_11 => (L_X10_means_49 fu tn w sw (nI p) y n l4_11 (nI (k + 1)) K))))) = L_X10_means_49 fu tn w sw (nI p) y n (a ||| ((1 : Int32) <<< (nI p &&& 31))) (nI (k + 1)) K := by
          rw [jn_eq, if_neg (by decide)]
          rfl
        rw [jn_eq]
        rcases hv6 with rfl | rfl
        · have : ¬ (bt H k = true ∧ KIND w g) := fun h => absurd (hk6.mpr h.2) (by decide)
          rw [if_pos rfl, if_neg this]
          exact z0
        · have hK := hk6.mp rfl
          have hb1 := bit_eq1 (v := sw) (k := k) (by omega)
          rw [if_neg (by decide)]
          by_cases c1 : tn < 0
          · rw [if_pos c1]
            by_cases c2 : sw < 0
            · rw [if_pos c2, if_pos ⟨hk8.mpr ⟨Or.inl c1, Or.inl c2⟩, hK⟩]; exact z1
            · rw [if_neg c2]
              by_cases c3 : bt sw k = true
              · rw [if_pos (hb1.mpr c3), if_pos ⟨hk8.mpr ⟨Or.inl c1, Or.inr c3⟩, hK⟩]; exact z1
              · rw [if_neg (fun h => c3 (hb1.mp h)), if_neg (fun h => c3 ((hk8.mp h.1).2.resolve_left c2))]; exact z0
          · rw [if_neg c1]
            by_cases c4 : y 2 k = tn
            · rw [if_pos c4]
              by_cases c2 : sw < 0
              · rw [if_pos c2, if_pos ⟨hk8.mpr ⟨Or.inr c4, Or.inl c2⟩, hK⟩]; exact z1
              · rw [if_neg c2]
                by_cases c3 : bt sw k = true
                · rw [if_pos (hb1.mpr c3), if_pos ⟨hk8.mpr ⟨Or.inr c4, Or.inr c3⟩, hK⟩]; exact z1
                · rw [if_neg (fun h => c3 (hb1.mp h)), if_neg (fun h => c3 ((hk8.mp h.1).2.resolve_left c2))]; exact z0
            · rw [if_neg c4, if_neg (fun h => c4 ((hk8.mp h.1).1.resolve_left c1))]; exact z0
      by_cases w0 : w = 0
      · rw [if_pos w0]
        by_cases g0 : g ≤ 0
        · rw [if_pos g0]
          refine fin0 0 (Or.inl rfl) ⟨fun h => absurd h (by decide), fun h => ?_⟩
          unfold KIND at h
          rcases g2 with rfl | rfl | rfl
          · rcases h with h | h
            · exact absurd rfl h.2
            · exact absurd w0 h.1
          · exact absurd g0 (by decide)
          · exact absurd g0 (by decide)
        · rw [if_neg g0]
          refine fin0 1 (Or.inr rfl) ⟨fun _ => Or.inl ⟨w0, ?_⟩, fun _ => rfl⟩
          rintro rfl
          exact g0 (by decide)
      · rw [if_neg w0]
        by_cases gw : g = w
        · rw [if_pos gw]
          exact fin0 1 (Or.inr rfl) ⟨fun _ => Or.inr ⟨w0, gw⟩, fun _ => rfl⟩
        · rw [if_neg gw]
          refine fin0 0 (Or.inl rfl) ⟨fun h => absurd h (by decide), fun h => ?_⟩
          rcases h with h | h
          · exact absurd h.1 w0
          · exact absurd h.2 gw
    have cond_k : (∃ g : Int32, F_X10_rings fu (nI p) (nI k) y = some g ∧ KIND w g) ↔ KIND w g := by
      constructor
      · rintro ⟨g', e1, e2⟩
        rw [g1] at e1
        cases e1
        exact e2
      · intro h; exact ⟨g, g1, h⟩
    rcases Classical.em (bt H k = true ∧ KIND w g) with e | e
    · obtain ⟨i1, i2⟩ := ih (k + 1) n (a ||| ((1 : Int32) <<< (nI p &&& 31))) (by omega) (by omega)
      refine ⟨fun _ => ?_, fun h => absurd ⟨k, Nat.le_refl _, by omega, e.1, cond_k.mpr e.2⟩ h⟩
      rw [step, if_pos e]
      rcases Classical.em (∃ b, k + 1 ≤ b ∧ b < 8 ∧ bt H b = true ∧ ∃ g : Int32, F_X10_rings fu (nI p) (nI b) y = some g ∧ KIND w g) with e2 | e2
      · rw [i1 e2, or_idem]
      · rw [i2 e2]
    · obtain ⟨i1, i2⟩ := ih (k + 1) n a (by omega) (by omega)
      refine ⟨fun h => ?_, fun h => ?_⟩
      · rw [step, if_neg e]
        obtain ⟨b, h1, h2, h3, h4⟩ := h
        by_cases eb : b = k
        · subst eb; exact absurd ⟨h3, cond_k.mp h4⟩ e
        · exact i1 ⟨b, by omega, h2, h3, h4⟩
      · rw [step, if_neg e]
        refine i2 ?_
        rintro ⟨b, h1, h2, h3, h4⟩
        exact h ⟨b, by omega, h2, h3, h4⟩
theorem e_means_out (fu P : Nat) (hfu : 100 ≤ fu) (y : Mem) (hP : P ≤ 12) (hP0 : y 0 4 = nI P) (tn w sw H : Int32) (hH : ∀ b, b < 8 → (bt H b = true ↔ (tn < 0 ∨ y 2 b = tn) ∧ (sw < 0 ∨ bt sw b = true))) (hg : ∀ p, p < P → ∀ b, b < 8 → ∃ g : Int32, F_X10_rings fu (nI p) (nI b) y = some g ∧ (g = 0 ∨ g = 1 ∨ g = 2)) (t : Nat → Bool) (ht : ∀ p, t p = true ↔ CPp fu y H w p) (K : Int32 → Option Int32) : ∀ (d k n : Nat), k + d = P → d < n → L_X10_means_37 fu tn w sw y n (mk t k) (nI k) K = K (mk t P) := by
  intro d
  induction d with
  | zero =>
    intro k n hk hn
    obtain ⟨n, rfl⟩ : ∃ m, n = m + 1 := ⟨n - 1, by omega⟩
    have : k = P := by omega
    subst this
    rw [L_X10_means_37, hP0, if_pos (nI_le (Nat.le_refl _) (by omega))]
  | succ d ih =>
    intro k n hk hn
    obtain ⟨n, rfl⟩ : ∃ m, n = m + 1 := ⟨n - 1, by omega⟩
    have ih' := ih (k + 1) n (by omega) (by omega)
    have hmk : mk t (k + 1) = if t k then mk t k ||| ((1 : Int32) <<< (nI k &&& 31)) else mk t k := rfl
    obtain ⟨i1, i2⟩ := e_means_in fu k y tn w sw H hH (hg k (by omega)) (fun l4_12 => L_X10_means_37 fu tn w sw y n l4_12 (nI k + 1) K) 8 0 fu (mk t k) rfl (by omega)
    rw [L_X10_means_37, hP0, if_neg (nI_ge (by omega) (by omega)), ← ih', hmk]
    by_cases e : t k = true
    · rw [if_pos e]
      obtain ⟨b, h1, h2, h3⟩ := (ht k).mp e
      have := i1 ⟨b, by omega, h1, h2, h3⟩
      rw [nI_1] at this
      rw [nI_1]
      exact this
    · rw [if_neg e]
      have := i2 (fun ⟨b, h0, h1, h2, h3⟩ => e ((ht k).mpr ⟨b, h1, h2, h3⟩))
      rw [nI_1] at this
      rw [nI_1]
      exact this
theorem ge_m1 {v : Int32} (h : ¬ v < -1) : v < 0 ↔ v = -1 := by
  constructor
  · intro h0
    rw [Int32.lt_iff_toInt_lt] at h h0
    have e1 : (-1 : Int32).toInt = -1 := rfl
    have e0 : (0 : Int32).toInt = 0 := rfl
    exact Int32.toInt_inj.mp (by omega)
  · rintro rfl; decide
theorem S_means (fu : Nat) (hfu : 100 ≤ fu) : St_means fu Rel := by
  intro tn w sw x y hR
  obtain ⟨P, hP, hP0, hPr⟩ := hR.2.2.1
  by_cases b1 : tn < -1 ∨ 5 < tn
  · refine ⟨-1, x, y, ?_, ?_, hR⟩
    · unfold F_X9_means
      by_cases h0 : tn < -1
      · rw [if_pos h0]; rfl
      · have h6 : (6 : Int32) ≤ tn := by
          have := b1.resolve_left h0
          rw [Int32.lt_iff_toInt_lt] at this
          rw [Int32.le_iff_toInt_le]
          have e5 : (5 : Int32).toInt = 5 := rfl
          have e6 : (6 : Int32).toInt = 6 := rfl
          omega
        rw [if_neg h0, if_pos h6]; rfl
    · unfold F_X10_means; rw [in_f b1]; rfl
  have t1 : ¬ tn < -1 := fun h => b1 (Or.inl h)
  have t2 : ¬ 5 < tn := fun h => b1 (Or.inr h)
  have t3 : ¬ (6 : Int32) ≤ tn := by
    rw [Int32.lt_iff_toInt_lt] at t2
    rw [Int32.le_iff_toInt_le]
    have e5 : (5 : Int32).toInt = 5 := rfl
    have e6 : (6 : Int32).toInt = 6 := rfl
    omega
  by_cases b2 : w < 0 ∨ 2 < w
  · refine ⟨-1, x, y, ?_, ?_, hR⟩
    · unfold F_X9_means
      rw [if_neg t1, if_neg t3]
      by_cases h0 : w < 0
      · rw [if_pos h0]; rfl
      · rw [if_neg h0, if_pos (b2.resolve_left h0)]; rfl
    · unfold F_X10_means; rw [in_t t1 t2, clp_some, if_neg (by decide), in_f b2]; rfl
  have w1 : ¬ w < 0 := fun h => b2 (Or.inl h)
  have w2 : ¬ 2 < w := fun h => b2 (Or.inr h)
  by_cases b3 : sw < -1 ∨ 255 < sw
  · refine ⟨-1, x, y, ?_, ?_, hR⟩
    · unfold F_X9_means
      rw [if_neg t1, if_neg t3, if_neg w1, if_neg w2]
      by_cases h0 : sw < -1
      · rw [if_pos h0]; rfl
      · rw [if_neg h0, if_neg (nle_of_lt (b3.resolve_left h0))]; rfl
    · unfold F_X10_means; rw [in_t t1 t2, clp_some, if_neg (by decide), in_t w1 w2, clp_some, if_neg (by decide), in_f b3]; rfl
  have s1 : ¬ sw < -1 := fun h => b3 (Or.inl h)
  have s2 : ¬ 255 < sw := fun h => b3 (Or.inr h)
  have hw3 : w = 0 ∨ w = 1 ∨ w = 2 := by
    obtain ⟨k, hk, rfl⟩ := nI_of2 (M := 2) (n := 2) rfl w1 (le_of_nlt w2)
    rcases (show k = 0 ∨ k = 1 ∨ k = 2 by omega) with rfl | rfl | rfl
    · exact Or.inl rfl
    · exact Or.inr (Or.inl rfl)
    · exact Or.inr (Or.inr rfl)
  obtain ⟨M, m1, m2⟩ := ofTone_eq (v := tn) (x := x) hfu
  have a6 : x 15 = y 2 := hR.2.1.2.2.2.2.2.1
  obtain ⟨H, h1, h2⟩ : ∃ H : Int32, (if sw = -1 then M else M &&& sw) = H ∧ ∀ i, i < 32 → (bt H i = true ↔ i < 8 ∧ (tn < 0 ∨ y 2 i = tn) ∧ (sw < 0 ∨ bt sw i = true)) := by
    refine ⟨_, rfl, fun i hi => ?_⟩
    by_cases e : sw = -1
    · rw [if_pos e, m2 i hi, ge_m1 t1, ge_m1 s1, a6]
      exact ⟨fun h => ⟨h.1, h.2, Or.inl e⟩, fun h => ⟨h.1, h.2.1⟩⟩
    · rw [if_neg e, b_and, Bool.and_eq_true, m2 i hi, ge_m1 t1, ge_m1 s1, a6]
      exact ⟨fun h => ⟨h.1.1, h.1.2, Or.inr h.2⟩, fun h => ⟨⟨h.1, h.2.1⟩, h.2.2.resolve_left e⟩⟩
  obtain ⟨t, ht⟩ : ∃ t : Nat → Bool, ∀ p, t p = true ↔ CPp fu y H w p := by
    refine ⟨fun p => @decide (CPp fu y H w p) (Classical.propDecidable _), fun p => ?_⟩
    exact @decide_eq_true_iff (CPp fu y H w p) (Classical.propDecidable _)
  have hH0 : ∀ i, 8 ≤ i → i < 32 → bt H i = false := by
    intro i h8 h32
    cases e : bt H i
    · rfl
    · have := ((h2 i h32).mp e).1; omega
  refine ⟨mk t P, x, y, ?_, ?_, hR⟩
  · have e := e_ptr fu P hfu x y hR hP hP0 H w hw3 hH0 t ht (fun l3_10 => some l3_10) P 0 fu (by omega) (by omega)
    have e' : L_X8_pullsThatRing_5 fu H w x fu 0 0 (fun l3_10 => some l3_10) = some (mk t P) := e
    unfold F_X9_means F_X8_pullsThatRing
    rw [if_neg t1, if_neg t3, if_neg w1, if_neg w2, if_neg s1, if_pos (le_of_nlt s2), m1, clp_some, jn_eq, letv_eq]
    by_cases eq : sw = -1
    · rw [if_pos eq] at h1 ⊢
      dsimp only
      rw [h1, e']; rfl
    · rw [if_neg eq] at h1 ⊢
      dsimp only
      rw [h1, e']; rfl
  · have e := e_means_out fu P hfu y hP hP0 tn w sw H (fun b hb => (h2 b (by omega)).trans ⟨fun h => h.2, fun h => ⟨hb, h⟩⟩) (fun p hp b hb => by
      obtain ⟨_, _, _, _, _, l4⟩ := rings_both hfu hR (by rw [hP0]; exact nI_lt hp (by omega)) (show p < 12 by omega)
      obtain ⟨g, g1, g2, -⟩ := l4 b hb
      exact ⟨g, g1, g2⟩) t ht (fun l4_13 => some l4_13) P 0 fu (by omega) (by omega)
    have e' : L_X10_means_37 fu tn w sw y fu 0 0 (fun l4_13 => some l4_13) = some (mk t P) := e
    unfold F_X10_means
    rw [in_t t1 t2, clp_some, if_neg (by decide), in_t w1 w2, clp_some, if_neg (by decide), in_t s1 s2, clp_some, if_neg (by decide), e']
    rfl

/-! ===== wires ===== -/
theorem e_gather {fu n' : Nat} {pts : Int32} {e : Nat → Nat} (hn5 : n' ≤ 5) (hE : ENDS pts e) (hn' : cntL (fun i => bt pts i) 24 = n') (K : Int32 → Mem → Res) : ∀ (d k n : Nat) (x : Mem), k + d = 24 → d < n → (∀ i, i < cntL (fun i => bt pts i) k → x 37 i = nI (e i)) → ∃ x', L_X3_gatherEnds_4 fu pts n (nI (cntL (fun i => bt pts i) k)) (nI k) x K = K (nI n') x' ∧ (∀ j, j ≠ 37 → x' j = x j) ∧ ∀ i, i < n' → x' 37 i = nI (e i) := by
  intro d
  induction d with
  | zero =>
    intro k n x hk hn h
    obtain ⟨n, rfl⟩ : ∃ z, n = z + 1 := ⟨n - 1, by omega⟩
    have : k = 24 := by omega
    subst this
    rw [hn'] at h ⊢
    refine ⟨x, ?_, fun _ _ => rfl, h⟩
    rw [L_X3_gatherEnds_4, if_pos (show (24 : Int32) ≤ nI 24 from nI_le (a := 24) (by omega) (by omega))]
  | succ d ih =>
    intro k n x hk hn h
    obtain ⟨n, rfl⟩ : ∃ z, n = z + 1 := ⟨n - 1, by omega⟩
    rw [L_X3_gatherEnds_4, if_neg (show ¬ (24 : Int32) ≤ nI k from nI_ge (b := 24) (by omega) (by omega)), nI_1, nI_1]
    have hcs := cntL_s (fun i => bt pts i) k
    by_cases hb : bt pts k = true
    · have hcs' : cntL (fun i => bt pts i) (k + 1) = cntL (fun i => bt pts i) k + 1 := by rw [hcs, hb]; rfl
      have mono : ∀ (f : Nat → Bool) (b a : Nat), cntL f a ≤ cntL f (a + b) := fun f b => by
        induction b with
        | zero => intro a; exact Nat.le_refl _
        | succ b ih => intro a; rw [← Nat.add_assoc, cntL_s]; have := ih a; omega
      have hm2 := mono (fun i => bt pts i) d (k + 1)
      rw [show k + 1 + d = 24 by omega, hn', hcs'] at hm2
      have hek := hE.2 k (by omega) hb
      rw [if_neg (fun h => by rw [(bit_eq0 (by omega)).mp h] at hb; cases hb), if_neg (show ¬ (5 : Int32) ≤ nI _ from nI_ge (b := 5) (by omega) (by omega)), chk_ok (by omega) (by omega), letm_eq, cN (by omega), ← hcs']
      obtain ⟨x', k1, k2, k3⟩ := ih (k + 1) n (wr x 37 (cntL (fun i => bt pts i) k) (nI k)) (by omega) (by omega) (fun i hi => by
        rw [wr_row]
        by_cases e1 : i = cntL (fun i => bt pts i) k
        · rw [e1, upd_s, hek]
        · rw [upd_n e1]; exact h i (by omega))
      exact ⟨x', k1, fun j hj => by rw [k2 j hj, wr_ne hj], k3⟩
    · have hb' : bt pts k = false := by simpa using hb
      have hcs' : cntL (fun i => bt pts i) (k + 1) = cntL (fun i => bt pts i) k := by rw [hcs, hb']; rfl
      rw [if_pos ((bit_eq0 (by omega)).mpr hb')]
      obtain ⟨x', k1, k2, k3⟩ := ih (k + 1) n x (by omega) (by omega) (by rw [hcs']; exact h)
      rw [hcs'] at k1
      exact ⟨x', k1, k2, k3⟩
theorem popL_cnt (m : Int32) : ∀ k, popL m k = cntL (fun i => bt m i) k := by
  intro k
  induction k with
  | zero => rfl
  | succ k ih => rw [cntL_s, ← ih]; rfl
theorem fewest_x {fu n' : Nat} {pts : Int32} {e : Nat → Nat} {B : Nat → Int32} {x : Mem} (hfu : 100 ≤ fu) (h0 : 0 < n') (hn5 : n' ≤ 5) (hE : ENDS pts e) (hn' : cntL (fun i => bt pts i) 24 = n') (hB : ∀ p, p < 24 → x 35 p = B p ∧ x 36 p = B (24 + p)) : ∃ (x' : Mem) (r : Int32), F_X3_fewestNew fu pts x = some (r, x') ∧ (∀ j, j ≠ 37 → j ≠ 38 → x' j = x j) ∧ ((n' = 1 ∧ r = 0) ∨ (1 < n' ∧ ∃ D, FAM 1000 (n' - 1) e B D (2 ^ (n' - 1)) ∧ r = if 1000 ≤ D (2 ^ (n' - 1) - 1) (e (n' - 1)) then -4 else nI (D (2 ^ (n' - 1) - 1) (e (n' - 1))))) := by
  obtain ⟨x1, a1, a2, a3⟩ := e_gather (fu := fu) hn5 hE hn' (fun l2_2 x_3 => (some (l2_2, x_3))) 24 0 fu x (by omega) (by omega) (fun i hi => absurd hi (Nat.not_lt_zero _))
  have a1' : F_X3_gatherEnds fu pts x = some (nI n', x1) := a1
  have ep : nI n' - 1 = nI (n' - 1) := by
    have := nI_pred (n' - 1)
    rw [show n' - 1 + 1 = n' by omega] at this
    exact this
  unfold F_X3_fewestNew
  rw [a1', cl_some', letv_eq, ep]
  by_cases h1 : n' = 1
  · subst h1
    rw [if_neg (show ¬ (1 : Int32) ≤ nI (1 - 1) by decide)]
    exact ⟨x1, 0, rfl, fun j j1 _ => a2 j j1, Or.inl ⟨rfl, rfl⟩⟩
  · generalize hl : n' - 1 = l
    have hp4 : 2 ^ l ≤ 2 ^ 4 := Nat.pow_le_pow_right (n := 2) (by omega) (by omega)
    have hp1 : 2 ^ 1 ≤ 2 ^ l := Nat.pow_le_pow_right (n := 2) (by omega) (by omega)
    have ep2 : nI (2 ^ l) - 1 = nI (2 ^ l - 1) := by
      have := nI_pred (2 ^ l - 1)
      rw [show 2 ^ l - 1 + 1 = 2 ^ l by omega] at this
      exact this
    rw [if_pos (show (1 : Int32) ≤ nI l from nI_le (a := 1) (by omega) (by omega)), shl_one (by omega), ep2, letv_eq]
    obtain ⟨x2, D, b1, b2, b3, b4⟩ := e_few (fu := fu) (l := l) (e := e) (B := B) hfu (by omega) (fun i _ => hE.1 i) (fun x_8 => (chk (nI l) 5 (chk ((nI (2 ^ l - 1) * 24) + (x_8 37 (nI l).toNatClampNeg)) 384 (letv (x_8 38 (((nI (2 ^ l - 1) * 24) + (x_8 37 (nI l).toNatClampNeg)) : Int32).toNatClampNeg) (fun l4_9 => (if (1000 : Int32) ≤ l4_9 then (some ((-4), x_8)) else (some (l4_9, x_8)))))))) (2 ^ l - 1) 1 fu x1 (fun _ _ => 0) (by omega) (by omega) (by omega) (fun i hi => a3 i (by omega)) (fun p hp => by rw [a2 35 (by decide), a2 36 (by decide)]; exact hB p hp) (fun s s1 s2 => absurd s2 (by omega)) (fun s s1 s2 => absurd s2 (by omega))
    have b1' : L_X3_fewestNew_24 fu (nI l) (nI (2 ^ l - 1)) fu 1 x1 _ = _ := b1
    have em : nI (2 ^ l - 1) * 24 = nI ((2 ^ l - 1) * 24) := pk_mul _ 24
    have hel := hE.1 l
    have e37 : x2 37 l = nI (e l) := by rw [b2 37 (by decide)]; exact a3 l (by omega)
    have hD := fam_le b3 (set := 2 ^ l - 1) (by omega) (by omega) hel
    refine ⟨x2, _, ?_, fun j j1 j2 => by rw [b2 j j2, a2 j j1], Or.inr ⟨by omega, D, b3, rfl⟩⟩
    rw [b1', chk_ok (by omega) (by omega), cN (by omega), e37, em, nI_add, chk_ok (by omega) (by omega), letv_eq, cN (by omega), b4 (2 ^ l - 1) (by omega) (by omega) (e l) hel]
    by_cases h2 : 1000 ≤ D (2 ^ l - 1) (e l)
    · rw [if_pos h2, if_pos (show (1000 : Int32) ≤ nI _ from nI_le (a := 1000) h2 (by omega))]
    · rw [if_neg h2, if_neg (show ¬ (1000 : Int32) ≤ nI _ from nI_ge (b := 1000) (by omega) (by omega))]
theorem wires_y {fu n' : Nat} {pts : Int32} {e : Nat → Nat} {B : Nat → Int32} {y : Mem} (hfu : 1000 ≤ fu) (h0 : 0 < n') (hn5 : n' ≤ 5) (hE : ENDS pts e) (hn' : cntL (fun i => bt pts i) 24 = n') (hB : y 25 = B) : ∃ (y' : Mem) (D : Nat → Nat → Nat) (m : Nat), L_X10_wires_27 fu pts (nI n') fu 0 y (fun x_5 => (L_X10_wires_54 fu pts (nI n') fu 0 0 x_5 (fun x_7 => (L_X10_wires_98 fu (nI n') fu 1 x_7 (fun x_16 => (L_X10_wires_251 fu (nI n') x_16 fu 9999 0 (fun l4_18 => (if l4_18 = 9999 then (some ((-4), x_16)) else (some (l4_18, x_16))))))))))  = some (if m = 9999 then -4 else nI m, y') ∧ (∀ j, j ≠ 27 → y' j = y j) ∧ FAM 9999 n' e B D (2 ^ n') ∧ m ≤ 9999 ∧ (m = 9999 ∨ ∃ p, p < 24 ∧ m = D (2 ^ n' - 1) p) ∧ ∀ p, p < 24 → m ≤ D (2 ^ n' - 1) p := by
  obtain ⟨y1, a1, a2, a3⟩ := e_m27 (fu := fu) (l1 := pts) (l2 := nI n') (fun x_5 => (L_X10_wires_54 fu pts (nI n') fu 0 0 x_5 (fun x_7 => (L_X10_wires_98 fu (nI n') fu 1 x_7 (fun x_16 => (L_X10_wires_251 fu (nI n') x_16 fu 9999 0 (fun l4_18 => (if l4_18 = 9999 then (some ((-4), x_16)) else (some (l4_18, x_16)))))))))) 768 0 fu y (by omega) (by omega) (fun j hj => absurd hj (by omega))
  obtain ⟨y2, I, b1, b2, b3⟩ := e_m54 (fu := fu) (l2 := nI n') hn5 hE hn' (fun x_7 => (L_X10_wires_98 fu (nI n') fu 1 x_7 (fun x_16 => (L_X10_wires_251 fu (nI n') x_16 fu 9999 0 (fun l4_18 => (if l4_18 = 9999 then (some ((-4), x_16)) else (some (l4_18, x_16)))))))) 24 0 fu y1 (fun _ _ => 9999) (by omega) (by omega) (fun s hs => ⟨fun p hp => a3 _ (by omega), fun p hp => ⟨Nat.le_refl _, fun i hi => absurd hi (Nat.not_lt_zero _), Or.inl rfl⟩⟩)
  have hp1 : 2 ^ 1 ≤ 2 ^ n' := Nat.pow_le_pow_right (n := 2) (by omega) h0
  have hp5 : 2 ^ n' ≤ 2 ^ 5 := Nat.pow_le_pow_right (n := 2) (by omega) hn5
  obtain ⟨y3, D, c1, c2, c3, c4⟩ := e_m98 (fu := fu) (e := e) (B := B) (I := I) (by omega) hn5 (fun s hs => (b3 s hs).2) (fun x_16 => (L_X10_wires_251 fu (nI n') x_16 fu 9999 0 (fun l4_18 => (if l4_18 = 9999 then (some ((-4), x_16)) else (some (l4_18, x_16)))))) (2 ^ n' - 1) 1 fu y2 (fun _ _ => 0) (by omega) (by omega) (by omega) (by rw [b2 25 (by decide), a2 25 (by decide)]; exact hB) (fun s s1 s2 => absurd s2 (by omega)) (fun s s1 s2 => absurd s2 (by omega)) (fun s s1 s2 => (b3 s s2).1)
  obtain ⟨m, d1, d2, d3, d4⟩ := e_m251 (fu := fu) hn5 h0 (c4 (2 ^ n' - 1) (by omega) (by omega)) (fun p hp => fam_le c3 (by omega) (by omega) hp) (fun l4_18 => (if l4_18 = 9999 then (some ((-4), y3)) else (some (l4_18, y3)))) 24 0 fu 9999 (by omega) (by omega) (by omega) (Or.inl rfl) (fun p hp => absurd hp (by omega))
  refine ⟨y3, D, m, ?_, fun j hj => by rw [c2 j hj, b2 j hj, a2 j hj], c3, d2, d3, d4⟩
  refine Eq.trans a1 (Eq.trans b1 (Eq.trans c1 (Eq.trans d1 ?_)))
  by_cases h : m = 9999
  · rw [if_pos h, if_pos (by rw [h]; rfl)]
  · rw [if_neg h, if_neg (show ¬ nI m = 9999 from lit_ne m 9999 (by omega) (by omega) h)]
theorem S_wires (fu : Nat) (hfu : 1000 ≤ fu) : St_wires fu Rel := by
  intro a x y hR
  have h12 := hR.2.2.2.2.2.2.2.2.2.2.2.2.2
  have bad : (∀ fu x, F_X9_within fu a 16777216 x = some 0) → F_X10_in fu a 1 16777215 y = some 0 → ∃ (r : Int32) (x' y' : Mem), (F_X9_wires fu a x) = some (r, x') ∧ (F_X10_wires fu a y) = some (r, y') ∧ Rel x' y' := fun w1 w2 => by
    refine ⟨-1, x, y, ?_, ?_, hR⟩
    · unfold F_X9_wires; rw [w1, clp_some, if_pos rfl]
    · unfold F_X10_wires; rw [w2, clp_some, if_pos rfl]
  rcases dom2 a 16777216 16777216 16777215 rfl rfl (by omega) with ⟨c, hc, rfl, w1, w2, -, -, hcle⟩ | ⟨w1, w2, h⟩
  · unfold F_X9_wires F_X10_wires
    rw [w1, clp_some, if_neg (show ¬ (1 : Int32) = 0 by decide), bitCount_eq hc, clp_some, bits_eq (by omega), clp_some, clp_some]
    have epop : popI (nI c) = nI (cntL (fun i => bt (nI c) i) 24) := by unfold popI; rw [popL_cnt]
    rw [epop]
    have hn24 := cntL_le (fun i => bt (nI c) i) 24
    rcases Nat.eq_zero_or_pos c with hc0 | hc0
    · subst hc0
      have e0 : cntL (fun i => bt (nI 0) i) 24 = 0 := cntL_zero 24 (fun i _ => b_0 i)
      rw [e0, if_pos (show nI 0 < 1 by decide), in_f (Or.inl (by decide)), clp_some, if_pos rfl]
      exact ⟨-1, x, y, rfl, rfl, hR⟩
    · have hn0 : 0 < cntL (fun i => bt (nI c) i) 24 := by
        rcases Nat.eq_zero_or_pos (cntL (fun i => bt (nI c) i) 24) with h | h
        · exfalso
          have z : ∀ i, i < 24 → bt (nI c) i = false := fun i hi => by
            cases hb : bt (nI c) i
            · rfl
            · exfalso
              have := cntL_lt (P := fun _ => false) (Q := fun i => bt (nI c) i) 24 hi (fun j _ h => absurd h (by decide)) hb rfl
              omega
          have : nI c = 0 := (b_zero_iff _).mpr (fun i hi => by
            rcases Nat.lt_or_ge i 24 with h2 | h2
            · exact z i h2
            · exact bt_hi (n := 24) (by omega) (by omega) h2)
          exact nI_ne0 hc0 (by omega) this
        · exact h
      rw [in_t (show ¬ nI c < 1 from nI_nlt (b := 1) (by omega) (by omega)) (nlt_of_le hcle), clp_some, if_neg (show ¬ (1 : Int32) = 0 by decide), if_neg (show ¬ nI _ < 1 from nI_nlt (b := 1) (by omega) (by omega))]
      generalize hn' : cntL (fun i => bt (nI c) i) 24 = n' at *
      by_cases h5 : n' ≤ 5
      · have h5' : nI n' ≤ 5 := show nI n' ≤ nI 5 from nI_le h5 (by omega)
        rw [if_pos h5', if_pos h5']
        obtain ⟨e, hE⟩ := ends_ex (nI c)
        obtain ⟨x', r, f1, f2, f3⟩ := fewest_x (fu := fu) (B := y 25) (x := x) (by omega) hn0 h5 hE hn' (fun p hp => ⟨(h12 p hp).1, (h12 p hp).2.1⟩)
        obtain ⟨y', D, m, g1, g2, g3, g4, g5, g6⟩ := wires_y (fu := fu) (B := y 25) (y := y) hfu hn0 h5 hE hn' rfl
        have hR' : Rel x' y' := Rel_scratch hR (fun b _ _ _ _ _ b37 b38 => f2 b b37 b38) (fun b _ _ b27 => g2 b b27) (fun i _ _ => by rw [g2 0 (by decide)])
        refine ⟨r, x', y', by rw [f1, cl_some'], ?_, hR'⟩
        rw [g1]
        congr 2
        rcases f3 with ⟨e1, e2⟩ | ⟨h1, Dc, k1, k2⟩
        · subst e1
          obtain ⟨G, m1, m2⟩ := g3 1 (by omega) (by decide)
          have q1 := m1.2.1 (e 0) (hE.1 0)
          have q2 := (m2 (e 0) (hE.1 0)).2.1 0 (by omega) rfl rfl
          have q3 := g6 (e 0) (hE.1 0)
          have q4 : D (2 ^ 1 - 1) (e 0) = D 1 (e 0) := rfl
          have : m = 0 := by omega
          rw [this, e2, if_neg (by omega)]
          rfl
        · generalize hl : n' - 1 = l at *
          have hn : n' = l + 1 := by omega
          have hp4 : 2 ^ l ≤ 2 ^ 4 := Nat.pow_le_pow_right (n := 2) (by omega) (by omega)
          have hp1 : 2 ^ 1 ≤ 2 ^ l := Nat.pow_le_pow_right (n := 2) (by omega) (by omega)
          have hpn : 2 ^ l ≤ 2 ^ n' := Nat.pow_le_pow_right (n := 2) (by omega) (by omega)
          obtain ⟨u1, u2⟩ := fam_full hn (by omega) h5 (fun i _ => hE.1 i) g3
          have v1 := fam_min hn k1 g3 (2 ^ l) (2 ^ l - 1) (by omega) (by omega) (by omega) (e l) (hE.1 l)
          have v2 := fam_bound g3 (2 ^ l) (2 ^ l - 1) (by omega) (by omega) (by omega) (e l) (hE.1 l)
          have v3 := g6 (e l) (hE.1 l)
          have v4 := fam_le g3 (set := 2 ^ l - 1) (by omega) (by omega) (hE.1 l)
          have v5 : D (2 ^ l - 1) (e l) ≤ m := by
            rcases g5 with h | ⟨p, hp, h⟩
            · omega
            · rw [h]; exact u1 p hp
          have v6 : m = D (2 ^ l - 1) (e l) := by omega
          rw [k2, v1, v6]
          rcases v2 with h | h
          · rw [h]; rfl
          · rw [if_neg (by omega), if_neg (by omega)]
            congr 1; omega
      · have h5' : ¬ nI n' ≤ 5 := show ¬ nI n' ≤ nI 5 from nI_ge (by omega) (by omega)
        rw [if_neg h5', if_neg h5']
        exact ⟨-1, x, y, rfl, rfl, hR⟩
  · refine bad w1 (in_f ?_)
    rcases h with h | h
    · left
      rw [Int32.lt_iff_toInt_lt] at h ⊢
      have e1 : (1 : Int32).toInt = 1 := rfl
      rw [toInt_lit0] at h
      omega
    · exact Or.inr h

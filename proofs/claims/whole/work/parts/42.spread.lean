/-! ===== wires: spreading ===== -/
def Row (m : Nat → Int32) (R : Nat) (c : Nat → Nat) : Prop := ∀ p, p < 24 → m (R + p) = nI (c p)
def Out (m m' : Nat → Int32) (R : Nat) : Prop := ∀ j, j < R ∨ R + 24 ≤ j → m' j = m j
theorem Row_upd {m : Nat → Int32} {R q v : Nat} {c : Nat → Nat} (h : Row m R c) : Row (upd m (R + q) (nI v)) R (nup c q v) := by
  intro p hp
  by_cases e : p = q
  · subst e; rw [upd_s, nup_s]
  · rw [upd_n (by omega), nup_n e]; exact h p hp
theorem Out_upd {m : Nat → Int32} {R q : Nat} {v : Int32} (hq : q < 24) : Out m (upd m (R + q) v) R := fun j hj => upd_n (by omega)
theorem Out_tr {m m' m'' : Nat → Int32} {R : Nat} (h : Out m m' R) (h' : Out m' m'' R) : Out m m'' R := fun j hj => (h' j hj).trans (h j hj)
theorem Out_rfl (m : Nat → Int32) (R : Nat) : Out m m R := fun _ _ => rfl
theorem wgt_nI (v : Int32) : (if v = 2 then (0 : Int32) else 1) = nI (wgt v) := by
  unfold wgt
  by_cases h : v = 2
  · rw [if_pos h, if_pos h]; rfl
  · rw [if_neg h, if_neg h]; rfl
def D2 (D : Nat → Nat → Prop) (a b : Nat) : Nat → Nat → Prop := fun a' b' => (D a' b' ∨ (a' = a ∧ b' = b)) ∨ (a' = b ∧ b' = a)
theorem even_eq {fu R a b : Nat} {v : Int32} {x : Mem} {B : Nat → Int32} {c0 c : Nat → Nat} {D : Nat → Nat → Prop} {fl : Bool} (hR : R + 24 ≤ 384) (ha : a < 24) (hb : b < 24) (hab : ¬ a = b) (hrow : Row (x 38) R c) (hle : ∀ p, p < 24 → c p ≤ 1000) (hE : ¬ v = 1 → EDG B a b (wgt v)) (hN : v = 1 → ∀ s, ¬ EDG B a b s) (hI : Iv B c0 D c fl) : ∃ (x' : Mem) (c' : Nat → Nat) (r : Bool), F_X3_even fu (nI (R + a)) (nI (R + b)) v x = some (if r then 1 else 0, x') ∧ (∀ k, k ≠ 38 → x' k = x k) ∧ Out (x 38) (x' 38) R ∧ Row (x' 38) R c' ∧ (∀ p, p < 24 → c' p ≤ 1000) ∧ Iv B c0 (D2 D a b) c' (fl || r) := by
  have hca : ∀ M : Res, chk (nI (R + a)) 384 M = M := fun M => chk_ok (by omega) (by omega)
  have hcb : ∀ M : Res, chk (nI (R + b)) 384 M = M := fun M => chk_ok (by omega) (by omega)
  unfold F_X3_even
  by_cases h1 : v = 1
  · rw [if_pos h1, retz_0]
    refine ⟨x, c, false, rfl, fun _ _ => rfl, Out_rfl _ _, hrow, hle, ?_⟩
    rw [Bool.or_false]
    refine Iv_done hI (fun a' b' s he hh => ?_)
    rcases hh with (hh | ⟨rfl, rfl⟩) | ⟨rfl, rfl⟩
    · exact hh
    · exact absurd he (hN h1 s)
    · exact absurd (EDG_symm he) (hN h1 s)
  · have hEd := hE h1
    have hu : ∀ s', EDG B a b s' → s' = wgt v := fun s' h => EDG_uniq hEd h
    have hu' : ∀ s', EDG B b a s' → s' = wgt v := fun s' h => EDG_uniq hEd (EDG_symm h)
    have la := hle a ha
    have lb := hle b hb
    have lw := wgt_le v
    have jnv : ∀ (M : Int32 → Res), jn (fun (k_1 : Int32 → Res) => (if v = 2 then (k_1 0) else (k_1 1))) M = M (nI (wgt v)) := fun M => by
      rw [jn_eq, ← wgt_nI]
      by_cases h : v = 2
      · rw [if_pos h, if_pos h]
      · rw [if_neg h, if_neg h]
    rw [if_neg h1, jnv]
    simp only [hca, hcb, cN (show R + a < 2 ^ 31 by omega), cN (show R + b < 2 ^ 31 by omega), hrow a ha, hrow b hb, nI_add, letm_eq, retz_0, retz_1]
    by_cases q1 : c b ≤ c a + wgt v
    · rw [if_pos (nI_le q1 (by omega))]
      have hI1 := Iv_keep hI hEd q1 hu
      by_cases q2 : c a ≤ c b + wgt v
      · rw [if_pos (nI_le q2 (by omega))]
        refine ⟨x, c, false, rfl, fun _ _ => rfl, Out_rfl _ _, hrow, hle, ?_⟩
        rw [Bool.or_false]
        exact Iv_keep hI1 (EDG_symm hEd) q2 hu'
      · rw [if_neg (nI_ge (by omega) (by omega))]
        refine ⟨wr x 38 (R + a) (nI (c b + wgt v)), nup c a (c b + wgt v), true, rfl, fun k hk => wr_ne hk, ?_, ?_, fun p hp => ?_, ?_⟩
        · rw [wr_row]; exact Out_upd ha
        · rw [wr_row]; exact Row_upd hrow
        · by_cases e : p = a
          · rw [e, nup_s]; omega
          · rw [nup_n e]; exact hle p hp
        · rw [Bool.or_true]
          exact Iv_take hI1 (EDG_symm hEd) (by omega) hu'
    · rw [if_neg (nI_ge (by omega) (by omega))]
      have hI1 := Iv_take hI hEd (by omega) hu
      refine ⟨wr x 38 (R + b) (nI (c a + wgt v)), nup c b (c a + wgt v), true, rfl, fun k hk => wr_ne hk, ?_, ?_, fun p hp => ?_, ?_⟩
      · rw [wr_row]; exact Out_upd hb
      · rw [wr_row]; exact Row_upd hrow
      · by_cases e : p = b
        · rw [e, nup_s]; omega
        · rw [nup_n e]; exact hle p hp
      · rw [Bool.or_true]
        refine Iv_keep hI1 (EDG_symm hEd) ?_ hu'
        rw [nup_s, nup_n hab]
        omega
def Dk (k : Nat) : Nat → Nat → Prop := fun a b => a < k ∨ b < k
theorem e_sp19 {fu R : Nat} {B : Nat → Int32} {c0 : Nat → Nat} (hR : R + 24 ≤ 384) (l3 : Int32) (K : Int32 → Mem → Res) : ∀ (d k n : Nat) (x : Mem) (c : Nat → Nat) (fl : Bool), k + d = 24 → d < n → Row (x 38) R c → (∀ p, p < 24 → c p ≤ 1000) → (∀ p, p < 24 → x 35 p = B p ∧ x 36 p = B (24 + p)) → Iv B c0 (Dk k) c fl → ∃ (x' : Mem) (c' : Nat → Nat) (fl' : Bool), L_X3_spread_19 fu (nI R) l3 n (if fl then 1 else 0) (nI k) x K = K (if fl' then 1 else 0) x' ∧ (∀ j, j ≠ 38 → x' j = x j) ∧ Out (x 38) (x' 38) R ∧ Row (x' 38) R c' ∧ (∀ p, p < 24 → c' p ≤ 1000) ∧ Trn B c0 c' fl' := by
  intro d
  induction d with
  | zero =>
    intro k n x c fl hk hn hrow hle hB hI
    obtain ⟨n, rfl⟩ : ∃ z, n = z + 1 := ⟨n - 1, by omega⟩
    have : k = 24 := by omega
    subst this
    refine ⟨x, c, fl, ?_, fun _ _ => rfl, Out_rfl _ _, hrow, hle, Iv_end hI (fun a b s he => Or.inl he.1)⟩
    rw [L_X3_spread_19, if_pos (show (24 : Int32) ≤ nI 24 from nI_le (a := 24) (by omega) (by omega))]
  | succ d ih =>
    intro k n x c fl hk hn hrow hle hB hI
    obtain ⟨n, rfl⟩ : ∃ z, n = z + 1 := ⟨n - 1, by omega⟩
    have hck : ∀ M : Res, chk (nI k) 24 M = M := fun M => chk_ok (by omega) (by omega)
    have erem : nI k - nI k / 6 * 6 = nI (k % 6) := pk_rem (d := 6) (by omega) (by omega) (by omega)
    have e6 : nI k + 6 = nI (k + 6) := nI_add k 6
    have eR6 : nI (R + k) + 6 = nI (R + (k + 6)) := nI_add (R + k) 6
    have eR1 : nI (R + k) + 1 = nI (R + (k + 1)) := nI_add (R + k) 1
    rw [L_X3_spread_19, if_neg (show ¬ (24 : Int32) ≤ nI k from nI_ge (b := 24) (by omega) (by omega)), nz_ok (show ¬ (6 : Int32) = 0 by decide), jn_eq, erem]
    -- what comes after the first
    have second : ∀ (z : Mem) (cz : Nat → Nat) (fz : Bool) (D1 : Nat → Nat → Prop), (∀ j, j ≠ 38 → z j = x j) → Out (x 38) (z 38) R → Row (z 38) R cz → (∀ p, p < 24 → cz p ≤ 1000) → Iv B c0 D1 cz fz → (∀ a b s, EDG B a b s → Dk (k + 1) a b → D1 a b ∨ (a = k ∧ b = k + 6) ∨ (a = k + 6 ∧ b = k)) → ∃ (x' : Mem) (c' : Nat → Nat) (fl' : Bool), (if (24 : Int32) ≤ nI k + 6 then (L_X3_spread_19 fu (nI R) l3 n (if fz then 1 else 0) (nI k + 1) z K) else (chk (nI k) 24 (cl (F_X3_even fu (nI R + nI k) ((nI R + nI k) + 6) (z 36 (nI k).toNatClampNeg) z) (fun r_6 x_7 => (if r_6 = 0 then (L_X3_spread_19 fu (nI R) l3 n (if fz then 1 else 0) (nI k + 1) x_7 K) else (L_X3_spread_19 fu (nI R) l3 n 1 (nI k + 1) x_7 K)))))) = K (if fl' then 1 else 0) x' ∧ (∀ j, j ≠ 38 → x' j = x j) ∧ Out (x 38) (x' 38) R ∧ Row (x' 38) R c' ∧ (∀ p, p < 24 → c' p ≤ 1000) ∧ Trn B c0 c' fl' := by
      intro z cz fz D1 z1 z2 z3 z4 z5 z6
      have hB' : ∀ p, p < 24 → z 35 p = B p ∧ z 36 p = B (24 + p) := fun p hp => by rw [z1 35 (by decide), z1 36 (by decide)]; exact hB p hp
      rw [e6, nI_1]
      by_cases h24 : k + 6 < 24
      · rw [if_neg (show ¬ (24 : Int32) ≤ nI (k + 6) from nI_ge (b := 24) (by omega) (by omega)), hck, nI_add, eR6, cN (by omega), (hB' k (by omega)).2]
        obtain ⟨x1, c1, r, g1, g2, g3, g4, g5, g6⟩ := even_eq (fu := fu) (a := k) (b := k + 6) (v := B (24 + k)) hR (by omega) h24 (by omega) z3 z4 (fun h => ⟨by omega, h24, Or.inl (Or.inr ⟨rfl, h, rfl⟩)⟩) (fun h s he => by
          rcases he.2.2 with (⟨q1, -⟩ | ⟨q1, q2, -⟩) | (⟨q1, -⟩ | ⟨q1, -⟩)
          · omega
          · exact q2 h
          · omega
          · omega) z5
        have g7 : Iv B c0 (Dk (k + 1)) c1 (fz || r) := Iv_done g6 (fun a b s he hh => by
          rcases z6 a b s he hh with h | h | h
          · exact Or.inl (Or.inl h)
          · exact Or.inl (Or.inr h)
          · exact Or.inr h)
        obtain ⟨x', c', fl', k1, k2, k3, k4, k5, k6⟩ := ih (k + 1) n x1 c1 (fz || r) (by omega) (by omega) g4 g5 (fun p hp => by rw [g2 35 (by decide), g2 36 (by decide)]; exact hB' p hp) g7
        refine ⟨x', c', fl', ?_, fun j hj => by rw [k2 j hj, g2 j hj, z1 j hj], Out_tr z2 (Out_tr g3 k3), k4, k5, k6⟩
        rw [g1, cl_some', ← k1]
        cases r
        · rw [if_pos (show (if false = true then (1 : Int32) else 0) = 0 from rfl), Bool.or_false]
        · rw [if_pos rfl, if_neg (show ¬ (1 : Int32) = 0 by decide), Bool.or_true, if_pos rfl]
      · rw [if_pos (show (24 : Int32) ≤ nI (k + 6) from nI_le (a := 24) (by omega) (by omega))]
        have g7 : Iv B c0 (Dk (k + 1)) cz fz := Iv_done z5 (fun a b s he hh => by
          have := he.1
          have := he.2.1
          rcases z6 a b s he hh with h | h | h
          · exact h
          · omega
          · omega)
        obtain ⟨x', c', fl', k1, k2, k3, k4, k5, k6⟩ := ih (k + 1) n z cz fz (by omega) (by omega) z3 z4 hB' g7
        exact ⟨x', c', fl', k1, fun j hj => by rw [k2 j hj, z1 j hj], Out_tr z2 k3, k4, k5, k6⟩
    have near : ∀ a b s, EDG B a b s → Dk (k + 1) a b → Dk k a b ∨ (a = k ∧ b = k + 1 ∧ k % 6 ≠ 5) ∨ (a = k + 1 ∧ b = k ∧ k % 6 ≠ 5) ∨ (a = k ∧ b = k + 6) ∨ (a = k + 6 ∧ b = k) := by
      intro a b s he hh
      unfold Dk at hh ⊢
      rcases he.2.2 with (⟨q1, q2, -⟩ | ⟨q1, -⟩) | (⟨q1, q2, -⟩ | ⟨q1, -⟩) <;> omega
    by_cases h5 : k % 6 = 5
    · rw [h5, if_pos (show nI 5 = 5 from rfl)]
      exact second x c fl (Dk k) (fun _ _ => rfl) (Out_rfl _ _) hrow hle hI (fun a b s he hh => by
        rcases near a b s he hh with h | h | h | h | h
        · exact Or.inl h
        · omega
        · omega
        · exact Or.inr (Or.inl h)
        · exact Or.inr (Or.inr h))
    · have h23 : k + 1 < 24 := by omega
      rw [if_neg (show ¬ nI (k % 6) = 5 from lit_ne _ 5 (by omega) (by omega) h5), hck, nI_add, eR1, cN (by omega), (hB k (by omega)).1]
      obtain ⟨x1, c1, r, g1, g2, g3, g4, g5, g6⟩ := even_eq (fu := fu) (a := k) (b := k + 1) (v := B k) hR (by omega) h23 (by omega) hrow hle (fun h => ⟨by omega, h23, Or.inl (Or.inl ⟨rfl, h5, h, rfl⟩)⟩) (fun h s he => by
        rcases he.2.2 with (⟨q1, -, q2, -⟩ | ⟨q1, -⟩) | (⟨q1, -⟩ | ⟨q1, -⟩)
        · exact q2 h
        · omega
        · omega
        · omega) hI
      have fin := second x1 c1 (fl || r) (D2 (Dk k) k (k + 1)) g2 g3 g4 g5 g6 (fun a b s he hh => by
        rcases near a b s he hh with h | h | h | h | h
        · exact Or.inl (Or.inl (Or.inl h))
        · exact Or.inl (Or.inl (Or.inr ⟨h.1, h.2.1⟩))
        · exact Or.inl (Or.inr ⟨h.1, h.2.1⟩)
        · exact Or.inr (Or.inl h)
        · exact Or.inr (Or.inr h))
      rw [nI_add, cN (show k < 2 ^ 31 by omega)] at fin
      rw [g1, cl_some']
      cases r
      · rw [Bool.or_false] at fin
        rw [if_pos (show (if false = true then (1 : Int32) else 0) = 0 from rfl)]
        exact fin
      · rw [Bool.or_true, if_pos rfl] at fin
        rw [if_pos rfl, if_neg (show ¬ (1 : Int32) = 0 by decide)]
        exact fin
theorem Row_congr {m : Nat → Int32} {R : Nat} {c f : Nat → Nat} (h : Row m R c) (e : ∀ p, p < 24 → c p = f p) : Row m R f := fun p hp => by rw [h p hp, e p hp]
theorem e_sp4 {fu R : Nat} {B : Nat → Int32} {G f : Nat → Nat} (hfu : 100 ≤ fu) (hR : R + 24 ≤ 384) (hc : CLO B G f) (K : Mem → Res) : ∀ (d t n : Nat) (x : Mem) (c : Nat → Nat) (fl : Bool), t + d = 24 → d < n → Row (x 38) R c → (∀ p, p < 24 → c p ≤ 1000) → (∀ p, p < 24 → x 35 p = B p ∧ x 36 p = B (24 + p)) → Stt B G f t c → (fl = false → ∀ p, p < 24 → c p = f p) → ∃ (x' : Mem), L_X3_spread_4 fu (nI R) n (if fl then 1 else 0) (nI t) x K = K x' ∧ (∀ j, j ≠ 38 → x' j = x j) ∧ Out (x 38) (x' 38) R ∧ Row (x' 38) R f := by
  intro d
  induction d with
  | zero =>
    intro t n x c fl ht hn hrow hle hB hS hfl
    obtain ⟨n, rfl⟩ : ∃ z, n = z + 1 := ⟨n - 1, by omega⟩
    have : t = 24 := by omega
    subst this
    refine ⟨x, ?_, fun _ _ => rfl, Out_rfl _ _, Row_congr hrow (Stt_all hc (by omega) hS)⟩
    rw [L_X3_spread_4, if_pos (show (24 : Int32) ≤ nI 24 from nI_le (a := 24) (by omega) (by omega))]
  | succ d ih =>
    intro t n x c fl ht hn hrow hle hB hS hfl
    obtain ⟨n, rfl⟩ : ∃ z, n = z + 1 := ⟨n - 1, by omega⟩
    rw [L_X3_spread_4, if_neg (show ¬ (24 : Int32) ≤ nI t from nI_ge (b := 24) (by omega) (by omega))]
    cases fl
    · rw [if_pos (show (if false = true then (1 : Int32) else 0) = 0 from rfl)]
      exact ⟨x, rfl, fun _ _ => rfl, Out_rfl _ _, Row_congr hrow (hfl rfl)⟩
    · rw [if_pos rfl, if_neg (show ¬ (1 : Int32) = 0 by decide)]
      obtain ⟨x1, c1, fl1, g1, g2, g3, g4, g5, g6⟩ := e_sp19 (fu := fu) (B := B) (c0 := c) hR (nI t) (fun l2_8 x_9 => (L_X3_spread_4 fu (nI R) n l2_8 (nI t + 1) x_9 K)) 24 0 fu x c false (by omega) (by omega) hrow hle hB (Iv_done (Iv_0 B c) (fun a b s he hh => by unfold Dk at hh; omega))
      obtain ⟨s1, s2⟩ := Stt_s hc hS g6
      obtain ⟨x', k1, k2, k3, k4⟩ := ih (t + 1) n x1 c1 fl1 (by omega) (by omega) g4 g5 (fun p hp => by rw [g2 35 (by decide), g2 36 (by decide)]; exact hB p hp) s1 s2
      refine ⟨x', ?_, fun j hj => by rw [k2 j hj, g2 j hj], Out_tr g3 k3, k4⟩
      refine Eq.trans g1 ?_
      rw [nI_1, k1]
theorem spread_x {fu R : Nat} {B : Nat → Int32} {G f : Nat → Nat} {x : Mem} (hfu : 100 ≤ fu) (hR : R + 24 ≤ 384) (hc : CLO B G f) (hrow : Row (x 38) R G) (hle : ∀ p, p < 24 → G p ≤ 1000) (hB : ∀ p, p < 24 → x 35 p = B p ∧ x 36 p = B (24 + p)) : ∃ (x' : Mem), F_X3_spread fu (nI R) x = some (0, x') ∧ (∀ j, j ≠ 38 → x' j = x j) ∧ Out (x 38) (x' 38) R ∧ Row (x' 38) R f :=
  e_sp4 hfu hR hc (fun x_10 => (some (0, x_10))) 24 0 fu x G true (by omega) (by omega) hrow hle hB (Stt_0 hc) (fun h => absurd h (by decide))

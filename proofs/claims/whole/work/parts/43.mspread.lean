/-! ===== wires: the reference spreads ===== -/
theorem EG_edg {B : Nat → Int32} {a b s : Nat} (ha : a < 24) (hb : b < 24) : EDG B a b s ↔ ¬ EG a b = 99 ∧ ¬ B (EG a b) = 1 ∧ s = wgt (B (EG a b)) := by
  constructor
  · intro h
    rcases h.2.2 with (⟨q1, q2, q3, q4⟩ | ⟨q1, q3, q4⟩) | (⟨q1, q2, q3, q4⟩ | ⟨q1, q3, q4⟩)
    · have e : EG a b = a := by unfold EG; rw [if_neg (by omega), if_pos (by omega)]; omega
      rw [e]; exact ⟨by omega, q3, q4⟩
    · have e : EG a b = 24 + a := by unfold EG; rw [if_pos (by omega)]; omega
      rw [e]; exact ⟨by omega, q3, q4⟩
    · have e : EG a b = b := by unfold EG; rw [if_neg (by omega), if_pos (by omega)]; omega
      rw [e]; exact ⟨by omega, q3, q4⟩
    · have e : EG a b = 24 + b := by unfold EG; rw [if_pos (by omega)]; omega
      rw [e]; exact ⟨by omega, q3, q4⟩
  · rintro ⟨h1, h2, h3⟩
    refine ⟨ha, hb, ?_⟩
    by_cases h6 : max a b - min a b = 6
    · have e : EG a b = 24 + min a b := by unfold EG; rw [if_pos h6]
      rw [e] at h2 h3
      rcases Nat.lt_or_ge a b with l | l
      · rw [show min a b = a by omega] at h2 h3
        exact Or.inl (Or.inr ⟨by omega, h2, h3⟩)
      · rw [show min a b = b by omega] at h2 h3
        exact Or.inr (Or.inr ⟨by omega, h2, h3⟩)
    · by_cases h7 : max a b - min a b = 1 ∧ min a b % 6 < 5
      · have e : EG a b = min a b := by unfold EG; rw [if_neg h6, if_pos h7]
        rw [e] at h2 h3
        rcases Nat.lt_or_ge a b with l | l
        · rw [show min a b = a by omega] at h2 h3
          exact Or.inl (Or.inl ⟨by omega, by omega, h2, h3⟩)
        · rw [show min a b = b by omega] at h2 h3
          exact Or.inr (Or.inl ⟨by omega, by omega, h2, h3⟩)
      · exfalso
        apply h1
        unfold EG
        rw [if_neg h6, if_neg h7]
theorem EG_lt {a b : Nat} (ha : a < 24) (hb : b < 24) (h : ¬ EG a b = 99) : EG a b < 48 := by
  obtain ⟨-, -, -, e4⟩ := edge_all a ha b hb
  rcases e4 with h' | ⟨h', h2, -, -⟩ | ⟨h', h2, -⟩
  · exact absurd h' h
  · omega
  · omega
def Da (a b : Nat) : Nat → Nat → Prop := fun a' b' => a' < a ∨ (a' = a ∧ b' < b)
theorem e_ms19 {fu set a : Nat} {B : Nat → Int32} {c0 : Nat → Nat} (hset : set < 32) (ha : a < 24) (K : Int32 → Mem → Res) : ∀ (d b n : Nat) (y : Mem) (c : Nat → Nat) (fl : Bool), b + d = 24 → d < n → Row (y 27) (24 * set) c → (∀ p, p < 24 → c p ≤ 9999) → y 25 = B → Iv B c0 (Da a b) c fl → ∃ (y' : Mem) (c' : Nat → Nat) (fl' : Bool), L_X10_spreads_19 fu (nI set) (nI a) n (if fl then 1 else 0) (nI b) y K = K (if fl' then 1 else 0) y' ∧ (∀ j, j ≠ 27 → y' j = y j) ∧ Out (y 27) (y' 27) (24 * set) ∧ Row (y' 27) (24 * set) c' ∧ (∀ p, p < 24 → c' p ≤ 9999) ∧ Iv B c0 (Da (a + 1) 0) c' fl' := by
  intro d
  induction d with
  | zero =>
    intro b n y c fl hb hn hrow hle hB hI
    obtain ⟨n, rfl⟩ : ∃ z, n = z + 1 := ⟨n - 1, by omega⟩
    have : b = 24 := by omega
    subst this
    refine ⟨y, c, fl, ?_, fun _ _ => rfl, Out_rfl _ _, hrow, hle, Iv_done hI (fun a' b' s he hh => by have := he.2.1; unfold Da at hh ⊢; omega)⟩
    rw [L_X10_spreads_19, if_pos (show (24 : Int32) ≤ nI 24 from nI_le (a := 24) (by omega) (by omega))]
  | succ d ih =>
    intro b n y c fl hb hn hrow hle hB hI
    obtain ⟨n, rfl⟩ : ∃ z, n = z + 1 := ⟨n - 1, by omega⟩
    obtain ⟨e1, -, -, -⟩ := edge_all a ha b (by omega)
    rw [L_X10_spreads_19, if_neg (show ¬ (24 : Int32) ≤ nI b from nI_ge (b := 24) (by omega) (by omega)), edge_ind, e1, clp_some, nI_1]
    have skip : (∀ s, ¬ EDG B a b s) → ∃ (y' : Mem) (c' : Nat → Nat) (fl' : Bool), L_X10_spreads_19 fu (nI set) (nI a) n (if fl then 1 else 0) (nI (b + 1)) y K = K (if fl' then 1 else 0) y' ∧ (∀ j, j ≠ 27 → y' j = y j) ∧ Out (y 27) (y' 27) (24 * set) ∧ Row (y' 27) (24 * set) c' ∧ (∀ p, p < 24 → c' p ≤ 9999) ∧ Iv B c0 (Da (a + 1) 0) c' fl' := fun hno =>
      ih (b + 1) n y c fl (by omega) (by omega) hrow hle hB (Iv_done hI (fun a' b' s he hh => by
        by_cases e : a' = a ∧ b' = b
        · rw [e.1, e.2] at he
          exact absurd he (hno s)
        · unfold Da at hh ⊢; omega))
    by_cases h99 : EG a b = 99
    · rw [if_pos h99, if_pos m1_neg]
      exact skip (fun s he => ((EG_edg ha (by omega)).mp he).1 h99)
    · have h48 := EG_lt ha (show b < 24 by omega) h99
      rw [if_neg h99, if_neg (nI_pos (by omega)), chk_ok h48 (by omega), chk_ok h48 (by omega), cN (by omega), hB]
      by_cases hw : B (EG a b) = 1
      · rw [if_pos hw]
        exact skip (fun s he => ((EG_edg ha (by omega)).mp he).2.1 hw)
      · have hE : EDG B a b (wgt (B (EG a b))) := (EG_edg ha (by omega)).mpr ⟨h99, hw, rfl⟩
        have hu : ∀ s', EDG B a b s' → s' = wgt (B (EG a b)) := fun s' h => EDG_uniq hE h
        have jnv : ∀ (M : Int32 → Res), jn (fun (k_2 : Int32 → Res) => (if B (EG a b) = 2 then (k_2 0) else (k_2 1))) M = M (nI (wgt (B (EG a b)))) := fun M => by
          rw [jn_eq, ← wgt_nI]
          by_cases h : B (EG a b) = 2
          · rw [if_pos h, if_pos h]
          · rw [if_neg h, if_neg h]
        have em : (24 : Int32) * nI set = nI (24 * set) := pk_mul 24 set
        have la := hle a ha
        have lb := hle b (by omega)
        have lw := wgt_le (B (EG a b))
        rw [if_neg hw, jnv, em, nI_add, nI_add, letv_eq, chk_ok (by omega) (by omega), chk_ok (by omega) (by omega), chk_ok (by omega) (by omega), letm_eq, cN (by omega), cN (by omega), hrow a ha, hrow b (by omega), nI_add]
        by_cases hle2 : c b ≤ c a + wgt (B (EG a b))
        · rw [if_pos (nI_le hle2 (by omega))]
          exact ih (b + 1) n y c fl (by omega) (by omega) hrow hle hB (Iv_done (Iv_keep hI hE hle2 hu) (fun a' b' s he hh => by unfold Da at hh ⊢; omega))
        · rw [if_neg (nI_ge (by omega) (by omega))]
          obtain ⟨y', c', fl', k1, k2, k3, k4, k5, k6⟩ := ih (b + 1) n (wr y 27 (24 * set + b) (nI (c a + wgt (B (EG a b))))) (nup c b (c a + wgt (B (EG a b)))) true (by omega) (by omega) (by rw [wr_row]; exact Row_upd hrow) (fun p hp => by
            by_cases e : p = b
            · rw [e, nup_s]; omega
            · rw [nup_n e]; exact hle p hp) hB (Iv_done (Iv_take hI hE (by omega) hu) (fun a' b' s he hh => by unfold Da at hh ⊢; omega))
          refine ⟨y', c', fl', k1, fun j hj => by rw [k2 j hj, wr_ne hj], ?_, k4, k5, k6⟩
          rw [wr_row] at k3
          exact Out_tr (Out_upd (by omega)) k3
theorem e_ms10 {fu set : Nat} {B : Nat → Int32} {c0 : Nat → Nat} (hfu : 100 ≤ fu) (hset : set < 32) (K : Int32 → Mem → Res) : ∀ (d a n : Nat) (y : Mem) (c : Nat → Nat) (fl : Bool), a + d = 24 → d < n → Row (y 27) (24 * set) c → (∀ p, p < 24 → c p ≤ 9999) → y 25 = B → Iv B c0 (Da a 0) c fl → ∃ (y' : Mem) (c' : Nat → Nat) (fl' : Bool), L_X10_spreads_10 fu (nI set) n (if fl then 1 else 0) (nI a) y K = K (if fl' then 1 else 0) y' ∧ (∀ j, j ≠ 27 → y' j = y j) ∧ Out (y 27) (y' 27) (24 * set) ∧ Row (y' 27) (24 * set) c' ∧ (∀ p, p < 24 → c' p ≤ 9999) ∧ Trn B c0 c' fl' := by
  intro d
  induction d with
  | zero =>
    intro a n y c fl ha hn hrow hle hB hI
    obtain ⟨n, rfl⟩ : ∃ z, n = z + 1 := ⟨n - 1, by omega⟩
    have : a = 24 := by omega
    subst this
    refine ⟨y, c, fl, ?_, fun _ _ => rfl, Out_rfl _ _, hrow, hle, Iv_end hI (fun a b s he => Or.inl he.1)⟩
    rw [L_X10_spreads_10, if_pos (show (24 : Int32) ≤ nI 24 from nI_le (a := 24) (by omega) (by omega))]
  | succ d ih =>
    intro a n y c fl ha hn hrow hle hB hI
    obtain ⟨n, rfl⟩ : ∃ z, n = z + 1 := ⟨n - 1, by omega⟩
    rw [L_X10_spreads_10, if_neg (show ¬ (24 : Int32) ≤ nI a from nI_ge (b := 24) (by omega) (by omega))]
    obtain ⟨y1, c1, fl1, g1, g2, g3, g4, g5, g6⟩ := e_ms19 (fu := fu) (B := B) (c0 := c0) hset (show a < 24 by omega) (fun l2_6 x_7 => (L_X10_spreads_10 fu (nI set) n l2_6 (nI a + 1) x_7 K)) 24 0 fu y c fl (by omega) (by omega) hrow hle hB hI
    obtain ⟨y', c', fl', k1, k2, k3, k4, k5, k6⟩ := ih (a + 1) n y1 c1 fl1 (by omega) (by omega) g4 g5 (by rw [g2 25 (by decide)]; exact hB) g6
    refine ⟨y', c', fl', ?_, fun j hj => by rw [k2 j hj, g2 j hj], Out_tr g3 k3, k4, k5, k6⟩
    refine Eq.trans g1 ?_
    rw [nI_1, k1]
theorem e_ms2 {fu set : Nat} {B : Nat → Int32} {G f : Nat → Nat} (hfu : 100 ≤ fu) (hset : set < 32) (hc : CLO B G f) (K : Mem → Res) : ∀ (d t n : Nat) (y : Mem) (c : Nat → Nat) (fl : Bool), t + d = 24 → d + 2 < n → Row (y 27) (24 * set) c → (∀ p, p < 24 → c p ≤ 9999) → y 25 = B → Stt B G f t c → (fl = false → ∀ p, p < 24 → c p = f p) → ∃ (y' : Mem), L_X10_spreads_2 fu (nI set) n (if fl then 1 else 0) y K = K y' ∧ (∀ j, j ≠ 27 → y' j = y j) ∧ Out (y 27) (y' 27) (24 * set) ∧ Row (y' 27) (24 * set) f := by
  have exit : ∀ (n : Nat) (y : Mem) (c : Nat → Nat), Row (y 27) (24 * set) c → (∀ p, p < 24 → c p = f p) → ∃ (y' : Mem), L_X10_spreads_2 fu (nI set) (n + 1) (if false = true then 1 else 0) y K = K y' ∧ (∀ j, j ≠ 27 → y' j = y j) ∧ Out (y 27) (y' 27) (24 * set) ∧ Row (y' 27) (24 * set) f := by
    intro n y c hrow he
    refine ⟨y, ?_, fun _ _ => rfl, Out_rfl _ _, Row_congr hrow he⟩
    rw [L_X10_spreads_2, if_pos (show (if false = true then (1 : Int32) else 0) = 0 from rfl)]
  have turn : ∀ (t n : Nat) (y : Mem) (c : Nat → Nat), Row (y 27) (24 * set) c → (∀ p, p < 24 → c p ≤ 9999) → y 25 = B → Stt B G f t c → ∃ (y1 : Mem) (c1 : Nat → Nat) (fl1 : Bool), L_X10_spreads_2 fu (nI set) (n + 1) (if true = true then 1 else 0) y K = L_X10_spreads_2 fu (nI set) n (if fl1 then 1 else 0) y1 K ∧ (∀ j, j ≠ 27 → y1 j = y j) ∧ Out (y 27) (y1 27) (24 * set) ∧ Row (y1 27) (24 * set) c1 ∧ (∀ p, p < 24 → c1 p ≤ 9999) ∧ Trn B c c1 fl1 := by
    intro t n y c hrow hle hB hS
    obtain ⟨y1, c1, fl1, g1, g2, g3, g4, g5, g6⟩ := e_ms10 (fu := fu) (B := B) (c0 := c) hfu hset (fun l2_8 x_9 => (L_X10_spreads_2 fu (nI set) n l2_8 x_9 K)) 24 0 fu y c false (by omega) (by omega) hrow hle hB (Iv_done (Iv_0 B c) (fun a b s he hh => by unfold Da at hh; omega))
    refine ⟨y1, c1, fl1, ?_, g2, g3, g4, g5, g6⟩
    rw [L_X10_spreads_2, if_pos rfl, if_neg (show ¬ (1 : Int32) = 0 by decide)]
    exact g1
  intro d
  induction d with
  | zero =>
    intro t n y c fl ht hn hrow hle hB hS hfl
    obtain ⟨n, rfl⟩ : ∃ z, n = z + 1 + 1 := ⟨n - 2, by omega⟩
    cases fl
    · exact exit _ y c hrow (hfl rfl)
    · obtain ⟨y1, c1, fl1, g1, g2, g3, g4, g5, g6⟩ := turn t (n + 1) y c hrow hle hB hS
      have hall := Stt_all hc (by omega) hS
      have hf := Trn_fix hc.1 hall g6
      subst hf
      obtain ⟨y', k1, k2, k3, k4⟩ := exit n y1 c1 g4 ((Stt_s hc hS g6).2 rfl)
      exact ⟨y', g1.trans k1, fun j hj => by rw [k2 j hj, g2 j hj], Out_tr g3 k3, k4⟩
  | succ d ih =>
    intro t n y c fl ht hn hrow hle hB hS hfl
    obtain ⟨n, rfl⟩ : ∃ z, n = z + 1 := ⟨n - 1, by omega⟩
    cases fl
    · exact exit _ y c hrow (hfl rfl)
    · obtain ⟨y1, c1, fl1, g1, g2, g3, g4, g5, g6⟩ := turn t n y c hrow hle hB hS
      obtain ⟨s1, s2⟩ := Stt_s hc hS g6
      obtain ⟨y', k1, k2, k3, k4⟩ := ih (t + 1) n y1 c1 fl1 (by omega) (by omega) g4 g5 (by rw [g2 25 (by decide)]; exact hB) s1 s2
      exact ⟨y', g1.trans k1, fun j hj => by rw [k2 j hj, g2 j hj], Out_tr g3 k3, k4⟩
theorem spread_y {fu set : Nat} {B : Nat → Int32} {G f : Nat → Nat} {y : Mem} (hfu : 100 ≤ fu) (hset : set < 32) (hc : CLO B G f) (hrow : Row (y 27) (24 * set) G) (hle : ∀ p, p < 24 → G p ≤ 9999) (hB : y 25 = B) : ∃ (y' : Mem), F_X10_spreads fu (nI set) y = some (0, y') ∧ (∀ j, j ≠ 27 → y' j = y j) ∧ Out (y 27) (y' 27) (24 * set) ∧ Row (y' 27) (24 * set) f :=
  e_ms2 hfu hset hc (fun x_10 => (some (0, x_10))) 24 0 fu y G true (by omega) (by omega) hrow hle hB (Stt_0 hc) (fun h => absurd h (by decide))

/-! ===== wires: joining, the component ===== -/
def GP (F n : Nat) (e : Nat → Nat) (D : Nat → Nat → Nat) (set : Nat) (Q : Nat → Nat → Prop) (G : Nat → Nat) : Prop := ∀ p, p < 24 → G p ≤ F ∧ (∀ i, i < n → set = 2 ^ i → p = e i → G p = 0) ∧ (∀ a b, 0 < a → 0 < b → a &&& b = 0 → a + b = set → Q a b → G p ≤ D a p + D b p) ∧ (G p = F ∨ (∃ i, i < n ∧ set = 2 ^ i ∧ p = e i) ∨ ∃ a b, 0 < a ∧ 0 < b ∧ a &&& b = 0 ∧ a + b = set ∧ G p = D a p + D b p)
theorem GP_step {F n : Nat} {e : Nat → Nat} {D : Nat → Nat → Nat} {set a b : Nat} {Q : Nat → Nat → Prop} {G : Nat → Nat} (h : GP F n e D set Q G) (ha : 0 < a) (hb : 0 < b) (hab : a &&& b = 0) (hs : a + b = set) : GP F n e D set (fun a' b' => Q a' b' ∨ (a' = a ∧ b' = b)) (fun p => min (G p) (D a p + D b p)) := by
  intro p hp
  obtain ⟨h1, h2, h3, h4⟩ := h p hp
  refine ⟨?_, fun i hi e1 e2 => ?_, fun a' b' q1 q2 q3 q4 q5 => ?_, ?_⟩
  · show min (G p) (D a p + D b p) ≤ F; omega
  · show min (G p) (D a p + D b p) = 0
    have := h2 i hi e1 e2
    omega
  · show min (G p) (D a p + D b p) ≤ D a' p + D b' p
    rcases q5 with q5 | ⟨rfl, rfl⟩
    · have := h3 a' b' q1 q2 q3 q4 q5; omega
    · omega
  · show min (G p) (D a p + D b p) = F ∨ _ ∨ ∃ a' b', 0 < a' ∧ 0 < b' ∧ a' &&& b' = 0 ∧ a' + b' = set ∧ min (G p) (D a p + D b p) = D a' p + D b' p
    by_cases hle : G p ≤ D a p + D b p
    · rw [show min (G p) (D a p + D b p) = G p by omega]
      exact h4
    · rw [show min (G p) (D a p + D b p) = D a p + D b p by omega]
      exact Or.inr (Or.inr ⟨a, b, ha, hb, hab, hs, rfl⟩)
theorem GP_mono {F n : Nat} {e : Nat → Nat} {D : Nat → Nat → Nat} {set : Nat} {Q Q' : Nat → Nat → Prop} {G : Nat → Nat} (h : GP F n e D set Q G) (hq : ∀ a b, 0 < a → 0 < b → a &&& b = 0 → a + b = set → Q' a b → Q a b ∨ Q b a) : GP F n e D set Q' G := by
  intro p hp
  obtain ⟨h1, h2, h3, h4⟩ := h p hp
  refine ⟨h1, h2, fun a b q1 q2 q3 q4 q5 => ?_, h4⟩
  rcases hq a b q1 q2 q3 q4 q5 with h | h
  · exact h3 a b q1 q2 q3 q4 h
  · have := h3 b a q2 q1 (by rw [Nat.and_comm]; exact q3) (by omega) h
    omega
theorem GP_GG {F n : Nat} {e : Nat → Nat} {D : Nat → Nat → Nat} {set : Nat} {Q : Nat → Nat → Prop} {G : Nat → Nat} (h : GP F n e D set Q G) (hq : ∀ a b, 0 < a → 0 < b → a &&& b = 0 → a + b = set → Q a b ∨ Q b a) : GG F n e D set G := by
  intro p hp
  obtain ⟨h1, h2, h3, h4⟩ := GP_mono (Q' := fun _ _ => True) h (fun a b q1 q2 q3 q4 _ => hq a b q1 q2 q3 q4) p hp
  exact ⟨h1, h2, fun a b q1 q2 q3 q4 => h3 a b q1 q2 q3 q4 trivial, h4⟩
theorem GG_congr {F n : Nat} {e : Nat → Nat} {D D' : Nat → Nat → Nat} {set : Nat} {G : Nat → Nat} (hD : ∀ a, a < set → D' a = D a) (h : GG F n e D set G) : GG F n e D' set G := by
  intro p hp
  obtain ⟨h1, h2, h3, h4⟩ := h p hp
  refine ⟨h1, h2, fun a b q1 q2 q3 q4 => ?_, ?_⟩
  · rw [hD a (by omega), hD b (by omega)]
    exact h3 a b q1 q2 q3 q4
  · rcases h4 with h | h | ⟨a, b, q1, q2, q3, q4, q5⟩
    · exact Or.inl h
    · exact Or.inr (Or.inl h)
    · exact Or.inr (Or.inr ⟨a, b, q1, q2, q3, q4, by rw [hD a (by omega), hD b (by omega)]; exact q5⟩)
theorem FAM_ext {F n : Nat} {e : Nat → Nat} {B : Nat → Int32} {D : Nat → Nat → Nat} {set : Nat} {G f : Nat → Nat} (h : FAM F n e B D set) (hc : CLO B G f) (hg : GG F n e D set G) : FAM F n e B (fun s => if s = set then f else D s) (set + 1) := by
  intro s h0 hs
  by_cases e1 : s = set
  · subst e1
    refine ⟨G, ?_, GG_congr (fun a ha => if_neg (by omega)) hg⟩
    show CLO B G (if s = s then f else D s)
    rw [if_pos rfl]; exact hc
  · obtain ⟨G', c1, c2⟩ := h s h0 (by omega)
    refine ⟨G', ?_, GG_congr (fun a ha => if_neg (by omega)) c2⟩
    show CLO B G' (if s = set then f else D s)
    rw [if_neg e1]; exact c1
theorem bm7 : ∀ s, s < 32 → ∀ a, a < 32 → nI s &&& (nI a ^^^ (-1)) = nI (s - (s &&& a)) := by decide +kernel
theorem bm8' : ∀ s, s < 32 → ∀ a, a < 32 → ((a &&& s == a) == false || ((a &&& (s - a) == 0) && (s &&& a == a))) = true := by decide +kernel
theorem bm8 {s a : Nat} (hs : s < 32) (ha : a < 32) (h : a &&& s = a) : a &&& (s - a) = 0 ∧ s &&& a = a := by
  have := bm8' s hs a ha
  rw [h] at this
  simpa using this
theorem bm9' : ∀ a, a < 32 → ∀ b, b < 32 → ((a &&& b == 0) == false || (a &&& (a + b) == a)) = true := by decide +kernel
theorem bm9 {a b : Nat} (ha : a < 32) (hb : b < 32) (h : a &&& b = 0) : a &&& (a + b) = a := by
  have := bm9' a ha b hb
  rw [h] at this
  simpa using this
theorem imin_nI {a b : Nat} (ha : a < 2 ^ 31) (hb : b < 2 ^ 31) : imin (nI a) (nI b) = nI (min a b) := by
  unfold imin
  by_cases h : b < a
  · rw [if_pos (nI_lt h ha)]; congr 1; omega
  · rw [if_neg (nI_nlt (by omega) hb)]; congr 1; omega
theorem e_join {fu R R1 R2 : Nat} (hR : R + 24 ≤ 384) (h1 : R1 + 24 ≤ R) (h2 : R2 + 24 ≤ R) {c c1 c2 : Nat → Nat} (b0 : ∀ p, p < 24 → c p ≤ 1000) (b1 : ∀ p, p < 24 → c1 p ≤ 1000) (b2 : ∀ p, p < 24 → c2 p ≤ 1000) (K : Mem → Res) : ∀ (d k n : Nat) (x : Mem), k + d = 24 → d < n → Row (x 38) R (fun p => if p < k then min (c p) (c1 p + c2 p) else c p) → Row (x 38) R1 c1 → Row (x 38) R2 c2 → ∃ x', L_X3_joinTwo_3 fu (nI R) (nI R1) (nI R2) n (nI k) x K = K x' ∧ (∀ j, j ≠ 38 → x' j = x j) ∧ Out (x 38) (x' 38) R ∧ Row (x' 38) R (fun p => min (c p) (c1 p + c2 p)) := by
  intro d
  induction d with
  | zero =>
    intro k n x hk hn r0 r1 r2
    obtain ⟨n, rfl⟩ : ∃ z, n = z + 1 := ⟨n - 1, by omega⟩
    have : k = 24 := by omega
    subst this
    refine ⟨x, ?_, fun _ _ => rfl, Out_rfl _ _, Row_congr r0 (fun p hp => if_pos hp)⟩
    rw [L_X3_joinTwo_3, if_pos (show (24 : Int32) ≤ nI 24 from nI_le (a := 24) (by omega) (by omega))]
  | succ d ih =>
    intro k n x hk hn r0 r1 r2
    obtain ⟨n, rfl⟩ : ∃ z, n = z + 1 := ⟨n - 1, by omega⟩
    have hk24 : k < 24 := by omega
    have e0 : x 38 (R + k) = nI (c k) := by rw [r0 k hk24]; show nI (if k < k then _ else c k) = _; rw [if_neg (by omega)]
    have l0 := b0 k hk24
    have l1 := b1 k hk24
    have l2 := b2 k hk24
    have r0' : Row (upd (x 38) (R + k) (nI (min (c k) (c1 k + c2 k)))) R (fun p => if p < k + 1 then min (c p) (c1 p + c2 p) else c p) := Row_congr (Row_upd r0) (fun p hp => by
      by_cases e : p = k
      · subst e; rw [nup_s, if_pos (by omega)]
      · rw [nup_n e]
        by_cases h : p < k
        · rw [if_pos h, if_pos (by omega)]
        · rw [if_neg h, if_neg (by omega)])
    obtain ⟨x', k1, k2, k3, k4⟩ := ih (k + 1) n (wr x 38 (R + k) (nI (min (c k) (c1 k + c2 k)))) (by omega) (by omega) (by rw [wr_row]; exact r0') (fun p hp => by rw [wr_row, upd_n (by omega)]; exact r1 p hp) (fun p hp => by rw [wr_row, upd_n (by omega)]; exact r2 p hp)
    rw [wr_row] at k3
    refine ⟨x', ?_, fun j hj => by rw [k2 j hj, wr_ne hj], Out_tr (Out_upd (by omega)) k3, k4⟩
    rw [L_X3_joinTwo_3, if_neg (show ¬ (24 : Int32) ≤ nI k from nI_ge (b := 24) (by omega) (by omega)), nI_add, nI_add, nI_add, chk_ok (by omega) (by omega), chk_ok (by omega) (by omega), letv_eq, chk_ok (by omega) (by omega), chk_ok (by omega) (by omega), letm_eq, cN (by omega), cN (by omega), cN (by omega), e0, r1 k hk24, r2 k hk24, nI_add, imin_nI (by omega) (by omega), nI_1, k1]
theorem e_jtrees {fu set l : Nat} {e : Nat → Nat} {D : Nat → Nat → Nat} (hfu : 100 ≤ fu) (hset : set < 16) (hD : ∀ s, 0 < s → s < set → ∀ p, p < 24 → D s p ≤ 1000) (K : Mem → Res) : ∀ (d part n : Nat) (x : Mem) (G : Nat → Nat), part + d = set → d < n → 1 ≤ part → Row (x 38) (set * 24) G → GP 1000 l e D set (fun a b => a < b ∧ a < part) G → (∀ s, 0 < s → s < set → Row (x 38) (s * 24) (D s)) → ∃ (x' : Mem) (G' : Nat → Nat), L_X3_joinTrees_2 fu (nI set) n (nI part) x K = K x' ∧ (∀ j, j ≠ 38 → x' j = x j) ∧ Out (x 38) (x' 38) (set * 24) ∧ Row (x' 38) (set * 24) G' ∧ GG 1000 l e D set G' := by
  intro d
  induction d with
  | zero =>
    intro part n x G hp hn h1 hrow hG hrows
    obtain ⟨n, rfl⟩ : ∃ z, n = z + 1 := ⟨n - 1, by omega⟩
    have : part = set := by omega
    subst this
    refine ⟨x, G, ?_, fun _ _ => rfl, Out_rfl _ _, hrow, GP_GG hG (fun a b q1 q2 q3 q4 => ?_)⟩
    · rw [L_X3_joinTrees_2, if_pos (nI_le (Nat.le_refl _) (by omega))]
    · rcases Nat.lt_trichotomy a b with h | h | h
      · exact Or.inl ⟨h, by omega⟩
      · subst h
        rw [Nat.and_self] at q3
        omega
      · exact Or.inr ⟨h, by omega⟩
  | succ d ih =>
    intro part n x G hp hn h1 hrow hG hrows
    obtain ⟨n, rfl⟩ : ∃ z, n = z + 1 := ⟨n - 1, by omega⟩
    rw [L_X3_joinTrees_2, if_neg (nI_ge (by omega) (by omega)), bm7 set (by omega) part (by omega), letv_eq, nI_and, nI_1]
    have skip : (part &&& set = part → ¬ part < set - part) → ∃ (x' : Mem) (G' : Nat → Nat), L_X3_joinTrees_2 fu (nI set) n (nI (part + 1)) x K = K x' ∧ (∀ j, j ≠ 38 → x' j = x j) ∧ Out (x 38) (x' 38) (set * 24) ∧ Row (x' 38) (set * 24) G' ∧ GG 1000 l e D set G' := fun hno =>
      ih (part + 1) n x G (by omega) (by omega) (by omega) hrow (GP_mono hG (fun a b q1 q2 q3 q4 q5 => by
        left
        refine ⟨q5.1, ?_⟩
        by_cases e1 : a = part
        · exfalso
          subst e1
          have h9 := bm9 (a := a) (b := b) (by omega) (by omega) q3
          rw [q4] at h9
          exact hno h9 (by omega)
        · omega)) hrows
    by_cases hsub : part &&& set = part
    · obtain ⟨g1, g2⟩ := bm8 (show set < 32 by omega) (show part < 32 by omega) hsub
      rw [if_pos (by rw [hsub]), g2]
      by_cases hlt : part < set - part
      · rw [if_neg (nI_ge hlt (by omega))]
        have em : nI set * 24 = nI (set * 24) := pk_mul set 24
        have em1 : nI part * 24 = nI (part * 24) := pk_mul part 24
        have em2 : nI (set - part) * 24 = nI ((set - part) * 24) := pk_mul (set - part) 24
        obtain ⟨x1, k1, k2, k3, k4⟩ := e_join (fu := fu) (R := set * 24) (R1 := part * 24) (R2 := (set - part) * 24) (by omega) (by omega) (by omega) (fun p hp => (hG p hp).1) (hD part (by omega) (by omega)) (hD (set - part) (by omega) (by omega)) (fun x_3 => (some (0, x_3))) 24 0 fu x (by omega) (by omega) (Row_congr hrow (fun p hp => by rw [if_neg (by omega)])) (hrows part (by omega) (by omega)) (hrows (set - part) (by omega) (by omega))
        have k1' : F_X3_joinTwo fu (nI (set * 24)) (nI (part * 24)) (nI ((set - part) * 24)) x = some (0, x1) := k1
        obtain ⟨x', G', j1, j2, j3, j4, j5⟩ := ih (part + 1) n x1 (fun p => min (G p) (D part p + D (set - part) p)) (by omega) (by omega) (by omega) k4 (GP_mono (GP_step hG (show 0 < part by omega) (show 0 < set - part by omega) g1 (by omega)) (fun a b q1 q2 q3 q4 q5 => by
          left
          by_cases e1 : a = part
          · exact Or.inr ⟨e1, by omega⟩
          · exact Or.inl ⟨q5.1, by omega⟩)) (fun s h0 hs p hp => by rw [k3 _ (Or.inl (by omega))]; exact hrows s h0 hs p hp)
        refine ⟨x', G', ?_, fun j hj => by rw [j2 j hj, k2 j hj], Out_tr k3 j3, j4, j5⟩
        rw [em, em1, em2, k1', cl_some', j1]
      · rw [if_pos (nI_le (by omega) (by omega))]
        exact skip (fun _ => hlt)
    · rw [if_neg (fun h => hsub (nI_inj (Nat.lt_of_le_of_lt Nat.and_le_left (by omega)) (by omega) h))]
      exact skip (fun h => absurd h hsub)
def IN (F n : Nat) (e : Nat → Nat) (k set : Nat) (c : Nat → Nat) : Prop := ∀ p, p < 24 → c p ≤ F ∧ (∀ i, i < k → set = 2 ^ i → p = e i → c p = 0) ∧ (c p = F ∨ ∃ i, i < n ∧ set = 2 ^ i ∧ p = e i)
theorem IN_GP {F n : Nat} {e : Nat → Nat} {D : Nat → Nat → Nat} {set : Nat} {c : Nat → Nat} (h : IN F n e n set c) : GP F n e D set (fun _ _ => False) c := by
  intro p hp
  obtain ⟨h1, h2, h3⟩ := h p hp
  refine ⟨h1, h2, fun _ _ _ _ _ _ q => absurd q id, ?_⟩
  rcases h3 with h | h
  · exact Or.inl h
  · exact Or.inr (Or.inl h)
theorem e_st8 {fu R : Nat} {l1 l2 : Int32} (hR : R + 24 ≤ 384) (K : Mem → Res) : ∀ (d k n : Nat) (x : Mem), k + d = 24 → d < n → (∀ p, p < k → x 38 (R + p) = nI 1000) → ∃ x', L_X3_startTrees_8 fu l1 l2 (nI R) n (nI k) x K = K x' ∧ (∀ j, j ≠ 38 → x' j = x j) ∧ Out (x 38) (x' 38) R ∧ Row (x' 38) R (fun _ => 1000) := by
  intro d
  induction d with
  | zero =>
    intro k n x hk hn h
    obtain ⟨n, rfl⟩ : ∃ z, n = z + 1 := ⟨n - 1, by omega⟩
    have : k = 24 := by omega
    subst this
    refine ⟨x, ?_, fun _ _ => rfl, Out_rfl _ _, h⟩
    rw [L_X3_startTrees_8, if_pos (show (24 : Int32) ≤ nI 24 from nI_le (a := 24) (by omega) (by omega))]
  | succ d ih =>
    intro k n x hk hn h
    obtain ⟨n, rfl⟩ : ∃ z, n = z + 1 := ⟨n - 1, by omega⟩
    obtain ⟨x', k1, k2, k3, k4⟩ := ih (k + 1) n (wr x 38 (R + k) 1000) (by omega) (by omega) (fun p hp => by
      rw [wr_row]
      by_cases e : p = k
      · subst e; rw [upd_s]; rfl
      · rw [upd_n (by omega)]; exact h p (by omega))
    rw [wr_row] at k3
    refine ⟨x', ?_, fun j hj => by rw [k2 j hj, wr_ne hj], Out_tr (Out_upd (by omega)) k3, k4⟩
    rw [L_X3_startTrees_8, if_neg (show ¬ (24 : Int32) ≤ nI k from nI_ge (b := 24) (by omega) (by omega)), nI_add, chk_ok (by omega) (by omega), letm_eq, cN (by omega), nI_1, k1]
theorem IN_upd {F n : Nat} {e : Nat → Nat} {k set : Nat} {c : Nat → Nat} (h : IN F n e k set c) (hk : k < n) (hs : set = 2 ^ k) : IN F n e (k + 1) set (nup c (e k) 0) := by
  intro p hp
  obtain ⟨h1, h2, h3⟩ := h p hp
  by_cases e1 : p = e k
  · rw [e1, nup_s]
    exact ⟨by omega, fun _ _ _ _ => rfl, Or.inr ⟨k, hk, hs, rfl⟩⟩
  · rw [nup_n e1]
    refine ⟨h1, fun i hi q1 q2 => ?_, h3⟩
    by_cases e2 : i = k
    · rw [e2] at q2; exact absurd q2 e1
    · exact h2 i (by omega) q1 q2
theorem e_st36 {fu set l : Nat} {e : Nat → Nat} (hset : set < 16) (hl : l ≤ 4) (he : ∀ i, i < l → e i < 24) (K : Mem → Res) : ∀ (d k n : Nat) (x : Mem) (c : Nat → Nat), k + d = l → d < n → (∀ i, i < l → x 37 i = nI (e i)) → Row (x 38) (set * 24) c → IN 1000 l e k set c → ∃ (x' : Mem) (c' : Nat → Nat), L_X3_startTrees_36 fu (nI set) (nI l) (nI (set * 24)) n (nI k) x K = K x' ∧ (∀ j, j ≠ 38 → x' j = x j) ∧ Out (x 38) (x' 38) (set * 24) ∧ Row (x' 38) (set * 24) c' ∧ IN 1000 l e l set c' := by
  intro d
  induction d with
  | zero =>
    intro k n x c hk hn h37 hrow hI
    obtain ⟨n, rfl⟩ : ∃ z, n = z + 1 := ⟨n - 1, by omega⟩
    have : k = l := by omega
    subst this
    refine ⟨x, c, ?_, fun _ _ => rfl, Out_rfl _ _, hrow, hI⟩
    rw [L_X3_startTrees_36, if_pos (nI_le (Nat.le_refl _) (by omega))]
  | succ d ih =>
    intro k n x c hk hn h37 hrow hI
    obtain ⟨n, rfl⟩ : ∃ z, n = z + 1 := ⟨n - 1, by omega⟩
    have hp2 : 2 ^ k ≤ 2 ^ 4 := Nat.pow_le_pow_right (n := 2) (by omega) (by omega)
    have hek := he k (by omega)
    rw [L_X3_startTrees_36, if_neg (nI_ge (by omega) (by omega)), shl_one (by omega), nI_1]
    by_cases hs : set = 2 ^ k
    · rw [if_pos (by rw [← hs]), chk_ok (by omega) (by omega), cN (by omega), h37 k (by omega), nI_add, chk_ok (by omega) (by omega), letm_eq, cN (by omega)]
      have hr : Row (upd (x 38) (set * 24 + e k) (nI 0)) (set * 24) (nup c (e k) 0) := Row_upd hrow
      obtain ⟨x', c', k1, k2, k3, k4, k5⟩ := ih (k + 1) n (wr x 38 (set * 24 + e k) 0) (nup c (e k) 0) (by omega) (by omega) (fun i hi => h37 i hi) (by rw [wr_row]; exact hr) (IN_upd hI (by omega) hs)
      rw [wr_row] at k3
      exact ⟨x', c', k1, fun j hj => by rw [k2 j hj, wr_ne hj], Out_tr (Out_upd hek) k3, k4, k5⟩
    · rw [if_neg (fun h => hs (nI_inj (by omega) (by omega) h))]
      refine ih (k + 1) n x c (by omega) (by omega) h37 hrow (fun p hp => ?_)
      obtain ⟨h1, h2, h3⟩ := hI p hp
      refine ⟨h1, fun i hi q1 q2 => ?_, h3⟩
      by_cases e2 : i = k
      · rw [e2] at q1; exact absurd q1 hs
      · exact h2 i (by omega) q1 q2
theorem start_x {fu set l : Nat} {e : Nat → Nat} {x : Mem} (hfu : 100 ≤ fu) (hset : set < 16) (hl : l ≤ 4) (he : ∀ i, i < l → e i < 24) (h37 : ∀ i, i < l → x 37 i = nI (e i)) : ∃ (x' : Mem) (c' : Nat → Nat), F_X3_startTrees fu (nI set) (nI l) x = some (0, x') ∧ (∀ j, j ≠ 38 → x' j = x j) ∧ Out (x 38) (x' 38) (set * 24) ∧ Row (x' 38) (set * 24) c' ∧ IN 1000 l e l set c' := by
  obtain ⟨x1, a1, a2, a3, a4⟩ := e_st8 (fu := fu) (R := set * 24) (l1 := nI set) (l2 := nI l) (by omega) (fun x_3 => (L_X3_startTrees_36 fu (nI set) (nI l) (nI (set * 24)) fu 0 x_3 (fun x_5 => (some (0, x_5))))) 24 0 fu x (by omega) (by omega) (fun p hp => absurd hp (by omega))
  obtain ⟨x', c', b1, b2, b3, b4, b5⟩ := e_st36 (fu := fu) (e := e) hset hl he (fun x_5 => (some (0, x_5))) l 0 fu x1 (fun _ => 1000) (by omega) (by omega) (fun i hi => by rw [a2 37 (by decide)]; exact h37 i hi) a4 (fun p hp => ⟨Nat.le_refl _, fun i hi => absurd hi (by omega), Or.inl rfl⟩)
  refine ⟨x', c', ?_, fun j hj => by rw [b2 j hj, a2 j hj], Out_tr a3 b3, b4, b5⟩
  unfold F_X3_startTrees
  have em : nI set * 24 = nI (set * 24) := pk_mul set 24
  have a1' : L_X3_startTrees_8 fu (nI set) (nI l) (nI (set * 24)) fu 0 x _ = _ := a1
  have b1' : L_X3_startTrees_36 fu (nI set) (nI l) (nI (set * 24)) fu 0 x1 (fun x_5 => (some (0, x_5))) = some (0, x') := b1
  rw [letv_eq, em, a1', b1']
theorem e_few {fu l : Nat} {e : Nat → Nat} {B : Nat → Int32} (hfu : 100 ≤ fu) (hl : l ≤ 4) (he : ∀ i, i < l → e i < 24) (K : Mem → Res) : ∀ (d set n : Nat) (x : Mem) (D : Nat → Nat → Nat), set + d = 2 ^ l → d < n → 1 ≤ set → (∀ i, i < l → x 37 i = nI (e i)) → (∀ p, p < 24 → x 35 p = B p ∧ x 36 p = B (24 + p)) → FAM 1000 l e B D set → (∀ s, 0 < s → s < set → Row (x 38) (s * 24) (D s)) → ∃ (x' : Mem) (D' : Nat → Nat → Nat), L_X3_fewestNew_24 fu (nI l) (nI (2 ^ l - 1)) n (nI set) x K = K x' ∧ (∀ j, j ≠ 38 → x' j = x j) ∧ FAM 1000 l e B D' (2 ^ l) ∧ ∀ s, 0 < s → s < 2 ^ l → Row (x' 38) (s * 24) (D' s) := by
  have hp4 : 2 ^ l ≤ 2 ^ 4 := Nat.pow_le_pow_right (n := 2) (by omega) hl
  intro d
  induction d with
  | zero =>
    intro set n x D hs hn h1 h37 hB hF hrows
    obtain ⟨n, rfl⟩ : ∃ z, n = z + 1 := ⟨n - 1, by omega⟩
    have : set = 2 ^ l := by omega
    subst this
    refine ⟨x, D, ?_, fun _ _ => rfl, hF, hrows⟩
    rw [L_X3_fewestNew_24, if_pos (nI_lt (by omega) (by omega))]
  | succ d ih =>
    intro set n x D hs hn h1 h37 hB hF hrows
    obtain ⟨n, rfl⟩ : ∃ z, n = z + 1 := ⟨n - 1, by omega⟩
    obtain ⟨x1, c1, a1, a2, a3, a4, a5⟩ := start_x (fu := fu) (e := e) hfu (show set < 16 by omega) hl he h37
    obtain ⟨x2, G, b1, b2, b3, b4, b5⟩ := e_jtrees (fu := fu) (l := l) (e := e) (D := D) hfu (show set < 16 by omega) (fun s h0 hs p hp => fam_le hF h0 hs hp) (fun x_3 => (some (0, x_3))) (set - 1) 1 fu x1 c1 (by omega) (by omega) (by omega) a4 (GP_mono (IN_GP a5) (fun a b q1 q2 q3 q4 q5 => by omega)) (fun s h0 hs p hp => by rw [a3 _ (Or.inl (by omega))]; exact hrows s h0 hs p hp)
    have b1' : F_X3_joinTrees fu (nI set) x1 = some (0, x2) := b1
    obtain ⟨f, hf⟩ := clo_ex B G
    obtain ⟨x3, g1, g2, g3, g4⟩ := spread_x (fu := fu) (R := set * 24) hfu (by omega) hf b4 (fun p hp => (b5 p hp).1) (fun p hp => by rw [b2 35 (by decide), b2 36 (by decide), a2 35 (by decide), a2 36 (by decide)]; exact hB p hp)
    obtain ⟨x', D', k1, k2, k3, k4⟩ := ih (set + 1) n x3 (fun s => if s = set then f else D s) (by omega) (by omega) (by omega) (fun i hi => by rw [g2 37 (by decide), b2 37 (by decide), a2 37 (by decide)]; exact h37 i hi) (fun p hp => by rw [g2 35 (by decide), g2 36 (by decide), b2 35 (by decide), b2 36 (by decide), a2 35 (by decide), a2 36 (by decide)]; exact hB p hp) (FAM_ext hF hf b5) (fun s h0 hs' => by
      by_cases e1 : s = set
      · subst e1
        show Row (x3 38) (s * 24) (if s = s then f else D s)
        rw [if_pos rfl]; exact g4
      · show Row (x3 38) (s * 24) (if s = set then f else D s)
        rw [if_neg e1]
        intro p hp
        rw [g3 _ (Or.inl (by omega)), b3 _ (Or.inl (by omega)), a3 _ (Or.inl (by omega))]
        exact hrows s h0 (by omega) p hp)
    refine ⟨x', D', ?_, fun j hj => by rw [k2 j hj, g2 j hj, b2 j hj, a2 j hj], k3, k4⟩
    have em : nI set * 24 = nI (set * 24) := pk_mul set 24
    rw [L_X3_fewestNew_24, if_neg (nI_nlt (by omega) (by omega)), a1, cl_some', b1', cl_some', em, g1, cl_some', nI_1, k1]

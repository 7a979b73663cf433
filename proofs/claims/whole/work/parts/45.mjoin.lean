/-! ===== wires: joining, the reference ===== -/
theorem e_mjoin {fu set sm : Nat} {l2 : Int32} (hset : set < 32) (h1 : sm < set) (h0 : 0 < sm) (hsub : sm &&& set = sm) {c c1 c2 : Nat → Nat} (b0 : ∀ p, p < 24 → c p ≤ 9999) (b1 : ∀ p, p < 24 → c1 p ≤ 9999) (b2 : ∀ p, p < 24 → c2 p ≤ 9999) (K : Mem → Res) : ∀ (d k n : Nat) (y : Mem), k + d = 24 → d < n → Row (y 27) (24 * set) (fun p => if p < k then min (c p) (c1 p + c2 p) else c p) → Row (y 27) (24 * sm) c1 → Row (y 27) (24 * (set - sm)) c2 → ∃ y', L_X10_wires_123 fu l2 (nI set) (nI sm) n (nI k) y K = K y' ∧ (∀ j, j ≠ 27 → y' j = y j) ∧ Out (y 27) (y' 27) (24 * set) ∧ Row (y' 27) (24 * set) (fun p => min (c p) (c1 p + c2 p)) := by
  obtain ⟨-, g2⟩ := bm8 hset (show sm < 32 by omega) hsub
  have e7 : nI set &&& (nI sm ^^^ (-1)) = nI (set - sm) := by rw [bm7 set hset sm (by omega), g2]
  have em : (24 : Int32) * nI set = nI (24 * set) := pk_mul 24 set
  have em1 : (24 : Int32) * nI sm = nI (24 * sm) := pk_mul 24 sm
  have em2 : (24 : Int32) * nI (set - sm) = nI (24 * (set - sm)) := pk_mul 24 (set - sm)
  intro d
  induction d with
  | zero =>
    intro k n y hk hn r0 r1 r2
    obtain ⟨n, rfl⟩ : ∃ z, n = z + 1 := ⟨n - 1, by omega⟩
    have : k = 24 := by omega
    subst this
    refine ⟨y, ?_, fun _ _ => rfl, Out_rfl _ _, Row_congr r0 (fun p hp => if_pos hp)⟩
    rw [L_X10_wires_123, if_pos (show (24 : Int32) ≤ nI 24 from nI_le (a := 24) (by omega) (by omega))]
  | succ d ih =>
    intro k n y hk hn r0 r1 r2
    obtain ⟨n, rfl⟩ : ∃ z, n = z + 1 := ⟨n - 1, by omega⟩
    have hk24 : k < 24 := by omega
    have e0 : y 27 (24 * set + k) = nI (c k) := by rw [r0 k hk24]; show nI (if k < k then _ else c k) = _; rw [if_neg (by omega)]
    have l0 := b0 k hk24
    have l1 := b1 k hk24
    have l2' := b2 k hk24
    have r0' : Row (upd (y 27) (24 * set + k) (nI (min (c k) (c1 k + c2 k)))) (24 * set) (fun p => if p < k + 1 then min (c p) (c1 p + c2 p) else c p) := Row_congr (Row_upd r0) (fun p hp => by
      by_cases e : p = k
      · subst e; rw [nup_s, if_pos (by omega)]
      · rw [nup_n e]
        by_cases h : p < k
        · rw [if_pos h, if_pos (by omega)]
        · rw [if_neg h, if_neg (by omega)])
    obtain ⟨y', k1, k2, k3, k4⟩ := ih (k + 1) n (wr y 27 (24 * set + k) (nI (min (c k) (c1 k + c2 k)))) (by omega) (by omega) (by rw [wr_row]; exact r0') (fun p hp => by rw [wr_row, upd_n (by omega)]; exact r1 p hp) (fun p hp => by rw [wr_row, upd_n (by omega)]; exact r2 p hp)
    rw [wr_row] at k3
    refine ⟨y', ?_, fun j hj => by rw [k2 j hj, wr_ne hj], Out_tr (Out_upd (by omega)) k3, k4⟩
    have hc : ∀ M : Res, chk (nI (24 * set + k)) 768 M = M := fun M => chk_ok (by omega) (by omega)
    have hc1 : ∀ M : Res, chk (nI (24 * sm + k)) 768 M = M := fun M => chk_ok (by omega) (by omega)
    have hc2 : ∀ M : Res, chk (nI (24 * (set - sm) + k)) 768 M = M := fun M => chk_ok (by omega) (by omega)
    rw [L_X10_wires_123, if_neg (show ¬ (24 : Int32) ≤ nI k from nI_ge (b := 24) (by omega) (by omega))]
    simp only [e7, em, em1, em2, nI_add, hc, hc1, hc2, letv_eq, letm_eq, cN (show 24 * set + k < 2 ^ 31 by omega), cN (show 24 * sm + k < 2 ^ 31 by omega), cN (show 24 * (set - sm) + k < 2 ^ 31 by omega), e0, r1 k hk24, r2 k hk24, nI_1]
    by_cases hle : c k ≤ c1 k + c2 k
    · rw [if_pos (nI_le hle (by omega))]
      rw [show min (c k) (c1 k + c2 k) = c k by omega] at k1
      exact k1
    · rw [if_neg (nI_ge (by omega) (by omega))]
      rw [show min (c k) (c1 k + c2 k) = c1 k + c2 k by omega] at k1
      exact k1
theorem bm10' : ∀ s, s < 32 → ∀ m, m < 32 → ∀ a, a < 32 → ((decide (0 < m) && (a &&& s == a) && decide (a < m) && (m &&& s == m)) == false || decide (a ≤ (m - 1) &&& s)) = true := by decide +kernel
theorem bm10 {s m a : Nat} (hs : s < 32) (hm : m < 32) (ha : a < 32) (h0 : 0 < m) (hms : m &&& s = m) (h : a &&& s = a) (hl : a < m) : a ≤ (m - 1) &&& s := by
  have := bm10' s hs m hm a ha
  rw [h, hms, decide_eq_true h0, decide_eq_true hl] at this
  simpa using this
theorem and_sub (m s : Nat) : (m &&& s) &&& s = m &&& s := by rw [Nat.and_assoc, Nat.and_self]
theorem e_m115 {fu set n' : Nat} {l2 : Int32} {e : Nat → Nat} {D : Nat → Nat → Nat} (hfu : 100 ≤ fu) (hset : set < 32) (hD : ∀ s, 0 < s → s < set → ∀ p, p < 24 → D s p ≤ 9999) (K : Mem → Res) : ∀ (N sm n : Nat) (y : Mem) (G : Nat → Nat), sm ≤ N → N < n → sm < set → sm &&& set = sm → Row (y 27) (24 * set) G → GP 9999 n' e D set (fun a _ => sm < a) G → (∀ s, 0 < s → s < set → Row (y 27) (24 * s) (D s)) → ∃ (y' : Mem) (G' : Nat → Nat), L_X10_wires_115 fu l2 (nI set) n (nI sm) y K = K y' ∧ (∀ j, j ≠ 27 → y' j = y j) ∧ Out (y 27) (y' 27) (24 * set) ∧ Row (y' 27) (24 * set) G' ∧ GG 9999 n' e D set G' := by
  have exit : ∀ (n : Nat) (y : Mem) (G : Nat → Nat), Row (y 27) (24 * set) G → GP 9999 n' e D set (fun a _ => 0 < a) G → ∃ (y' : Mem) (G' : Nat → Nat), L_X10_wires_115 fu l2 (nI set) (n + 1) (nI 0) y K = K y' ∧ (∀ j, j ≠ 27 → y' j = y j) ∧ Out (y 27) (y' 27) (24 * set) ∧ Row (y' 27) (24 * set) G' ∧ GG 9999 n' e D set G' := by
    intro n y G hrow hG
    refine ⟨y, G, ?_, fun _ _ => rfl, Out_rfl _ _, hrow, GP_GG hG (fun a b q1 q2 q3 q4 => Or.inl q1)⟩
    rw [L_X10_wires_115, if_pos (show nI 0 ≤ 0 by decide)]
  intro N
  induction N with
  | zero =>
    intro sm n y G hsm hn hlt hsub hrow hG hrows
    obtain ⟨n, rfl⟩ : ∃ z, n = z + 1 := ⟨n - 1, by omega⟩
    have : sm = 0 := by omega
    subst this
    exact exit n y G hrow hG
  | succ N ih =>
    intro sm n y G hsm hn hlt hsub hrow hG hrows
    obtain ⟨n, rfl⟩ : ∃ z, n = z + 1 := ⟨n - 1, by omega⟩
    rcases Nat.eq_zero_or_pos sm with h0 | h0
    · subst h0
      exact exit n y G hrow hG
    · obtain ⟨g1, g2⟩ := bm8 hset (show sm < 32 by omega) hsub
      obtain ⟨y1, k1, k2, k3, k4⟩ := e_mjoin (fu := fu) (l2 := l2) hset hlt h0 hsub (fun p hp => (hG p hp).1) (hD sm h0 hlt) (hD (set - sm) (by omega) (by omega)) (fun x_12 => (letv ((nI sm - 1) &&& nI set) (fun l5_13 => (L_X10_wires_115 fu l2 (nI set) n l5_13 x_12 K)))) 24 0 fu y (by omega) (by omega) (Row_congr hrow (fun p hp => by rw [if_neg (by omega)])) (hrows sm h0 hlt) (hrows (set - sm) (by omega) (by omega))
      have hand : (sm - 1) &&& set ≤ sm - 1 := Nat.and_le_left
      obtain ⟨y', G', j1, j2, j3, j4, j5⟩ := ih ((sm - 1) &&& set) n y1 (fun p => min (G p) (D sm p + D (set - sm) p)) (by omega) (by omega) (by omega) (and_sub _ _) k4 (GP_mono (GP_step hG h0 (show 0 < set - sm by omega) g1 (by omega)) (fun a b q1 q2 q3 q4 q5 => by
        left
        by_cases e1 : sm < a
        · exact Or.inl e1
        · right
          have h9 := bm9 (a := a) (b := b) (by omega) (by omega) q3
          rw [q4] at h9
          by_cases e2 : a = sm
          · exact ⟨e2, by omega⟩
          · exfalso
            have := bm10 hset (show sm < 32 by omega) (show a < 32 by omega) h0 hsub h9 (by omega)
            have q5' : (sm - 1) &&& set < a := q5
            omega)) (fun s h0 hs p hp => by rw [k3 _ (Or.inl (by omega))]; exact hrows s h0 hs p hp)
      refine ⟨y', G', ?_, fun j hj => by rw [j2 j hj, k2 j hj], Out_tr k3 j3, j4, j5⟩
      have ep : nI sm - 1 = nI (sm - 1) := by
        have := nI_pred (sm - 1)
        rw [show sm - 1 + 1 = sm by omega] at this
        exact this
      have k1' : L_X10_wires_123 fu l2 (nI set) (nI sm) fu 0 y _ = _ := k1
      rw [L_X10_wires_115, if_neg (nI_nle h0 (by omega)), k1', letv_eq, ep, nI_and, j1]
theorem e_m98 {fu n' : Nat} {e : Nat → Nat} {B : Nat → Int32} {I : Nat → Nat → Nat} (hfu : 100 ≤ fu) (hn5 : n' ≤ 5) (hI : ∀ s, s < 32 → IN 9999 n' e n' s (I s)) (K : Mem → Res) : ∀ (d set n : Nat) (y : Mem) (D : Nat → Nat → Nat), set + d = 2 ^ n' → d < n → 1 ≤ set → y 25 = B → FAM 9999 n' e B D set → (∀ s, 0 < s → s < set → Row (y 27) (24 * s) (D s)) → (∀ s, set ≤ s → s < 32 → Row (y 27) (24 * s) (I s)) → ∃ (y' : Mem) (D' : Nat → Nat → Nat), L_X10_wires_98 fu (nI n') n (nI set) y K = K y' ∧ (∀ j, j ≠ 27 → y' j = y j) ∧ FAM 9999 n' e B D' (2 ^ n') ∧ ∀ s, 0 < s → s < 2 ^ n' → Row (y' 27) (24 * s) (D' s) := by
  have hp5 : 2 ^ n' ≤ 2 ^ 5 := Nat.pow_le_pow_right (n := 2) (by omega) hn5
  intro d
  induction d with
  | zero =>
    intro set n y D hs hn h1 hB hF hrows hinit
    obtain ⟨n, rfl⟩ : ∃ z, n = z + 1 := ⟨n - 1, by omega⟩
    have : set = 2 ^ n' := by omega
    subst this
    refine ⟨y, D, ?_, fun _ _ => rfl, hF, hrows⟩
    rw [L_X10_wires_98, shl_one (by omega), if_pos (nI_le (Nat.le_refl _) (by omega))]
  | succ d ih =>
    intro set n y D hs hn h1 hB hF hrows hinit
    obtain ⟨n, rfl⟩ : ∃ z, n = z + 1 := ⟨n - 1, by omega⟩
    have hand : (set - 1) &&& set ≤ set - 1 := Nat.and_le_left
    obtain ⟨y2, G, b1, b2, b3, b4, b5⟩ := e_m115 (fu := fu) (l2 := nI n') (n' := n') (e := e) (D := D) hfu (show set < 32 by omega) (fun s h0 hs p hp => fam_le hF h0 hs hp) (fun x_14 => (cl (F_X10_spreads fu (nI set) x_14) (fun _ x_15 => (L_X10_wires_98 fu (nI n') n (nI set + 1) x_15 K)))) 32 ((set - 1) &&& set) fu y (I set) (by omega) (by omega) (by omega) (and_sub _ _) (hinit set (Nat.le_refl _) (by omega)) (GP_mono (IN_GP (hI set (by omega))) (fun a b q1 q2 q3 q4 q5 => by
        exfalso
        have h9 := bm9 (a := a) (b := b) (by omega) (by omega) q3
        rw [q4] at h9
        have := bm10 (show set < 32 by omega) (show set < 32 by omega) (show a < 32 by omega) (by omega) (Nat.and_self _) h9 (by omega)
        have q5' : (set - 1) &&& set < a := q5
        omega)) hrows
    obtain ⟨f, hf⟩ := clo_ex B G
    obtain ⟨y3, g1, g2, g3, g4⟩ := spread_y (fu := fu) (set := set) hfu (by omega) hf b4 (fun p hp => (b5 p hp).1) (by rw [b2 25 (by decide)]; exact hB)
    obtain ⟨y', D', k1, k2, k3, k4⟩ := ih (set + 1) n y3 (fun s => if s = set then f else D s) (by omega) (by omega) (by omega) (by rw [g2 25 (by decide), b2 25 (by decide)]; exact hB) (FAM_ext hF hf b5) (fun s h0 hs' => by
      by_cases e1 : s = set
      · subst e1
        show Row (y3 27) (24 * s) (if s = s then f else D s)
        rw [if_pos rfl]; exact g4
      · show Row (y3 27) (24 * s) (if s = set then f else D s)
        rw [if_neg e1]
        intro p hp
        rw [g3 _ (Or.inl (by omega)), b3 _ (Or.inl (by omega))]
        exact hrows s h0 (by omega) p hp) (fun s h0 hs' p hp => by
        rw [g3 _ (Or.inr (by omega)), b3 _ (Or.inr (by omega))]
        exact hinit s (by omega) hs' p hp)
    refine ⟨y', D', ?_, fun j hj => by rw [k2 j hj, g2 j hj, b2 j hj], k3, k4⟩
    have ep : nI set - 1 = nI (set - 1) := by
      have := nI_pred (set - 1)
      rw [show set - 1 + 1 = set by omega] at this
      exact this
    rw [L_X10_wires_98, shl_one (by omega), if_neg (nI_ge (by omega) (by omega)), letv_eq, ep, nI_and, b1, g1, cl_some', nI_1, k1]
theorem e_m27 {fu : Nat} {l1 l2 : Int32} (K : Mem → Res) : ∀ (d k n : Nat) (y : Mem), k + d = 768 → d < n → (∀ j, j < k → y 27 j = nI 9999) → ∃ y', L_X10_wires_27 fu l1 l2 n (nI k) y K = K y' ∧ (∀ j, j ≠ 27 → y' j = y j) ∧ ∀ j, j < 768 → y' 27 j = nI 9999 := by
  intro d
  induction d with
  | zero =>
    intro k n y hk hn h
    obtain ⟨n, rfl⟩ : ∃ z, n = z + 1 := ⟨n - 1, by omega⟩
    have : k = 768 := by omega
    subst this
    refine ⟨y, ?_, fun _ _ => rfl, h⟩
    rw [L_X10_wires_27, if_pos (show (768 : Int32) ≤ nI 768 from nI_le (a := 768) (by omega) (by omega))]
  | succ d ih =>
    intro k n y hk hn h
    obtain ⟨n, rfl⟩ : ∃ z, n = z + 1 := ⟨n - 1, by omega⟩
    obtain ⟨y', k1, k2, k3⟩ := ih (k + 1) n (wr y 27 k 9999) (by omega) (by omega) (fun j hj => by
      rw [wr_row]
      by_cases e : j = k
      · subst e; rw [upd_s]; rfl
      · rw [upd_n e]; exact h j (by omega))
    refine ⟨y', ?_, fun j hj => by rw [k2 j hj, wr_ne hj], k3⟩
    rw [L_X10_wires_27, if_neg (show ¬ (768 : Int32) ≤ nI k from nI_ge (b := 768) (by omega) (by omega)), chk_ok (by omega) (by omega), letm_eq, cN (by omega), nI_1, k1]
/-- the ends in their order -/
def ENDS (pts : Int32) (e : Nat → Nat) : Prop := (∀ i, e i < 24) ∧ ∀ p, p < 24 → bt pts p = true → e (cntL (fun i => bt pts i) p) = p
theorem ends_ex (pts : Int32) : ∃ e, ENDS pts e := by
  have mono : ∀ (f : Nat → Bool) (b a : Nat), cntL f a ≤ cntL f (a + b) := fun f b => by
    induction b with
    | zero => intro a; exact Nat.le_refl _
    | succ b ih => intro a; rw [← Nat.add_assoc, cntL_s]; have := ih a; omega
  have H : ∀ k, k ≤ 24 → ∃ e : Nat → Nat, (∀ i, e i < 24) ∧ ∀ p, p < k → bt pts p = true → e (cntL (fun i => bt pts i) p) = p := by
    intro k
    induction k with
    | zero => intro _; exact ⟨fun _ => 0, fun _ => (by decide : 0 < 24), fun p hp => absurd hp (by omega)⟩
    | succ k ih =>
      intro hk
      obtain ⟨e, h1, h2⟩ := ih (by omega)
      refine ⟨fun i => if i = cntL (fun i => bt pts i) k then k else e i, fun i => ?_, fun p hp hb => ?_⟩
      · show (if i = cntL (fun i => bt pts i) k then k else e i) < 24
        by_cases e1 : i = cntL (fun i => bt pts i) k
        · rw [if_pos e1]; omega
        · rw [if_neg e1]; exact h1 i
      · show (if cntL (fun i => bt pts i) p = cntL (fun i => bt pts i) k then k else e (cntL (fun i => bt pts i) p)) = p
        by_cases e1 : p = k
        · rw [if_pos (by rw [e1]), e1]
        · have l1 := mono (fun i => bt pts i) (k - (p + 1)) (p + 1)
          rw [show p + 1 + (k - (p + 1)) = k by omega, cntL_s, hb] at l1
          simp at l1
          rw [if_neg (by omega)]
          exact h2 p (by omega) hb
  exact H 24 (Nat.le_refl _)
theorem e_m54 {fu n' : Nat} {pts : Int32} {e : Nat → Nat} {l2 : Int32} (hn5 : n' ≤ 5) (hE : ENDS pts e) (hn' : cntL (fun i => bt pts i) 24 = n') (K : Mem → Res) : ∀ (d k n : Nat) (y : Mem) (I : Nat → Nat → Nat), k + d = 24 → d < n → (∀ s, s < 32 → Row (y 27) (24 * s) (I s) ∧ IN 9999 n' e (cntL (fun i => bt pts i) k) s (I s)) → ∃ (y' : Mem) (I' : Nat → Nat → Nat), L_X10_wires_54 fu pts l2 n (nI (cntL (fun i => bt pts i) k)) (nI k) y K = K y' ∧ (∀ j, j ≠ 27 → y' j = y j) ∧ ∀ s, s < 32 → Row (y' 27) (24 * s) (I' s) ∧ IN 9999 n' e n' s (I' s) := by
  intro d
  induction d with
  | zero =>
    intro k n y I hk hn h
    obtain ⟨n, rfl⟩ : ∃ z, n = z + 1 := ⟨n - 1, by omega⟩
    have : k = 24 := by omega
    subst this
    rw [hn'] at h
    refine ⟨y, I, ?_, fun _ _ => rfl, h⟩
    rw [L_X10_wires_54, if_pos (show (24 : Int32) ≤ nI 24 from nI_le (a := 24) (by omega) (by omega))]
  | succ d ih =>
    intro k n y I hk hn h
    obtain ⟨n, rfl⟩ : ∃ z, n = z + 1 := ⟨n - 1, by omega⟩
    rw [L_X10_wires_54, if_neg (show ¬ (24 : Int32) ≤ nI k from nI_ge (b := 24) (by omega) (by omega)), nI_1, nI_1]
    have hcs := cntL_s (fun i => bt pts i) k
    by_cases hb : bt pts k = true
    · have hcs' : cntL (fun i => bt pts i) (k + 1) = cntL (fun i => bt pts i) k + 1 := by rw [hcs, hb]; rfl
      have mono : ∀ (f : Nat → Bool) (b a : Nat), cntL f a ≤ cntL f (a + b) := fun f b => by
        induction b with
        | zero => intro a; exact Nat.le_refl _
        | succ b ih => intro a; rw [← Nat.add_assoc, cntL_s]; have := ih a; omega
      have hm2 := mono (fun i => bt pts i) d (k + 1)
      rw [show k + 1 + d = 24 by omega, hn', hcs'] at hm2
      have hek := hE.2 k (by omega) hb
      rw [if_pos ((bit_eq1 (by omega)).mpr hb), shl_one (by omega), ← hcs']
      generalize cntL (fun i => bt pts i) k = c at *
      have hp2 : 2 ^ c ≤ 2 ^ 4 := Nat.pow_le_pow_right (n := 2) (by omega) (by omega)
      have em : (24 : Int32) * nI (2 ^ c) = nI (24 * 2 ^ c) := pk_mul 24 _
      rw [em, nI_add, chk_ok (by omega) (by omega), letm_eq, cN (by omega)]
      obtain ⟨y', I', k1, k2, k3⟩ := ih (k + 1) n (wr y 27 (24 * 2 ^ c + k) 0) (fun s => if s = 2 ^ c then nup (I s) k 0 else I s) (by omega) (by omega) (fun s hs => by
        obtain ⟨r1, r2⟩ := h s hs
        rw [hcs', wr_row]
        by_cases e1 : s = 2 ^ c
        · show Row _ _ (if s = 2 ^ c then nup (I s) k 0 else I s) ∧ IN _ _ _ _ _ (if s = 2 ^ c then nup (I s) k 0 else I s)
          rw [if_pos e1]
          constructor
          · rw [← e1]; exact Row_upd r1
          · have := IN_upd r2 (by omega) e1
            rw [hek] at this
            exact this
        · show Row _ _ (if s = 2 ^ c then nup (I s) k 0 else I s) ∧ IN _ _ _ _ _ (if s = 2 ^ c then nup (I s) k 0 else I s)
          rw [if_neg e1]
          constructor
          · intro p hp
            rw [upd_n (by omega)]
            exact r1 p hp
          · intro p hp
            obtain ⟨q1, q2, q3⟩ := r2 p hp
            refine ⟨q1, fun i hi g1 g2 => ?_, q3⟩
            by_cases e2 : i = c
            · rw [e2] at g1; exact absurd g1 e1
            · exact q2 i (by omega) g1 g2)
      exact ⟨y', I', k1, fun j hj => by rw [k2 j hj, wr_ne hj], k3⟩
    · have hb' : bt pts k = false := by simpa using hb
      have hcs' : cntL (fun i => bt pts i) (k + 1) = cntL (fun i => bt pts i) k := by rw [hcs, hb']; rfl
      rw [if_neg (fun h => hb ((bit_eq1 (by omega)).mp h)), ← hcs']
      exact ih (k + 1) n y I (by omega) (by omega) (by rw [hcs']; exact h)
theorem e_m251 {fu n' : Nat} {y : Mem} {c : Nat → Nat} (hn5 : n' ≤ 5) (h0 : 0 < n') (hrow : Row (y 27) (24 * (2 ^ n' - 1)) c) (hle : ∀ p, p < 24 → c p ≤ 9999) (K : Int32 → Res) : ∀ (d k n m : Nat), k + d = 24 → d < n → m ≤ 9999 → (m = 9999 ∨ ∃ p, p < 24 ∧ m = c p) → (∀ p, p < k → m ≤ c p) → ∃ m', L_X10_wires_251 fu (nI n') y n (nI m) (nI k) K = K (nI m') ∧ m' ≤ 9999 ∧ (m' = 9999 ∨ ∃ p, p < 24 ∧ m' = c p) ∧ ∀ p, p < 24 → m' ≤ c p := by
  have hp5 : 2 ^ n' ≤ 2 ^ 5 := Nat.pow_le_pow_right (n := 2) (by omega) hn5
  have hp1 : 2 ^ 1 ≤ 2 ^ n' := Nat.pow_le_pow_right (n := 2) (by omega) h0
  intro d
  induction d with
  | zero =>
    intro k n m hk hn hm h1 h2
    obtain ⟨n, rfl⟩ : ∃ z, n = z + 1 := ⟨n - 1, by omega⟩
    have : k = 24 := by omega
    subst this
    refine ⟨m, ?_, hm, h1, h2⟩
    rw [L_X10_wires_251, if_pos (show (24 : Int32) ≤ nI 24 from nI_le (a := 24) (by omega) (by omega))]
  | succ d ih =>
    intro k n m hk hn hm h1 h2
    obtain ⟨n, rfl⟩ : ∃ z, n = z + 1 := ⟨n - 1, by omega⟩
    have ep : nI (2 ^ n') - 1 = nI (2 ^ n' - 1) := by
      have := nI_pred (2 ^ n' - 1)
      rw [show 2 ^ n' - 1 + 1 = 2 ^ n' by omega] at this
      exact this
    have em : (24 : Int32) * nI (2 ^ n' - 1) = nI (24 * (2 ^ n' - 1)) := pk_mul 24 _
    have lk := hle k (by omega)
    rw [L_X10_wires_251, if_neg (show ¬ (24 : Int32) ≤ nI k from nI_ge (b := 24) (by omega) (by omega)), shl_one (by omega), ep, em, nI_add, chk_ok (by omega) (by omega), letv_eq, cN (by omega), hrow k (by omega), nI_1]
    by_cases hle2 : m ≤ c k
    · rw [if_pos (nI_le hle2 (by omega))]
      exact ih (k + 1) n m (by omega) (by omega) hm h1 (fun p hp => by
        by_cases e : p = k
        · rw [e]; exact hle2
        · exact h2 p (by omega))
    · rw [if_neg (nI_ge (by omega) (by omega))]
      exact ih (k + 1) n (c k) (by omega) (by omega) lk (Or.inr ⟨k, by omega, rfl⟩) (fun p hp => by
        by_cases e : p = k
        · rw [e]; exact Nat.le_refl _
        · have := h2 p (by omega); omega)

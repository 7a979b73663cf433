/-! ===== the start ===== -/
theorem e_takeF (fu : Nat) (K : Mem → Res) : ∀ (d k n : Nat) (x : Mem), k + d = 168 → d < n → ∃ x' : Mem, L_X2F_takeAll_2 fu n (nI k) x K = K x' ∧ (∀ b, b ≠ 1 → x' b = x b) ∧ ∀ c, c < 168 → x' 1 c = if k ≤ c then nI c else x 1 c := by
  intro d
  induction d with
  | zero =>
    intro k n x hk hn
    obtain ⟨n, rfl⟩ : ∃ m, n = m + 1 := ⟨n - 1, by omega⟩
    refine ⟨x, ?_, fun _ _ => rfl, fun c hc => by rw [if_neg (by omega)]⟩
    rw [L_X2F_takeAll_2, if_pos (show (168 : Int32) ≤ nI k from nI_le (a := 168) (by omega) (by omega))]
  | succ d ih =>
    intro k n x hk hn
    obtain ⟨n, rfl⟩ : ∃ m, n = m + 1 := ⟨n - 1, by omega⟩
    obtain ⟨x', h1, h2, h3⟩ := ih (k + 1) n (wr x 1 k (nI k)) (by omega) (by omega)
    refine ⟨x', ?_, fun b hb => by rw [h2 b hb, wr_ne hb], fun c hc => ?_⟩
    · rw [L_X2F_takeAll_2, if_neg (show ¬ (168 : Int32) ≤ nI k from nI_ge (b := 168) (by omega) (by omega)), chk_ok (by omega) (by omega), letm_eq, cN (by omega), nI_1, h1]
    · rw [h3 c hc, wr_row]
      by_cases e : c = k
      · subst e; rw [if_neg (by omega), upd_s, if_pos (by omega)]
      · rw [upd_n e]
        by_cases h : k ≤ c
        · rw [if_pos (by omega), if_pos h]
        · rw [if_neg (by omega), if_neg h]
theorem take_start {fu : Nat} (hfu : 1000 ≤ fu) : ∃ z : Mem, F_X2F_takeAll fu (fun _ _ => 0) = some (0, z) ∧ z 0 3 = 168 ∧ z 0 4 = 0 ∧ ∀ c, c < 168 → z 1 c = nI c := by
  obtain ⟨x', e1, e2, e3⟩ := e_takeF fu (fun x_2 => (letm (wr x_2 0 3 168) (fun x_3 => (some (0, x_3))))) 168 0 fu (fun _ _ => 0) rfl (by omega)
  refine ⟨wr x' 0 3 168, ?_, rfl, ?_, fun c hc => ?_⟩
  · unfold F_X2F_takeAll
    exact e1
  · rw [wr_row, upd_n (by decide), e2 0 (by decide)]
  · rw [wr_ne (by decide), e3 c hc, if_pos (by omega)]
theorem y0_11 : ∀ p, p < 12 → y0 11 p = -1 := by
  intro p hp
  rcases (show p = 0 ∨ p = 1 ∨ p = 2 ∨ p = 3 ∨ p = 4 ∨ p = 5 ∨ p = 6 ∨ p = 7 ∨ p = 8 ∨ p = 9 ∨ p = 10 ∨ p = 11 by omega) with rfl | rfl | rfl | rfl | rfl | rfl | rfl | rfl | rfl | rfl | rfl | rfl <;> rfl
theorem y0_18 : ∀ p, p < 5 → y0 18 p = -4 := by
  intro p hp
  rcases (show p = 0 ∨ p = 1 ∨ p = 2 ∨ p = 3 ∨ p = 4 by omega) with rfl | rfl | rfl | rfl | rfl <;> rfl
theorem Rel_start {z : Mem} (h3 : z 0 3 = 168) (h4 : z 0 4 = 0) (h1 : ∀ c, c < 168 → z 1 c = nI c) : Rel (x0 z) y0 := by
  refine ⟨⟨rfl, rfl, rfl, rfl, rfl, rfl, rfl, h4⟩, ⟨rfl, rfl, rfl, rfl, rfl, rfl, rfl, rfl, rfl, rfl, rfl, rfl, rfl, rfl, rfl, rfl⟩, ⟨0, by omega, rfl, fun p hp => absurd hp (by omega)⟩, ?_, ?_, ⟨0, by omega, rfl⟩, ⟨0, by omega, rfl, fun k hk => absurd hk (by omega), ?_⟩, fun b _ => ⟨0, by omega, rfl⟩, ⟨0, by omega, rfl⟩, ⟨0, by omega, rfl⟩, ⟨0, by omega, rfl, fun s hs => absurd hs (by omega), fun s _ hs => y0_18 s hs, fun s t hs => absurd hs (by omega)⟩, ?_, ?_, ?_⟩
  · intro b hb
    refine ⟨Or.inl rfl, ?_⟩
    show bt 0 b = decide ((0 : Int32) = 1)
    rw [b_0]; decide
  · intro c hc
    refine ⟨⟨0, by omega, rfl⟩, ?_⟩
    show bt 0 c = decide ((0 : Int32) = 10)
    rw [b_0]; decide
  · intro a b ha hb
    show bt 0 b = true ↔ _
    rw [b_0]
    constructor
    · intro h; cases h
    · rintro ⟨k, hk, -⟩; omega
  · intro p hp
    rw [y0_11 p hp]
    show ((0 : Int32) = 0 ∨ (0 : Int32) = 1 ∨ (0 : Int32) = 2) ∧ ((0 : Int32) = 1 ↔ ¬ (-1 : Int32) < 0) ∧ ((0 : Int32) = 1 → (0 : Int32) = -1) ∧ ((0 : Int32) = 2 ↔ ∃ s, nI s < 0 ∧ s < 5 ∧ y0 18 s = nI p) ∧ ((-1 : Int32) = -1 ∨ ∃ t, nI t ≤ 0 ∧ t ≤ 5000 ∧ (-1 : Int32) = nI t) ∧ ((0 : Int32) ≤ nI p → (0 : Int32) = 0)
    refine ⟨Or.inl rfl, by decide, fun h => absurd h (by decide), ⟨fun h => absurd h (by decide), ?_⟩, Or.inl rfl, fun _ => rfl⟩
    rintro ⟨s, hs, hs5, -⟩
    exact absurd hs (nI_pos (by omega))
  · show RFa (z 1) (z 0 3) 0 0 (fun _ => 0) (fun _ => 0) (fun _ => 0) (fun _ => 0) (fun _ => 0)
    rw [h3]
    exact RFa_all h1
  · intro p hp
    exact ⟨rfl, rfl, ⟨0, by omega, rfl⟩, ⟨0, by omega, rfl⟩, fun _ => rfl, fun _ => rfl⟩
theorem whole_start {p : Program} {e : Env} {s : State} {m : MethodId} {below : List Frame} {meth : Method} {c : Code} (l : Launch) {b L : Nat} {xs : Nat → Int32} (hL : L ≤ 3072) (C0 : lw_At p s m meth c b L xs) : W p l e room_1 s m #[Value.ref b] below meth c s.heap [] 0 0 (lw_Z below #[Value.ref b] s) (entryFrame m ([Value.ref b] : List Value).toArray 4) := by
  have h2 : 2000 ≤ 2000 := Nat.le_refl _
  have h1 : 1000 ≤ 2000 := by omega
  have h0 : 100 ≤ 2000 := by omega
  obtain ⟨z, hT, z3, z4, z1⟩ := take_start h1
  exact whole_start_of l (fu := 2000) (Rel := Rel) hT (Rel_start z3 z4 z1) (S_crank 2000) (S_bell 2000) (S_heat 2000) (S_pull 2000 h0) (S_cross 2000 h0) (S_uncross 2000 h0) (S_force 2000 h0) (S_would 2000 h0) (S_means 2000 h0) (S_servant 2000) (S_ring 2000 h0) (S_ticks 2000 h1) (S_takeBack 2000) (S_flags 2000) (S_about 2000 h0) (S_servantTold 2000) (S_way 2000) (S_swings 2000 h0) (S_share 2000 h2) (S_send 2000 h2) (S_test 2000 h1) (S_noTests 2000 h1) (S_fault 2000 h1) (S_nextTest 2000 h1) (S_frame 2000) (S_wires 2000 h1) (S_count 2000 h0) hL C0
